/-! methods as functions over the numbered heap: 16.fnA -/
def f_X0_become (v : rV) (k0 : Nat) (k1 : Nat) (a2 : Int32) (a3 : Int32) : Option (rV) := vlet (rCp v (k0 + 1) k1 0 0 12) fun v1 =>
  vlet (rI v1 k0 1 a2) fun v2 =>
  vlet (rI v2 k0 2 a3) fun v3 =>
  vlet (rI v3 k0 3 ((a3 + (v3.1 k1 1)) - (1 : Int32))) fun v4 =>
  vlet (rI v4 k0 4 (0 : Int32)) fun v5 =>
  some v5
set_option maxRecDepth 20000 in
theorem x_X0_become {X : Nat × (Nat → Int32)} {v : rV} {r : rV} {k0 : Nat} {k1 : Nat} {a2 : Int32} {a3 : Int32} (hk0 : isBody k0 = true) (hk1 : isIA k1 12) (h : f_X0_become v k0 k1 a2 a3 = some r) : EvM mX0_become 1 0 0 [.ref k0, .ref k1, .int a2, .int a3] (rZ X) v (rPV X r) := by
  refine evm_of (by decide +kernel) (fun G => Nat.le_of_ble_eq_true rfl) ?_
  show Ev mX0_become 1 0 0 0 [(0, .ref k0), (1, .ref k1), (2, .int a2), (3, .int a3)] [] (rZ X) v _
  unfold f_X0_become at h
  refine e_aload_n dX0_become_0 rfl ?_
  refine e_iconst (x := (0 : Int32)) dX0_become_1 (by decide) ?_
  refine e_aload_n dX0_become_2 rfl ?_
  refine e_get (w := .ref (k0 + 1)) (j := 0) dX0_become_3 (kBody_0 hk0) rc0 (by decide) wfX0_9 (gBody_0 hk0) ?_
  refine e_iconst (x := (0 : Int32)) dX0_become_6 (by decide) ?_
  refine e_bipush (x := (12 : Int32)) dX0_become_7 (by decide) ?_
  refine e_copy dX0_become_9 wmX0_15 wnative wcopystat winisys hk1 (kBody_1 hk0) rfl (by decide) (by decide) (by decide) (by decide) (by decide) (Nat.le_of_ble_eq_true rfl) (by omega) ?_
  obtain ⟨v1, ev1, h⟩ := vlet_ex h
  refine e_nameV ev1.symm ?_
  clear ev1
  refine e_aload_n dX0_become_12 rfl ?_
  refine e_iload_n dX0_become_13 rfl ?_
  refine e_putI (j := 1) dX0_become_14 (kBody_0 hk0) rc0 (by decide) wfX0_21 rfl rfl ?_
  obtain ⟨v2, ev2, h⟩ := vlet_ex h
  refine e_nameV ev2.symm ?_
  clear ev2
  refine e_aload_n dX0_become_17 rfl ?_
  refine e_iload_n dX0_become_18 rfl ?_
  refine e_putI (j := 2) dX0_become_19 (kBody_0 hk0) rc0 (by decide) wfX0_25 rfl rfl ?_
  obtain ⟨v3, ev3, h⟩ := vlet_ex h
  refine e_nameV ev3.symm ?_
  clear ev3
  refine e_aload_n dX0_become_22 rfl ?_
  refine e_iload_n dX0_become_23 rfl ?_
  refine e_aload_n dX0_become_24 rfl ?_
  refine e_iconst (x := (1 : Int32)) dX0_become_25 (by decide) ?_
  refine e_ialdJ dX0_become_26 hk1 (j := 1) (by decide) (by decide) (by decide) ?_
  refine e_iadd dX0_become_27 ?_
  refine e_iconst (x := (1 : Int32)) dX0_become_28 (by decide) ?_
  refine e_isub dX0_become_29 ?_
  refine e_putI (j := 3) dX0_become_30 (kBody_0 hk0) rc0 (by decide) wfX0_28 rfl rfl ?_
  obtain ⟨v4, ev4, h⟩ := vlet_ex h
  refine e_nameV ev4.symm ?_
  clear ev4
  refine e_aload_n dX0_become_33 rfl ?_
  refine e_iconst (x := (0 : Int32)) dX0_become_34 (by decide) ?_
  refine e_putI (j := 4) dX0_become_35 (kBody_0 hk0) rc0 (by decide) wfX0_31 rfl rfl ?_
  obtain ⟨v5, ev5, h⟩ := vlet_ex h
  refine e_nameV ev5.symm ?_
  clear ev5
  obtain rfl := Option.some.inj h
  exact e_ret dX0_become_38 rfl ⟨rfl, rfl, rfl⟩
def f_X0_copy (v : rV) (k0 : Nat) (k1 : Nat) : Option (rV) := vlet (rCp v (k0 + 1) (k1 + 1) 0 0 12) fun v1 =>
  vlet (rI v1 k0 1 (v1.1 k1 1)) fun v2 =>
  vlet (rI v2 k0 2 (v2.1 k1 2)) fun v3 =>
  vlet (rI v3 k0 3 (v3.1 k1 3)) fun v4 =>
  vlet (rI v4 k0 4 (v4.1 k1 4)) fun v5 =>
  some v5
set_option maxRecDepth 20000 in
theorem x_X0_copy {X : Nat × (Nat → Int32)} {v : rV} {r : rV} {k0 : Nat} {k1 : Nat} (hk0 : isBody k0 = true) (hk1 : isBody k1 = true) (h : f_X0_copy v k0 k1 = some r) : EvM mX0_copy 1 0 0 [.ref k0, .ref k1] (rZ X) v (rPV X r) := by
  refine evm_of (by decide +kernel) (fun G => Nat.le_of_ble_eq_true rfl) ?_
  show Ev mX0_copy 1 0 0 0 [(0, .ref k0), (1, .ref k1)] [] (rZ X) v _
  unfold f_X0_copy at h
  refine e_aload_n dX0_copy_0 rfl ?_
  refine e_get (w := .ref (k1 + 1)) (j := 0) dX0_copy_1 (kBody_0 hk1) rc0 (by decide) wfX0_9 (gBody_0 hk1) ?_
  refine e_iconst (x := (0 : Int32)) dX0_copy_4 (by decide) ?_
  refine e_aload_n dX0_copy_5 rfl ?_
  refine e_get (w := .ref (k0 + 1)) (j := 0) dX0_copy_6 (kBody_0 hk0) rc0 (by decide) wfX0_9 (gBody_0 hk0) ?_
  refine e_iconst (x := (0 : Int32)) dX0_copy_9 (by decide) ?_
  refine e_bipush (x := (12 : Int32)) dX0_copy_10 (by decide) ?_
  refine e_copy dX0_copy_12 wmX0_15 wnative wcopystat winisys (kBody_1 hk1) (kBody_1 hk0) rfl (by decide) (by decide) (by decide) (by decide) (by decide) (Nat.le_of_ble_eq_true rfl) (by omega) ?_
  obtain ⟨v1, ev1, h⟩ := vlet_ex h
  refine e_nameV ev1.symm ?_
  clear ev1
  refine e_aload_n dX0_copy_15 rfl ?_
  refine e_aload_n dX0_copy_16 rfl ?_
  refine e_get (w := .int (v1.1 k1 1)) (j := 1) dX0_copy_17 (kBody_0 hk1) rc0 (by decide) wfX0_21 rfl ?_
  refine e_putI (j := 1) dX0_copy_20 (kBody_0 hk0) rc0 (by decide) wfX0_21 rfl rfl ?_
  obtain ⟨v2, ev2, h⟩ := vlet_ex h
  refine e_nameV ev2.symm ?_
  clear ev2
  refine e_aload_n dX0_copy_23 rfl ?_
  refine e_aload_n dX0_copy_24 rfl ?_
  refine e_get (w := .int (v2.1 k1 2)) (j := 2) dX0_copy_25 (kBody_0 hk1) rc0 (by decide) wfX0_25 rfl ?_
  refine e_putI (j := 2) dX0_copy_28 (kBody_0 hk0) rc0 (by decide) wfX0_25 rfl rfl ?_
  obtain ⟨v3, ev3, h⟩ := vlet_ex h
  refine e_nameV ev3.symm ?_
  clear ev3
  refine e_aload_n dX0_copy_31 rfl ?_
  refine e_aload_n dX0_copy_32 rfl ?_
  refine e_get (w := .int (v3.1 k1 3)) (j := 3) dX0_copy_33 (kBody_0 hk1) rc0 (by decide) wfX0_28 rfl ?_
  refine e_putI (j := 3) dX0_copy_36 (kBody_0 hk0) rc0 (by decide) wfX0_28 rfl rfl ?_
  obtain ⟨v4, ev4, h⟩ := vlet_ex h
  refine e_nameV ev4.symm ?_
  clear ev4
  refine e_aload_n dX0_copy_39 rfl ?_
  refine e_aload_n dX0_copy_40 rfl ?_
  refine e_get (w := .int (v4.1 k1 4)) (j := 4) dX0_copy_41 (kBody_0 hk1) rc0 (by decide) wfX0_31 rfl ?_
  refine e_putI (j := 4) dX0_copy_44 (kBody_0 hk0) rc0 (by decide) wfX0_31 rfl rfl ?_
  obtain ⟨v5, ev5, h⟩ := vlet_ex h
  refine e_nameV ev5.symm ?_
  clear ev5
  obtain rfl := Option.some.inj h
  exact e_ret dX0_copy_47 rfl ⟨rfl, rfl, rfl⟩
def f_X0_takeIn_60   (v : rV) (k0 : Nat) (k1 : Nat) (a3 : Int32) (a4 : Int32) (a5 : Int32) : Option (rV) := vlet (rI v (k0 + 1) 2 a3) fun v4 =>
  vlet (rI v4 (k0 + 1) 3 a4) fun v5 =>
  vlet (rI v5 (k0 + 1) 4 a5) fun v6 =>
  vlet (rI v6 k0 3 ((v6.1 k0 3) + (v6.1 k1 1))) fun v7 =>
  some v7
def f_X0_takeIn (v : rV) (k0 : Nat) (k1 : Nat) (a2 : Int32) : Option (rV) := vlet ((v.1 (k0 + 1) 2) + (v.1 k1 2) : Int32) fun x1 =>
  vlet ((v.1 (k0 + 1) 3) + (v.1 k1 3) : Int32) fun x2 =>
  vlet ((v.1 (k0 + 1) 4) + (v.1 k1 4) : Int32) fun x3 =>
  if (v.1 k0 1) ≤ a2 then
  (f_X0_takeIn_60  v k0 k1 x1 x2 x3)
else
  (vlet (rCp v (k0 + 1) k1 0 0 12) fun v8 =>
  vlet (rI v8 k0 1 a2) fun v9 =>
  f_X0_takeIn_60  v9 k0 k1 x1 x2 x3)
set_option maxRecDepth 20000 in
theorem b_X0_takeIn_60 {X : Nat × (Nat → Int32)} {r : rV} {v : rV}   {k0 : Nat} {k1 : Nat} {a3 : Int32} {a4 : Int32} {a5 : Int32} (hk0 : isBody k0 = true) (hk1 : isIA k1 12) (h : f_X0_takeIn_60  v k0 k1 a3 a4 a5 = some r) : Ev mX0_takeIn 1 0 0 60 [(0, .ref k0), (1, .ref k1), (3, .int a3), (4, .int a4), (5, .int a5)] [] (rZ X) v (rPV X r) := by
  unfold f_X0_takeIn_60 at h
  refine e_aload_n dX0_takeIn_60 rfl ?_
  refine e_get (w := .ref (k0 + 1)) (j := 0) dX0_takeIn_61 (kBody_0 hk0) rc0 (by decide) wfX0_9 (gBody_0 hk0) ?_
  refine e_iconst (x := (2 : Int32)) dX0_takeIn_64 (by decide) ?_
  refine e_iload_n dX0_takeIn_65 rfl ?_
  refine e_iastJ dX0_takeIn_66 (kBody_1 hk0) (j := 2) (by decide) (by decide) (by decide) ?_
  obtain ⟨v4, ev4, h⟩ := vlet_ex h
  refine e_nameV ev4.symm ?_
  clear ev4
  refine e_aload_n dX0_takeIn_67 rfl ?_
  refine e_get (w := .ref (k0 + 1)) (j := 0) dX0_takeIn_68 (kBody_0 hk0) rc0 (by decide) wfX0_9 (gBody_0 hk0) ?_
  refine e_iconst (x := (3 : Int32)) dX0_takeIn_71 (by decide) ?_
  refine e_iload dX0_takeIn_72 rfl ?_
  refine e_iastJ dX0_takeIn_74 (kBody_1 hk0) (j := 3) (by decide) (by decide) (by decide) ?_
  obtain ⟨v5, ev5, h⟩ := vlet_ex h
  refine e_nameV ev5.symm ?_
  clear ev5
  refine e_aload_n dX0_takeIn_75 rfl ?_
  refine e_get (w := .ref (k0 + 1)) (j := 0) dX0_takeIn_76 (kBody_0 hk0) rc0 (by decide) wfX0_9 (gBody_0 hk0) ?_
  refine e_iconst (x := (4 : Int32)) dX0_takeIn_79 (by decide) ?_
  refine e_iload dX0_takeIn_80 rfl ?_
  refine e_iastJ dX0_takeIn_82 (kBody_1 hk0) (j := 4) (by decide) (by decide) (by decide) ?_
  obtain ⟨v6, ev6, h⟩ := vlet_ex h
  refine e_nameV ev6.symm ?_
  clear ev6
  refine e_aload_n dX0_takeIn_83 rfl ?_
  refine e_dup dX0_takeIn_84 rfl ?_
  refine e_get (w := .int (v6.1 k0 3)) (j := 3) dX0_takeIn_85 (kBody_0 hk0) rc0 (by decide) wfX0_28 rfl ?_
  refine e_aload_n dX0_takeIn_88 rfl ?_
  refine e_iconst (x := (1 : Int32)) dX0_takeIn_89 (by decide) ?_
  refine e_ialdJ dX0_takeIn_90 hk1 (j := 1) (by decide) (by decide) (by decide) ?_
  refine e_iadd dX0_takeIn_91 ?_
  refine e_putI (j := 3) dX0_takeIn_92 (kBody_0 hk0) rc0 (by decide) wfX0_28 rfl rfl ?_
  obtain ⟨v7, ev7, h⟩ := vlet_ex h
  refine e_nameV ev7.symm ?_
  clear ev7
  obtain rfl := Option.some.inj h
  exact e_ret dX0_takeIn_95 rfl ⟨rfl, rfl, rfl⟩
set_option maxRecDepth 20000 in
theorem x_X0_takeIn {X : Nat × (Nat → Int32)} {v : rV} {r : rV} {k0 : Nat} {k1 : Nat} {a2 : Int32} (hk0 : isBody k0 = true) (hk1 : isIA k1 12) (h : f_X0_takeIn v k0 k1 a2 = some r) : EvM mX0_takeIn 1 0 0 [.ref k0, .ref k1, .int a2] (rZ X) v (rPV X r) := by
  refine evm_of (by decide +kernel) (fun G => Nat.le_of_ble_eq_true rfl) ?_
  show Ev mX0_takeIn 1 0 0 0 [(0, .ref k0), (1, .ref k1), (2, .int a2)] [] (rZ X) v _
  unfold f_X0_takeIn at h
  refine e_aload_n dX0_takeIn_0 rfl ?_
  refine e_get (w := .ref (k0 + 1)) (j := 0) dX0_takeIn_1 (kBody_0 hk0) rc0 (by decide) wfX0_9 (gBody_0 hk0) ?_
  refine e_iconst (x := (2 : Int32)) dX0_takeIn_4 (by decide) ?_
  refine e_ialdJ dX0_takeIn_5 (kBody_1 hk0) (j := 2) (by decide) (by decide) (by decide) ?_
  refine e_aload_n dX0_takeIn_6 rfl ?_
  refine e_iconst (x := (2 : Int32)) dX0_takeIn_7 (by decide) ?_
  refine e_ialdJ dX0_takeIn_8 hk1 (j := 2) (by decide) (by decide) (by decide) ?_
  refine e_iadd dX0_takeIn_9 ?_
  obtain ⟨x1, ex1, h⟩ := vlet_ex h
  refine e_nameI ex1.symm ?_
  clear ex1
  refine e_istore_n (lv' := [(3, .int x1), (0, .ref k0), (1, .ref k1), (2, .int a2)]) dX0_takeIn_10 (by decide) rfl ?_
  refine e_aload_n dX0_takeIn_11 rfl ?_
  refine e_get (w := .ref (k0 + 1)) (j := 0) dX0_takeIn_12 (kBody_0 hk0) rc0 (by decide) wfX0_9 (gBody_0 hk0) ?_
  refine e_iconst (x := (3 : Int32)) dX0_takeIn_15 (by decide) ?_
  refine e_ialdJ dX0_takeIn_16 (kBody_1 hk0) (j := 3) (by decide) (by decide) (by decide) ?_
  refine e_aload_n dX0_takeIn_17 rfl ?_
  refine e_iconst (x := (3 : Int32)) dX0_takeIn_18 (by decide) ?_
  refine e_ialdJ dX0_takeIn_19 hk1 (j := 3) (by decide) (by decide) (by decide) ?_
  refine e_iadd dX0_takeIn_20 ?_
  obtain ⟨x2, ex2, h⟩ := vlet_ex h
  refine e_nameI ex2.symm ?_
  clear ex2
  refine e_istore (lv' := [(4, .int x2), (3, .int x1), (0, .ref k0), (1, .ref k1), (2, .int a2)]) dX0_takeIn_21 (by decide) rfl ?_
  refine e_aload_n dX0_takeIn_23 rfl ?_
  refine e_get (w := .ref (k0 + 1)) (j := 0) dX0_takeIn_24 (kBody_0 hk0) rc0 (by decide) wfX0_9 (gBody_0 hk0) ?_
  refine e_iconst (x := (4 : Int32)) dX0_takeIn_27 (by decide) ?_
  refine e_ialdJ dX0_takeIn_28 (kBody_1 hk0) (j := 4) (by decide) (by decide) (by decide) ?_
  refine e_aload_n dX0_takeIn_29 rfl ?_
  refine e_iconst (x := (4 : Int32)) dX0_takeIn_30 (by decide) ?_
  refine e_ialdJ dX0_takeIn_31 hk1 (j := 4) (by decide) (by decide) (by decide) ?_
  refine e_iadd dX0_takeIn_32 ?_
  obtain ⟨x3, ex3, h⟩ := vlet_ex h
  refine e_nameI ex3.symm ?_
  clear ex3
  refine e_istore (lv' := [(5, .int x3), (4, .int x2), (3, .int x1), (0, .ref k0), (1, .ref k1), (2, .int a2)]) dX0_takeIn_33 (by decide) rfl ?_
  refine e_iload_n dX0_takeIn_35 rfl ?_
  refine e_aload_n dX0_takeIn_36 rfl ?_
  refine e_get (w := .int (v.1 k0 1)) (j := 1) dX0_takeIn_37 (kBody_0 hk0) rc0 (by decide) wfX0_21 rfl ?_
  refine e_icmp_ge (tgt := 60) dX0_takeIn_40 (by decide) (fun c10 => ?_) (fun c10 => ?_)
  · rw [if_pos c10] at h
    refine e_sub [3, 4, 2, 1, 0] rfl ?_
    exact b_X0_takeIn_60 hk0 hk1 h
  · rw [if_neg c10] at h
    refine e_aload_n dX0_takeIn_43 rfl ?_
    refine e_iconst (x := (0 : Int32)) dX0_takeIn_44 (by decide) ?_
    refine e_aload_n dX0_takeIn_45 rfl ?_
    refine e_get (w := .ref (k0 + 1)) (j := 0) dX0_takeIn_46 (kBody_0 hk0) rc0 (by decide) wfX0_9 (gBody_0 hk0) ?_
    refine e_iconst (x := (0 : Int32)) dX0_takeIn_49 (by decide) ?_
    refine e_bipush (x := (12 : Int32)) dX0_takeIn_50 (by decide) ?_
    refine e_copy dX0_takeIn_52 wmX0_15 wnative wcopystat winisys hk1 (kBody_1 hk0) rfl (by decide) (by decide) (by decide) (by decide) (by decide) (Nat.le_of_ble_eq_true rfl) (by omega) ?_
    obtain ⟨v8, ev8, h⟩ := vlet_ex h
    refine e_nameV ev8.symm ?_
    clear ev8
    refine e_aload_n dX0_takeIn_55 rfl ?_
    refine e_iload_n dX0_takeIn_56 rfl ?_
    refine e_putI (j := 1) dX0_takeIn_57 (kBody_0 hk0) rc0 (by decide) wfX0_21 rfl rfl ?_
    obtain ⟨v9, ev9, h⟩ := vlet_ex h
    refine e_nameV ev9.symm ?_
    clear ev9
    refine e_sub [3, 4, 2, 1, 0] rfl ?_
    exact b_X0_takeIn_60 hk0 hk1 h
def f_X0_weightOf (v : rV) (k0 : Nat) (a1 : Int32) : Int32 := vlet (a1 - (v.1 k0 2) : Int32) fun x1 =>
  ((x1 + (1 : Int32)) * (((v.1 k0 3) - a1) + (1 : Int32))) * ((10 : Int32) + ((v.1 (k0 + 1) 11) * x1))
set_option maxRecDepth 20000 in
theorem x_X0_weightOf {X : Nat × (Nat → Int32)} {v : rV} {k0 : Nat} {a1 : Int32} (hk0 : isBody k0 = true) : EvM mX0_weightOf 1 0 0 [.ref k0, .int a1] (rZ X) v (rPI X ((f_X0_weightOf v k0 a1), v)) := by
  refine evm_of (by decide +kernel) (fun G => Nat.le_of_ble_eq_true rfl) ?_
  show Ev mX0_weightOf 1 0 0 0 [(0, .ref k0), (1, .int a1)] [] (rZ X) v _
  generalize h : f_X0_weightOf v k0 a1 = r
  unfold f_X0_weightOf at h
  refine e_iload_n dX0_weightOf_0 rfl ?_
  refine e_aload_n dX0_weightOf_1 rfl ?_
  refine e_get (w := .int (v.1 k0 2)) (j := 2) dX0_weightOf_2 (kBody_0 hk0) rc0 (by decide) wfX0_25 rfl ?_
  refine e_isub dX0_weightOf_5 ?_
  obtain ⟨x1, ex1, h⟩ := vlet_ex h
  refine e_nameI ex1.symm ?_
  clear ex1
  refine e_istore_n (lv' := [(2, .int x1), (0, .ref k0), (1, .int a1)]) dX0_weightOf_6 (by decide) rfl ?_
  refine e_iload_n dX0_weightOf_7 rfl ?_
  refine e_iconst (x := (1 : Int32)) dX0_weightOf_8 (by decide) ?_
  refine e_iadd dX0_weightOf_9 ?_
  refine e_aload_n dX0_weightOf_10 rfl ?_
  refine e_get (w := .int (v.1 k0 3)) (j := 3) dX0_weightOf_11 (kBody_0 hk0) rc0 (by decide) wfX0_28 rfl ?_
  refine e_iload_n dX0_weightOf_14 rfl ?_
  refine e_isub dX0_weightOf_15 ?_
  refine e_iconst (x := (1 : Int32)) dX0_weightOf_16 (by decide) ?_
  refine e_iadd dX0_weightOf_17 ?_
  refine e_imul dX0_weightOf_18 ?_
  refine e_bipush (x := (10 : Int32)) dX0_weightOf_19 (by decide) ?_
  refine e_aload_n dX0_weightOf_21 rfl ?_
  refine e_get (w := .ref (k0 + 1)) (j := 0) dX0_weightOf_22 (kBody_0 hk0) rc0 (by decide) wfX0_9 (gBody_0 hk0) ?_
  refine e_bipush (x := (11 : Int32)) dX0_weightOf_25 (by decide) ?_
  refine e_ialdJ dX0_weightOf_27 (kBody_1 hk0) (j := 11) (by decide) (by decide) (by decide) ?_
  refine e_iload_n dX0_weightOf_28 rfl ?_
  refine e_imul dX0_weightOf_29 ?_
  refine e_iadd dX0_weightOf_30 ?_
  refine e_imul dX0_weightOf_31 ?_
  subst h
  exact e_iret dX0_weightOf_32 rfl rfl ⟨rfl, rfl, rfl⟩
def f_X0_width (v : rV) (k0 : Nat) : Int32 := ((v.1 k0 3) - (v.1 k0 2)) + (1 : Int32)
set_option maxRecDepth 20000 in
theorem x_X0_width {X : Nat × (Nat → Int32)} {v : rV} {k0 : Nat} (hk0 : isBody k0 = true) : EvM mX0_width 1 0 0 [.ref k0] (rZ X) v (rPI X ((f_X0_width v k0), v)) := by
  refine evm_of (by decide +kernel) (fun G => Nat.le_of_ble_eq_true rfl) ?_
  show Ev mX0_width 1 0 0 0 [(0, .ref k0)] [] (rZ X) v _
  generalize h : f_X0_width v k0 = r
  unfold f_X0_width at h
  refine e_aload_n dX0_width_0 rfl ?_
  refine e_get (w := .int (v.1 k0 3)) (j := 3) dX0_width_1 (kBody_0 hk0) rc0 (by decide) wfX0_28 rfl ?_
  refine e_aload_n dX0_width_4 rfl ?_
  refine e_get (w := .int (v.1 k0 2)) (j := 2) dX0_width_5 (kBody_0 hk0) rc0 (by decide) wfX0_25 rfl ?_
  refine e_isub dX0_width_8 ?_
  refine e_iconst (x := (1 : Int32)) dX0_width_9 (by decide) ?_
  refine e_iadd dX0_width_10 ?_
  subst h
  exact e_iret dX0_width_11 rfl rfl ⟨rfl, rfl, rfl⟩
def f_X6_byteAt (v : rV) (a1 : Int32) : Option (Int32) := if a1 < 0 then
  (some (-1 : Int32))
else
  (if (v.1 1 1) ≤ a1 then
  (some (-1 : Int32))
else
  (if (160 : Int32) ≤ a1 then
  (some (-1 : Int32))
else
  (if ¬ a1 < 0 ∧ a1.toNatClampNeg < 160 then
  (some (v.1 2 a1.toNatClampNeg))
else none)))
set_option maxRecDepth 20000 in
theorem x_X6_byteAt {X : Nat × (Nat → Int32)} {v : rV} {r : Int32} {a1 : Int32}  (h : f_X6_byteAt v a1 = some r) : EvM mX6_byteAt 1 0 0 [.ref 1, .int a1] (rZ X) v (rPI X (r, v)) := by
  refine evm_of (by decide +kernel) (fun G => Nat.le_of_ble_eq_true rfl) ?_
  show Ev mX6_byteAt 1 0 0 0 [(0, .ref 1), (1, .int a1)] [] (rZ X) v _
  unfold f_X6_byteAt at h
  refine e_iload_n dX6_byteAt_0 rfl ?_
  refine e_if_lt (tgt := 30) dX6_byteAt_1 (by decide) (fun c4 => ?_) (fun c4 => ?_)
  · rw [if_pos c4] at h
    refine e_iconst (x := (-1 : Int32)) dX6_byteAt_30 (by decide) ?_
    obtain rfl := Option.some.inj h
    exact e_iret dX6_byteAt_31 rfl rfl ⟨rfl, rfl, rfl⟩
  · rw [if_neg c4] at h
    refine e_iload_n dX6_byteAt_4 rfl ?_
    refine e_aload_n dX6_byteAt_5 rfl ?_
    refine e_get (w := .int (v.1 1 1)) (j := 1) dX6_byteAt_6 k0_1 rc6 (by decide) wfX6_15 rfl ?_
    refine e_icmp_ge (tgt := 30) dX6_byteAt_9 (by decide) (fun c3 => ?_) (fun c3 => ?_)
    · rw [if_pos c3] at h
      refine e_iconst (x := (-1 : Int32)) dX6_byteAt_30 (by decide) ?_
      obtain rfl := Option.some.inj h
      exact e_iret dX6_byteAt_31 rfl rfl ⟨rfl, rfl, rfl⟩
    · rw [if_neg c3] at h
      refine e_iload_n dX6_byteAt_12 rfl ?_
      refine e_aload_n dX6_byteAt_13 rfl ?_
      refine e_get (w := .ref 2) (j := 0) dX6_byteAt_14 k0_1 rc6 (by decide) wfX6_9 (g0_1_0) ?_
      refine e_alenJ (x := (160 : Int32)) dX6_byteAt_17 k0_2 (Or.inl rfl) (by decide) ?_
      refine e_icmp_ge (tgt := 30) dX6_byteAt_18 (by decide) (fun c2 => ?_) (fun c2 => ?_)
      · rw [if_pos c2] at h
        refine e_iconst (x := (-1 : Int32)) dX6_byteAt_30 (by decide) ?_
        obtain rfl := Option.some.inj h
        exact e_iret dX6_byteAt_31 rfl rfl ⟨rfl, rfl, rfl⟩
      · rw [if_neg c2] at h
        refine e_aload_n dX6_byteAt_21 rfl ?_
        refine e_get (w := .ref 2) (j := 0) dX6_byteAt_22 k0_1 rc6 (by decide) wfX6_9 (g0_1_0) ?_
        refine e_iload_n dX6_byteAt_25 rfl ?_
        obtain ⟨c1, h⟩ := grd h
        refine e_ialdJ dX6_byteAt_26 k0_2 rfl c1.2 c1.1 ?_
        refine e_goto (tgt := 31) dX6_byteAt_27 (by decide) ?_
        obtain rfl := Option.some.inj h
        exact e_iret dX6_byteAt_31 rfl rfl ⟨rfl, rfl, rfl⟩
def f_X7_has (a0 : Int32) (a1 : Int32) : Bool := if ((a0 >>> (a1 &&& 31)) &&& (1 : Int32)) = (1 : Int32) then
  (true)
else
  (false)
set_option maxRecDepth 20000 in
theorem x_X7_has {X : Nat × (Nat → Int32)} {v : rV} {a0 : Int32} {a1 : Int32}  : EvM mX7_has 1 0 0 [.int a0, .int a1] (rZ X) v (rPZ X ((f_X7_has a0 a1), v)) := by
  refine evm_of (by decide +kernel) (fun G => Nat.le_of_ble_eq_true rfl) ?_
  show Ev mX7_has 1 0 0 0 [(0, .int a0), (1, .int a1)] [] (rZ X) v _
  generalize h : f_X7_has a0 a1 = r
  unfold f_X7_has at h
  refine e_iload_n dX7_has_0 rfl ?_
  refine e_iload_n dX7_has_1 rfl ?_
  refine e_ishr dX7_has_2 ?_
  refine e_iconst (x := (1 : Int32)) dX7_has_3 (by decide) ?_
  refine e_iand dX7_has_4 ?_
  refine e_iconst (x := (1 : Int32)) dX7_has_5 (by decide) ?_
  refine e_icmp_ne (tgt := 13) dX7_has_6 (by decide) (fun c1 => ?_) (fun c1 => ?_)
  · rw [if_neg c1] at h
    refine e_iconst (x := (0 : Int32)) dX7_has_13 (by decide) ?_
    subst h
    exact e_iret dX7_has_14 rfl rfl ⟨rfl, rfl, rfl⟩
  · rw [if_pos c1] at h
    refine e_iconst (x := (1 : Int32)) dX7_has_9 (by decide) ?_
    refine e_goto (tgt := 14) dX7_has_10 (by decide) ?_
    subst h
    exact e_iret dX7_has_14 rfl rfl ⟨rfl, rfl, rfl⟩
def f_X2_add (v : rV) (k0 : Nat) (a1 : Int32) : Option (rV) := if (162 : Int32) ≤ (v.1 k0 2) then
  (some v)
else
  (if ¬ (v.1 k0 2) < 0 ∧ (v.1 k0 2).toNatClampNeg < 162 then
  (vlet (rI v (k0 + 1) ((v.1 k0 2).toNatClampNeg) a1) fun v2 =>
  vlet (rI v2 k0 2 ((v2.1 k0 2) + (1 : Int32))) fun v3 =>
  some v3)
else none)
set_option maxRecDepth 20000 in
theorem x_X2_add {X : Nat × (Nat → Int32)} {v : rV} {r : rV} {k0 : Nat} {a1 : Int32} (hk0 : isForm k0 = true) (h : f_X2_add v k0 a1 = some r) : EvM mX2_add 1 0 0 [.ref k0, .int a1] (rZ X) v (rPV X r) := by
  refine evm_of (by decide +kernel) (fun G => Nat.le_of_ble_eq_true rfl) ?_
  show Ev mX2_add 1 0 0 0 [(0, .ref k0), (1, .int a1)] [] (rZ X) v _
  unfold f_X2_add at h
  refine e_aload_n dX2_add_0 rfl ?_
  refine e_get (w := .int (v.1 k0 2)) (j := 2) dX2_add_1 (kForm_0 hk0) rc2 (by decide) wfX2_18 rfl ?_
  refine e_aload_n dX2_add_4 rfl ?_
  refine e_get (w := .ref (k0 + 1)) (j := 0) dX2_add_5 (kForm_0 hk0) rc2 (by decide) wfX2_9 (gForm_0 hk0) ?_
  refine e_alenJ (x := (162 : Int32)) dX2_add_8 (kForm_1 hk0) (Or.inl rfl) (by decide) ?_
  refine e_icmp_ge (tgt := 32) dX2_add_9 (by decide) (fun c4 => ?_) (fun c4 => ?_)
  · rw [if_pos c4] at h
    obtain rfl := Option.some.inj h
    exact e_ret dX2_add_32 rfl ⟨rfl, rfl, rfl⟩
  · rw [if_neg c4] at h
    refine e_aload_n dX2_add_12 rfl ?_
    refine e_get (w := .ref (k0 + 1)) (j := 0) dX2_add_13 (kForm_0 hk0) rc2 (by decide) wfX2_9 (gForm_0 hk0) ?_
    refine e_aload_n dX2_add_16 rfl ?_
    refine e_get (w := .int (v.1 k0 2)) (j := 2) dX2_add_17 (kForm_0 hk0) rc2 (by decide) wfX2_18 rfl ?_
    refine e_iload_n dX2_add_20 rfl ?_
    obtain ⟨c1, h⟩ := grd h
    refine e_iastJ dX2_add_21 (kForm_1 hk0) rfl c1.2 c1.1 ?_
    obtain ⟨v2, ev2, h⟩ := vlet_ex h
    refine e_nameV ev2.symm ?_
    clear ev2
    refine e_aload_n dX2_add_22 rfl ?_
    refine e_dup dX2_add_23 rfl ?_
    refine e_get (w := .int (v2.1 k0 2)) (j := 2) dX2_add_24 (kForm_0 hk0) rc2 (by decide) wfX2_18 rfl ?_
    refine e_iconst (x := (1 : Int32)) dX2_add_27 (by decide) ?_
    refine e_iadd dX2_add_28 ?_
    refine e_putI (j := 2) dX2_add_29 (kForm_0 hk0) rc2 (by decide) wfX2_18 rfl rfl ?_
    obtain ⟨v3, ev3, h⟩ := vlet_ex h
    refine e_nameV ev3.symm ?_
    clear ev3
    obtain rfl := Option.some.inj h
    exact e_ret dX2_add_32 rfl ⟨rfl, rfl, rfl⟩
def f_X2_copy (v : rV) (k0 : Nat) (k1 : Nat) : Option (rV) := vlet (rCp v (k0 + 1) (k1 + 1) 0 0 162) fun v1 =>
  vlet (rI v1 k0 2 (v1.1 k1 2)) fun v2 =>
  some v2
set_option maxRecDepth 20000 in
theorem x_X2_copy {X : Nat × (Nat → Int32)} {v : rV} {r : rV} {k0 : Nat} {k1 : Nat} (hk0 : isForm k0 = true) (hk1 : isForm k1 = true) (h : f_X2_copy v k0 k1 = some r) : EvM mX2_copy 1 0 0 [.ref k0, .ref k1] (rZ X) v (rPV X r) := by
  refine evm_of (by decide +kernel) (fun G => Nat.le_of_ble_eq_true rfl) ?_
  show Ev mX2_copy 1 0 0 0 [(0, .ref k0), (1, .ref k1)] [] (rZ X) v _
  unfold f_X2_copy at h
  refine e_aload_n dX2_copy_0 rfl ?_
  refine e_get (w := .ref (k1 + 1)) (j := 0) dX2_copy_1 (kForm_0 hk1) rc2 (by decide) wfX2_9 (gForm_0 hk1) ?_
  refine e_iconst (x := (0 : Int32)) dX2_copy_4 (by decide) ?_
  refine e_aload_n dX2_copy_5 rfl ?_
  refine e_get (w := .ref (k0 + 1)) (j := 0) dX2_copy_6 (kForm_0 hk0) rc2 (by decide) wfX2_9 (gForm_0 hk0) ?_
  refine e_iconst (x := (0 : Int32)) dX2_copy_9 (by decide) ?_
  refine e_sipush (x := (162 : Int32)) dX2_copy_10 (by decide) ?_
  refine e_copy dX2_copy_13 wmX2_22 wnative wcopystat winisys (kForm_1 hk1) (kForm_1 hk0) rfl (by decide) (by decide) (by decide) (by decide) (by decide) (Nat.le_of_ble_eq_true rfl) (by omega) ?_
  obtain ⟨v1, ev1, h⟩ := vlet_ex h
  refine e_nameV ev1.symm ?_
  clear ev1
  refine e_aload_n dX2_copy_16 rfl ?_
  refine e_aload_n dX2_copy_17 rfl ?_
  refine e_get (w := .int (v1.1 k1 2)) (j := 2) dX2_copy_18 (kForm_0 hk1) rc2 (by decide) wfX2_18 rfl ?_
  refine e_putI (j := 2) dX2_copy_21 (kForm_0 hk0) rc2 (by decide) wfX2_18 rfl rfl ?_
  obtain ⟨v2, ev2, h⟩ := vlet_ex h
  refine e_nameV ev2.symm ?_
  clear ev2
  obtain rfl := Option.some.inj h
  exact e_ret dX2_copy_24 rfl ⟨rfl, rfl, rfl⟩
def f_X2_endSkip (v : rV) (k0 : Nat) (a1 : Int32) : Option (rV) := if a1 < 0 then
  (some v)
else
  (if (v.1 k0 2) ≤ a1 then
  (some v)
else
  (if ¬ a1 < 0 ∧ a1.toNatClampNeg < 162 then
  (vlet (rI v (k0 + 1) a1.toNatClampNeg (((v.1 k0 2) - a1) - (1 : Int32))) fun v2 =>
  some v2)
else none))
set_option maxRecDepth 20000 in
theorem x_X2_endSkip {X : Nat × (Nat → Int32)} {v : rV} {r : rV} {k0 : Nat} {a1 : Int32} (hk0 : isForm k0 = true) (h : f_X2_endSkip v k0 a1 = some r) : EvM mX2_endSkip 1 0 0 [.ref k0, .int a1] (rZ X) v (rPV X r) := by
  refine evm_of (by decide +kernel) (fun G => Nat.le_of_ble_eq_true rfl) ?_
  show Ev mX2_endSkip 1 0 0 0 [(0, .ref k0), (1, .int a1)] [] (rZ X) v _
  unfold f_X2_endSkip at h
  refine e_iload_n dX2_endSkip_0 rfl ?_
  refine e_if_lt (tgt := 26) dX2_endSkip_1 (by decide) (fun c4 => ?_) (fun c4 => ?_)
  · rw [if_pos c4] at h
    obtain rfl := Option.some.inj h
    exact e_ret dX2_endSkip_26 rfl ⟨rfl, rfl, rfl⟩
  · rw [if_neg c4] at h
    refine e_iload_n dX2_endSkip_4 rfl ?_
    refine e_aload_n dX2_endSkip_5 rfl ?_
    refine e_get (w := .int (v.1 k0 2)) (j := 2) dX2_endSkip_6 (kForm_0 hk0) rc2 (by decide) wfX2_18 rfl ?_
    refine e_icmp_ge (tgt := 26) dX2_endSkip_9 (by decide) (fun c3 => ?_) (fun c3 => ?_)
    · rw [if_pos c3] at h
      obtain rfl := Option.some.inj h
      exact e_ret dX2_endSkip_26 rfl ⟨rfl, rfl, rfl⟩
    · rw [if_neg c3] at h
      refine e_aload_n dX2_endSkip_12 rfl ?_
      refine e_get (w := .ref (k0 + 1)) (j := 0) dX2_endSkip_13 (kForm_0 hk0) rc2 (by decide) wfX2_9 (gForm_0 hk0) ?_
      refine e_iload_n dX2_endSkip_16 rfl ?_
      refine e_aload_n dX2_endSkip_17 rfl ?_
      refine e_get (w := .int (v.1 k0 2)) (j := 2) dX2_endSkip_18 (kForm_0 hk0) rc2 (by decide) wfX2_18 rfl ?_
      refine e_iload_n dX2_endSkip_21 rfl ?_
      refine e_isub dX2_endSkip_22 ?_
      refine e_iconst (x := (1 : Int32)) dX2_endSkip_23 (by decide) ?_
      refine e_isub dX2_endSkip_24 ?_
      obtain ⟨c1, h⟩ := grd h
      refine e_iastJ dX2_endSkip_25 (kForm_1 hk0) rfl c1.2 c1.1 ?_
      obtain ⟨v2, ev2, h⟩ := vlet_ex h
      refine e_nameV ev2.symm ?_
      clear ev2
      obtain rfl := Option.some.inj h
      exact e_ret dX2_endSkip_26 rfl ⟨rfl, rfl, rfl⟩
def f_X2_joined (a0 : Int32) (a1 : Int64) (a3 : Int64) : Option (Int64) := if a0 = (-9 : Int32) then
  (some (a1 ||| a3))
else
  (if a0 = (-8 : Int32) then
  (some (a1 &&& a3))
else
  (if a0 = (-7 : Int32) then
  (if (lg_cmp a1 a3) ≤ 0 then
  (some (0 : Int64))
else
  (some (1 : Int64)))
else
  (if a0 = (-6 : Int32) then
  (if 0 ≤ (lg_cmp a1 a3) then
  (some (0 : Int64))
else
  (some (1 : Int64)))
else
  (if a0 = (-5 : Int32) then
  (if (lg_cmp a1 a3) = 0 then
  (some (1 : Int64))
else
  (some (0 : Int64)))
else
  (if a0 = (-4 : Int32) then
  (if (lg_cmp a3 (0 : Int64)) = 0 then
  (some (0 : Int64))
else
  (if a3 = 0 then none else
  some (a1 / a3)))
else
  (if a0 = (-3 : Int32) then
  (some (a1 * a3))
else
  (if a0 = (-2 : Int32) then
  (some (a1 - a3))
else
  (if a0 = (-1 : Int32) then
  (some (a1 + a3))
else
  (some (0 : Int64))))))))))
set_option maxRecDepth 20000 in
theorem x_X2_joined {X : Nat × (Nat → Int32)} {v : rV} {r : Int64} {a0 : Int32} {a1 : Int64} {a3 : Int64}  (h : f_X2_joined a0 a1 a3 = some r) : EvM mX2_joined 1 0 0 [.int a0, .long a1, .long a3] (rZ X) v (rPJ X (r, v)) := by
  refine evm_of (by decide +kernel) (fun G => Nat.le_of_ble_eq_true rfl) ?_
  show Ev mX2_joined 1 0 0 0 [(0, .int a0), (1, .long a1), (3, .long a3)] [] (rZ X) v _
  unfold f_X2_joined at h
  refine e_iload_n dX2_joined_0 rfl ?_
  by_cases c1 : a0 = (-9 : Int32)
  · rw [if_pos c1] at h
    refine e_tabIn (off := 117) (tgt := 118) dX2_joined_1 (by rw [c1]; decide) (by rw [c1]; decide) (by rw [c1]; rfl) (by decide) ?_
    refine e_lload_n dX2_joined_118 rfl ?_
    refine e_lload_n dX2_joined_119 rfl ?_
    refine e_lor dX2_joined_120 ?_
    obtain rfl := Option.some.inj h
    exact e_lret dX2_joined_121 rfl ⟨rfl, rfl, rfl⟩
  · rw [if_neg c1] at h
    have nc1 := tab_ne c1 (k := -9) (by decide)
    by_cases c2 : a0 = (-8 : Int32)
    · rw [if_pos c2] at h
      refine e_tabIn (off := 113) (tgt := 114) dX2_joined_1 (by rw [c2]; decide) (by rw [c2]; decide) (by rw [c2]; rfl) (by decide) ?_
      refine e_lload_n dX2_joined_114 rfl ?_
      refine e_lload_n dX2_joined_115 rfl ?_
      refine e_land dX2_joined_116 ?_
      obtain rfl := Option.some.inj h
      exact e_lret dX2_joined_117 rfl ⟨rfl, rfl, rfl⟩
    · rw [if_neg c2] at h
      have nc2 := tab_ne c2 (k := -8) (by decide)
      by_cases c3 : a0 = (-7 : Int32)
      · rw [if_pos c3] at h
        refine e_tabIn (off := 101) (tgt := 102) dX2_joined_1 (by rw [c3]; decide) (by rw [c3]; decide) (by rw [c3]; rfl) (by decide) ?_
        refine e_lload_n dX2_joined_102 rfl ?_
        refine e_lload_n dX2_joined_103 rfl ?_
        refine e_lcmp dX2_joined_104 ?_
        refine e_if_le (tgt := 112) dX2_joined_105 (by decide) (fun c4 => ?_) (fun c4 => ?_)
        · rw [if_pos c4] at h
          refine e_lconst (x := (0 : Int64)) dX2_joined_112 (by decide) ?_
          obtain rfl := Option.some.inj h
          exact e_lret dX2_joined_113 rfl ⟨rfl, rfl, rfl⟩
        · rw [if_neg c4] at h
          refine e_lconst (x := (1 : Int64)) dX2_joined_108 (by decide) ?_
          refine e_goto (tgt := 113) dX2_joined_109 (by decide) ?_
          obtain rfl := Option.some.inj h
          exact e_lret dX2_joined_113 rfl ⟨rfl, rfl, rfl⟩
      · rw [if_neg c3] at h
        have nc3 := tab_ne c3 (k := -7) (by decide)
        by_cases c5 : a0 = (-6 : Int32)
        · rw [if_pos c5] at h
          refine e_tabIn (off := 89) (tgt := 90) dX2_joined_1 (by rw [c5]; decide) (by rw [c5]; decide) (by rw [c5]; rfl) (by decide) ?_
          refine e_lload_n dX2_joined_90 rfl ?_
          refine e_lload_n dX2_joined_91 rfl ?_
          refine e_lcmp dX2_joined_92 ?_
          refine e_if_ge (tgt := 100) dX2_joined_93 (by decide) (fun c6 => ?_) (fun c6 => ?_)
          · rw [if_pos c6] at h
            refine e_lconst (x := (0 : Int64)) dX2_joined_100 (by decide) ?_
            obtain rfl := Option.some.inj h
            exact e_lret dX2_joined_101 rfl ⟨rfl, rfl, rfl⟩
          · rw [if_neg c6] at h
            refine e_lconst (x := (1 : Int64)) dX2_joined_96 (by decide) ?_
            refine e_goto (tgt := 101) dX2_joined_97 (by decide) ?_
            obtain rfl := Option.some.inj h
            exact e_lret dX2_joined_101 rfl ⟨rfl, rfl, rfl⟩
        · rw [if_neg c5] at h
          have nc5 := tab_ne c5 (k := -6) (by decide)
          by_cases c7 : a0 = (-5 : Int32)
          · rw [if_pos c7] at h
            refine e_tabIn (off := 77) (tgt := 78) dX2_joined_1 (by rw [c7]; decide) (by rw [c7]; decide) (by rw [c7]; rfl) (by decide) ?_
            refine e_lload_n dX2_joined_78 rfl ?_
            refine e_lload_n dX2_joined_79 rfl ?_
            refine e_lcmp dX2_joined_80 ?_
            refine e_if_ne (tgt := 88) dX2_joined_81 (by decide) (fun c8 => ?_) (fun c8 => ?_)
            · rw [if_neg c8] at h
              refine e_lconst (x := (0 : Int64)) dX2_joined_88 (by decide) ?_
              obtain rfl := Option.some.inj h
              exact e_lret dX2_joined_89 rfl ⟨rfl, rfl, rfl⟩
            · rw [if_pos c8] at h
              refine e_lconst (x := (1 : Int64)) dX2_joined_84 (by decide) ?_
              refine e_goto (tgt := 89) dX2_joined_85 (by decide) ?_
              obtain rfl := Option.some.inj h
              exact e_lret dX2_joined_89 rfl ⟨rfl, rfl, rfl⟩
          · rw [if_neg c7] at h
            have nc7 := tab_ne c7 (k := -5) (by decide)
            by_cases c9 : a0 = (-4 : Int32)
            · rw [if_pos c9] at h
              refine e_tabIn (off := 63) (tgt := 64) dX2_joined_1 (by rw [c9]; decide) (by rw [c9]; decide) (by rw [c9]; rfl) (by decide) ?_
              refine e_lload_n dX2_joined_64 rfl ?_
              refine e_lconst (x := (0 : Int64)) dX2_joined_65 (by decide) ?_
              refine e_lcmp dX2_joined_66 ?_
              refine e_if_ne (tgt := 74) dX2_joined_67 (by decide) (fun c11 => ?_) (fun c11 => ?_)
              · rw [if_neg c11] at h
                refine e_lload_n dX2_joined_74 rfl ?_
                refine e_lload_n dX2_joined_75 rfl ?_
                obtain ⟨c10, h⟩ := grdn h
                refine e_ldiv dX2_joined_76 c10 ?_
                obtain rfl := Option.some.inj h
                exact e_lret dX2_joined_77 rfl ⟨rfl, rfl, rfl⟩
              · rw [if_pos c11] at h
                refine e_lconst (x := (0 : Int64)) dX2_joined_70 (by decide) ?_
                refine e_goto (tgt := 77) dX2_joined_71 (by decide) ?_
                obtain rfl := Option.some.inj h
                exact e_lret dX2_joined_77 rfl ⟨rfl, rfl, rfl⟩
            · rw [if_neg c9] at h
              have nc9 := tab_ne c9 (k := -4) (by decide)
              by_cases c12 : a0 = (-3 : Int32)
              · rw [if_pos c12] at h
                refine e_tabIn (off := 59) (tgt := 60) dX2_joined_1 (by rw [c12]; decide) (by rw [c12]; decide) (by rw [c12]; rfl) (by decide) ?_
                refine e_lload_n dX2_joined_60 rfl ?_
                refine e_lload_n dX2_joined_61 rfl ?_
                refine e_lmul dX2_joined_62 ?_
                obtain rfl := Option.some.inj h
                exact e_lret dX2_joined_63 rfl ⟨rfl, rfl, rfl⟩
              · rw [if_neg c12] at h
                have nc12 := tab_ne c12 (k := -3) (by decide)
                by_cases c13 : a0 = (-2 : Int32)
                · rw [if_pos c13] at h
                  refine e_tabIn (off := 55) (tgt := 56) dX2_joined_1 (by rw [c13]; decide) (by rw [c13]; decide) (by rw [c13]; rfl) (by decide) ?_
                  refine e_lload_n dX2_joined_56 rfl ?_
                  refine e_lload_n dX2_joined_57 rfl ?_
                  refine e_lsub dX2_joined_58 ?_
                  obtain rfl := Option.some.inj h
                  exact e_lret dX2_joined_59 rfl ⟨rfl, rfl, rfl⟩
                · rw [if_neg c13] at h
                  have nc13 := tab_ne c13 (k := -2) (by decide)
                  by_cases c14 : a0 = (-1 : Int32)
                  · rw [if_pos c14] at h
                    refine e_tabIn (off := 51) (tgt := 52) dX2_joined_1 (by rw [c14]; decide) (by rw [c14]; decide) (by rw [c14]; rfl) (by decide) ?_
                    refine e_lload_n dX2_joined_52 rfl ?_
                    refine e_lload_n dX2_joined_53 rfl ?_
                    refine e_ladd dX2_joined_54 ?_
                    obtain rfl := Option.some.inj h
                    exact e_lret dX2_joined_55 rfl ⟨rfl, rfl, rfl⟩
                  · rw [if_neg c14] at h
                    have nc14 := tab_ne c14 (k := -1) (by decide)
                    refine e_tabOut (tgt := 122) dX2_joined_1 (by omega) (by decide) ?_
                    refine e_lconst (x := (0 : Int64)) dX2_joined_122 (by decide) ?_
                    obtain rfl := Option.some.inj h
                    exact e_lret dX2_joined_123 rfl ⟨rfl, rfl, rfl⟩
def f_X2_worth_259  (q4 : rV → Nat → Nat → Int32 → Int32 → Option (Int32 × rV)) (v : rV) (k0 : Nat) (k1 : Nat) (a2 : Int32) (a3 : Int32) : Option (Int32 × rV) := vlet (a3 + (1 : Int32)) fun x7 =>
  q4 v k0 k1 a2 x7
def f_X2_worth_89  (q4 : rV → Nat → Nat → Int32 → Int32 → Option (Int32 × rV)) (v : rV) (k0 : Nat) (k1 : Nat) (a2 : Int32) (a3 : Int32) (s0 : Int32) (s1 : Int32) (ks2 : Nat) : Option (Int32 × rV) := if ¬ s1 < 0 ∧ s1.toNatClampNeg < 32 then
  (vlet (rI v ks2 s1.toNatClampNeg s0) fun v5 =>
  vlet (a2 + (1 : Int32)) fun x6 =>
  f_X2_worth_259 q4 v5 k0 k1 x6 a3)
else none
def f_X2_worth_41  (q4 : rV → Nat → Nat → Int32 → Int32 → Option (Int32 × rV)) (v : rV) (k0 : Nat) (k1 : Nat) (a2 : Int32) (a3 : Int32) (a4 : Int32) : Option (Int32 × rV) := if a2 < (32 : Int32) then
  (vlet ((-20 : Int32) - a4 : Int32) fun x3 =>
  if a4 < 0 then
  (if (7 : Int32) ≤ x3 then
  (f_X2_worth_89 q4 v k0 k1 a2 a3 (0 : Int32) a2 (k0 + 2))
else
  (if ¬ x3 < 0 ∧ x3.toNatClampNeg < 7 then
  (f_X2_worth_89 q4 v k0 k1 a2 a3 (v.1 k1 x3.toNatClampNeg) a2 (k0 + 2))
else none))
else
  (f_X2_worth_89 q4 v k0 k1 a2 a3 a4 a2 (k0 + 2)))
else
  (some ((0 : Int32), v))
def f_X2_worth_202  (q4 : rV → Nat → Nat → Int32 → Int32 → Option (Int32 × rV)) (v : rV) (k0 : Nat) (k1 : Nat) (a2 : Int32) (s0 : Int32) (s1 : Int32) : Option (Int32 × rV) := vlet (s1 + s0 : Int32) fun x21 =>
  f_X2_worth_259 q4 v k0 k1 a2 x21
def f_X2_worth_201  (q4 : rV → Nat → Nat → Int32 → Int32 → Option (Int32 × rV)) (v : rV) (k0 : Nat) (k1 : Nat) (a2 : Int32) (s0 : Int32) : Option (Int32 × rV) := f_X2_worth_202 q4 v k0 k1 a2 (0 : Int32) s0
def f_X2_worth_156  (q4 : rV → Nat → Nat → Int32 → Int32 → Option (Int32 × rV)) (v : rV) (k0 : Nat) (k1 : Nat) (a2 : Int32) (a3 : Int32) (s0 : Int32) (s1 : Int32) (ks2 : Nat) : Option (Int32 × rV) := if ¬ s1 < 0 ∧ s1.toNatClampNeg < 32 then
  (vlet (rI v ks2 s1.toNatClampNeg s0) fun v27 =>
  f_X2_worth_259 q4 v27 k0 k1 a2 a3)
else none
def f_X2_worth_4   : Nat → rV → Nat → Nat → Int32 → Int32 → Option (Int32 × rV)
  | 0, _, _, _, _, _ => none
  | n + 1, v, k0, k1, a2, a3 => if (v.1 k0 2) ≤ a3 then
  (some ((0 : Int32), v))
else
  (if (162 : Int32) ≤ a3 then
  (some ((0 : Int32), v))
else
  (if ¬ a3 < 0 ∧ a3.toNatClampNeg < 162 then
  (vlet (v.1 (k0 + 1) a3.toNatClampNeg : Int32) fun x2 =>
  if 0 ≤ x2 then
  (f_X2_worth_41 (fun v k0 k1 a2 a3 => f_X2_worth_4  n v k0 k1 a2 a3) v k0 k1 a2 a3 x2)
else
  (if (-20 : Int32) < x2 then
  (if a2 < (1 : Int32) then
  (some ((0 : Int32), v))
else
  (if a2 ≤ (32 : Int32) then
  (if ¬ (a2 - (1 : Int32)) < 0 ∧ (a2 - (1 : Int32)).toNatClampNeg < 32 then
  (vlet (v.1 (k0 + 2) ((a2 - (1 : Int32)).toNatClampNeg) : Int32) fun x13 =>
  if x2 = (-12 : Int32) then
  (some (x13, v))
else
  (if x2 = (-10 : Int32) then
  (if x13 = 0 then
  (f_X2_worth_156 (fun v k0 k1 a2 a3 => f_X2_worth_4  n v k0 k1 a2 a3) v k0 k1 a2 a3 (1 : Int32) (a2 - (1 : Int32)) (k0 + 2))
else
  (f_X2_worth_156 (fun v k0 k1 a2 a3 => f_X2_worth_4  n v k0 k1 a2 a3) v k0 k1 a2 a3 (0 : Int32) (a2 - (1 : Int32)) (k0 + 2)))
else
  (if x2 = (-11 : Int32) then
  (vlet (a2 + (-1 : Int32)) fun x19 =>
  vlet (a3 + (1 : Int32)) fun x20 =>
  if x13 = 0 then
  (if (162 : Int32) ≤ x20 then
  (f_X2_worth_201 (fun v k0 k1 a2 a3 => f_X2_worth_4  n v k0 k1 a2 a3) v k0 k1 x19 x20)
else
  (if ¬ x20 < 0 ∧ x20.toNatClampNeg < 162 then
  (f_X2_worth_202 (fun v k0 k1 a2 a3 => f_X2_worth_4  n v k0 k1 a2 a3) v k0 k1 x19 (if (0 : Int32) < (v.1 (k0 + 1) x20.toNatClampNeg) then (v.1 (k0 + 1) x20.toNatClampNeg) else (0 : Int32)) x20)
else none))
else
  (f_X2_worth_201 (fun v k0 k1 a2 a3 => f_X2_worth_4  n v k0 k1 a2 a3) v k0 k1 x19 x20))
else
  (if (2 : Int32) ≤ a2 then
  (vlet (a2 + (-1 : Int32)) fun x14 =>
  if ¬ (x14 - (1 : Int32)) < 0 ∧ (x14 - (1 : Int32)).toNatClampNeg < 32 then
  ((f_X2_joined x2 ((v.1 (k0 + 2) ((x14 - (1 : Int32)).toNatClampNeg)).toInt64) x13.toInt64).bind fun p16 =>
  vlet (rI v (k0 + 2) ((x14 - (1 : Int32)).toNatClampNeg) ((if (if p16 < (1000000 : Int64) then p16 else (1000000 : Int64)) < (-1000000 : Int64) then (-1000000 : Int64) else (if p16 < (1000000 : Int64) then p16 else (1000000 : Int64))).toInt32)) fun v17 =>
  f_X2_worth_259 (fun v k0 k1 a2 a3 => f_X2_worth_4  n v k0 k1 a2 a3) v17 k0 k1 x14 a3)
else none)
else
  (some ((0 : Int32), v))))))
else none)
else
  (some ((0 : Int32), v))))
else
  (f_X2_worth_41 (fun v k0 k1 a2 a3 => f_X2_worth_4  n v k0 k1 a2 a3) v k0 k1 a2 a3 x2)))
else none))
def f_X2_worth (v : rV) (k0 : Nat) (k1 : Nat) : Option (Int32 × rV) := f_X2_worth_4  20000 v k0 k1 (0 : Int32) (0 : Int32)
set_option maxRecDepth 20000 in
theorem b_X2_worth_259 {X : Nat × (Nat → Int32)} {r : Int32 × rV} {v : rV} {q4 : rV → Nat → Nat → Int32 → Int32 → Option (Int32 × rV)} (hq4 : ∀ (v : rV) (k0 : Nat) (k1 : Nat) (a2 : Int32) (a3 : Int32) (hk0 : isForm k0 = true) (hk1 : isIA k1 7), q4 v k0 k1 a2 a3 = some r → Ev mX2_worth 2 0 0 4 [(0, .ref k0), (1, .ref k1), (2, .int a2), (3, .int a3)] [] (rZ X) v (rPI X r)) {k0 : Nat} {k1 : Nat} {a2 : Int32} {a3 : Int32} (hk0 : isForm k0 = true) (hk1 : isIA k1 7) (h : f_X2_worth_259 q4 v k0 k1 a2 a3 = some r) : Ev mX2_worth 2 0 0 259 [(0, .ref k0), (1, .ref k1), (2, .int a2), (3, .int a3)] [] (rZ X) v (rPI X r) := by
  unfold f_X2_worth_259 at h
  obtain ⟨x7, ex7, h⟩ := vlet_ex h
  refine e_iinc (lv' := [(3, .int x7), (0, .ref k0), (1, .ref k1), (2, .int a2)]) dX2_worth_259 rfl (ex7.symm) (by decide) rfl ?_
  clear ex7
  refine e_goto (tgt := 4) dX2_worth_262 (by decide) ?_
  refine e_sub [1, 2, 3, 0] rfl ?_
  exact hq4 v k0 k1 a2 x7 hk0 hk1 h
set_option maxRecDepth 20000 in
theorem b_X2_worth_89 {X : Nat × (Nat → Int32)} {r : Int32 × rV} {v : rV} {q4 : rV → Nat → Nat → Int32 → Int32 → Option (Int32 × rV)} (hq4 : ∀ (v : rV) (k0 : Nat) (k1 : Nat) (a2 : Int32) (a3 : Int32) (hk0 : isForm k0 = true) (hk1 : isIA k1 7), q4 v k0 k1 a2 a3 = some r → Ev mX2_worth 2 0 0 4 [(0, .ref k0), (1, .ref k1), (2, .int a2), (3, .int a3)] [] (rZ X) v (rPI X r)) {k0 : Nat} {k1 : Nat} {a2 : Int32} {a3 : Int32} {s0 : Int32} {s1 : Int32} {ks2 : Nat} (hk0 : isForm k0 = true) (hk1 : isIA k1 7) (hks2 : isIA ks2 32) (h : f_X2_worth_89 q4 v k0 k1 a2 a3 s0 s1 ks2 = some r) : Ev mX2_worth 2 0 0 89 [(0, .ref k0), (1, .ref k1), (2, .int a2), (3, .int a3)] [.int s0, .int s1, .ref ks2] (rZ X) v (rPI X r) := by
  unfold f_X2_worth_89 at h
  obtain ⟨c4, h⟩ := grd h
  refine e_iastJ dX2_worth_89 hks2 rfl c4.2 c4.1 ?_
  obtain ⟨v5, ev5, h⟩ := vlet_ex h
  refine e_nameV ev5.symm ?_
  clear ev5
  obtain ⟨x6, ex6, h⟩ := vlet_ex h
  refine e_iinc (lv' := [(2, .int x6), (0, .ref k0), (1, .ref k1), (3, .int a3)]) dX2_worth_90 rfl (ex6.symm) (by decide) rfl ?_
  clear ex6
  refine e_goto (tgt := 259) dX2_worth_93 (by decide) ?_
  refine e_sub [1, 2, 0, 3] rfl ?_
  exact b_X2_worth_259 hq4 hk0 hk1 h
set_option maxRecDepth 20000 in
theorem b_X2_worth_41 {X : Nat × (Nat → Int32)} {r : Int32 × rV} {v : rV} {q4 : rV → Nat → Nat → Int32 → Int32 → Option (Int32 × rV)} (hq4 : ∀ (v : rV) (k0 : Nat) (k1 : Nat) (a2 : Int32) (a3 : Int32) (hk0 : isForm k0 = true) (hk1 : isIA k1 7), q4 v k0 k1 a2 a3 = some r → Ev mX2_worth 2 0 0 4 [(0, .ref k0), (1, .ref k1), (2, .int a2), (3, .int a3)] [] (rZ X) v (rPI X r)) {k0 : Nat} {k1 : Nat} {a2 : Int32} {a3 : Int32} {a4 : Int32} (hk0 : isForm k0 = true) (hk1 : isIA k1 7) (h : f_X2_worth_41 q4 v k0 k1 a2 a3 a4 = some r) : Ev mX2_worth 2 0 0 41 [(0, .ref k0), (1, .ref k1), (2, .int a2), (3, .int a3), (4, .int a4)] [] (rZ X) v (rPI X r) := by
  unfold f_X2_worth_41 at h
  refine e_iload_n dX2_worth_41 rfl ?_
  refine e_aload_n dX2_worth_42 rfl ?_
  refine e_get (w := .ref (k0 + 2)) (j := 1) dX2_worth_43 (kForm_0 hk0) rc2 (by decide) wfX2_15 (gForm_1 hk0) ?_
  refine e_alenJ (x := (32 : Int32)) dX2_worth_46 (kForm_2 hk0) (Or.inl rfl) (by decide) ?_
  refine e_icmp_lt (tgt := 52) dX2_worth_47 (by decide) (fun c11 => ?_) (fun c11 => ?_)
  · rw [if_pos c11] at h
    refine e_bipush (x := (-20 : Int32)) dX2_worth_52 (by decide) ?_
    refine e_iload dX2_worth_54 rfl ?_
    refine e_isub dX2_worth_56 ?_
    obtain ⟨x3, ex3, h⟩ := vlet_ex h
    refine e_nameI ex3.symm ?_
    clear ex3
    refine e_istore (lv' := [(5, .int x3), (0, .ref k0), (1, .ref k1), (2, .int a2), (3, .int a3), (4, .int a4)]) dX2_worth_57 (by decide) rfl ?_
    refine e_aload_n dX2_worth_59 rfl ?_
    refine e_get (w := .ref (k0 + 2)) (j := 1) dX2_worth_60 (kForm_0 hk0) rc2 (by decide) wfX2_15 (gForm_1 hk0) ?_
    refine e_iload_n dX2_worth_63 rfl ?_
    refine e_iload dX2_worth_64 rfl ?_
    refine e_if_lt (tgt := 74) dX2_worth_66 (by decide) (fun c10 => ?_) (fun c10 => ?_)
    · rw [if_pos c10] at h
      refine e_iload dX2_worth_74 rfl ?_
      refine e_aload_n dX2_worth_76 rfl ?_
      refine e_alenJ (x := (7 : Int32)) dX2_worth_77 hk1 (Or.inl rfl) (by decide) ?_
      refine e_icmp_ge (tgt := 88) dX2_worth_78 (by decide) (fun c9 => ?_) (fun c9 => ?_)
      · rw [if_pos c9] at h
        refine e_iconst (x := (0 : Int32)) dX2_worth_88 (by decide) ?_
        refine e_sub [1, 2, 3, 4] rfl ?_
        exact b_X2_worth_89 hq4 hk0 hk1 (kForm_2 (X := X) hk0) h
      · rw [if_neg c9] at h
        refine e_aload_n dX2_worth_81 rfl ?_
        refine e_iload dX2_worth_82 rfl ?_
        obtain ⟨c8, h⟩ := grd h
        refine e_ialdJ dX2_worth_84 hk1 rfl c8.2 c8.1 ?_
        refine e_goto (tgt := 89) dX2_worth_85 (by decide) ?_
        refine e_sub [1, 2, 3, 4] rfl ?_
        exact b_X2_worth_89 hq4 hk0 hk1 (kForm_2 (X := X) hk0) h
    · rw [if_neg c10] at h
      refine e_iload dX2_worth_69 rfl ?_
      refine e_goto (tgt := 89) dX2_worth_71 (by decide) ?_
      refine e_sub [1, 2, 3, 4] rfl ?_
      exact b_X2_worth_89 hq4 hk0 hk1 (kForm_2 (X := X) hk0) h
  · rw [if_neg c11] at h
    refine e_iconst (x := (0 : Int32)) dX2_worth_50 (by decide) ?_
    obtain rfl := Option.some.inj h
    exact e_iret dX2_worth_51 rfl rfl ⟨rfl, rfl, rfl⟩
set_option maxRecDepth 20000 in
theorem b_X2_worth_202 {X : Nat × (Nat → Int32)} {r : Int32 × rV} {v : rV} {q4 : rV → Nat → Nat → Int32 → Int32 → Option (Int32 × rV)} (hq4 : ∀ (v : rV) (k0 : Nat) (k1 : Nat) (a2 : Int32) (a3 : Int32) (hk0 : isForm k0 = true) (hk1 : isIA k1 7), q4 v k0 k1 a2 a3 = some r → Ev mX2_worth 2 0 0 4 [(0, .ref k0), (1, .ref k1), (2, .int a2), (3, .int a3)] [] (rZ X) v (rPI X r)) {k0 : Nat} {k1 : Nat} {a2 : Int32} {s0 : Int32} {s1 : Int32} (hk0 : isForm k0 = true) (hk1 : isIA k1 7) (h : f_X2_worth_202 q4 v k0 k1 a2 s0 s1 = some r) : Ev mX2_worth 2 0 0 202 [(0, .ref k0), (1, .ref k1), (2, .int a2)] [.int s0, .int s1] (rZ X) v (rPI X r) := by
  unfold f_X2_worth_202 at h
  refine e_iadd dX2_worth_202 ?_
  obtain ⟨x21, ex21, h⟩ := vlet_ex h
  refine e_nameI ex21.symm ?_
  clear ex21
  refine e_istore_n (lv' := [(3, .int x21), (0, .ref k0), (1, .ref k1), (2, .int a2)]) dX2_worth_203 (by decide) rfl ?_
  refine e_goto (tgt := 259) dX2_worth_204 (by decide) ?_
  refine e_sub [1, 2, 3, 0] rfl ?_
  exact b_X2_worth_259 hq4 hk0 hk1 h
set_option maxRecDepth 20000 in
theorem b_X2_worth_201 {X : Nat × (Nat → Int32)} {r : Int32 × rV} {v : rV} {q4 : rV → Nat → Nat → Int32 → Int32 → Option (Int32 × rV)} (hq4 : ∀ (v : rV) (k0 : Nat) (k1 : Nat) (a2 : Int32) (a3 : Int32) (hk0 : isForm k0 = true) (hk1 : isIA k1 7), q4 v k0 k1 a2 a3 = some r → Ev mX2_worth 2 0 0 4 [(0, .ref k0), (1, .ref k1), (2, .int a2), (3, .int a3)] [] (rZ X) v (rPI X r)) {k0 : Nat} {k1 : Nat} {a2 : Int32} {s0 : Int32} (hk0 : isForm k0 = true) (hk1 : isIA k1 7) (h : f_X2_worth_201 q4 v k0 k1 a2 s0 = some r) : Ev mX2_worth 2 0 0 201 [(0, .ref k0), (1, .ref k1), (2, .int a2)] [.int s0] (rZ X) v (rPI X r) := by
  unfold f_X2_worth_201 at h
  refine e_iconst (x := (0 : Int32)) dX2_worth_201 (by decide) ?_
  exact b_X2_worth_202 hq4 hk0 hk1 h
set_option maxRecDepth 20000 in
theorem b_X2_worth_156 {X : Nat × (Nat → Int32)} {r : Int32 × rV} {v : rV} {q4 : rV → Nat → Nat → Int32 → Int32 → Option (Int32 × rV)} (hq4 : ∀ (v : rV) (k0 : Nat) (k1 : Nat) (a2 : Int32) (a3 : Int32) (hk0 : isForm k0 = true) (hk1 : isIA k1 7), q4 v k0 k1 a2 a3 = some r → Ev mX2_worth 2 0 0 4 [(0, .ref k0), (1, .ref k1), (2, .int a2), (3, .int a3)] [] (rZ X) v (rPI X r)) {k0 : Nat} {k1 : Nat} {a2 : Int32} {a3 : Int32} {s0 : Int32} {s1 : Int32} {ks2 : Nat} (hk0 : isForm k0 = true) (hk1 : isIA k1 7) (hks2 : isIA ks2 32) (h : f_X2_worth_156 q4 v k0 k1 a2 a3 s0 s1 ks2 = some r) : Ev mX2_worth 2 0 0 156 [(0, .ref k0), (1, .ref k1), (2, .int a2), (3, .int a3)] [.int s0, .int s1, .ref ks2] (rZ X) v (rPI X r) := by
  unfold f_X2_worth_156 at h
  obtain ⟨c26, h⟩ := grd h
  refine e_iastJ dX2_worth_156 hks2 rfl c26.2 c26.1 ?_
  obtain ⟨v27, ev27, h⟩ := vlet_ex h
  refine e_nameV ev27.symm ?_
  clear ev27
  refine e_goto (tgt := 259) dX2_worth_157 (by decide) ?_
  exact b_X2_worth_259 hq4 hk0 hk1 h
set_option maxRecDepth 20000 in
theorem b_X2_worth_4 {X : Nat × (Nat → Int32)} {r : Int32 × rV}   : ∀ (n : Nat) (v : rV) (k0 : Nat) (k1 : Nat) (a2 : Int32) (a3 : Int32) (hk0 : isForm k0 = true) (hk1 : isIA k1 7), f_X2_worth_4   n v k0 k1 a2 a3 = some r → Ev mX2_worth 2 0 0 4 [(0, .ref k0), (1, .ref k1), (2, .int a2), (3, .int a3)] [] (rZ X) v (rPI X r) := by
  intro n
  induction n with
  | zero =>
    intros
    rename_i h
    cases h
  | succ n ih =>
    intro v k0 k1 a2 a3 hk0 hk1 h
    rw [f_X2_worth_4] at h
    refine e_iload_n dX2_worth_4 rfl ?_
    refine e_aload_n dX2_worth_5 rfl ?_
    refine e_get (w := .int (v.1 k0 2)) (j := 2) dX2_worth_6 (kForm_0 hk0) rc2 (by decide) wfX2_18 rfl ?_
    refine e_icmp_ge (tgt := 265) dX2_worth_9 (by decide) (fun c36 => ?_) (fun c36 => ?_)
    · rw [if_pos c36] at h
      refine e_iconst (x := (0 : Int32)) dX2_worth_265 (by decide) ?_
      obtain rfl := Option.some.inj h
      exact e_iret dX2_worth_266 rfl rfl ⟨rfl, rfl, rfl⟩
    · rw [if_neg c36] at h
      refine e_iload_n dX2_worth_12 rfl ?_
      refine e_aload_n dX2_worth_13 rfl ?_
      refine e_get (w := .ref (k0 + 1)) (j := 0) dX2_worth_14 (kForm_0 hk0) rc2 (by decide) wfX2_9 (gForm_0 hk0) ?_
      refine e_alenJ (x := (162 : Int32)) dX2_worth_17 (kForm_1 hk0) (Or.inl rfl) (by decide) ?_
      refine e_icmp_ge (tgt := 265) dX2_worth_18 (by decide) (fun c35 => ?_) (fun c35 => ?_)
      · rw [if_pos c35] at h
        refine e_iconst (x := (0 : Int32)) dX2_worth_265 (by decide) ?_
        obtain rfl := Option.some.inj h
        exact e_iret dX2_worth_266 rfl rfl ⟨rfl, rfl, rfl⟩
      · rw [if_neg c35] at h
        refine e_aload_n dX2_worth_21 rfl ?_
        refine e_get (w := .ref (k0 + 1)) (j := 0) dX2_worth_22 (kForm_0 hk0) rc2 (by decide) wfX2_9 (gForm_0 hk0) ?_
        refine e_iload_n dX2_worth_25 rfl ?_
        obtain ⟨c1, h⟩ := grd h
        refine e_ialdJ dX2_worth_26 (kForm_1 hk0) rfl c1.2 c1.1 ?_
        obtain ⟨x2, ex2, h⟩ := vlet_ex h
        refine e_nameI ex2.symm ?_
        clear ex2
        refine e_istore (lv' := [(4, .int x2), (0, .ref k0), (1, .ref k1), (2, .int a2), (3, .int a3)]) dX2_worth_27 (by decide) rfl ?_
        refine e_iload dX2_worth_29 rfl ?_
        refine e_if_ge (tgt := 41) dX2_worth_31 (by decide) (fun c34 => ?_) (fun c34 => ?_)
        · rw [if_pos c34] at h
          refine e_sub [1, 2, 3, 4, 0] rfl ?_
          exact b_X2_worth_41 (fun v k0 k1 a2 a3 hk0 hk1 hh => ih v k0 k1 a2 a3 hk0 hk1 hh) hk0 hk1 h
        · rw [if_neg c34] at h
          refine e_iload dX2_worth_34 rfl ?_
          refine e_bipush (x := (-20 : Int32)) dX2_worth_36 (by decide) ?_
          refine e_icmp_gt (tgt := 96) dX2_worth_38 (by decide) (fun c33 => ?_) (fun c33 => ?_)
          · rw [if_pos c33] at h
            refine e_iload_n dX2_worth_96 rfl ?_
            refine e_iconst (x := (1 : Int32)) dX2_worth_97 (by decide) ?_
            refine e_icmp_lt (tgt := 110) dX2_worth_98 (by decide) (fun c32 => ?_) (fun c32 => ?_)
            · rw [if_pos c32] at h
              refine e_iconst (x := (0 : Int32)) dX2_worth_110 (by decide) ?_
              obtain rfl := Option.some.inj h
              exact e_iret dX2_worth_111 rfl rfl ⟨rfl, rfl, rfl⟩
            · rw [if_neg c32] at h
              refine e_iload_n dX2_worth_101 rfl ?_
              refine e_aload_n dX2_worth_102 rfl ?_
              refine e_get (w := .ref (k0 + 2)) (j := 1) dX2_worth_103 (kForm_0 hk0) rc2 (by decide) wfX2_15 (gForm_1 hk0) ?_
              refine e_alenJ (x := (32 : Int32)) dX2_worth_106 (kForm_2 hk0) (Or.inl rfl) (by decide) ?_
              refine e_icmp_le (tgt := 112) dX2_worth_107 (by decide) (fun c31 => ?_) (fun c31 => ?_)
              · rw [if_pos c31] at h
                refine e_aload_n dX2_worth_112 rfl ?_
                refine e_get (w := .ref (k0 + 2)) (j := 1) dX2_worth_113 (kForm_0 hk0) rc2 (by decide) wfX2_15 (gForm_1 hk0) ?_
                refine e_iload_n dX2_worth_116 rfl ?_
                refine e_iconst (x := (1 : Int32)) dX2_worth_117 (by decide) ?_
                refine e_isub dX2_worth_118 ?_
                obtain ⟨c12, h⟩ := grd h
                refine e_ialdJ dX2_worth_119 (kForm_2 hk0) rfl c12.2 c12.1 ?_
                obtain ⟨x13, ex13, h⟩ := vlet_ex h
                refine e_nameI ex13.symm ?_
                clear ex13
                refine e_istore (lv' := [(5, .int x13), (4, .int x2), (0, .ref k0), (1, .ref k1), (2, .int a2), (3, .int a3)]) dX2_worth_120 (by decide) rfl ?_
                refine e_iload dX2_worth_122 rfl ?_
                refine e_bipush (x := (-12 : Int32)) dX2_worth_124 (by decide) ?_
                refine e_icmp_ne (tgt := 132) dX2_worth_126 (by decide) (fun c30 => ?_) (fun c30 => ?_)
                · rw [if_neg c30] at h
                  refine e_iload dX2_worth_132 rfl ?_
                  refine e_bipush (x := (-10 : Int32)) dX2_worth_134 (by decide) ?_
                  refine e_icmp_ne (tgt := 160) dX2_worth_136 (by decide) (fun c29 => ?_) (fun c29 => ?_)
                  · rw [if_neg c29] at h
                    refine e_iload dX2_worth_160 rfl ?_
                    refine e_bipush (x := (-11 : Int32)) dX2_worth_162 (by decide) ?_
                    refine e_icmp_ne (tgt := 207) dX2_worth_164 (by decide) (fun c25 => ?_) (fun c25 => ?_)
                    · rw [if_neg c25] at h
                      refine e_iload_n dX2_worth_207 rfl ?_
                      refine e_iconst (x := (2 : Int32)) dX2_worth_208 (by decide) ?_
                      refine e_icmp_ge (tgt := 214) dX2_worth_209 (by decide) (fun c18 => ?_) (fun c18 => ?_)
                      · rw [if_pos c18] at h
                        obtain ⟨x14, ex14, h⟩ := vlet_ex h
                        refine e_iinc (lv' := [(2, .int x14), (5, .int x13), (4, .int x2), (0, .ref k0), (1, .ref k1), (3, .int a3)]) dX2_worth_214 rfl (ex14.symm) (by decide) rfl ?_
                        clear ex14
                        refine e_iload dX2_worth_217 rfl ?_
                        refine e_aload_n dX2_worth_219 rfl ?_
                        refine e_get (w := .ref (k0 + 2)) (j := 1) dX2_worth_220 (kForm_0 hk0) rc2 (by decide) wfX2_15 (gForm_1 hk0) ?_
                        refine e_iload_n dX2_worth_223 rfl ?_
                        refine e_iconst (x := (1 : Int32)) dX2_worth_224 (by decide) ?_
                        refine e_isub dX2_worth_225 ?_
                        obtain ⟨c15, h⟩ := grd h
                        refine e_ialdJ dX2_worth_226 (kForm_2 hk0) rfl c15.2 c15.1 ?_
                        refine e_i2l dX2_worth_227 ?_
                        refine e_iload dX2_worth_228 rfl ?_
                        refine e_i2l dX2_worth_230 ?_
                        obtain ⟨p16, ep16, h⟩ := Option.bind_eq_some_iff.mp h
                        refine c_SJ (M' := mX2_joined) [.int x2, .long ((v.1 (k0 + 2) ((x14 - (1 : Int32)).toNatClampNeg)).toInt64), .long (x13.toInt64)] dX2_worth_231 rfl wmX2_34 stX2_joined lkX2_joined (Nat.le_of_ble_eq_true rfl) ((x_X2_joined  ep16).mono (by omega)) ?_
                        refine e_lstore (lv' := [(6, .long p16), (2, .int x14), (5, .int x13), (4, .int x2), (0, .ref k0), (1, .ref k1), (3, .int a3)]) dX2_worth_234 (by decide) rfl ?_
                        refine e_aload_n dX2_worth_236 rfl ?_
                        refine e_get (w := .ref (k0 + 2)) (j := 1) dX2_worth_237 (kForm_0 hk0) rc2 (by decide) wfX2_15 (gForm_1 hk0) ?_
                        refine e_iload_n dX2_worth_240 rfl ?_
                        refine e_iconst (x := (1 : Int32)) dX2_worth_241 (by decide) ?_
                        refine e_isub dX2_worth_242 ?_
                        refine e_ldc2 dX2_worth_243 wcX2_38 ?_
                        refine e_ldc2 dX2_worth_246 wcX2_40 ?_
                        refine e_lload dX2_worth_249 rfl ?_
                        refine e_minl dX2_worth_251 wmX2_42 wmst_minl winimath wmcd_minl (by omega) (Nat.le_of_ble_eq_true rfl) ?_
                        refine e_maxl dX2_worth_254 wmX2_46 wmst_maxl winimath wmcd_maxl (by omega) (Nat.le_of_ble_eq_true rfl) ?_
                        refine e_l2i dX2_worth_257 ?_
                        refine e_iastJ dX2_worth_258 (kForm_2 hk0) rfl (c15).2 (c15).1 ?_
                        obtain ⟨v17, ev17, h⟩ := vlet_ex h
                        refine e_nameV ev17.symm ?_
                        clear ev17
                        refine e_sub [4, 5, 1, 6] rfl ?_
                        exact b_X2_worth_259 (fun v k0 k1 a2 a3 hk0 hk1 hh => ih v k0 k1 a2 a3 hk0 hk1 hh) hk0 hk1 h
                      · rw [if_neg c18] at h
                        refine e_iconst (x := (0 : Int32)) dX2_worth_212 (by decide) ?_
                        obtain rfl := Option.some.inj h
                        exact e_iret dX2_worth_213 rfl rfl ⟨rfl, rfl, rfl⟩
                    · rw [if_pos c25] at h
                      obtain ⟨x19, ex19, h⟩ := vlet_ex h
                      refine e_iinc (lv' := [(2, .int x19), (5, .int x13), (4, .int x2), (0, .ref k0), (1, .ref k1), (3, .int a3)]) dX2_worth_167 rfl (ex19.symm) (by decide) rfl ?_
                      clear ex19
                      obtain ⟨x20, ex20, h⟩ := vlet_ex h
                      refine e_iinc (lv' := [(3, .int x20), (2, .int x19), (5, .int x13), (4, .int x2), (0, .ref k0), (1, .ref k1)]) dX2_worth_170 rfl (ex20.symm) (by decide) rfl ?_
                      clear ex20
                      refine e_iload_n dX2_worth_173 rfl ?_
                      refine e_iload dX2_worth_174 rfl ?_
                      refine e_if_ne (tgt := 201) dX2_worth_176 (by decide) (fun c24 => ?_) (fun c24 => ?_)
                      · rw [if_neg c24] at h
                        refine e_sub [4, 5, 1] rfl ?_
                        exact b_X2_worth_201 (fun v k0 k1 a2 a3 hk0 hk1 hh => ih v k0 k1 a2 a3 hk0 hk1 hh) hk0 hk1 h
                      · rw [if_pos c24] at h
                        refine e_iload_n dX2_worth_179 rfl ?_
                        refine e_aload_n dX2_worth_180 rfl ?_
                        refine e_get (w := .ref (k0 + 1)) (j := 0) dX2_worth_181 (kForm_0 hk0) rc2 (by decide) wfX2_9 (gForm_0 hk0) ?_
                        refine e_alenJ (x := (162 : Int32)) dX2_worth_184 (kForm_1 hk0) (Or.inl rfl) (by decide) ?_
                        refine e_icmp_ge (tgt := 201) dX2_worth_185 (by decide) (fun c23 => ?_) (fun c23 => ?_)
                        · rw [if_pos c23] at h
                          refine e_sub [4, 5, 1] rfl ?_
                          exact b_X2_worth_201 (fun v k0 k1 a2 a3 hk0 hk1 hh => ih v k0 k1 a2 a3 hk0 hk1 hh) hk0 hk1 h
                        · rw [if_neg c23] at h
                          refine e_iconst (x := (0 : Int32)) dX2_worth_188 (by decide) ?_
                          refine e_aload_n dX2_worth_189 rfl ?_
                          refine e_get (w := .ref (k0 + 1)) (j := 0) dX2_worth_190 (kForm_0 hk0) rc2 (by decide) wfX2_9 (gForm_0 hk0) ?_
                          refine e_iload_n dX2_worth_193 rfl ?_
                          obtain ⟨c22, h⟩ := grd h
                          refine e_ialdJ dX2_worth_194 (kForm_1 hk0) rfl c22.2 c22.1 ?_
                          refine e_max dX2_worth_195 wmX2_28 wmst_max winimath wmcd_max (by omega) (Nat.le_of_ble_eq_true rfl) ?_
                          refine e_goto (tgt := 202) dX2_worth_198 (by decide) ?_
                          refine e_sub [4, 5, 1] rfl ?_
                          exact b_X2_worth_202 (fun v k0 k1 a2 a3 hk0 hk1 hh => ih v k0 k1 a2 a3 hk0 hk1 hh) hk0 hk1 h
                  · rw [if_pos c29] at h
                    refine e_aload_n dX2_worth_139 rfl ?_
                    refine e_get (w := .ref (k0 + 2)) (j := 1) dX2_worth_140 (kForm_0 hk0) rc2 (by decide) wfX2_15 (gForm_1 hk0) ?_
                    refine e_iload_n dX2_worth_143 rfl ?_
                    refine e_iconst (x := (1 : Int32)) dX2_worth_144 (by decide) ?_
                    refine e_isub dX2_worth_145 ?_
                    refine e_iload dX2_worth_146 rfl ?_
                    refine e_if_ne (tgt := 155) dX2_worth_148 (by decide) (fun c28 => ?_) (fun c28 => ?_)
                    · rw [if_neg c28] at h
                      refine e_iconst (x := (0 : Int32)) dX2_worth_155 (by decide) ?_
                      refine e_sub [2, 3, 4, 5] rfl ?_
                      exact b_X2_worth_156 (fun v k0 k1 a2 a3 hk0 hk1 hh => ih v k0 k1 a2 a3 hk0 hk1 hh) hk0 hk1 (kForm_2 (X := X) hk0) h
                    · rw [if_pos c28] at h
                      refine e_iconst (x := (1 : Int32)) dX2_worth_151 (by decide) ?_
                      refine e_goto (tgt := 156) dX2_worth_152 (by decide) ?_
                      refine e_sub [2, 3, 4, 5] rfl ?_
                      exact b_X2_worth_156 (fun v k0 k1 a2 a3 hk0 hk1 hh => ih v k0 k1 a2 a3 hk0 hk1 hh) hk0 hk1 (kForm_2 (X := X) hk0) h
                · rw [if_pos c30] at h
                  refine e_iload dX2_worth_129 rfl ?_
                  obtain rfl := Option.some.inj h
                  exact e_iret dX2_worth_131 rfl rfl ⟨rfl, rfl, rfl⟩
              · rw [if_neg c31] at h
                refine e_iconst (x := (0 : Int32)) dX2_worth_110 (by decide) ?_
                obtain rfl := Option.some.inj h
                exact e_iret dX2_worth_111 rfl rfl ⟨rfl, rfl, rfl⟩
          · rw [if_neg c33] at h
            refine e_sub [1, 2, 3, 4, 0] rfl ?_
            exact b_X2_worth_41 (fun v k0 k1 a2 a3 hk0 hk1 hh => ih v k0 k1 a2 a3 hk0 hk1 hh) hk0 hk1 h
set_option maxRecDepth 20000 in
theorem x_X2_worth {X : Nat × (Nat → Int32)} {v : rV} {r : Int32 × rV} {k0 : Nat} {k1 : Nat} (hk0 : isForm k0 = true) (hk1 : isIA k1 7) (h : f_X2_worth v k0 k1 = some r) : EvM mX2_worth 2 0 0 [.ref k0, .ref k1] (rZ X) v (rPI X r) := by
  refine evm_of (by decide +kernel) (fun G => Nat.le_of_ble_eq_true rfl) ?_
  show Ev mX2_worth 2 0 0 0 [(0, .ref k0), (1, .ref k1)] [] (rZ X) v _
  unfold f_X2_worth at h
  refine e_iconst (x := (0 : Int32)) dX2_worth_0 (by decide) ?_
  refine e_istore_n (lv' := [(2, .int (0 : Int32)), (0, .ref k0), (1, .ref k1)]) dX2_worth_1 (by decide) rfl ?_
  refine e_iconst (x := (0 : Int32)) dX2_worth_2 (by decide) ?_
  refine e_istore_n (lv' := [(3, .int (0 : Int32)), (2, .int (0 : Int32)), (0, .ref k0), (1, .ref k1)]) dX2_worth_3 (by decide) rfl ?_
  refine e_sub [2, 3, 1, 0] rfl ?_
  exact b_X2_worth_4  _ v k0 k1 (0 : Int32) (0 : Int32) hk0 hk1 h
def f_X4_has (v : rV) (k0 : Nat) (a1 : Int32) : Bool := if a1 < 0 then
  (false)
else
  (if (v.1 k0 1) ≤ a1 then
  (false)
else
  (if (4 : Int32) ≤ a1 then
  (false)
else
  (true)))
set_option maxRecDepth 20000 in
theorem x_X4_has {X : Nat × (Nat → Int32)} {v : rV} {k0 : Nat} {a1 : Int32} (hk0 : isShelf k0 = true) : EvM mX4_has 1 0 0 [.ref k0, .int a1] (rZ X) v (rPZ X ((f_X4_has v k0 a1), v)) := by
  refine evm_of (by decide +kernel) (fun G => Nat.le_of_ble_eq_true rfl) ?_
  show Ev mX4_has 1 0 0 0 [(0, .ref k0), (1, .int a1)] [] (rZ X) v _
  generalize h : f_X4_has v k0 a1 = r
  unfold f_X4_has at h
  refine e_iload_n dX4_has_0 rfl ?_
  refine e_if_lt (tgt := 25) dX4_has_1 (by decide) (fun c3 => ?_) (fun c3 => ?_)
  · rw [if_pos c3] at h
    refine e_iconst (x := (0 : Int32)) dX4_has_25 (by decide) ?_
    subst h
    exact e_iret dX4_has_26 rfl rfl ⟨rfl, rfl, rfl⟩
  · rw [if_neg c3] at h
    refine e_iload_n dX4_has_4 rfl ?_
    refine e_aload_n dX4_has_5 rfl ?_
    refine e_get (w := .int (v.1 k0 1)) (j := 1) dX4_has_6 (kShelf_0 hk0) rc4 (by decide) wfX4_18 rfl ?_
    refine e_icmp_ge (tgt := 25) dX4_has_9 (by decide) (fun c2 => ?_) (fun c2 => ?_)
    · rw [if_pos c2] at h
      refine e_iconst (x := (0 : Int32)) dX4_has_25 (by decide) ?_
      subst h
      exact e_iret dX4_has_26 rfl rfl ⟨rfl, rfl, rfl⟩
    · rw [if_neg c2] at h
      refine e_iload_n dX4_has_12 rfl ?_
      refine e_aload_n dX4_has_13 rfl ?_
      refine e_get (w := .ref (k0 + 1)) (j := 0) dX4_has_14 (kShelf_0 hk0) rc4 (by decide) wfX4_11 (gShelf_0 hk0) ?_
      refine e_alenJ (x := (4 : Int32)) dX4_has_17 (kShelf_1 hk0) (Or.inr (Or.inr rfl)) (by decide) ?_
      refine e_icmp_ge (tgt := 25) dX4_has_18 (by decide) (fun c1 => ?_) (fun c1 => ?_)
      · rw [if_pos c1] at h
        refine e_iconst (x := (0 : Int32)) dX4_has_25 (by decide) ?_
        subst h
        exact e_iret dX4_has_26 rfl rfl ⟨rfl, rfl, rfl⟩
      · rw [if_neg c1] at h
        refine e_iconst (x := (1 : Int32)) dX4_has_21 (by decide) ?_
        refine e_goto (tgt := 26) dX4_has_22 (by decide) ?_
        subst h
        exact e_iret dX4_has_26 rfl rfl ⟨rfl, rfl, rfl⟩
def f_X4_at (v : rV) (k0 : Nat) (a1 : Int32) : Option (Nat) := if (f_X4_has v k0 a1) = true then
  (if ¬ a1 < 0 ∧ a1.toNatClampNeg < 4 then
  (some (k0 + 2 + 3 * a1.toNatClampNeg))
else none)
else
  (some (k0 + 2 + 3 * 0))
set_option maxRecDepth 20000 in
theorem x_X4_at {X : Nat × (Nat → Int32)} {v : rV} {r : Nat} {k0 : Nat} {a1 : Int32} (hk0 : isShelf k0 = true) (h : f_X4_at v k0 a1 = some r) : EvM mX4_at 2 0 0 [.ref k0, .int a1] (rZ X) v (rPA X (r, v)) := by
  refine evm_of (by decide +kernel) (fun G => Nat.le_of_ble_eq_true rfl) ?_
  show Ev mX4_at 2 0 0 0 [(0, .ref k0), (1, .int a1)] [] (rZ X) v _
  unfold f_X4_at at h
  refine e_aload_n dX4_at_0 rfl ?_
  refine e_get (w := .ref (k0 + 1)) (j := 0) dX4_at_1 (kShelf_0 hk0) rc4 (by decide) wfX4_11 (gShelf_0 hk0) ?_
  refine e_aload_n dX4_at_4 rfl ?_
  refine e_iload_n dX4_at_5 rfl ?_
  refine c_VZ (M' := mX4_has) [.int a1] dX4_at_6 rfl wmX4_22 imX4_has seX4_has lkX4_has (kShelf_0 hk0) rc4 (Nat.le_of_ble_eq_true rfl) ((x_X4_has hk0).mono (by omega)) ?_
  refine e_if_eq (tgt := 16) dX4_at_9 (by decide) (fun c3 => ?_) (fun c3 => ?_)
  · rw [if_neg (bI_n c3)] at h
    refine e_iconst (x := (0 : Int32)) dX4_at_16 (by decide) ?_
    refine e_aaldJ dX4_at_17 (kShelf_1 hk0) rfl (j := 0) (by decide) (by decide) (by decide) (rShelf_1 hk0 (by decide)) ?_
    obtain rfl := Option.some.inj h
    exact e_aret dX4_at_18 rfl ⟨rfl, rfl, rfl⟩
  · rw [if_pos (bI_p c3)] at h
    refine e_iload_n dX4_at_12 rfl ?_
    refine e_goto (tgt := 17) dX4_at_13 (by decide) ?_
    obtain ⟨c2, h⟩ := grd h
    refine e_aaldJ dX4_at_17 (kShelf_1 hk0) rfl rfl c2.2 c2.1 (rShelf_1 hk0 (c2).2) ?_
    obtain rfl := Option.some.inj h
    exact e_aret dX4_at_18 rfl ⟨rfl, rfl, rfl⟩
def f_X4_keep (v : rV) (k0 : Nat) (k1 : Nat) : Option (Int32 × rV) := if (v.1 k0 1) < (4 : Int32) then
  (if ¬ (v.1 k0 1) < 0 ∧ (v.1 k0 1).toNatClampNeg < 4 then
  ((f_X2_copy v (k0 + 2 + 3 * (v.1 k0 1).toNatClampNeg) k1).bind fun p2 =>
  vlet (rI p2 k0 1 ((p2.1 k0 1) + (1 : Int32))) fun v3 =>
  some ((v3.1 k0 1) - (1 : Int32), v3))
else none)
else
  (some ((-1 : Int32), v))
set_option maxRecDepth 20000 in
theorem x_X4_keep {X : Nat × (Nat → Int32)} {v : rV} {r : Int32 × rV} {k0 : Nat} {k1 : Nat} (hk0 : isShelf k0 = true) (hk1 : isForm k1 = true) (h : f_X4_keep v k0 k1 = some r) : EvM mX4_keep 2 0 0 [.ref k0, .ref k1] (rZ X) v (rPI X r) := by
  refine evm_of (by decide +kernel) (fun G => Nat.le_of_ble_eq_true rfl) ?_
  show Ev mX4_keep 2 0 0 0 [(0, .ref k0), (1, .ref k1)] [] (rZ X) v _
  unfold f_X4_keep at h
  refine e_aload_n dX4_keep_0 rfl ?_
  refine e_get (w := .int (v.1 k0 1)) (j := 1) dX4_keep_1 (kShelf_0 hk0) rc4 (by decide) wfX4_18 rfl ?_
  refine e_aload_n dX4_keep_4 rfl ?_
  refine e_get (w := .ref (k0 + 1)) (j := 0) dX4_keep_5 (kShelf_0 hk0) rc4 (by decide) wfX4_11 (gShelf_0 hk0) ?_
  refine e_alenJ (x := (4 : Int32)) dX4_keep_8 (kShelf_1 hk0) (Or.inr (Or.inr rfl)) (by decide) ?_
  refine e_icmp_lt (tgt := 14) dX4_keep_9 (by decide) (fun c4 => ?_) (fun c4 => ?_)
  · rw [if_pos c4] at h
    refine e_aload_n dX4_keep_14 rfl ?_
    refine e_get (w := .ref (k0 + 1)) (j := 0) dX4_keep_15 (kShelf_0 hk0) rc4 (by decide) wfX4_11 (gShelf_0 hk0) ?_
    refine e_aload_n dX4_keep_18 rfl ?_
    refine e_get (w := .int (v.1 k0 1)) (j := 1) dX4_keep_19 (kShelf_0 hk0) rc4 (by decide) wfX4_18 rfl ?_
    obtain ⟨c1, h⟩ := grd h
    refine e_aaldJ dX4_keep_22 (kShelf_1 hk0) rfl rfl c1.2 c1.1 (rShelf_1 hk0 (c1).2) ?_
    refine e_aload_n dX4_keep_23 rfl ?_
    obtain ⟨p2, ep2, h⟩ := Option.bind_eq_some_iff.mp h
    refine c_VV (M' := mX2_copy) [.ref k1] dX4_keep_24 rfl wmX4_26 imX2_copy seX2_copy lkX2_copy (kForm_0 (fShelf hk0 (c1).2)) rc2 (Nat.le_of_ble_eq_true rfl) ((x_X2_copy (fShelf hk0 (c1).2) hk1 ep2).mono (by omega)) ?_
    refine e_aload_n dX4_keep_27 rfl ?_
    refine e_dup dX4_keep_28 rfl ?_
    refine e_get (w := .int (p2.1 k0 1)) (j := 1) dX4_keep_29 (kShelf_0 hk0) rc4 (by decide) wfX4_18 rfl ?_
    refine e_iconst (x := (1 : Int32)) dX4_keep_32 (by decide) ?_
    refine e_iadd dX4_keep_33 ?_
    refine e_putI (j := 1) dX4_keep_34 (kShelf_0 hk0) rc4 (by decide) wfX4_18 rfl rfl ?_
    obtain ⟨v3, ev3, h⟩ := vlet_ex h
    refine e_nameV ev3.symm ?_
    clear ev3
    refine e_aload_n dX4_keep_37 rfl ?_
    refine e_get (w := .int (v3.1 k0 1)) (j := 1) dX4_keep_38 (kShelf_0 hk0) rc4 (by decide) wfX4_18 rfl ?_
    refine e_iconst (x := (1 : Int32)) dX4_keep_41 (by decide) ?_
    refine e_isub dX4_keep_42 ?_
    obtain rfl := Option.some.inj h
    exact e_iret dX4_keep_43 rfl rfl ⟨rfl, rfl, rfl⟩
  · rw [if_neg c4] at h
    refine e_iconst (x := (-1 : Int32)) dX4_keep_12 (by decide) ?_
    obtain rfl := Option.some.inj h
    exact e_iret dX4_keep_13 rfl rfl ⟨rfl, rfl, rfl⟩
def f_X6_append_51  (q3 : rV → Int32 → Int32 → Option (rV)) (v : rV) (a1 : Int32) (a2 : Int32) : Option (rV) := vlet (a2 + (-8 : Int32)) fun x2 =>
  q3 v a1 x2
def f_X6_append_3   : Nat → rV → Int32 → Int32 → Option (rV)
  | 0, _, _, _ => none
  | n + 1, v, a1, a2 => if a2 < 0 then
  (some v)
else
  (vlet (((a1.toUInt32 >>> (a2.toUInt32 &&& Int32.toUInt32 31)).toInt32) &&& (255 : Int32) : Int32) fun x1 =>
  if x1 = 0 then
  (f_X6_append_51 (fun v a1 a2 => f_X6_append_3  n v a1 a2) v a1 a2)
else
  (if (160 : Int32) ≤ (v.1 1 1) then
  (f_X6_append_51 (fun v a1 a2 => f_X6_append_3  n v a1 a2) v a1 a2)
else
  (if ¬ (v.1 1 1) < 0 ∧ (v.1 1 1).toNatClampNeg < 160 then
  (vlet (rI v 2 ((v.1 1 1).toNatClampNeg) x1) fun v4 =>
  vlet (rI v4 1 1 ((v4.1 1 1) + (1 : Int32))) fun v5 =>
  f_X6_append_51 (fun v a1 a2 => f_X6_append_3  n v a1 a2) v5 a1 a2)
else none)))
def f_X6_append (v : rV) (a1 : Int32) : Option (rV) := f_X6_append_3  20000 v a1 (24 : Int32)
set_option maxRecDepth 20000 in
theorem b_X6_append_51 {X : Nat × (Nat → Int32)} {r : rV} {v : rV} {q3 : rV → Int32 → Int32 → Option (rV)} (hq3 : ∀ (v : rV) (a1 : Int32) (a2 : Int32) , q3 v a1 a2 = some r → Ev mX6_append 1 0 0 3 [(0, .ref 1), (1, .int a1), (2, .int a2)] [] (rZ X) v (rPV X r)) {a1 : Int32} {a2 : Int32}  (h : f_X6_append_51 q3 v a1 a2 = some r) : Ev mX6_append 1 0 0 51 [(0, .ref 1), (1, .int a1), (2, .int a2)] [] (rZ X) v (rPV X r) := by
  unfold f_X6_append_51 at h
  obtain ⟨x2, ex2, h⟩ := vlet_ex h
  refine e_iinc (lv' := [(2, .int x2), (0, .ref 1), (1, .int a1)]) dX6_append_51 rfl (ex2.symm) (by decide) rfl ?_
  clear ex2
  refine e_goto (tgt := 3) dX6_append_54 (by decide) ?_
  refine e_sub [1, 2, 0] rfl ?_
  exact hq3 v a1 x2 h
set_option maxRecDepth 20000 in
theorem b_X6_append_3 {X : Nat × (Nat → Int32)} {r : rV}   : ∀ (n : Nat) (v : rV) (a1 : Int32) (a2 : Int32) , f_X6_append_3   n v a1 a2 = some r → Ev mX6_append 1 0 0 3 [(0, .ref 1), (1, .int a1), (2, .int a2)] [] (rZ X) v (rPV X r) := by
  intro n
  induction n with
  | zero =>
    intros
    rename_i h
    cases h
  | succ n ih =>
    intro v a1 a2 h
    rw [f_X6_append_3] at h
    refine e_iload_n dX6_append_3 rfl ?_
    refine e_if_lt (tgt := 57) dX6_append_4 (by decide) (fun c8 => ?_) (fun c8 => ?_)
    · rw [if_pos c8] at h
      obtain rfl := Option.some.inj h
      exact e_ret dX6_append_57 rfl ⟨rfl, rfl, rfl⟩
    · rw [if_neg c8] at h
      refine e_iload_n dX6_append_7 rfl ?_
      refine e_iload_n dX6_append_8 rfl ?_
      refine e_iushr dX6_append_9 ?_
      refine e_sipush (x := (255 : Int32)) dX6_append_10 (by decide) ?_
      refine e_iand dX6_append_13 ?_
      obtain ⟨x1, ex1, h⟩ := vlet_ex h
      refine e_nameI ex1.symm ?_
      clear ex1
      refine e_istore_n (lv' := [(3, .int x1), (0, .ref 1), (1, .int a1), (2, .int a2)]) dX6_append_14 (by decide) rfl ?_
      refine e_iload_n dX6_append_15 rfl ?_
      refine e_if_eq (tgt := 51) dX6_append_16 (by decide) (fun c7 => ?_) (fun c7 => ?_)
      · rw [if_pos c7] at h
        refine e_sub [1, 2, 3] rfl ?_
        exact b_X6_append_51 (fun v a1 a2  hh => ih v a1 a2  hh) h
      · rw [if_neg c7] at h
        refine e_aload_n dX6_append_19 rfl ?_
        refine e_get (w := .int (v.1 1 1)) (j := 1) dX6_append_20 k0_1 rc6 (by decide) wfX6_15 rfl ?_
        refine e_aload_n dX6_append_23 rfl ?_
        refine e_get (w := .ref 2) (j := 0) dX6_append_24 k0_1 rc6 (by decide) wfX6_9 (g0_1_0) ?_
        refine e_alenJ (x := (160 : Int32)) dX6_append_27 k0_2 (Or.inl rfl) (by decide) ?_
        refine e_icmp_ge (tgt := 51) dX6_append_28 (by decide) (fun c6 => ?_) (fun c6 => ?_)
        · rw [if_pos c6] at h
          refine e_sub [1, 2, 3] rfl ?_
          exact b_X6_append_51 (fun v a1 a2  hh => ih v a1 a2  hh) h
        · rw [if_neg c6] at h
          refine e_aload_n dX6_append_31 rfl ?_
          refine e_get (w := .ref 2) (j := 0) dX6_append_32 k0_1 rc6 (by decide) wfX6_9 (g0_1_0) ?_
          refine e_aload_n dX6_append_35 rfl ?_
          refine e_get (w := .int (v.1 1 1)) (j := 1) dX6_append_36 k0_1 rc6 (by decide) wfX6_15 rfl ?_
          refine e_iload_n dX6_append_39 rfl ?_
          obtain ⟨c3, h⟩ := grd h
          refine e_iastJ dX6_append_40 k0_2 rfl c3.2 c3.1 ?_
          obtain ⟨v4, ev4, h⟩ := vlet_ex h
          refine e_nameV ev4.symm ?_
          clear ev4
          refine e_aload_n dX6_append_41 rfl ?_
          refine e_dup dX6_append_42 rfl ?_
          refine e_get (w := .int (v4.1 1 1)) (j := 1) dX6_append_43 k0_1 rc6 (by decide) wfX6_15 rfl ?_
          refine e_iconst (x := (1 : Int32)) dX6_append_46 (by decide) ?_
          refine e_iadd dX6_append_47 ?_
          refine e_putI (j := 1) dX6_append_48 k0_1 rc6 (by decide) wfX6_15 rfl rfl ?_
          obtain ⟨v5, ev5, h⟩ := vlet_ex h
          refine e_nameV ev5.symm ?_
          clear ev5
          refine e_sub [1, 2, 3] rfl ?_
          exact b_X6_append_51 (fun v a1 a2  hh => ih v a1 a2  hh) h
set_option maxRecDepth 20000 in
theorem x_X6_append {X : Nat × (Nat → Int32)} {v : rV} {r : rV} {a1 : Int32}  (h : f_X6_append v a1 = some r) : EvM mX6_append 1 0 0 [.ref 1, .int a1] (rZ X) v (rPV X r) := by
  refine evm_of (by decide +kernel) (fun G => Nat.le_of_ble_eq_true rfl) ?_
  show Ev mX6_append 1 0 0 0 [(0, .ref 1), (1, .int a1)] [] (rZ X) v _
  unfold f_X6_append at h
  refine e_bipush (x := (24 : Int32)) dX6_append_0 (by decide) ?_
  refine e_istore_n (lv' := [(2, .int (24 : Int32)), (0, .ref 1), (1, .int a1)]) dX6_append_2 (by decide) rfl ?_
  refine e_sub [1, 2, 0] rfl ?_
  exact b_X6_append_3  _ v a1 (24 : Int32) h
def f_X6_bytesIn_22 (v : rV) (q5 : Int32 → Int32 → Int32 → Option (Int32)) (a0 : Int32) (a1 : Int32) (a2 : Int32) : Option (Int32) := vlet (a2 + (-8 : Int32)) fun x1 =>
  q5 a0 a1 x1
def f_X6_bytesIn_5 (v : rV)  : Nat → Int32 → Int32 → Int32 → Option (Int32)
  | 0, _, _, _ => none
  | n + 1, a0, a1, a2 => if a2 < 0 then
  (some a1)
else
  (if (((a0.toUInt32 >>> (a2.toUInt32 &&& Int32.toUInt32 31)).toInt32) &&& (255 : Int32)) = 0 then
  (f_X6_bytesIn_22 v (fun a0 a1 a2 => f_X6_bytesIn_5 v n a0 a1 a2) a0 a1 a2)
else
  (vlet (a1 + (1 : Int32)) fun x2 =>
  f_X6_bytesIn_22 v (fun a0 a1 a2 => f_X6_bytesIn_5 v n a0 a1 a2) a0 x2 a2))
def f_X6_bytesIn (v : rV) (a0 : Int32) : Option (Int32) := f_X6_bytesIn_5 v 20000 a0 (0 : Int32) (24 : Int32)
set_option maxRecDepth 20000 in
theorem b_X6_bytesIn_22 {X : Nat × (Nat → Int32)} {r : Int32} {v : rV} {q5 : Int32 → Int32 → Int32 → Option (Int32)} (hq5 : ∀ (a0 : Int32) (a1 : Int32) (a2 : Int32) , q5 a0 a1 a2 = some r → Ev mX6_bytesIn 1 0 0 5 [(0, .int a0), (1, .int a1), (2, .int a2)] [] (rZ X) v (rPI X (r, v))) {a0 : Int32} {a1 : Int32} {a2 : Int32}  (h : f_X6_bytesIn_22 v q5 a0 a1 a2 = some r) : Ev mX6_bytesIn 1 0 0 22 [(0, .int a0), (1, .int a1), (2, .int a2)] [] (rZ X) v (rPI X (r, v)) := by
  unfold f_X6_bytesIn_22 at h
  obtain ⟨x1, ex1, h⟩ := vlet_ex h
  refine e_iinc (lv' := [(2, .int x1), (0, .int a0), (1, .int a1)]) dX6_bytesIn_22 rfl (ex1.symm) (by decide) rfl ?_
  clear ex1
  refine e_goto (tgt := 5) dX6_bytesIn_25 (by decide) ?_
  refine e_sub [1, 2, 0] rfl ?_
  exact hq5 a0 a1 x1 h
set_option maxRecDepth 20000 in
theorem b_X6_bytesIn_5 {X : Nat × (Nat → Int32)} {r : Int32} {v : rV}   : ∀ (n : Nat) (a0 : Int32) (a1 : Int32) (a2 : Int32) , f_X6_bytesIn_5 v  n a0 a1 a2 = some r → Ev mX6_bytesIn 1 0 0 5 [(0, .int a0), (1, .int a1), (2, .int a2)] [] (rZ X) v (rPI X (r, v)) := by
  intro n
  induction n with
  | zero =>
    intros
    rename_i h
    cases h
  | succ n ih =>
    intro a0 a1 a2 h
    rw [f_X6_bytesIn_5] at h
    refine e_iload_n dX6_bytesIn_5 rfl ?_
    refine e_if_lt (tgt := 28) dX6_bytesIn_6 (by decide) (fun c4 => ?_) (fun c4 => ?_)
    · rw [if_pos c4] at h
      refine e_iload_n dX6_bytesIn_28 rfl ?_
      obtain rfl := Option.some.inj h
      exact e_iret dX6_bytesIn_29 rfl rfl ⟨rfl, rfl, rfl⟩
    · rw [if_neg c4] at h
      refine e_iload_n dX6_bytesIn_9 rfl ?_
      refine e_iload_n dX6_bytesIn_10 rfl ?_
      refine e_iushr dX6_bytesIn_11 ?_
      refine e_sipush (x := (255 : Int32)) dX6_bytesIn_12 (by decide) ?_
      refine e_iand dX6_bytesIn_15 ?_
      refine e_if_eq (tgt := 22) dX6_bytesIn_16 (by decide) (fun c3 => ?_) (fun c3 => ?_)
      · rw [if_pos c3] at h
        exact b_X6_bytesIn_22 (fun a0 a1 a2  hh => ih a0 a1 a2  hh) h
      · rw [if_neg c3] at h
        obtain ⟨x2, ex2, h⟩ := vlet_ex h
        refine e_iinc (lv' := [(1, .int x2), (0, .int a0), (2, .int a2)]) dX6_bytesIn_19 rfl (ex2.symm) (by decide) rfl ?_
        clear ex2
        refine e_sub [1, 0, 2] rfl ?_
        exact b_X6_bytesIn_22 (fun a0 a1 a2  hh => ih a0 a1 a2  hh) h
set_option maxRecDepth 20000 in
theorem x_X6_bytesIn {X : Nat × (Nat → Int32)} {v : rV} {r : Int32} {a0 : Int32}  (h : f_X6_bytesIn v a0 = some r) : EvM mX6_bytesIn 1 0 0 [.int a0] (rZ X) v (rPI X (r, v)) := by
  refine evm_of (by decide +kernel) (fun G => Nat.le_of_ble_eq_true rfl) ?_
  show Ev mX6_bytesIn 1 0 0 0 [(0, .int a0)] [] (rZ X) v _
  unfold f_X6_bytesIn at h
  refine e_iconst (x := (0 : Int32)) dX6_bytesIn_0 (by decide) ?_
  refine e_istore_n (lv' := [(1, .int (0 : Int32)), (0, .int a0)]) dX6_bytesIn_1 (by decide) rfl ?_
  refine e_bipush (x := (24 : Int32)) dX6_bytesIn_2 (by decide) ?_
  refine e_istore_n (lv' := [(2, .int (24 : Int32)), (1, .int (0 : Int32)), (0, .int a0)]) dX6_bytesIn_4 (by decide) rfl ?_
  refine e_sub [2, 1, 0] rfl ?_
  exact b_X6_bytesIn_5  _ a0 (0 : Int32) (24 : Int32) h
def f_X7_isDrop (v : rV) (a1 : Int32) : Bool := if a1 < 0 then
  (false)
else
  (if (v.1 0 13) ≤ a1 then
  (false)
else
  (if (12 : Int32) ≤ a1 then
  (false)
else
  (true)))
set_option maxRecDepth 20000 in
theorem x_X7_isDrop {X : Nat × (Nat → Int32)} {v : rV} {a1 : Int32}  : EvM mX7_isDrop 1 0 0 [.ref 0, .int a1] (rZ X) v (rPZ X ((f_X7_isDrop v a1), v)) := by
  refine evm_of (by decide +kernel) (fun G => Nat.le_of_ble_eq_true rfl) ?_
  show Ev mX7_isDrop 1 0 0 0 [(0, .ref 0), (1, .int a1)] [] (rZ X) v _
  generalize h : f_X7_isDrop v a1 = r
  unfold f_X7_isDrop at h
  refine e_iload_n dX7_isDrop_0 rfl ?_
  refine e_if_lt (tgt := 25) dX7_isDrop_1 (by decide) (fun c3 => ?_) (fun c3 => ?_)
  · rw [if_pos c3] at h
    refine e_iconst (x := (0 : Int32)) dX7_isDrop_25 (by decide) ?_
    subst h
    exact e_iret dX7_isDrop_26 rfl rfl ⟨rfl, rfl, rfl⟩
  · rw [if_neg c3] at h
    refine e_iload_n dX7_isDrop_4 rfl ?_
    refine e_aload_n dX7_isDrop_5 rfl ?_
    refine e_get (w := .int (v.1 0 13)) (j := 13) dX7_isDrop_6 k0_0 rc7 (by decide) wfX7_112 rfl ?_
    refine e_icmp_ge (tgt := 25) dX7_isDrop_9 (by decide) (fun c2 => ?_) (fun c2 => ?_)
    · rw [if_pos c2] at h
      refine e_iconst (x := (0 : Int32)) dX7_isDrop_25 (by decide) ?_
      subst h
      exact e_iret dX7_isDrop_26 rfl rfl ⟨rfl, rfl, rfl⟩
    · rw [if_neg c2] at h
      refine e_iload_n dX7_isDrop_12 rfl ?_
      refine e_aload_n dX7_isDrop_13 rfl ?_
      refine e_get (w := .ref 37) (j := 5) dX7_isDrop_14 k0_0 rc7 (by decide) wfX7_44 (g0_0_5) ?_
      refine e_alenJ (x := (12 : Int32)) dX7_isDrop_17 k0_37 (Or.inr (Or.inr rfl)) (by decide) ?_
      refine e_icmp_ge (tgt := 25) dX7_isDrop_18 (by decide) (fun c1 => ?_) (fun c1 => ?_)
      · rw [if_pos c1] at h
        refine e_iconst (x := (0 : Int32)) dX7_isDrop_25 (by decide) ?_
        subst h
        exact e_iret dX7_isDrop_26 rfl rfl ⟨rfl, rfl, rfl⟩
      · rw [if_neg c1] at h
        refine e_iconst (x := (1 : Int32)) dX7_isDrop_21 (by decide) ?_
        refine e_goto (tgt := 26) dX7_isDrop_22 (by decide) ?_
        subst h
        exact e_iret dX7_isDrop_26 rfl rfl ⟨rfl, rfl, rfl⟩
def f_X7_areTicks (a0 : Int32) : Bool := if a0 < (1 : Int32) then
  (false)
else
  (if (60 : Int32) < a0 then
  (false)
else
  (true))
set_option maxRecDepth 20000 in
theorem x_X7_areTicks {X : Nat × (Nat → Int32)} {v : rV} {a0 : Int32}  : EvM mX7_areTicks 1 0 0 [.int a0] (rZ X) v (rPZ X ((f_X7_areTicks a0), v)) := by
  refine evm_of (by decide +kernel) (fun G => Nat.le_of_ble_eq_true rfl) ?_
  show Ev mX7_areTicks 1 0 0 0 [(0, .int a0)] [] (rZ X) v _
  generalize h : f_X7_areTicks a0 = r
  unfold f_X7_areTicks at h
  refine e_iload_n dX7_areTicks_0 rfl ?_
  refine e_iconst (x := (1 : Int32)) dX7_areTicks_1 (by decide) ?_
  refine e_icmp_lt (tgt := 15) dX7_areTicks_2 (by decide) (fun c2 => ?_) (fun c2 => ?_)
  · rw [if_pos c2] at h
    refine e_iconst (x := (0 : Int32)) dX7_areTicks_15 (by decide) ?_
    subst h
    exact e_iret dX7_areTicks_16 rfl rfl ⟨rfl, rfl, rfl⟩
  · rw [if_neg c2] at h
    refine e_iload_n dX7_areTicks_5 rfl ?_
    refine e_bipush (x := (60 : Int32)) dX7_areTicks_6 (by decide) ?_
    refine e_icmp_gt (tgt := 15) dX7_areTicks_8 (by decide) (fun c1 => ?_) (fun c1 => ?_)
    · rw [if_pos c1] at h
      refine e_iconst (x := (0 : Int32)) dX7_areTicks_15 (by decide) ?_
      subst h
      exact e_iret dX7_areTicks_16 rfl rfl ⟨rfl, rfl, rfl⟩
    · rw [if_neg c1] at h
      refine e_iconst (x := (1 : Int32)) dX7_areTicks_11 (by decide) ?_
      refine e_goto (tgt := 16) dX7_areTicks_12 (by decide) ?_
      subst h
      exact e_iret dX7_areTicks_16 rfl rfl ⟨rfl, rfl, rfl⟩
def f_X7_isCell (a0 : Int32) : Bool := if a0 < 0 then
  (false)
else
  (if (24 : Int32) ≤ a0 then
  (false)
else
  (true))
set_option maxRecDepth 20000 in
theorem x_X7_isCell {X : Nat × (Nat → Int32)} {v : rV} {a0 : Int32}  : EvM mX7_isCell 1 0 0 [.int a0] (rZ X) v (rPZ X ((f_X7_isCell a0), v)) := by
  refine evm_of (by decide +kernel) (fun G => Nat.le_of_ble_eq_true rfl) ?_
  show Ev mX7_isCell 1 0 0 0 [(0, .int a0)] [] (rZ X) v _
  generalize h : f_X7_isCell a0 = r
  unfold f_X7_isCell at h
  refine e_iload_n dX7_isCell_0 rfl ?_
  refine e_if_lt (tgt := 14) dX7_isCell_1 (by decide) (fun c2 => ?_) (fun c2 => ?_)
  · rw [if_pos c2] at h
    refine e_iconst (x := (0 : Int32)) dX7_isCell_14 (by decide) ?_
    subst h
    exact e_iret dX7_isCell_15 rfl rfl ⟨rfl, rfl, rfl⟩
  · rw [if_neg c2] at h
    refine e_iload_n dX7_isCell_4 rfl ?_
    refine e_bipush (x := (24 : Int32)) dX7_isCell_5 (by decide) ?_
    refine e_icmp_ge (tgt := 14) dX7_isCell_7 (by decide) (fun c1 => ?_) (fun c1 => ?_)
    · rw [if_pos c1] at h
      refine e_iconst (x := (0 : Int32)) dX7_isCell_14 (by decide) ?_
      subst h
      exact e_iret dX7_isCell_15 rfl rfl ⟨rfl, rfl, rfl⟩
    · rw [if_neg c1] at h
      refine e_iconst (x := (1 : Int32)) dX7_isCell_10 (by decide) ?_
      refine e_goto (tgt := 15) dX7_isCell_11 (by decide) ?_
      subst h
      exact e_iret dX7_isCell_15 rfl rfl ⟨rfl, rfl, rfl⟩
def f_X7_areApart_57 (v : rV) (q4 : Int32 → Int32 → Int32 → Option (Bool)) (a1 : Int32) (a2 : Int32) (a3 : Int32) : Option (Bool) := vlet (a3 + (1 : Int32)) fun x2 =>
  q4 a1 a2 x2
def f_X7_areApart_4 (v : rV)  : Nat → Int32 → Int32 → Int32 → Option (Bool)
  | 0, _, _, _ => none
  | n + 1, a1, a2, a3 => if (v.1 0 13) ≤ a3 then
  (some true)
else
  (if (f_X7_has a1 a3) = true then
  (if ¬ a3 < 0 ∧ a3.toNatClampNeg < 12 then
  (vlet ((((1 : Int32) <<< ((v.1 (38 + a3.toNatClampNeg) 1) &&& 31)) - (1 : Int32)) <<< ((v.1 (38 + a3.toNatClampNeg) 0) &&& 31) : Int32) fun x4 =>
  if (a2 &&& x4) = 0 then
  (vlet (a2 ||| x4 : Int32) fun x5 =>
  f_X7_areApart_57 v (fun a1 a2 a3 => f_X7_areApart_4 v n a1 a2 a3) a1 x5 a3)
else
  (some false))
else none)
else
  (f_X7_areApart_57 v (fun a1 a2 a3 => f_X7_areApart_4 v n a1 a2 a3) a1 a2 a3))
def f_X7_areApart (v : rV) (a1 : Int32) : Option (Bool) := f_X7_areApart_4 v 20000 a1 (0 : Int32) (0 : Int32)
set_option maxRecDepth 20000 in
theorem b_X7_areApart_57 {X : Nat × (Nat → Int32)} {r : Bool} {v : rV} {q4 : Int32 → Int32 → Int32 → Option (Bool)} (hq4 : ∀ (a1 : Int32) (a2 : Int32) (a3 : Int32) , q4 a1 a2 a3 = some r → Ev mX7_areApart 2 0 0 4 [(0, .ref 0), (1, .int a1), (2, .int a2), (3, .int a3)] [] (rZ X) v (rPZ X (r, v))) {a1 : Int32} {a2 : Int32} {a3 : Int32}  (h : f_X7_areApart_57 v q4 a1 a2 a3 = some r) : Ev mX7_areApart 2 0 0 57 [(0, .ref 0), (1, .int a1), (2, .int a2), (3, .int a3)] [] (rZ X) v (rPZ X (r, v)) := by
  unfold f_X7_areApart_57 at h
  obtain ⟨x2, ex2, h⟩ := vlet_ex h
  refine e_iinc (lv' := [(3, .int x2), (0, .ref 0), (1, .int a1), (2, .int a2)]) dX7_areApart_57 rfl (ex2.symm) (by decide) rfl ?_
  clear ex2
  refine e_goto (tgt := 4) dX7_areApart_60 (by decide) ?_
  refine e_sub [1, 2, 3, 0] rfl ?_
  exact hq4 a1 a2 x2 h
set_option maxRecDepth 20000 in
theorem b_X7_areApart_4 {X : Nat × (Nat → Int32)} {r : Bool} {v : rV}   : ∀ (n : Nat) (a1 : Int32) (a2 : Int32) (a3 : Int32) , f_X7_areApart_4 v  n a1 a2 a3 = some r → Ev mX7_areApart 2 0 0 4 [(0, .ref 0), (1, .int a1), (2, .int a2), (3, .int a3)] [] (rZ X) v (rPZ X (r, v)) := by
  intro n
  induction n with
  | zero =>
    intros
    rename_i h
    cases h
  | succ n ih =>
    intro a1 a2 a3 h
    rw [f_X7_areApart_4] at h
    refine e_iload_n dX7_areApart_4 rfl ?_
    refine e_aload_n dX7_areApart_5 rfl ?_
    refine e_get (w := .int (v.1 0 13)) (j := 13) dX7_areApart_6 k0_0 rc7 (by decide) wfX7_112 rfl ?_
    refine e_icmp_ge (tgt := 63) dX7_areApart_9 (by decide) (fun c8 => ?_) (fun c8 => ?_)
    · rw [if_pos c8] at h
      refine e_iconst (x := (1 : Int32)) dX7_areApart_63 (by decide) ?_
      obtain rfl := Option.some.inj h
      exact e_iret dX7_areApart_64 rfl rfl ⟨rfl, rfl, rfl⟩
    · rw [if_neg c8] at h
      refine e_iload_n dX7_areApart_12 rfl ?_
      refine e_iload_n dX7_areApart_13 rfl ?_
      refine c_SZ (M' := mX7_has) [.int a1, .int a3] dX7_areApart_14 rfl wmX7_157 stX7_has lkX7_has (Nat.le_of_ble_eq_true rfl) ((x_X7_has ).mono (by omega)) ?_
      refine e_if_eq (tgt := 57) dX7_areApart_17 (by decide) (fun c7 => ?_) (fun c7 => ?_)
      · rw [if_neg (bI_n c7)] at h
        exact b_X7_areApart_57 (fun a1 a2 a3  hh => ih a1 a2 a3  hh) h
      · rw [if_pos (bI_p c7)] at h
        refine e_iconst (x := (1 : Int32)) dX7_areApart_20 (by decide) ?_
        refine e_aload_n dX7_areApart_21 rfl ?_
        refine e_get (w := .ref 37) (j := 5) dX7_areApart_22 k0_0 rc7 (by decide) wfX7_44 (g0_0_5) ?_
        refine e_iload_n dX7_areApart_25 rfl ?_
        obtain ⟨c3, h⟩ := grd h
        refine e_aaldJ dX7_areApart_26 k0_37 rfl rfl c3.2 c3.1 (r0_37 (c3).2) ?_
        refine e_iconst (x := (1 : Int32)) dX7_areApart_27 (by decide) ?_
        refine e_ialdJ dX7_areApart_28 (q0_37 (c3).2) (j := 1) (by decide) (by decide) (by decide) ?_
        refine e_ishl dX7_areApart_29 ?_
        refine e_iconst (x := (1 : Int32)) dX7_areApart_30 (by decide) ?_
        refine e_isub dX7_areApart_31 ?_
        refine e_aload_n dX7_areApart_32 rfl ?_
        refine e_get (w := .ref 37) (j := 5) dX7_areApart_33 k0_0 rc7 (by decide) wfX7_44 (g0_0_5) ?_
        refine e_iload_n dX7_areApart_36 rfl ?_
        refine e_aaldJ dX7_areApart_37 k0_37 rfl rfl (c3).2 (c3).1 (r0_37 (c3).2) ?_
        refine e_iconst (x := (0 : Int32)) dX7_areApart_38 (by decide) ?_
        refine e_ialdJ dX7_areApart_39 (q0_37 (c3).2) (j := 0) (by decide) (by decide) (by decide) ?_
        refine e_ishl dX7_areApart_40 ?_
        obtain ⟨x4, ex4, h⟩ := vlet_ex h
        refine e_nameI ex4.symm ?_
        clear ex4
        refine e_istore (lv' := [(4, .int x4), (0, .ref 0), (1, .int a1), (2, .int a2), (3, .int a3)]) dX7_areApart_41 (by decide) rfl ?_
        refine e_iload_n dX7_areApart_43 rfl ?_
        refine e_iload dX7_areApart_44 rfl ?_
        refine e_iand dX7_areApart_46 ?_
        refine e_if_eq (tgt := 52) dX7_areApart_47 (by decide) (fun c6 => ?_) (fun c6 => ?_)
        · rw [if_pos c6] at h
          refine e_iload_n dX7_areApart_52 rfl ?_
          refine e_iload dX7_areApart_53 rfl ?_
          refine e_ior dX7_areApart_55 ?_
          obtain ⟨x5, ex5, h⟩ := vlet_ex h
          refine e_nameI ex5.symm ?_
          clear ex5
          refine e_istore_n (lv' := [(2, .int x5), (4, .int x4), (0, .ref 0), (1, .int a1), (3, .int a3)]) dX7_areApart_56 (by decide) rfl ?_
          refine e_sub [2, 3, 0, 4] rfl ?_
          exact b_X7_areApart_57 (fun a1 a2 a3  hh => ih a1 a2 a3  hh) h
        · rw [if_neg c6] at h
          refine e_iconst (x := (0 : Int32)) dX7_areApart_50 (by decide) ?_
          obtain rfl := Option.some.inj h
          exact e_iret dX7_areApart_51 rfl rfl ⟨rfl, rfl, rfl⟩
set_option maxRecDepth 20000 in
theorem x_X7_areApart {X : Nat × (Nat → Int32)} {v : rV} {r : Bool} {a1 : Int32}  (h : f_X7_areApart v a1 = some r) : EvM mX7_areApart 2 0 0 [.ref 0, .int a1] (rZ X) v (rPZ X (r, v)) := by
  refine evm_of (by decide +kernel) (fun G => Nat.le_of_ble_eq_true rfl) ?_
  show Ev mX7_areApart 2 0 0 0 [(0, .ref 0), (1, .int a1)] [] (rZ X) v _
  unfold f_X7_areApart at h
  refine e_iconst (x := (0 : Int32)) dX7_areApart_0 (by decide) ?_
  refine e_istore_n (lv' := [(2, .int (0 : Int32)), (0, .ref 0), (1, .int a1)]) dX7_areApart_1 (by decide) rfl ?_
  refine e_iconst (x := (0 : Int32)) dX7_areApart_2 (by decide) ?_
  refine e_istore_n (lv' := [(3, .int (0 : Int32)), (2, .int (0 : Int32)), (0, .ref 0), (1, .int a1)]) dX7_areApart_3 (by decide) rfl ?_
  refine e_sub [2, 3, 1, 0] rfl ?_
  exact b_X7_areApart_4  _ a1 (0 : Int32) (0 : Int32) h
def f_X7_areDrops (v : rV) (a1 : Int32) : Bool := if ((a1.toUInt32 >>> ((v.1 0 13).toUInt32 &&& Int32.toUInt32 31)).toInt32) = 0 then
  (true)
else
  (false)
set_option maxRecDepth 20000 in
theorem x_X7_areDrops {X : Nat × (Nat → Int32)} {v : rV} {a1 : Int32}  : EvM mX7_areDrops 1 0 0 [.ref 0, .int a1] (rZ X) v (rPZ X ((f_X7_areDrops v a1), v)) := by
  refine evm_of (by decide +kernel) (fun G => Nat.le_of_ble_eq_true rfl) ?_
  show Ev mX7_areDrops 1 0 0 0 [(0, .ref 0), (1, .int a1)] [] (rZ X) v _
  generalize h : f_X7_areDrops v a1 = r
  unfold f_X7_areDrops at h
  refine e_iload_n dX7_areDrops_0 rfl ?_
  refine e_aload_n dX7_areDrops_1 rfl ?_
  refine e_get (w := .int (v.1 0 13)) (j := 13) dX7_areDrops_2 k0_0 rc7 (by decide) wfX7_112 rfl ?_
  refine e_iushr dX7_areDrops_5 ?_
  refine e_if_ne (tgt := 13) dX7_areDrops_6 (by decide) (fun c1 => ?_) (fun c1 => ?_)
  · rw [if_neg c1] at h
    refine e_iconst (x := (0 : Int32)) dX7_areDrops_13 (by decide) ?_
    subst h
    exact e_iret dX7_areDrops_14 rfl rfl ⟨rfl, rfl, rfl⟩
  · rw [if_pos c1] at h
    refine e_iconst (x := (1 : Int32)) dX7_areDrops_9 (by decide) ?_
    refine e_goto (tgt := 14) dX7_areDrops_10 (by decide) ?_
    subst h
    exact e_iret dX7_areDrops_14 rfl rfl ⟨rfl, rfl, rfl⟩
def f_X7_isStain (v : rV) (a1 : Int32) : Bool := if a1 < 0 then
  (false)
else
  (if (v.1 0 14) ≤ a1 then
  (false)
else
  (if (6 : Int32) ≤ a1 then
  (false)
else
  (true)))
set_option maxRecDepth 20000 in
theorem x_X7_isStain {X : Nat × (Nat → Int32)} {v : rV} {a1 : Int32}  : EvM mX7_isStain 1 0 0 [.ref 0, .int a1] (rZ X) v (rPZ X ((f_X7_isStain v a1), v)) := by
  refine evm_of (by decide +kernel) (fun G => Nat.le_of_ble_eq_true rfl) ?_
  show Ev mX7_isStain 1 0 0 0 [(0, .ref 0), (1, .int a1)] [] (rZ X) v _
  generalize h : f_X7_isStain v a1 = r
  unfold f_X7_isStain at h
  refine e_iload_n dX7_isStain_0 rfl ?_
  refine e_if_lt (tgt := 25) dX7_isStain_1 (by decide) (fun c3 => ?_) (fun c3 => ?_)
  · rw [if_pos c3] at h
    refine e_iconst (x := (0 : Int32)) dX7_isStain_25 (by decide) ?_
    subst h
    exact e_iret dX7_isStain_26 rfl rfl ⟨rfl, rfl, rfl⟩
  · rw [if_neg c3] at h
    refine e_iload_n dX7_isStain_4 rfl ?_
    refine e_aload_n dX7_isStain_5 rfl ?_
    refine e_get (w := .int (v.1 0 14)) (j := 14) dX7_isStain_6 k0_0 rc7 (by decide) wfX7_134 rfl ?_
    refine e_icmp_ge (tgt := 25) dX7_isStain_9 (by decide) (fun c2 => ?_) (fun c2 => ?_)
    · rw [if_pos c2] at h
      refine e_iconst (x := (0 : Int32)) dX7_isStain_25 (by decide) ?_
      subst h
      exact e_iret dX7_isStain_26 rfl rfl ⟨rfl, rfl, rfl⟩
    · rw [if_neg c2] at h
      refine e_iload_n dX7_isStain_12 rfl ?_
      refine e_aload_n dX7_isStain_13 rfl ?_
      refine e_get (w := .ref 52) (j := 8) dX7_isStain_14 k0_0 rc7 (by decide) wfX7_54 (g0_0_8) ?_
      refine e_alenJ (x := (6 : Int32)) dX7_isStain_17 k0_52 (Or.inr (Or.inr rfl)) (by decide) ?_
      refine e_icmp_ge (tgt := 25) dX7_isStain_18 (by decide) (fun c1 => ?_) (fun c1 => ?_)
      · rw [if_pos c1] at h
        refine e_iconst (x := (0 : Int32)) dX7_isStain_25 (by decide) ?_
        subst h
        exact e_iret dX7_isStain_26 rfl rfl ⟨rfl, rfl, rfl⟩
      · rw [if_neg c1] at h
        refine e_iconst (x := (1 : Int32)) dX7_isStain_21 (by decide) ?_
        refine e_goto (tgt := 26) dX7_isStain_22 (by decide) ?_
        subst h
        exact e_iret dX7_isStain_26 rfl rfl ⟨rfl, rfl, rfl⟩
def f_X7_blot_96 (v : rV) (q36 : Int32 → Int32 → Int32 → Int32 → Int32 → Int32 → Int32 → Int32 → Option (Int32)) (a1 : Int32) (a2 : Int32) (a3 : Int32) (a4 : Int32) (a5 : Int32) (a6 : Int32) (a8 : Int32) (s0 : Int32) : Option (Int32) := vlet (if a4 < a6 then a6 else a4 : Int32) fun x7 =>
  vlet (if a5 < s0 then s0 else a5 : Int32) fun x8 =>
  vlet (a8 + (1 : Int32)) fun x9 =>
  q36 a1 a2 a3 x7 x8 a6 s0 x9
def f_X7_blot_80 (v : rV) (q36 : Int32 → Int32 → Int32 → Int32 → Int32 → Int32 → Int32 → Int32 → Option (Int32)) (a1 : Int32) (a2 : Int32) (a3 : Int32) (a4 : Int32) (a5 : Int32) (a7 : Int32) (a8 : Int32) (a9 : Int32) (s0 : Int32) : Option (Int32) := if a9 ≤ 0 then
  (f_X7_blot_96 v q36 a1 a2 a3 a4 a5 s0 a8 (0 : Int32))
else
  (f_X7_blot_96 v q36 a1 a2 a3 a4 a5 s0 a8 (a7 + a9))
def f_X7_blot_67 (v : rV) (q36 : Int32 → Int32 → Int32 → Int32 → Int32 → Int32 → Int32 → Int32 → Option (Int32)) (a1 : Int32) (a2 : Int32) (a3 : Int32) (a4 : Int32) (a5 : Int32) (a6 : Int32) (a7 : Int32) (a8 : Int32) (a9 : Int32) : Option (Int32) := if a9 ≤ 0 then
  (f_X7_blot_80 v q36 a1 a2 a3 a4 a5 a7 a8 a9 (0 : Int32))
else
  (f_X7_blot_80 v q36 a1 a2 a3 a4 a5 a7 a8 a9 (a6 + (1 : Int32)))
def f_X7_blot_36 (v : rV)  : Nat → Int32 → Int32 → Int32 → Int32 → Int32 → Int32 → Int32 → Int32 → Option (Int32)
  | 0, _, _, _, _, _, _, _, _ => none
  | n + 1, a1, a2, a3, a4, a5, a6, a7, a8 => if (24 : Int32) ≤ a8 then
  (if a2 = 0 then
  (some a3)
else
  (if a2 = (1 : Int32) then
  (some a4)
else
  (some a5)))
else
  (if ¬ a1 < 0 ∧ a1.toNatClampNeg < 6 then
  (if ¬ a8 < 0 ∧ a8.toNatClampNeg < 24 then
  (vlet (v.1 (53 + a1.toNatClampNeg) a8.toNatClampNeg : Int32) fun x6 =>
  if x6 ≤ 0 then
  (f_X7_blot_67 v (fun a1 a2 a3 a4 a5 a6 a7 a8 => f_X7_blot_36 v n a1 a2 a3 a4 a5 a6 a7 a8) a1 a2 a3 a4 a5 a6 a7 a8 x6)
else
  (if a6 = 0 then
  (vlet (a3 + (1 : Int32)) fun x12 =>
  f_X7_blot_67 v (fun a1 a2 a3 a4 a5 a6 a7 a8 => f_X7_blot_36 v n a1 a2 a3 a4 a5 a6 a7 a8) a1 a2 x12 a4 a5 a6 a7 a8 x6)
else
  (f_X7_blot_67 v (fun a1 a2 a3 a4 a5 a6 a7 a8 => f_X7_blot_36 v n a1 a2 a3 a4 a5 a6 a7 a8) a1 a2 a3 a4 a5 a6 a7 a8 x6)))
else none)
else none)
def f_X7_blot (v : rV) (a1 : Int32) (a2 : Int32) : Option (Int32) := if (f_X7_isStain v a1) = true then
  (if a2 < 0 then
  (some (-1 : Int32))
else
  (if a2 ≤ (2 : Int32) then
  (f_X7_blot_36 v 20000 a1 a2 (0 : Int32) (0 : Int32) (0 : Int32) (0 : Int32) (0 : Int32) (0 : Int32))
else
  (some (-1 : Int32))))
else
  (some (-1 : Int32))
set_option maxRecDepth 20000 in
theorem b_X7_blot_96 {X : Nat × (Nat → Int32)} {r : Int32} {v : rV} {q36 : Int32 → Int32 → Int32 → Int32 → Int32 → Int32 → Int32 → Int32 → Option (Int32)} (hq36 : ∀ (a1 : Int32) (a2 : Int32) (a3 : Int32) (a4 : Int32) (a5 : Int32) (a6 : Int32) (a7 : Int32) (a8 : Int32) , q36 a1 a2 a3 a4 a5 a6 a7 a8 = some r → Ev mX7_blot 2 0 0 36 [(0, .ref 0), (1, .int a1), (2, .int a2), (3, .int a3), (4, .int a4), (5, .int a5), (6, .int a6), (7, .int a7), (8, .int a8)] [] (rZ X) v (rPI X (r, v))) {a1 : Int32} {a2 : Int32} {a3 : Int32} {a4 : Int32} {a5 : Int32} {a6 : Int32} {a8 : Int32} {s0 : Int32}  (h : f_X7_blot_96 v q36 a1 a2 a3 a4 a5 a6 a8 s0 = some r) : Ev mX7_blot 2 0 0 96 [(0, .ref 0), (1, .int a1), (2, .int a2), (3, .int a3), (4, .int a4), (5, .int a5), (6, .int a6), (8, .int a8)] [.int s0] (rZ X) v (rPI X (r, v)) := by
  unfold f_X7_blot_96 at h
  refine e_istore (lv' := [(7, .int s0), (0, .ref 0), (1, .int a1), (2, .int a2), (3, .int a3), (4, .int a4), (5, .int a5), (6, .int a6), (8, .int a8)]) dX7_blot_96 (by decide) rfl ?_
  refine e_iload dX7_blot_98 rfl ?_
  refine e_iload dX7_blot_100 rfl ?_
  refine e_max dX7_blot_102 wmX7_291 wmst_max winimath wmcd_max (by omega) (Nat.le_of_ble_eq_true rfl) ?_
  obtain ⟨x7, ex7, h⟩ := vlet_ex h
  refine e_nameI ex7.symm ?_
  clear ex7
  refine e_istore (lv' := [(4, .int x7), (7, .int s0), (0, .ref 0), (1, .int a1), (2, .int a2), (3, .int a3), (5, .int a5), (6, .int a6), (8, .int a8)]) dX7_blot_105 (by decide) rfl ?_
  refine e_iload dX7_blot_107 rfl ?_
  refine e_iload dX7_blot_109 rfl ?_
  refine e_max dX7_blot_111 wmX7_291 wmst_max winimath wmcd_max (by omega) (Nat.le_of_ble_eq_true rfl) ?_
  obtain ⟨x8, ex8, h⟩ := vlet_ex h
  refine e_nameI ex8.symm ?_
  clear ex8
  refine e_istore (lv' := [(5, .int x8), (4, .int x7), (7, .int s0), (0, .ref 0), (1, .int a1), (2, .int a2), (3, .int a3), (6, .int a6), (8, .int a8)]) dX7_blot_114 (by decide) rfl ?_
  obtain ⟨x9, ex9, h⟩ := vlet_ex h
  refine e_iinc (lv' := [(8, .int x9), (5, .int x8), (4, .int x7), (7, .int s0), (0, .ref 0), (1, .int a1), (2, .int a2), (3, .int a3), (6, .int a6)]) dX7_blot_116 rfl (ex9.symm) (by decide) rfl ?_
  clear ex9
  refine e_goto (tgt := 36) dX7_blot_119 (by decide) ?_
  refine e_sub [4, 5, 6, 7, 2, 1, 8, 3, 0] rfl ?_
  exact hq36 a1 a2 a3 x7 x8 a6 s0 x9 h
set_option maxRecDepth 20000 in
theorem b_X7_blot_80 {X : Nat × (Nat → Int32)} {r : Int32} {v : rV} {q36 : Int32 → Int32 → Int32 → Int32 → Int32 → Int32 → Int32 → Int32 → Option (Int32)} (hq36 : ∀ (a1 : Int32) (a2 : Int32) (a3 : Int32) (a4 : Int32) (a5 : Int32) (a6 : Int32) (a7 : Int32) (a8 : Int32) , q36 a1 a2 a3 a4 a5 a6 a7 a8 = some r → Ev mX7_blot 2 0 0 36 [(0, .ref 0), (1, .int a1), (2, .int a2), (3, .int a3), (4, .int a4), (5, .int a5), (6, .int a6), (7, .int a7), (8, .int a8)] [] (rZ X) v (rPI X (r, v))) {a1 : Int32} {a2 : Int32} {a3 : Int32} {a4 : Int32} {a5 : Int32} {a7 : Int32} {a8 : Int32} {a9 : Int32} {s0 : Int32}  (h : f_X7_blot_80 v q36 a1 a2 a3 a4 a5 a7 a8 a9 s0 = some r) : Ev mX7_blot 2 0 0 80 [(0, .ref 0), (1, .int a1), (2, .int a2), (3, .int a3), (4, .int a4), (5, .int a5), (7, .int a7), (8, .int a8), (9, .int a9)] [.int s0] (rZ X) v (rPI X (r, v)) := by
  unfold f_X7_blot_80 at h
  refine e_istore (lv' := [(6, .int s0), (0, .ref 0), (1, .int a1), (2, .int a2), (3, .int a3), (4, .int a4), (5, .int a5), (7, .int a7), (8, .int a8), (9, .int a9)]) dX7_blot_80 (by decide) rfl ?_
  refine e_iload dX7_blot_82 rfl ?_
  refine e_if_le (tgt := 95) dX7_blot_84 (by decide) (fun c10 => ?_) (fun c10 => ?_)
  · rw [if_pos c10] at h
    refine e_iconst (x := (0 : Int32)) dX7_blot_95 (by decide) ?_
    refine e_sub [1, 2, 3, 4, 5, 6, 0, 8] rfl ?_
    exact b_X7_blot_96 hq36 h
  · rw [if_neg c10] at h
    refine e_iload dX7_blot_87 rfl ?_
    refine e_iload dX7_blot_89 rfl ?_
    refine e_iadd dX7_blot_91 ?_
    refine e_goto (tgt := 96) dX7_blot_92 (by decide) ?_
    refine e_sub [1, 2, 3, 4, 5, 6, 0, 8] rfl ?_
    exact b_X7_blot_96 hq36 h
set_option maxRecDepth 20000 in
theorem b_X7_blot_67 {X : Nat × (Nat → Int32)} {r : Int32} {v : rV} {q36 : Int32 → Int32 → Int32 → Int32 → Int32 → Int32 → Int32 → Int32 → Option (Int32)} (hq36 : ∀ (a1 : Int32) (a2 : Int32) (a3 : Int32) (a4 : Int32) (a5 : Int32) (a6 : Int32) (a7 : Int32) (a8 : Int32) , q36 a1 a2 a3 a4 a5 a6 a7 a8 = some r → Ev mX7_blot 2 0 0 36 [(0, .ref 0), (1, .int a1), (2, .int a2), (3, .int a3), (4, .int a4), (5, .int a5), (6, .int a6), (7, .int a7), (8, .int a8)] [] (rZ X) v (rPI X (r, v))) {a1 : Int32} {a2 : Int32} {a3 : Int32} {a4 : Int32} {a5 : Int32} {a6 : Int32} {a7 : Int32} {a8 : Int32} {a9 : Int32}  (h : f_X7_blot_67 v q36 a1 a2 a3 a4 a5 a6 a7 a8 a9 = some r) : Ev mX7_blot 2 0 0 67 [(0, .ref 0), (1, .int a1), (2, .int a2), (3, .int a3), (4, .int a4), (5, .int a5), (6, .int a6), (7, .int a7), (8, .int a8), (9, .int a9)] [] (rZ X) v (rPI X (r, v)) := by
  unfold f_X7_blot_67 at h
  refine e_iload dX7_blot_67 rfl ?_
  refine e_if_le (tgt := 79) dX7_blot_69 (by decide) (fun c11 => ?_) (fun c11 => ?_)
  · rw [if_pos c11] at h
    refine e_iconst (x := (0 : Int32)) dX7_blot_79 (by decide) ?_
    refine e_sub [0, 1, 2, 3, 4, 5, 7, 8, 9] rfl ?_
    exact b_X7_blot_80 hq36 h
  · rw [if_neg c11] at h
    refine e_iload dX7_blot_72 rfl ?_
    refine e_iconst (x := (1 : Int32)) dX7_blot_74 (by decide) ?_
    refine e_iadd dX7_blot_75 ?_
    refine e_goto (tgt := 80) dX7_blot_76 (by decide) ?_
    refine e_sub [0, 1, 2, 3, 4, 5, 7, 8, 9] rfl ?_
    exact b_X7_blot_80 hq36 h
set_option maxRecDepth 20000 in
theorem b_X7_blot_36 {X : Nat × (Nat → Int32)} {r : Int32} {v : rV}   : ∀ (n : Nat) (a1 : Int32) (a2 : Int32) (a3 : Int32) (a4 : Int32) (a5 : Int32) (a6 : Int32) (a7 : Int32) (a8 : Int32) , f_X7_blot_36 v  n a1 a2 a3 a4 a5 a6 a7 a8 = some r → Ev mX7_blot 2 0 0 36 [(0, .ref 0), (1, .int a1), (2, .int a2), (3, .int a3), (4, .int a4), (5, .int a5), (6, .int a6), (7, .int a7), (8, .int a8)] [] (rZ X) v (rPI X (r, v)) := by
  intro n
  induction n with
  | zero =>
    intros
    rename_i h
    cases h
  | succ n ih =>
    intro a1 a2 a3 a4 a5 a6 a7 a8 h
    rw [f_X7_blot_36] at h
    refine e_iload dX7_blot_36 rfl ?_
    refine e_bipush (x := (24 : Int32)) dX7_blot_38 (by decide) ?_
    refine e_icmp_ge (tgt := 122) dX7_blot_40 (by decide) (fun c15 => ?_) (fun c15 => ?_)
    · rw [if_pos c15] at h
      refine e_iload_n dX7_blot_122 rfl ?_
      refine e_if_ne (tgt := 130) dX7_blot_123 (by decide) (fun c3 => ?_) (fun c3 => ?_)
      · rw [if_neg c3] at h
        refine e_iload_n dX7_blot_130 rfl ?_
        refine e_iconst (x := (1 : Int32)) dX7_blot_131 (by decide) ?_
        refine e_icmp_ne (tgt := 140) dX7_blot_132 (by decide) (fun c2 => ?_) (fun c2 => ?_)
        · rw [if_neg c2] at h
          refine e_iload dX7_blot_140 rfl ?_
          obtain rfl := Option.some.inj h
          exact e_iret dX7_blot_142 rfl rfl ⟨rfl, rfl, rfl⟩
        · rw [if_pos c2] at h
          refine e_iload dX7_blot_135 rfl ?_
          refine e_goto (tgt := 142) dX7_blot_137 (by decide) ?_
          obtain rfl := Option.some.inj h
          exact e_iret dX7_blot_142 rfl rfl ⟨rfl, rfl, rfl⟩
      · rw [if_pos c3] at h
        refine e_iload_n dX7_blot_126 rfl ?_
        refine e_goto (tgt := 142) dX7_blot_127 (by decide) ?_
        obtain rfl := Option.some.inj h
        exact e_iret dX7_blot_142 rfl rfl ⟨rfl, rfl, rfl⟩
    · rw [if_neg c15] at h
      refine e_aload_n dX7_blot_43 rfl ?_
      refine e_get (w := .ref 52) (j := 8) dX7_blot_44 k0_0 rc7 (by decide) wfX7_54 (g0_0_8) ?_
      refine e_iload_n dX7_blot_47 rfl ?_
      obtain ⟨c4, h⟩ := grd h
      refine e_aaldJ dX7_blot_48 k0_52 rfl rfl c4.2 c4.1 (r0_52 (c4).2) ?_
      refine e_iload dX7_blot_49 rfl ?_
      obtain ⟨c5, h⟩ := grd h
      refine e_ialdJ dX7_blot_51 (q0_52 (c4).2) rfl c5.2 c5.1 ?_
      obtain ⟨x6, ex6, h⟩ := vlet_ex h
      refine e_nameI ex6.symm ?_
      clear ex6
      refine e_istore (lv' := [(9, .int x6), (0, .ref 0), (1, .int a1), (2, .int a2), (3, .int a3), (4, .int a4), (5, .int a5), (6, .int a6), (7, .int a7), (8, .int a8)]) dX7_blot_52 (by decide) rfl ?_
      refine e_iload dX7_blot_54 rfl ?_
      refine e_if_le (tgt := 67) dX7_blot_56 (by decide) (fun c14 => ?_) (fun c14 => ?_)
      · rw [if_pos c14] at h
        refine e_sub [1, 2, 3, 4, 5, 6, 7, 8, 9, 0] rfl ?_
        exact b_X7_blot_67 (fun a1 a2 a3 a4 a5 a6 a7 a8  hh => ih a1 a2 a3 a4 a5 a6 a7 a8  hh) h
      · rw [if_neg c14] at h
        refine e_iload dX7_blot_59 rfl ?_
        refine e_if_ne (tgt := 67) dX7_blot_61 (by decide) (fun c13 => ?_) (fun c13 => ?_)
        · rw [if_neg c13] at h
          refine e_sub [1, 2, 3, 4, 5, 6, 7, 8, 9, 0] rfl ?_
          exact b_X7_blot_67 (fun a1 a2 a3 a4 a5 a6 a7 a8  hh => ih a1 a2 a3 a4 a5 a6 a7 a8  hh) h
        · rw [if_pos c13] at h
          obtain ⟨x12, ex12, h⟩ := vlet_ex h
          refine e_iinc (lv' := [(3, .int x12), (9, .int x6), (0, .ref 0), (1, .int a1), (2, .int a2), (4, .int a4), (5, .int a5), (6, .int a6), (7, .int a7), (8, .int a8)]) dX7_blot_64 rfl (ex12.symm) (by decide) rfl ?_
          clear ex12
          refine e_sub [2, 3, 4, 0, 5, 6, 7, 8, 9, 1] rfl ?_
          exact b_X7_blot_67 (fun a1 a2 a3 a4 a5 a6 a7 a8  hh => ih a1 a2 a3 a4 a5 a6 a7 a8  hh) h
set_option maxRecDepth 20000 in
theorem x_X7_blot {X : Nat × (Nat → Int32)} {v : rV} {r : Int32} {a1 : Int32} {a2 : Int32}  (h : f_X7_blot v a1 a2 = some r) : EvM mX7_blot 2 0 0 [.ref 0, .int a1, .int a2] (rZ X) v (rPI X (r, v)) := by
  refine evm_of (by decide +kernel) (fun G => Nat.le_of_ble_eq_true rfl) ?_
  show Ev mX7_blot 2 0 0 0 [(0, .ref 0), (1, .int a1), (2, .int a2)] [] (rZ X) v _
  unfold f_X7_blot at h
  refine e_aload_n dX7_blot_0 rfl ?_
  refine e_iload_n dX7_blot_1 rfl ?_
  refine c_VZ (M' := mX7_isStain) [.int a1] dX7_blot_2 rfl wmX7_306 imX7_isStain seX7_isStain lkX7_isStain k0_0 rc7 (Nat.le_of_ble_eq_true rfl) ((x_X7_isStain ).mono (by omega)) ?_
  refine e_if_eq (tgt := 17) dX7_blot_5 (by decide) (fun c18 => ?_) (fun c18 => ?_)
  · rw [if_neg (bI_n c18)] at h
    refine e_iconst (x := (-1 : Int32)) dX7_blot_17 (by decide) ?_
    obtain rfl := Option.some.inj h
    exact e_iret dX7_blot_18 rfl rfl ⟨rfl, rfl, rfl⟩
  · rw [if_pos (bI_p c18)] at h
    refine e_iload_n dX7_blot_8 rfl ?_
    refine e_if_lt (tgt := 17) dX7_blot_9 (by decide) (fun c17 => ?_) (fun c17 => ?_)
    · rw [if_pos c17] at h
      refine e_iconst (x := (-1 : Int32)) dX7_blot_17 (by decide) ?_
      obtain rfl := Option.some.inj h
      exact e_iret dX7_blot_18 rfl rfl ⟨rfl, rfl, rfl⟩
    · rw [if_neg c17] at h
      refine e_iload_n dX7_blot_12 rfl ?_
      refine e_iconst (x := (2 : Int32)) dX7_blot_13 (by decide) ?_
      refine e_icmp_le (tgt := 19) dX7_blot_14 (by decide) (fun c16 => ?_) (fun c16 => ?_)
      · rw [if_pos c16] at h
        refine e_iconst (x := (0 : Int32)) dX7_blot_19 (by decide) ?_
        refine e_istore_n (lv' := [(3, .int (0 : Int32)), (0, .ref 0), (1, .int a1), (2, .int a2)]) dX7_blot_20 (by decide) rfl ?_
        refine e_iconst (x := (0 : Int32)) dX7_blot_21 (by decide) ?_
        refine e_istore (lv' := [(4, .int (0 : Int32)), (3, .int (0 : Int32)), (0, .ref 0), (1, .int a1), (2, .int a2)]) dX7_blot_22 (by decide) rfl ?_
        refine e_iconst (x := (0 : Int32)) dX7_blot_24 (by decide) ?_
        refine e_istore (lv' := [(5, .int (0 : Int32)), (4, .int (0 : Int32)), (3, .int (0 : Int32)), (0, .ref 0), (1, .int a1), (2, .int a2)]) dX7_blot_25 (by decide) rfl ?_
        refine e_iconst (x := (0 : Int32)) dX7_blot_27 (by decide) ?_
        refine e_istore (lv' := [(6, .int (0 : Int32)), (5, .int (0 : Int32)), (4, .int (0 : Int32)), (3, .int (0 : Int32)), (0, .ref 0), (1, .int a1), (2, .int a2)]) dX7_blot_28 (by decide) rfl ?_
        refine e_iconst (x := (0 : Int32)) dX7_blot_30 (by decide) ?_
        refine e_istore (lv' := [(7, .int (0 : Int32)), (6, .int (0 : Int32)), (5, .int (0 : Int32)), (4, .int (0 : Int32)), (3, .int (0 : Int32)), (0, .ref 0), (1, .int a1), (2, .int a2)]) dX7_blot_31 (by decide) rfl ?_
        refine e_iconst (x := (0 : Int32)) dX7_blot_33 (by decide) ?_
        refine e_istore (lv' := [(8, .int (0 : Int32)), (7, .int (0 : Int32)), (6, .int (0 : Int32)), (5, .int (0 : Int32)), (4, .int (0 : Int32)), (3, .int (0 : Int32)), (0, .ref 0), (1, .int a1), (2, .int a2)]) dX7_blot_34 (by decide) rfl ?_
        refine e_sub [6, 7, 8, 5, 4, 3, 2, 1, 0] rfl ?_
        exact b_X7_blot_36  _ a1 a2 (0 : Int32) (0 : Int32) (0 : Int32) (0 : Int32) (0 : Int32) (0 : Int32) h
      · rw [if_neg c16] at h
        refine e_iconst (x := (-1 : Int32)) dX7_blot_17 (by decide) ?_
        obtain rfl := Option.some.inj h
        exact e_iret dX7_blot_18 rfl rfl ⟨rfl, rfl, rfl⟩
def f_X7_came (v : rV) (a1 : Int32) : Option (Int32) := if a1 < (1 : Int32) then
  (some (-1 : Int32))
else
  (if (v.1 60 15) < a1 then
  (some (-1 : Int32))
else
  (if a1 ≤ (120 : Int32) then
  (if ¬ (a1 - (1 : Int32)) < 0 ∧ (a1 - (1 : Int32)).toNatClampNeg < 120 then
  (some (v.1 72 ((a1 - (1 : Int32)).toNatClampNeg)))
else none)
else
  (some (-1 : Int32))))
set_option maxRecDepth 20000 in
theorem x_X7_came {X : Nat × (Nat → Int32)} {v : rV} {r : Int32} {a1 : Int32}  (h : f_X7_came v a1 = some r) : EvM mX7_came 1 0 0 [.ref 0, .int a1] (rZ X) v (rPI X (r, v)) := by
  refine evm_of (by decide +kernel) (fun G => Nat.le_of_ble_eq_true rfl) ?_
  show Ev mX7_came 1 0 0 0 [(0, .ref 0), (1, .int a1)] [] (rZ X) v _
  unfold f_X7_came at h
  refine e_iload_n dX7_came_0 rfl ?_
  refine e_iconst (x := (1 : Int32)) dX7_came_1 (by decide) ?_
  refine e_icmp_lt (tgt := 22) dX7_came_2 (by decide) (fun c4 => ?_) (fun c4 => ?_)
  · rw [if_pos c4] at h
    refine e_iconst (x := (-1 : Int32)) dX7_came_22 (by decide) ?_
    obtain rfl := Option.some.inj h
    exact e_iret dX7_came_23 rfl rfl ⟨rfl, rfl, rfl⟩
  · rw [if_neg c4] at h
    refine e_iload_n dX7_came_5 rfl ?_
    refine e_aload_n dX7_came_6 rfl ?_
    refine e_get (w := .ref 60) (j := 10) dX7_came_7 k0_0 rc7 (by decide) wfX7_63 (g0_0_10) ?_
    refine e_get (w := .int (v.1 60 15)) (j := 15) dX7_came_10 k0_60 rc5 (by decide) wfX7_224 rfl ?_
    refine e_icmp_gt (tgt := 22) dX7_came_13 (by decide) (fun c3 => ?_) (fun c3 => ?_)
    · rw [if_pos c3] at h
      refine e_iconst (x := (-1 : Int32)) dX7_came_22 (by decide) ?_
      obtain rfl := Option.some.inj h
      exact e_iret dX7_came_23 rfl rfl ⟨rfl, rfl, rfl⟩
    · rw [if_neg c3] at h
      refine e_iload_n dX7_came_16 rfl ?_
      refine e_bipush (x := (120 : Int32)) dX7_came_17 (by decide) ?_
      refine e_icmp_le (tgt := 24) dX7_came_19 (by decide) (fun c2 => ?_) (fun c2 => ?_)
      · rw [if_pos c2] at h
        refine e_aload_n dX7_came_24 rfl ?_
        refine e_get (w := .ref 60) (j := 10) dX7_came_25 k0_0 rc7 (by decide) wfX7_63 (g0_0_10) ?_
        refine e_get (w := .ref 72) (j := 8) dX7_came_28 k0_60 rc5 (by decide) wfX7_227 (g0_60_8) ?_
        refine e_iload_n dX7_came_31 rfl ?_
        refine e_iconst (x := (1 : Int32)) dX7_came_32 (by decide) ?_
        refine e_isub dX7_came_33 ?_
        obtain ⟨c1, h⟩ := grd h
        refine e_ialdJ dX7_came_34 k0_72 rfl c1.2 c1.1 ?_
        obtain rfl := Option.some.inj h
        exact e_iret dX7_came_35 rfl rfl ⟨rfl, rfl, rfl⟩
      · rw [if_neg c2] at h
        refine e_iconst (x := (-1 : Int32)) dX7_came_22 (by decide) ?_
        obtain rfl := Option.some.inj h
        exact e_iret dX7_came_23 rfl rfl ⟨rfl, rfl, rfl⟩
def f_X7_count (v : rV) (a1 : Int32) : Int32 := if a1 = (0 : Int32) then
  (v.1 9 1)
else
  (if a1 = (1 : Int32) then
  (v.1 23 1)
else
  (if a1 = (2 : Int32) then
  (v.1 0 13)
else
  (if a1 = (3 : Int32) then
  (v.1 0 14)
else
  (if a1 = (4 : Int32) then
  (v.1 1 1)
else
  (if a1 = (5 : Int32) then
  (v.1 0 15)
else
  ((-1 : Int32)))))))
set_option maxRecDepth 20000 in
theorem x_X7_count {X : Nat × (Nat → Int32)} {v : rV} {a1 : Int32}  : EvM mX7_count 1 0 0 [.ref 0, .int a1] (rZ X) v (rPI X ((f_X7_count v a1), v)) := by
  refine evm_of (by decide +kernel) (fun G => Nat.le_of_ble_eq_true rfl) ?_
  show Ev mX7_count 1 0 0 0 [(0, .ref 0), (1, .int a1)] [] (rZ X) v _
  generalize h : f_X7_count v a1 = r
  unfold f_X7_count at h
  refine e_iload_n dX7_count_0 rfl ?_
  by_cases c1 : a1 = (0 : Int32)
  · rw [if_pos c1] at h
    refine e_tabIn (off := 39) (tgt := 40) dX7_count_1 (by rw [c1]; decide) (by rw [c1]; decide) (by rw [c1]; rfl) (by decide) ?_
    refine e_aload_n dX7_count_40 rfl ?_
    refine e_get (w := .ref 9) (j := 3) dX7_count_41 k0_0 rc7 (by decide) wfX7_35 (g0_0_3) ?_
    refine e_get (w := .int (v.1 9 1)) (j := 1) dX7_count_44 k0_9 rc4 (by decide) wfX7_131 rfl ?_
    subst h
    exact e_iret dX7_count_47 rfl rfl ⟨rfl, rfl, rfl⟩
  · rw [if_neg c1] at h
    have nc1 := tab_ne c1 (k := 0) (by decide)
    by_cases c2 : a1 = (1 : Int32)
    · rw [if_pos c2] at h
      refine e_tabIn (off := 47) (tgt := 48) dX7_count_1 (by rw [c2]; decide) (by rw [c2]; decide) (by rw [c2]; rfl) (by decide) ?_
      refine e_aload_n dX7_count_48 rfl ?_
      refine e_get (w := .ref 23) (j := 4) dX7_count_49 k0_0 rc7 (by decide) wfX7_39 (g0_0_4) ?_
      refine e_get (w := .int (v.1 23 1)) (j := 1) dX7_count_52 k0_23 rc4 (by decide) wfX7_131 rfl ?_
      subst h
      exact e_iret dX7_count_55 rfl rfl ⟨rfl, rfl, rfl⟩
    · rw [if_neg c2] at h
      have nc2 := tab_ne c2 (k := 1) (by decide)
      by_cases c3 : a1 = (2 : Int32)
      · rw [if_pos c3] at h
        refine e_tabIn (off := 55) (tgt := 56) dX7_count_1 (by rw [c3]; decide) (by rw [c3]; decide) (by rw [c3]; rfl) (by decide) ?_
        refine e_aload_n dX7_count_56 rfl ?_
        refine e_get (w := .int (v.1 0 13)) (j := 13) dX7_count_57 k0_0 rc7 (by decide) wfX7_112 rfl ?_
        subst h
        exact e_iret dX7_count_60 rfl rfl ⟨rfl, rfl, rfl⟩
      · rw [if_neg c3] at h
        have nc3 := tab_ne c3 (k := 2) (by decide)
        by_cases c4 : a1 = (3 : Int32)
        · rw [if_pos c4] at h
          refine e_tabIn (off := 60) (tgt := 61) dX7_count_1 (by rw [c4]; decide) (by rw [c4]; decide) (by rw [c4]; rfl) (by decide) ?_
          refine e_aload_n dX7_count_61 rfl ?_
          refine e_get (w := .int (v.1 0 14)) (j := 14) dX7_count_62 k0_0 rc7 (by decide) wfX7_134 rfl ?_
          subst h
          exact e_iret dX7_count_65 rfl rfl ⟨rfl, rfl, rfl⟩
        · rw [if_neg c4] at h
          have nc4 := tab_ne c4 (k := 3) (by decide)
          by_cases c5 : a1 = (4 : Int32)
          · rw [if_pos c5] at h
            refine e_tabIn (off := 65) (tgt := 66) dX7_count_1 (by rw [c5]; decide) (by rw [c5]; decide) (by rw [c5]; rfl) (by decide) ?_
            refine e_aload_n dX7_count_66 rfl ?_
            refine e_get (w := .ref 1) (j := 0) dX7_count_67 k0_0 rc7 (by decide) wfX7_12 (g0_0_0) ?_
            refine e_get (w := .int (v.1 1 1)) (j := 1) dX7_count_70 k0_1 rc6 (by decide) wfX7_81 rfl ?_
            subst h
            exact e_iret dX7_count_73 rfl rfl ⟨rfl, rfl, rfl⟩
          · rw [if_neg c5] at h
            have nc5 := tab_ne c5 (k := 4) (by decide)
            by_cases c6 : a1 = (5 : Int32)
            · rw [if_pos c6] at h
              refine e_tabIn (off := 73) (tgt := 74) dX7_count_1 (by rw [c6]; decide) (by rw [c6]; decide) (by rw [c6]; rfl) (by decide) ?_
              refine e_aload_n dX7_count_74 rfl ?_
              refine e_get (w := .int (v.1 0 15)) (j := 15) dX7_count_75 k0_0 rc7 (by decide) wfX7_73 rfl ?_
              subst h
              exact e_iret dX7_count_78 rfl rfl ⟨rfl, rfl, rfl⟩
            · rw [if_neg c6] at h
              have nc6 := tab_ne c6 (k := 5) (by decide)
              refine e_tabOut (tgt := 79) dX7_count_1 (by omega) (by decide) ?_
              refine e_iconst (x := (-1 : Int32)) dX7_count_79 (by decide) ?_
              subst h
              exact e_iret dX7_count_80 rfl rfl ⟨rfl, rfl, rfl⟩
def f_X7_flow (v : rV) (a1 : Int32) : Option (Int32) := if (f_X7_isCell a1) = true then
  (if ¬ a1 < 0 ∧ a1.toNatClampNeg < 24 then
  (some (v.1 71 a1.toNatClampNeg))
else none)
else
  (some (-100000 : Int32))
set_option maxRecDepth 20000 in
theorem x_X7_flow {X : Nat × (Nat → Int32)} {v : rV} {r : Int32} {a1 : Int32}  (h : f_X7_flow v a1 = some r) : EvM mX7_flow 2 0 0 [.ref 0, .int a1] (rZ X) v (rPI X (r, v)) := by
  refine evm_of (by decide +kernel) (fun G => Nat.le_of_ble_eq_true rfl) ?_
  show Ev mX7_flow 2 0 0 0 [(0, .ref 0), (1, .int a1)] [] (rZ X) v _
  unfold f_X7_flow at h
  refine e_iload_n dX7_flow_0 rfl ?_
  refine c_SZ (M' := mX7_isCell) [.int a1] dX7_flow_1 rfl wmX7_187 stX7_isCell lkX7_isCell (Nat.le_of_ble_eq_true rfl) ((x_X7_isCell ).mono (by omega)) ?_
  refine e_if_eq (tgt := 19) dX7_flow_4 (by decide) (fun c3 => ?_) (fun c3 => ?_)
  · rw [if_neg (bI_n c3)] at h
    refine e_ldc dX7_flow_19 wcX7_211 ?_
    obtain rfl := Option.some.inj h
    exact e_iret dX7_flow_21 rfl rfl ⟨rfl, rfl, rfl⟩
  · rw [if_pos (bI_p c3)] at h
    refine e_aload_n dX7_flow_7 rfl ?_
    refine e_get (w := .ref 60) (j := 10) dX7_flow_8 k0_0 rc7 (by decide) wfX7_63 (g0_0_10) ?_
    refine e_get (w := .ref 71) (j := 7) dX7_flow_11 k0_60 rc5 (by decide) wfX7_208 (g0_60_7) ?_
    refine e_iload_n dX7_flow_14 rfl ?_
    obtain ⟨c2, h⟩ := grd h
    refine e_ialdJ dX7_flow_15 k0_71 rfl c2.2 c2.1 ?_
    refine e_goto (tgt := 21) dX7_flow_16 (by decide) ?_
    obtain rfl := Option.some.inj h
    exact e_iret dX7_flow_21 rfl rfl ⟨rfl, rfl, rfl⟩
def f_X7_isSort (a0 : Int32) : Bool := if a0 < 0 then
  (false)
else
  (if (2 : Int32) ≤ a0 then
  (false)
else
  (true))
set_option maxRecDepth 20000 in
theorem x_X7_isSort {X : Nat × (Nat → Int32)} {v : rV} {a0 : Int32}  : EvM mX7_isSort 1 0 0 [.int a0] (rZ X) v (rPZ X ((f_X7_isSort a0), v)) := by
  refine evm_of (by decide +kernel) (fun G => Nat.le_of_ble_eq_true rfl) ?_
  show Ev mX7_isSort 1 0 0 0 [(0, .int a0)] [] (rZ X) v _
  generalize h : f_X7_isSort a0 = r
  unfold f_X7_isSort at h
  refine e_iload_n dX7_isSort_0 rfl ?_
  refine e_if_lt (tgt := 13) dX7_isSort_1 (by decide) (fun c2 => ?_) (fun c2 => ?_)
  · rw [if_pos c2] at h
    refine e_iconst (x := (0 : Int32)) dX7_isSort_13 (by decide) ?_
    subst h
    exact e_iret dX7_isSort_14 rfl rfl ⟨rfl, rfl, rfl⟩
  · rw [if_neg c2] at h
    refine e_iload_n dX7_isSort_4 rfl ?_
    refine e_iconst (x := (2 : Int32)) dX7_isSort_5 (by decide) ?_
    refine e_icmp_ge (tgt := 13) dX7_isSort_6 (by decide) (fun c1 => ?_) (fun c1 => ?_)
    · rw [if_pos c1] at h
      refine e_iconst (x := (0 : Int32)) dX7_isSort_13 (by decide) ?_
      subst h
      exact e_iret dX7_isSort_14 rfl rfl ⟨rfl, rfl, rfl⟩
    · rw [if_neg c1] at h
      refine e_iconst (x := (1 : Int32)) dX7_isSort_9 (by decide) ?_
      refine e_goto (tgt := 14) dX7_isSort_10 (by decide) ?_
      subst h
      exact e_iret dX7_isSort_14 rfl rfl ⟨rfl, rfl, rfl⟩
def f_X7_free (v : rV) (a1 : Int32) (a2 : Int32) : Option (Int32) := if (f_X7_isCell a1) = true then
  (if (f_X7_isSort a2) = true then
  (if ¬ a2 < 0 ∧ a2.toNatClampNeg < 2 then
  (if ¬ a1 < 0 ∧ a1.toNatClampNeg < 24 then
  (some (v.1 (65 + a2.toNatClampNeg) a1.toNatClampNeg))
else none)
else none)
else
  (some (-1 : Int32)))
else
  (some (-1 : Int32))
set_option maxRecDepth 20000 in
theorem x_X7_free {X : Nat × (Nat → Int32)} {v : rV} {r : Int32} {a1 : Int32} {a2 : Int32}  (h : f_X7_free v a1 a2 = some r) : EvM mX7_free 2 0 0 [.ref 0, .int a1, .int a2] (rZ X) v (rPI X (r, v)) := by
  refine evm_of (by decide +kernel) (fun G => Nat.le_of_ble_eq_true rfl) ?_
  show Ev mX7_free 2 0 0 0 [(0, .ref 0), (1, .int a1), (2, .int a2)] [] (rZ X) v _
  unfold f_X7_free at h
  refine e_iload_n dX7_free_0 rfl ?_
  refine c_SZ (M' := mX7_isCell) [.int a1] dX7_free_1 rfl wmX7_187 stX7_isCell lkX7_isCell (Nat.le_of_ble_eq_true rfl) ((x_X7_isCell ).mono (by omega)) ?_
  refine e_if_eq (tgt := 28) dX7_free_4 (by decide) (fun c6 => ?_) (fun c6 => ?_)
  · rw [if_neg (bI_n c6)] at h
    refine e_iconst (x := (-1 : Int32)) dX7_free_28 (by decide) ?_
    obtain rfl := Option.some.inj h
    exact e_iret dX7_free_29 rfl rfl ⟨rfl, rfl, rfl⟩
  · rw [if_pos (bI_p c6)] at h
    refine e_iload_n dX7_free_7 rfl ?_
    refine c_SZ (M' := mX7_isSort) [.int a2] dX7_free_8 rfl wmX7_193 stX7_isSort lkX7_isSort (Nat.le_of_ble_eq_true rfl) ((x_X7_isSort ).mono (by omega)) ?_
    refine e_if_eq (tgt := 28) dX7_free_11 (by decide) (fun c5 => ?_) (fun c5 => ?_)
    · rw [if_neg (bI_n c5)] at h
      refine e_iconst (x := (-1 : Int32)) dX7_free_28 (by decide) ?_
      obtain rfl := Option.some.inj h
      exact e_iret dX7_free_29 rfl rfl ⟨rfl, rfl, rfl⟩
    · rw [if_pos (bI_p c5)] at h
      refine e_aload_n dX7_free_14 rfl ?_
      refine e_get (w := .ref 60) (j := 10) dX7_free_15 k0_0 rc7 (by decide) wfX7_63 (g0_0_10) ?_
      refine e_get (w := .ref 64) (j := 4) dX7_free_18 k0_60 rc5 (by decide) wfX7_196 (g0_60_4) ?_
      refine e_iload_n dX7_free_21 rfl ?_
      obtain ⟨c3, h⟩ := grd h
      refine e_aaldJ dX7_free_22 k0_64 rfl rfl c3.2 c3.1 (r0_64 (c3).2) ?_
      refine e_iload_n dX7_free_23 rfl ?_
      obtain ⟨c4, h⟩ := grd h
      refine e_ialdJ dX7_free_24 (q0_64 (c3).2) rfl c4.2 c4.1 ?_
      refine e_goto (tgt := 29) dX7_free_25 (by decide) ?_
      obtain rfl := Option.some.inj h
      exact e_iret dX7_free_29 rfl rfl ⟨rfl, rfl, rfl⟩
def f_X7_isTriedLetter (a0 : Int32) : Bool := if a0 = (3 : Int32) then
  (true)
else
  (if a0 = (4 : Int32) then
  (true)
else
  (if a0 = (5 : Int32) then
  (true)
else
  (if a0 = (6 : Int32) then
  (true)
else
  (if a0 = (7 : Int32) then
  (true)
else
  (if a0 = (9 : Int32) then
  (true)
else
  (false))))))
set_option maxRecDepth 20000 in
theorem x_X7_isTriedLetter {X : Nat × (Nat → Int32)} {v : rV} {a0 : Int32}  : EvM mX7_isTriedLetter 1 0 0 [.int a0] (rZ X) v (rPZ X ((f_X7_isTriedLetter a0), v)) := by
  refine evm_of (by decide +kernel) (fun G => Nat.le_of_ble_eq_true rfl) ?_
  show Ev mX7_isTriedLetter 1 0 0 0 [(0, .int a0)] [] (rZ X) v _
  generalize h : f_X7_isTriedLetter a0 = r
  unfold f_X7_isTriedLetter at h
  refine e_iload_n dX7_isTriedLetter_0 rfl ?_
  refine e_iconst (x := (3 : Int32)) dX7_isTriedLetter_1 (by decide) ?_
  refine e_icmp_eq (tgt := 33) dX7_isTriedLetter_2 (by decide) (fun c6 => ?_) (fun c6 => ?_)
  · rw [if_pos c6] at h
    refine e_iconst (x := (1 : Int32)) dX7_isTriedLetter_33 (by decide) ?_
    refine e_goto (tgt := 38) dX7_isTriedLetter_34 (by decide) ?_
    subst h
    exact e_iret dX7_isTriedLetter_38 rfl rfl ⟨rfl, rfl, rfl⟩
  · rw [if_neg c6] at h
    refine e_iload_n dX7_isTriedLetter_5 rfl ?_
    refine e_iconst (x := (4 : Int32)) dX7_isTriedLetter_6 (by decide) ?_
    refine e_icmp_eq (tgt := 33) dX7_isTriedLetter_7 (by decide) (fun c5 => ?_) (fun c5 => ?_)
    · rw [if_pos c5] at h
      refine e_iconst (x := (1 : Int32)) dX7_isTriedLetter_33 (by decide) ?_
      refine e_goto (tgt := 38) dX7_isTriedLetter_34 (by decide) ?_
      subst h
      exact e_iret dX7_isTriedLetter_38 rfl rfl ⟨rfl, rfl, rfl⟩
    · rw [if_neg c5] at h
      refine e_iload_n dX7_isTriedLetter_10 rfl ?_
      refine e_iconst (x := (5 : Int32)) dX7_isTriedLetter_11 (by decide) ?_
      refine e_icmp_eq (tgt := 33) dX7_isTriedLetter_12 (by decide) (fun c4 => ?_) (fun c4 => ?_)
      · rw [if_pos c4] at h
        refine e_iconst (x := (1 : Int32)) dX7_isTriedLetter_33 (by decide) ?_
        refine e_goto (tgt := 38) dX7_isTriedLetter_34 (by decide) ?_
        subst h
        exact e_iret dX7_isTriedLetter_38 rfl rfl ⟨rfl, rfl, rfl⟩
      · rw [if_neg c4] at h
        refine e_iload_n dX7_isTriedLetter_15 rfl ?_
        refine e_bipush (x := (6 : Int32)) dX7_isTriedLetter_16 (by decide) ?_
        refine e_icmp_eq (tgt := 33) dX7_isTriedLetter_18 (by decide) (fun c3 => ?_) (fun c3 => ?_)
        · rw [if_pos c3] at h
          refine e_iconst (x := (1 : Int32)) dX7_isTriedLetter_33 (by decide) ?_
          refine e_goto (tgt := 38) dX7_isTriedLetter_34 (by decide) ?_
          subst h
          exact e_iret dX7_isTriedLetter_38 rfl rfl ⟨rfl, rfl, rfl⟩
        · rw [if_neg c3] at h
          refine e_iload_n dX7_isTriedLetter_21 rfl ?_
          refine e_bipush (x := (7 : Int32)) dX7_isTriedLetter_22 (by decide) ?_
          refine e_icmp_eq (tgt := 33) dX7_isTriedLetter_24 (by decide) (fun c2 => ?_) (fun c2 => ?_)
          · rw [if_pos c2] at h
            refine e_iconst (x := (1 : Int32)) dX7_isTriedLetter_33 (by decide) ?_
            refine e_goto (tgt := 38) dX7_isTriedLetter_34 (by decide) ?_
            subst h
            exact e_iret dX7_isTriedLetter_38 rfl rfl ⟨rfl, rfl, rfl⟩
          · rw [if_neg c2] at h
            refine e_iload_n dX7_isTriedLetter_27 rfl ?_
            refine e_bipush (x := (9 : Int32)) dX7_isTriedLetter_28 (by decide) ?_
            refine e_icmp_ne (tgt := 37) dX7_isTriedLetter_30 (by decide) (fun c1 => ?_) (fun c1 => ?_)
            · rw [if_neg c1] at h
              refine e_iconst (x := (0 : Int32)) dX7_isTriedLetter_37 (by decide) ?_
              subst h
              exact e_iret dX7_isTriedLetter_38 rfl rfl ⟨rfl, rfl, rfl⟩
            · rw [if_pos c1] at h
              refine e_iconst (x := (1 : Int32)) dX7_isTriedLetter_33 (by decide) ?_
              refine e_goto (tgt := 38) dX7_isTriedLetter_34 (by decide) ?_
              subst h
              exact e_iret dX7_isTriedLetter_38 rfl rfl ⟨rfl, rfl, rfl⟩
def f_X7_lies (v : rV) (a1 : Int32) (a2 : Int32) : Option (Int32) := if (f_X7_isCell a1) = true then
  (if (f_X7_isSort a2) = true then
  (if ¬ a2 < 0 ∧ a2.toNatClampNeg < 2 then
  (if ¬ a1 < 0 ∧ a1.toNatClampNeg < 24 then
  (some (v.1 (68 + a2.toNatClampNeg) a1.toNatClampNeg))
else none)
else none)
else
  (some (-1 : Int32)))
else
  (some (-1 : Int32))
set_option maxRecDepth 20000 in
theorem x_X7_lies {X : Nat × (Nat → Int32)} {v : rV} {r : Int32} {a1 : Int32} {a2 : Int32}  (h : f_X7_lies v a1 a2 = some r) : EvM mX7_lies 2 0 0 [.ref 0, .int a1, .int a2] (rZ X) v (rPI X (r, v)) := by
  refine evm_of (by decide +kernel) (fun G => Nat.le_of_ble_eq_true rfl) ?_
  show Ev mX7_lies 2 0 0 0 [(0, .ref 0), (1, .int a1), (2, .int a2)] [] (rZ X) v _
  unfold f_X7_lies at h
  refine e_iload_n dX7_lies_0 rfl ?_
  refine c_SZ (M' := mX7_isCell) [.int a1] dX7_lies_1 rfl wmX7_187 stX7_isCell lkX7_isCell (Nat.le_of_ble_eq_true rfl) ((x_X7_isCell ).mono (by omega)) ?_
  refine e_if_eq (tgt := 28) dX7_lies_4 (by decide) (fun c6 => ?_) (fun c6 => ?_)
  · rw [if_neg (bI_n c6)] at h
    refine e_iconst (x := (-1 : Int32)) dX7_lies_28 (by decide) ?_
    obtain rfl := Option.some.inj h
    exact e_iret dX7_lies_29 rfl rfl ⟨rfl, rfl, rfl⟩
  · rw [if_pos (bI_p c6)] at h
    refine e_iload_n dX7_lies_7 rfl ?_
    refine c_SZ (M' := mX7_isSort) [.int a2] dX7_lies_8 rfl wmX7_193 stX7_isSort lkX7_isSort (Nat.le_of_ble_eq_true rfl) ((x_X7_isSort ).mono (by omega)) ?_
    refine e_if_eq (tgt := 28) dX7_lies_11 (by decide) (fun c5 => ?_) (fun c5 => ?_)
    · rw [if_neg (bI_n c5)] at h
      refine e_iconst (x := (-1 : Int32)) dX7_lies_28 (by decide) ?_
      obtain rfl := Option.some.inj h
      exact e_iret dX7_lies_29 rfl rfl ⟨rfl, rfl, rfl⟩
    · rw [if_pos (bI_p c5)] at h
      refine e_aload_n dX7_lies_14 rfl ?_
      refine e_get (w := .ref 60) (j := 10) dX7_lies_15 k0_0 rc7 (by decide) wfX7_63 (g0_0_10) ?_
      refine e_get (w := .ref 67) (j := 5) dX7_lies_18 k0_60 rc5 (by decide) wfX7_199 (g0_60_5) ?_
      refine e_iload_n dX7_lies_21 rfl ?_
      obtain ⟨c3, h⟩ := grd h
      refine e_aaldJ dX7_lies_22 k0_67 rfl rfl c3.2 c3.1 (r0_67 (c3).2) ?_
      refine e_iload_n dX7_lies_23 rfl ?_
      obtain ⟨c4, h⟩ := grd h
      refine e_ialdJ dX7_lies_24 (q0_67 (c3).2) rfl c4.2 c4.1 ?_
      refine e_goto (tgt := 29) dX7_lies_25 (by decide) ?_
      obtain rfl := Option.some.inj h
      exact e_iret dX7_lies_29 rfl rfl ⟨rfl, rfl, rfl⟩
def f_X7_rush (v : rV) (a1 : Int32) : Int32 := if (v.1 60 19) = 0 then
  ((-1 : Int32))
else
  (if a1 = 0 then
  (v.1 60 18)
else
  (if a1 = (1 : Int32) then
  (v.1 60 19)
else
  ((-1 : Int32))))
set_option maxRecDepth 20000 in
theorem x_X7_rush {X : Nat × (Nat → Int32)} {v : rV} {a1 : Int32}  : EvM mX7_rush 1 0 0 [.ref 0, .int a1] (rZ X) v (rPI X ((f_X7_rush v a1), v)) := by
  refine evm_of (by decide +kernel) (fun G => Nat.le_of_ble_eq_true rfl) ?_
  show Ev mX7_rush 1 0 0 0 [(0, .ref 0), (1, .int a1)] [] (rZ X) v _
  generalize h : f_X7_rush v a1 = r
  unfold f_X7_rush at h
  refine e_aload_n dX7_rush_0 rfl ?_
  refine e_get (w := .ref 60) (j := 10) dX7_rush_1 k0_0 rc7 (by decide) wfX7_63 (g0_0_10) ?_
  refine e_get (w := .int (v.1 60 19)) (j := 19) dX7_rush_4 k0_60 rc5 (by decide) wfX7_215 rfl ?_
  refine e_if_ne (tgt := 12) dX7_rush_7 (by decide) (fun c3 => ?_) (fun c3 => ?_)
  · rw [if_neg c3] at h
    refine e_iload_n dX7_rush_12 rfl ?_
    refine e_if_ne (tgt := 26) dX7_rush_13 (by decide) (fun c2 => ?_) (fun c2 => ?_)
    · rw [if_neg c2] at h
      refine e_iload_n dX7_rush_26 rfl ?_
      refine e_iconst (x := (1 : Int32)) dX7_rush_27 (by decide) ?_
      refine e_icmp_ne (tgt := 41) dX7_rush_28 (by decide) (fun c1 => ?_) (fun c1 => ?_)
      · rw [if_neg c1] at h
        refine e_iconst (x := (-1 : Int32)) dX7_rush_41 (by decide) ?_
        subst h
        exact e_iret dX7_rush_42 rfl rfl ⟨rfl, rfl, rfl⟩
      · rw [if_pos c1] at h
        refine e_aload_n dX7_rush_31 rfl ?_
        refine e_get (w := .ref 60) (j := 10) dX7_rush_32 k0_0 rc7 (by decide) wfX7_63 (g0_0_10) ?_
        refine e_get (w := .int (v.1 60 19)) (j := 19) dX7_rush_35 k0_60 rc5 (by decide) wfX7_215 rfl ?_
        refine e_goto (tgt := 42) dX7_rush_38 (by decide) ?_
        subst h
        exact e_iret dX7_rush_42 rfl rfl ⟨rfl, rfl, rfl⟩
    · rw [if_pos c2] at h
      refine e_aload_n dX7_rush_16 rfl ?_
      refine e_get (w := .ref 60) (j := 10) dX7_rush_17 k0_0 rc7 (by decide) wfX7_63 (g0_0_10) ?_
      refine e_get (w := .int (v.1 60 18)) (j := 18) dX7_rush_20 k0_60 rc5 (by decide) wfX7_218 rfl ?_
      refine e_goto (tgt := 42) dX7_rush_23 (by decide) ?_
      subst h
      exact e_iret dX7_rush_42 rfl rfl ⟨rfl, rfl, rfl⟩
  · rw [if_pos c3] at h
    refine e_iconst (x := (-1 : Int32)) dX7_rush_10 (by decide) ?_
    subst h
    exact e_iret dX7_rush_11 rfl rfl ⟨rfl, rfl, rfl⟩
def f_X7_speed (v : rV)  : Int32 := v.1 60 17
set_option maxRecDepth 20000 in
theorem x_X7_speed {X : Nat × (Nat → Int32)} {v : rV}   : EvM mX7_speed 1 0 0 [.ref 0] (rZ X) v (rPI X ((f_X7_speed v), v)) := by
  refine evm_of (by decide +kernel) (fun G => Nat.le_of_ble_eq_true rfl) ?_
  show Ev mX7_speed 1 0 0 0 [(0, .ref 0)] [] (rZ X) v _
  generalize h : f_X7_speed v = r
  unfold f_X7_speed at h
  refine e_aload_n dX7_speed_0 rfl ?_
  refine e_get (w := .ref 60) (j := 10) dX7_speed_1 k0_0 rc7 (by decide) wfX7_63 (g0_0_10) ?_
  refine e_get (w := .int (v.1 60 17)) (j := 17) dX7_speed_4 k0_60 rc5 (by decide) wfX7_221 rfl ?_
  subst h
  exact e_iret dX7_speed_7 rfl rfl ⟨rfl, rfl, rfl⟩
def f_X7_turned_57 (v : rV) (q23 : Int32 → Int32 → Int32 → Int32 → Option (Int32)) (a1 : Int32) (a2 : Int32) (a3 : Int32) (a4 : Int32) : Option (Int32) := vlet (a4 + (1 : Int32)) fun x7 =>
  q23 a1 a2 a3 x7
def f_X7_turned_23 (v : rV)  : Nat → Int32 → Int32 → Int32 → Int32 → Option (Int32)
  | 0, _, _, _, _ => none
  | n + 1, a1, a2, a3, a4 => if (24 : Int32) ≤ a4 then
  (some a3)
else
  (if ¬ a1 < 0 ∧ a1.toNatClampNeg < 6 then
  (if ¬ a4 < 0 ∧ a4.toNatClampNeg < 24 then
  (if ¬ a2 < 0 ∧ a2.toNatClampNeg < 6 then
  (if ¬ ((23 : Int32) - a4) < 0 ∧ ((23 : Int32) - a4).toNatClampNeg < 24 then
  (if (v.1 (53 + a1.toNatClampNeg) a4.toNatClampNeg) = (v.1 (53 + a2.toNatClampNeg) (((23 : Int32) - a4).toNatClampNeg)) then
  (f_X7_turned_57 v (fun a1 a2 a3 a4 => f_X7_turned_23 v n a1 a2 a3 a4) a1 a2 a3 a4)
else
  (vlet (a3 + (1 : Int32)) fun x8 =>
  f_X7_turned_57 v (fun a1 a2 a3 a4 => f_X7_turned_23 v n a1 a2 a3 a4) a1 a2 x8 a4))
else none)
else none)
else none)
else none)
def f_X7_turned (v : rV) (a1 : Int32) (a2 : Int32) : Option (Int32) := if (f_X7_isStain v a1) = true then
  (if (f_X7_isStain v a2) = true then
  (f_X7_turned_23 v 20000 a1 a2 (0 : Int32) (0 : Int32))
else
  (some (-1 : Int32)))
else
  (some (-1 : Int32))
set_option maxRecDepth 20000 in
theorem b_X7_turned_57 {X : Nat × (Nat → Int32)} {r : Int32} {v : rV} {q23 : Int32 → Int32 → Int32 → Int32 → Option (Int32)} (hq23 : ∀ (a1 : Int32) (a2 : Int32) (a3 : Int32) (a4 : Int32) , q23 a1 a2 a3 a4 = some r → Ev mX7_turned 2 0 0 23 [(0, .ref 0), (1, .int a1), (2, .int a2), (3, .int a3), (4, .int a4)] [] (rZ X) v (rPI X (r, v))) {a1 : Int32} {a2 : Int32} {a3 : Int32} {a4 : Int32}  (h : f_X7_turned_57 v q23 a1 a2 a3 a4 = some r) : Ev mX7_turned 2 0 0 57 [(0, .ref 0), (1, .int a1), (2, .int a2), (3, .int a3), (4, .int a4)] [] (rZ X) v (rPI X (r, v)) := by
  unfold f_X7_turned_57 at h
  obtain ⟨x7, ex7, h⟩ := vlet_ex h
  refine e_iinc (lv' := [(4, .int x7), (0, .ref 0), (1, .int a1), (2, .int a2), (3, .int a3)]) dX7_turned_57 rfl (ex7.symm) (by decide) rfl ?_
  clear ex7
  refine e_goto (tgt := 23) dX7_turned_60 (by decide) ?_
  refine e_sub [1, 2, 3, 4, 0] rfl ?_
  exact hq23 a1 a2 a3 x7 h
set_option maxRecDepth 20000 in
theorem b_X7_turned_23 {X : Nat × (Nat → Int32)} {r : Int32} {v : rV}   : ∀ (n : Nat) (a1 : Int32) (a2 : Int32) (a3 : Int32) (a4 : Int32) , f_X7_turned_23 v  n a1 a2 a3 a4 = some r → Ev mX7_turned 2 0 0 23 [(0, .ref 0), (1, .int a1), (2, .int a2), (3, .int a3), (4, .int a4)] [] (rZ X) v (rPI X (r, v)) := by
  intro n
  induction n with
  | zero =>
    intros
    rename_i h
    cases h
  | succ n ih =>
    intro a1 a2 a3 a4 h
    rw [f_X7_turned_23] at h
    refine e_iload dX7_turned_23 rfl ?_
    refine e_bipush (x := (24 : Int32)) dX7_turned_25 (by decide) ?_
    refine e_icmp_ge (tgt := 63) dX7_turned_27 (by decide) (fun c10 => ?_) (fun c10 => ?_)
    · rw [if_pos c10] at h
      refine e_iload_n dX7_turned_63 rfl ?_
      obtain rfl := Option.some.inj h
      exact e_iret dX7_turned_64 rfl rfl ⟨rfl, rfl, rfl⟩
    · rw [if_neg c10] at h
      refine e_aload_n dX7_turned_30 rfl ?_
      refine e_get (w := .ref 52) (j := 8) dX7_turned_31 k0_0 rc7 (by decide) wfX7_54 (g0_0_8) ?_
      refine e_iload_n dX7_turned_34 rfl ?_
      obtain ⟨c3, h⟩ := grd h
      refine e_aaldJ dX7_turned_35 k0_52 rfl rfl c3.2 c3.1 (r0_52 (c3).2) ?_
      refine e_iload dX7_turned_36 rfl ?_
      obtain ⟨c4, h⟩ := grd h
      refine e_ialdJ dX7_turned_38 (q0_52 (c3).2) rfl c4.2 c4.1 ?_
      refine e_aload_n dX7_turned_39 rfl ?_
      refine e_get (w := .ref 52) (j := 8) dX7_turned_40 k0_0 rc7 (by decide) wfX7_54 (g0_0_8) ?_
      refine e_iload_n dX7_turned_43 rfl ?_
      obtain ⟨c5, h⟩ := grd h
      refine e_aaldJ dX7_turned_44 k0_52 rfl rfl c5.2 c5.1 (r0_52 (c5).2) ?_
      refine e_bipush (x := (23 : Int32)) dX7_turned_45 (by decide) ?_
      refine e_iload dX7_turned_47 rfl ?_
      refine e_isub dX7_turned_49 ?_
      obtain ⟨c6, h⟩ := grd h
      refine e_ialdJ dX7_turned_50 (q0_52 (c5).2) rfl c6.2 c6.1 ?_
      refine e_icmp_eq (tgt := 57) dX7_turned_51 (by decide) (fun c9 => ?_) (fun c9 => ?_)
      · rw [if_pos c9] at h
        exact b_X7_turned_57 (fun a1 a2 a3 a4  hh => ih a1 a2 a3 a4  hh) h
      · rw [if_neg c9] at h
        obtain ⟨x8, ex8, h⟩ := vlet_ex h
        refine e_iinc (lv' := [(3, .int x8), (0, .ref 0), (1, .int a1), (2, .int a2), (4, .int a4)]) dX7_turned_54 rfl (ex8.symm) (by decide) rfl ?_
        clear ex8
        refine e_sub [1, 2, 3, 0, 4] rfl ?_
        exact b_X7_turned_57 (fun a1 a2 a3 a4  hh => ih a1 a2 a3 a4  hh) h
set_option maxRecDepth 20000 in
theorem x_X7_turned {X : Nat × (Nat → Int32)} {v : rV} {r : Int32} {a1 : Int32} {a2 : Int32}  (h : f_X7_turned v a1 a2 = some r) : EvM mX7_turned 2 0 0 [.ref 0, .int a1, .int a2] (rZ X) v (rPI X (r, v)) := by
  refine evm_of (by decide +kernel) (fun G => Nat.le_of_ble_eq_true rfl) ?_
  show Ev mX7_turned 2 0 0 0 [(0, .ref 0), (1, .int a1), (2, .int a2)] [] (rZ X) v _
  unfold f_X7_turned at h
  refine e_aload_n dX7_turned_0 rfl ?_
  refine e_iload_n dX7_turned_1 rfl ?_
  refine c_VZ (M' := mX7_isStain) [.int a1] dX7_turned_2 rfl wmX7_306 imX7_isStain seX7_isStain lkX7_isStain k0_0 rc7 (Nat.le_of_ble_eq_true rfl) ((x_X7_isStain ).mono (by omega)) ?_
  refine e_if_eq (tgt := 16) dX7_turned_5 (by decide) (fun c12 => ?_) (fun c12 => ?_)
  · rw [if_neg (bI_n c12)] at h
    refine e_iconst (x := (-1 : Int32)) dX7_turned_16 (by decide) ?_
    obtain rfl := Option.some.inj h
    exact e_iret dX7_turned_17 rfl rfl ⟨rfl, rfl, rfl⟩
  · rw [if_pos (bI_p c12)] at h
    refine e_aload_n dX7_turned_8 rfl ?_
    refine e_iload_n dX7_turned_9 rfl ?_
    refine c_VZ (M' := mX7_isStain) [.int a2] dX7_turned_10 rfl wmX7_306 imX7_isStain seX7_isStain lkX7_isStain k0_0 rc7 (Nat.le_of_ble_eq_true rfl) ((x_X7_isStain ).mono (by omega)) ?_
    refine e_if_ne (tgt := 18) dX7_turned_13 (by decide) (fun c11 => ?_) (fun c11 => ?_)
    · rw [if_pos (bI_p c11)] at h
      refine e_iconst (x := (0 : Int32)) dX7_turned_18 (by decide) ?_
      refine e_istore_n (lv' := [(3, .int (0 : Int32)), (0, .ref 0), (1, .int a1), (2, .int a2)]) dX7_turned_19 (by decide) rfl ?_
      refine e_iconst (x := (0 : Int32)) dX7_turned_20 (by decide) ?_
      refine e_istore (lv' := [(4, .int (0 : Int32)), (3, .int (0 : Int32)), (0, .ref 0), (1, .int a1), (2, .int a2)]) dX7_turned_21 (by decide) rfl ?_
      refine e_sub [2, 3, 4, 1, 0] rfl ?_
      exact b_X7_turned_23  _ a1 a2 (0 : Int32) (0 : Int32) h
    · rw [if_neg (bI_n c11)] at h
      refine e_iconst (x := (-1 : Int32)) dX7_turned_16 (by decide) ?_
      obtain rfl := Option.some.inj h
      exact e_iret dX7_turned_17 rfl rfl ⟨rfl, rfl, rfl⟩
def f_X7_water (v : rV) (a1 : Int32) : Option (Int32) := if (f_X7_isCell a1) = true then
  (if ¬ a1 < 0 ∧ a1.toNatClampNeg < 24 then
  (some (v.1 61 a1.toNatClampNeg))
else none)
else
  (some (-1 : Int32))
set_option maxRecDepth 20000 in
theorem x_X7_water {X : Nat × (Nat → Int32)} {v : rV} {r : Int32} {a1 : Int32}  (h : f_X7_water v a1 = some r) : EvM mX7_water 2 0 0 [.ref 0, .int a1] (rZ X) v (rPI X (r, v)) := by
  refine evm_of (by decide +kernel) (fun G => Nat.le_of_ble_eq_true rfl) ?_
  show Ev mX7_water 2 0 0 0 [(0, .ref 0), (1, .int a1)] [] (rZ X) v _
  unfold f_X7_water at h
  refine e_iload_n dX7_water_0 rfl ?_
  refine c_SZ (M' := mX7_isCell) [.int a1] dX7_water_1 rfl wmX7_187 stX7_isCell lkX7_isCell (Nat.le_of_ble_eq_true rfl) ((x_X7_isCell ).mono (by omega)) ?_
  refine e_if_eq (tgt := 19) dX7_water_4 (by decide) (fun c3 => ?_) (fun c3 => ?_)
  · rw [if_neg (bI_n c3)] at h
    refine e_iconst (x := (-1 : Int32)) dX7_water_19 (by decide) ?_
    obtain rfl := Option.some.inj h
    exact e_iret dX7_water_20 rfl rfl ⟨rfl, rfl, rfl⟩
  · rw [if_pos (bI_p c3)] at h
    refine e_aload_n dX7_water_7 rfl ?_
    refine e_get (w := .ref 60) (j := 10) dX7_water_8 k0_0 rc7 (by decide) wfX7_63 (g0_0_10) ?_
    refine e_get (w := .ref 61) (j := 0) dX7_water_11 k0_60 rc5 (by decide) wfX7_190 (g0_60_0) ?_
    refine e_iload_n dX7_water_14 rfl ?_
    obtain ⟨c2, h⟩ := grd h
    refine e_ialdJ dX7_water_15 k0_61 rfl c2.2 c2.1 ?_
    refine e_goto (tgt := 20) dX7_water_16 (by decide) ?_
    obtain rfl := Option.some.inj h
    exact e_iret dX7_water_20 rfl rfl ⟨rfl, rfl, rfl⟩
