/-! trial -/
def f_X0_width (v : rV) (k0 : Nat) : Int32 := ((v.1 k0 3) - (v.1 k0 2)) + (1 : Int32)
set_option maxRecDepth 20000 in
theorem x_X0_width {X : Nat × (Nat → Int32)} {v : rV} {k0 : Nat} (hk0 : isBody k0 = true) : EvM mX0_width 1 0 0 [.ref k0] (rZ X) v (rPI X ((f_X0_width v k0), v)) := by
  refine evm_of (by decide +kernel) (fun G => Nat.le_of_ble_eq_true rfl) ?_
  show Ev mX0_width 1 0 0 0 [(0, .ref k0)] [] (rZ X) v _
  generalize h : f_X0_width v k0 = r
  unfold f_X0_width at h
  refine e_aload_n dX0_width_0 rfl ?_
  refine e_get (j := 3) dX0_width_1 (kBody_0 hk0) rc0 (by decide) wfX0_28 rfl ?_
  refine e_aload_n dX0_width_4 rfl ?_
  refine e_get (j := 2) dX0_width_5 (kBody_0 hk0) rc0 (by decide) wfX0_25 rfl ?_
  refine e_isub dX0_width_8 ?_
  refine e_iconst (x := (1 : Int32)) dX0_width_9 (by decide) ?_
  refine e_iadd dX0_width_10 ?_
  subst h
  exact e_iret dX0_width_11 rfl rfl ⟨rfl, rfl, rfl⟩
def f_X0_weightOf (v : rV) (k0 : Nat) (a1 : Int32) : Int32 := vlet (a1 - (v.1 k0 2) : Int32) fun x1 =>
  ((x1 + (1 : Int32)) * (((v.1 k0 3) - a1) + (1 : Int32))) * ((10 : Int32) + ((v.1 (k0 + 1) 11) * x1))
set_option maxRecDepth 20000 in
theorem x_X0_weightOf {X : Nat × (Nat → Int32)} {v : rV} {k0 : Nat} {a1 : Int32} (hk0 : isBody k0 = true) : EvM mX0_weightOf 1 0 0 [.ref k0, .int a1] (rZ X) v (rPI X ((f_X0_weightOf v k0 a1), v)) := by
  refine evm_of (by decide +kernel) (fun G => Nat.le_of_ble_eq_true rfl) ?_
  show Ev mX0_weightOf 1 0 0 0 [(0, .ref k0), (1, .int a1)] [] (rZ X) v _
  generalize h : f_X0_weightOf v k0 a1 = r
  unfold f_X0_weightOf at h
  refine e_iload_n dX0_weightOf_0 rfl ?_
  refine e_aload_n dX0_weightOf_1 rfl ?_
  refine e_get (j := 2) dX0_weightOf_2 (kBody_0 hk0) rc0 (by decide) wfX0_25 rfl ?_
  refine e_isub dX0_weightOf_5 ?_
  obtain ⟨x1, ex1, h⟩ := vlet_ex h
  refine e_nameI ex1.symm ?_
  clear ex1
  refine e_istore_n (lv' := [(2, .int x1), (0, .ref k0), (1, .int a1)]) dX0_weightOf_6 (by decide) rfl ?_
  refine e_iload_n dX0_weightOf_7 rfl ?_
  refine e_iconst (x := (1 : Int32)) dX0_weightOf_8 (by decide) ?_
  refine e_iadd dX0_weightOf_9 ?_
  refine e_aload_n dX0_weightOf_10 rfl ?_
  refine e_get (j := 3) dX0_weightOf_11 (kBody_0 hk0) rc0 (by decide) wfX0_28 rfl ?_
  refine e_iload_n dX0_weightOf_14 rfl ?_
  refine e_isub dX0_weightOf_15 ?_
  refine e_iconst (x := (1 : Int32)) dX0_weightOf_16 (by decide) ?_
  refine e_iadd dX0_weightOf_17 ?_
  refine e_imul dX0_weightOf_18 ?_
  refine e_bipush (x := (10 : Int32)) dX0_weightOf_19 (by decide) ?_
  refine e_aload_n dX0_weightOf_21 rfl ?_
  refine e_get (j := 0) dX0_weightOf_22 (kBody_0 hk0) rc0 (by decide) wfX0_9 (gBody_0 hk0) ?_
  refine e_bipush (x := (11 : Int32)) dX0_weightOf_25 (by decide) ?_
  refine e_ialdJ dX0_weightOf_27 (kBody_1 hk0) (j := 11) (by decide) (by decide) (by decide) ?_
  refine e_iload_n dX0_weightOf_28 rfl ?_
  refine e_imul dX0_weightOf_29 ?_
  refine e_iadd dX0_weightOf_30 ?_
  refine e_imul dX0_weightOf_31 ?_
  subst h
  exact e_iret dX0_weightOf_32 rfl rfl ⟨rfl, rfl, rfl⟩
def f_X0_become (v : rV) (k0 : Nat) (k1 : Nat) (a2 : Int32) (a3 : Int32) : Option (rV) := vlet (rCp v (k0 + 1) k1 0 0 12) fun v1 =>
  vlet (rI v1 k0 1 a2) fun v2 =>
  vlet (rI v2 k0 2 a3) fun v3 =>
  vlet (rI v3 k0 3 ((a3 + (v3.1 k1 1)) - (1 : Int32))) fun v4 =>
  vlet (rI v4 k0 4 (0 : Int32)) fun v5 =>
  some v5
set_option maxRecDepth 20000 in
theorem x_X0_become {X : Nat × (Nat → Int32)} {v : rV} {r : rV} {k0 : Nat} {k1 : Nat} {a2 : Int32} {a3 : Int32} (hk0 : isBody k0 = true) (hk1 : isIA k1 12) (h : f_X0_become v k0 k1 a2 a3 = some r) : EvM mX0_become 1 0 0 [.ref k0, .ref k1, .int a2, .int a3] (rZ X) v (rPV X r) := by
  refine evm_of (by decide +kernel) (fun G => Nat.le_of_ble_eq_true rfl) ?_
  show Ev mX0_become 1 0 0 0 [(0, .ref k0), (1, .ref k1), (2, .int a2), (3, .int a3)] [] (rZ X) v _
  unfold f_X0_become at h
  refine e_aload_n dX0_become_0 rfl ?_
  refine e_iconst (x := (0 : Int32)) dX0_become_1 (by decide) ?_
  refine e_aload_n dX0_become_2 rfl ?_
  refine e_get (j := 0) dX0_become_3 (kBody_0 hk0) rc0 (by decide) wfX0_9 (gBody_0 hk0) ?_
  refine e_iconst (x := (0 : Int32)) dX0_become_6 (by decide) ?_
  refine e_bipush (x := (12 : Int32)) dX0_become_7 (by decide) ?_
  refine e_copy dX0_become_9 wmX0_15 wnative wcopystat winisys hk1 (kBody_1 hk0) rfl (by decide) (by decide) (by decide) (by decide) (by decide) (Nat.le_of_ble_eq_true rfl) (by decide) ?_
  obtain ⟨v1, ev1, h⟩ := vlet_ex h
  refine e_nameV ev1.symm ?_
  clear ev1
  refine e_aload_n dX0_become_12 rfl ?_
  refine e_iload_n dX0_become_13 rfl ?_
  refine e_putI (j := 1) dX0_become_14 (kBody_0 hk0) rc0 (by decide) wfX0_21 rfl rfl ?_
  obtain ⟨v2, ev2, h⟩ := vlet_ex h
  refine e_nameV ev2.symm ?_
  clear ev2
  refine e_aload_n dX0_become_17 rfl ?_
  refine e_iload_n dX0_become_18 rfl ?_
  refine e_putI (j := 2) dX0_become_19 (kBody_0 hk0) rc0 (by decide) wfX0_25 rfl rfl ?_
  obtain ⟨v3, ev3, h⟩ := vlet_ex h
  refine e_nameV ev3.symm ?_
  clear ev3
  refine e_aload_n dX0_become_22 rfl ?_
  refine e_iload_n dX0_become_23 rfl ?_
  refine e_aload_n dX0_become_24 rfl ?_
  refine e_iconst (x := (1 : Int32)) dX0_become_25 (by decide) ?_
  refine e_ialdJ dX0_become_26 hk1 (j := 1) (by decide) (by decide) (by decide) ?_
  refine e_iadd dX0_become_27 ?_
  refine e_iconst (x := (1 : Int32)) dX0_become_28 (by decide) ?_
  refine e_isub dX0_become_29 ?_
  refine e_putI (j := 3) dX0_become_30 (kBody_0 hk0) rc0 (by decide) wfX0_28 rfl rfl ?_
  obtain ⟨v4, ev4, h⟩ := vlet_ex h
  refine e_nameV ev4.symm ?_
  clear ev4
  refine e_aload_n dX0_become_33 rfl ?_
  refine e_iconst (x := (0 : Int32)) dX0_become_34 (by decide) ?_
  refine e_putI (j := 4) dX0_become_35 (kBody_0 hk0) rc0 (by decide) wfX0_31 rfl rfl ?_
  obtain ⟨v5, ev5, h⟩ := vlet_ex h
  refine e_nameV ev5.symm ?_
  clear ev5
  obtain rfl := Option.some.inj h
  exact e_ret dX0_become_38 rfl ⟨rfl, rfl, rfl⟩
def f_X0_copy (v : rV) (k0 : Nat) (k1 : Nat) : Option (rV) := vlet (rCp v (k0 + 1) (k1 + 1) 0 0 12) fun v1 =>
  vlet (rI v1 k0 1 (v1.1 k1 1)) fun v2 =>
  vlet (rI v2 k0 2 (v2.1 k1 2)) fun v3 =>
  vlet (rI v3 k0 3 (v3.1 k1 3)) fun v4 =>
  vlet (rI v4 k0 4 (v4.1 k1 4)) fun v5 =>
  some v5
set_option maxRecDepth 20000 in
theorem x_X0_copy {X : Nat × (Nat → Int32)} {v : rV} {r : rV} {k0 : Nat} {k1 : Nat} (hk0 : isBody k0 = true) (hk1 : isBody k1 = true) (h : f_X0_copy v k0 k1 = some r) : EvM mX0_copy 1 0 0 [.ref k0, .ref k1] (rZ X) v (rPV X r) := by
  refine evm_of (by decide +kernel) (fun G => Nat.le_of_ble_eq_true rfl) ?_
  show Ev mX0_copy 1 0 0 0 [(0, .ref k0), (1, .ref k1)] [] (rZ X) v _
  unfold f_X0_copy at h
  refine e_aload_n dX0_copy_0 rfl ?_
  refine e_get (j := 0) dX0_copy_1 (kBody_0 hk1) rc0 (by decide) wfX0_9 (gBody_0 hk1) ?_
  refine e_iconst (x := (0 : Int32)) dX0_copy_4 (by decide) ?_
  refine e_aload_n dX0_copy_5 rfl ?_
  refine e_get (j := 0) dX0_copy_6 (kBody_0 hk0) rc0 (by decide) wfX0_9 (gBody_0 hk0) ?_
  refine e_iconst (x := (0 : Int32)) dX0_copy_9 (by decide) ?_
  refine e_bipush (x := (12 : Int32)) dX0_copy_10 (by decide) ?_
  refine e_copy dX0_copy_12 wmX0_15 wnative wcopystat winisys (kBody_1 hk1) (kBody_1 hk0) rfl (by decide) (by decide) (by decide) (by decide) (by decide) (Nat.le_of_ble_eq_true rfl) (by decide) ?_
  obtain ⟨v1, ev1, h⟩ := vlet_ex h
  refine e_nameV ev1.symm ?_
  clear ev1
  refine e_aload_n dX0_copy_15 rfl ?_
  refine e_aload_n dX0_copy_16 rfl ?_
  refine e_get (j := 1) dX0_copy_17 (kBody_0 hk1) rc0 (by decide) wfX0_21 rfl ?_
  refine e_putI (j := 1) dX0_copy_20 (kBody_0 hk0) rc0 (by decide) wfX0_21 rfl rfl ?_
  obtain ⟨v2, ev2, h⟩ := vlet_ex h
  refine e_nameV ev2.symm ?_
  clear ev2
  refine e_aload_n dX0_copy_23 rfl ?_
  refine e_aload_n dX0_copy_24 rfl ?_
  refine e_get (j := 2) dX0_copy_25 (kBody_0 hk1) rc0 (by decide) wfX0_25 rfl ?_
  refine e_putI (j := 2) dX0_copy_28 (kBody_0 hk0) rc0 (by decide) wfX0_25 rfl rfl ?_
  obtain ⟨v3, ev3, h⟩ := vlet_ex h
  refine e_nameV ev3.symm ?_
  clear ev3
  refine e_aload_n dX0_copy_31 rfl ?_
  refine e_aload_n dX0_copy_32 rfl ?_
  refine e_get (j := 3) dX0_copy_33 (kBody_0 hk1) rc0 (by decide) wfX0_28 rfl ?_
  refine e_putI (j := 3) dX0_copy_36 (kBody_0 hk0) rc0 (by decide) wfX0_28 rfl rfl ?_
  obtain ⟨v4, ev4, h⟩ := vlet_ex h
  refine e_nameV ev4.symm ?_
  clear ev4
  refine e_aload_n dX0_copy_39 rfl ?_
  refine e_aload_n dX0_copy_40 rfl ?_
  refine e_get (j := 4) dX0_copy_41 (kBody_0 hk1) rc0 (by decide) wfX0_31 rfl ?_
  refine e_putI (j := 4) dX0_copy_44 (kBody_0 hk0) rc0 (by decide) wfX0_31 rfl rfl ?_
  obtain ⟨v5, ev5, h⟩ := vlet_ex h
  refine e_nameV ev5.symm ?_
  clear ev5
  obtain rfl := Option.some.inj h
  exact e_ret dX0_copy_47 rfl ⟨rfl, rfl, rfl⟩
