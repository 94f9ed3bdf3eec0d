/-! methods as functions over the numbered heap: 19.fnC -/
def f_X7_about (v : rV) (a1 : Int32) : Option (Int32) := (f_X5_tell v 60 a1).bind fun p1 =>
  some p1
set_option maxRecDepth 20000 in
theorem x_X7_about {X : Nat × (Nat → Int32)} {v : rV} {r : Int32} {a1 : Int32}  (h : f_X7_about v a1 = some r) : EvM mX7_about 4 0 0 [.ref 0, .int a1] (rZ X) v (rPI X (r, v)) := by
  refine evm_of (by decide +kernel) (fun G => Nat.le_of_ble_eq_true rfl) ?_
  show Ev mX7_about 4 0 0 0 [(0, .ref 0), (1, .int a1)] [] (rZ X) v _
  unfold f_X7_about at h
  refine e_aload_n dX7_about_0 rfl ?_
  refine e_get (w := .ref 60) (j := 10) dX7_about_1 k0_0 rc7 (by decide) wfX7_63 (g0_0_10) ?_
  refine e_iload_n dX7_about_4 rfl ?_
  obtain ⟨p1, ep1, h⟩ := Option.bind_eq_some_iff.mp h
  refine c_VI (M' := mX5_tell) [.int a1] dX7_about_5 rfl wmX7_212 imX5_tell seX5_tell lkX5_tell k0_60 rc5 (Nat.le_of_ble_eq_true rfl) ((x_X5_tell (by decide) ep1).mono (by omega)) ?_
  obtain rfl := Option.some.inj h
  exact e_iret dX7_about_8 rfl rfl ⟨rfl, rfl, rfl⟩
def f_X7_lay (v : rV) (a1 : Int32) (k2 : Nat) (a3 : Int64) : Option (rV) := (f_X4_at v 9 a1).bind fun p1 =>
  if isForm p1 = true then
  ((f_X5_clear v 98 p1 a3).bind fun p2 =>
  (f_X5_put p2 98 k2 (0 : Int32) (p2.1 k2 0)).bind fun p3 =>
  (f_X5_begin p3 98).bind fun p4 =>
  some p4) else none
set_option maxRecDepth 20000 in
theorem x_X7_lay {X : Nat × (Nat → Int32)} {v : rV} {r : rV} {a1 : Int32} {k2 : Nat} {a3 : Int64} (hk2 : isIA k2 12) (h : f_X7_lay v a1 k2 a3 = some r) : EvM mX7_lay 4 0 0 [.ref 0, .int a1, .ref k2, .long a3] (rZ X) v (rPV X r) := by
  refine evm_of (by decide +kernel) (fun G => Nat.le_of_ble_eq_true rfl) ?_
  show Ev mX7_lay 4 0 0 0 [(0, .ref 0), (1, .int a1), (2, .ref k2), (3, .long a3)] [] (rZ X) v _
  unfold f_X7_lay at h
  refine e_aload_n dX7_lay_0 rfl ?_
  refine e_get (w := .ref 98) (j := 11) dX7_lay_1 k0_0 rc7 (by decide) wfX7_67 (g0_0_11) ?_
  refine e_aload_n dX7_lay_4 rfl ?_
  refine e_get (w := .ref 9) (j := 3) dX7_lay_5 k0_0 rc7 (by decide) wfX7_35 (g0_0_3) ?_
  refine e_iload_n dX7_lay_8 rfl ?_
  obtain ⟨p1, ep1, h⟩ := Option.bind_eq_some_iff.mp h
  refine c_VA (M' := mX4_at) [.int a1] dX7_lay_9 rfl wmX7_159 imX4_at seX4_at lkX4_at k0_9 rc4 (Nat.le_of_ble_eq_true rfl) ((x_X4_at (by decide) ep1).mono (by omega)) ?_
  obtain ⟨hfp1, h⟩ := grd h
  refine e_lload_n dX7_lay_12 rfl ?_
  obtain ⟨p2, ep2, h⟩ := Option.bind_eq_some_iff.mp h
  refine c_VV (M' := mX5_clear) [.ref p1, .long a3] dX7_lay_13 rfl wmX7_163 imX5_clear seX5_clear lkX5_clear k0_98 rc5 (Nat.le_of_ble_eq_true rfl) ((x_X5_clear (by decide) hfp1 ep2).mono (by omega)) ?_
  refine e_aload_n dX7_lay_16 rfl ?_
  refine e_get (w := .ref 98) (j := 11) dX7_lay_17 k0_0 rc7 (by decide) wfX7_67 (g0_0_11) ?_
  refine e_aload_n dX7_lay_20 rfl ?_
  refine e_iconst (x := (0 : Int32)) dX7_lay_21 (by decide) ?_
  refine e_aload_n dX7_lay_22 rfl ?_
  refine e_iconst (x := (0 : Int32)) dX7_lay_23 (by decide) ?_
  refine e_ialdJ dX7_lay_24 hk2 (j := 0) (by decide) (by decide) (by decide) ?_
  obtain ⟨p3, ep3, h⟩ := Option.bind_eq_some_iff.mp h
  refine c_VV (M' := mX5_put) [.ref k2, .int (0 : Int32), .int (p2.1 k2 0)] dX7_lay_25 rfl wmX7_167 imX5_put seX5_put lkX5_put k0_98 rc5 (Nat.le_of_ble_eq_true rfl) ((x_X5_put (by decide) hk2 ep3).mono (by omega)) ?_
  refine e_aload_n dX7_lay_28 rfl ?_
  refine e_get (w := .ref 98) (j := 11) dX7_lay_29 k0_0 rc7 (by decide) wfX7_67 (g0_0_11) ?_
  obtain ⟨p4, ep4, h⟩ := Option.bind_eq_some_iff.mp h
  refine c_VV (M' := mX5_begin) [] dX7_lay_32 rfl wmX7_171 imX5_begin seX5_begin lkX5_begin k0_98 rc5 (Nat.le_of_ble_eq_true rfl) ((x_X5_begin (by decide) ep4).mono (by omega)) ?_
  obtain rfl := Option.some.inj h
  exact e_ret dX7_lay_35 rfl ⟨rfl, rfl, rfl⟩
def f_X7_tryAlone (v : rV) (a1 : Int32) (k2 : Nat) (a3 : Int64) (a5 : Int32) : Option (rV) := (f_X7_lay v a1 k2 a3).bind fun p1 =>
  (f_X5_goOn p1 98 a5 (p1.1 0 15)).bind fun p2 =>
  some p2.2
set_option maxRecDepth 20000 in
theorem x_X7_tryAlone {X : Nat × (Nat → Int32)} {v : rV} {r : rV} {a1 : Int32} {k2 : Nat} {a3 : Int64} {a5 : Int32} (hk2 : isIA k2 12) (h : f_X7_tryAlone v a1 k2 a3 a5 = some r) : EvM mX7_tryAlone 6 0 0 [.ref 0, .int a1, .ref k2, .long a3, .int a5] (rZ X) v (rPV X r) := by
  refine evm_of (by decide +kernel) (fun G => Nat.le_of_ble_eq_true rfl) ?_
  show Ev mX7_tryAlone 6 0 0 0 [(0, .ref 0), (1, .int a1), (2, .ref k2), (3, .long a3), (5, .int a5)] [] (rZ X) v _
  unfold f_X7_tryAlone at h
  refine e_aload_n dX7_tryAlone_0 rfl ?_
  refine e_iload_n dX7_tryAlone_1 rfl ?_
  refine e_aload_n dX7_tryAlone_2 rfl ?_
  refine e_lload_n dX7_tryAlone_3 rfl ?_
  obtain ⟨p1, ep1, h⟩ := Option.bind_eq_some_iff.mp h
  refine c_VV (M' := mX7_lay) [.int a1, .ref k2, .long a3] dX7_tryAlone_4 rfl wmX7_263 imX7_lay seX7_lay lkX7_lay k0_0 rc7 (Nat.le_of_ble_eq_true rfl) ((x_X7_lay hk2 ep1).mono (by omega)) ?_
  refine e_aload_n dX7_tryAlone_7 rfl ?_
  refine e_get (w := .ref 98) (j := 11) dX7_tryAlone_8 k0_0 rc7 (by decide) wfX7_67 (g0_0_11) ?_
  refine e_iload dX7_tryAlone_11 rfl ?_
  refine e_aload_n dX7_tryAlone_13 rfl ?_
  refine e_get (w := .int (p1.1 0 15)) (j := 15) dX7_tryAlone_14 k0_0 rc7 (by decide) wfX7_73 rfl ?_
  obtain ⟨p2, ep2, h⟩ := Option.bind_eq_some_iff.mp h
  refine c_VI (M' := mX5_goOn) [.int a5, .int (p1.1 0 15)] dX7_tryAlone_17 rfl wmX7_180 imX5_goOn seX5_goOn lkX5_goOn k0_98 rc5 (Nat.le_of_ble_eq_true rfl) ((x_X5_goOn (by decide) ep2).mono (by omega)) ?_
  refine e_pop dX7_tryAlone_20 rfl ?_
  obtain rfl := Option.some.inj h
  exact e_ret dX7_tryAlone_21 rfl ⟨rfl, rfl, rfl⟩
def f_X7_alike_184  (q105 : rV → Int32 → Int32 → Int32 → Int32 → Int32 → Option (Int32 × rV)) (v : rV) (a2 : Int32) (a3 : Int32) (a7 : Int32) (a8 : Int32) (a9 : Int32) : Option (Int32 × rV) := vlet (a9 + (1 : Int32)) fun x17 =>
  q105 v a2 a3 a7 a8 x17
def f_X7_alike_178  (q105 : rV → Int32 → Int32 → Int32 → Int32 → Int32 → Option (Int32 × rV)) (v : rV) (a2 : Int32) (a3 : Int32) (a7 : Int32) (a8 : Int32) (a9 : Int32) (s0 : Int32) (s1 : Int32) : Option (Int32 × rV) := if s1 = s0 then
  (vlet (a8 + (1 : Int32)) fun x18 =>
  f_X7_alike_184 q105 v a2 a3 a7 x18 a9)
else
  (f_X7_alike_184 q105 v a2 a3 a7 a8 a9)
def f_X7_alike_157  (q105 : rV → Int32 → Int32 → Int32 → Int32 → Int32 → Option (Int32 × rV)) (v : rV) (a2 : Int32) (a3 : Int32) (a7 : Int32) (a8 : Int32) (a9 : Int32) (a11 : Int32) (s0 : Int32) : Option (Int32 × rV) := if (f_X7_isCell a11) = true then
  ((f_X5_lyingAt v 98 a11).bind fun p20 =>
  f_X7_alike_178 q105 v a2 a3 a7 a8 a9 p20 s0)
else
  (f_X7_alike_178 q105 v a2 a3 a7 a8 a9 (0 : Int32) s0)
def f_X7_alike_105   : Nat → rV → Int32 → Int32 → Int32 → Int32 → Int32 → Option (Int32 × rV)
  | 0, _, _, _, _, _, _ => none
  | n + 1, v, a2, a3, a7, a8, a9 => if a7 ≤ a9 then
  (some (a8, v))
else
  (if ¬ a2 < 0 ∧ a2.toNatClampNeg < 12 then
  (vlet ((v.1 (38 + a2.toNatClampNeg) 0) + a9 : Int32) fun x12 =>
  if ¬ a3 < 0 ∧ a3.toNatClampNeg < 12 then
  (vlet ((v.1 (38 + a3.toNatClampNeg) 0) + a9 : Int32) fun x14 =>
  if (f_X7_isCell x12) = true then
  (if ¬ x12 < 0 ∧ x12.toNatClampNeg < 24 then
  (f_X7_alike_157 (fun v a2 a3 a7 a8 a9 => f_X7_alike_105  n v a2 a3 a7 a8 a9) v a2 a3 a7 a8 a9 x14 (v.1 59 x12.toNatClampNeg))
else none)
else
  (f_X7_alike_157 (fun v a2 a3 a7 a8 a9 => f_X7_alike_105  n v a2 a3 a7 a8 a9) v a2 a3 a7 a8 a9 x14 (0 : Int32)))
else none)
else none)
def f_X7_alike (v : rV) (a1 : Int32) (a2 : Int32) (a3 : Int32) (a4 : Int64) (a6 : Int32) : Option (Int32 × rV) := if (f_X4_has v 9 a1) = true then
  (if (f_X7_isDrop v a2) = true then
  (if (f_X7_isDrop v a3) = true then
  (if (f_X7_areTicks a6) = true then
  (if ¬ a2 < 0 ∧ a2.toNatClampNeg < 12 then
  ((f_X7_tryAlone v a1 (38 + a2.toNatClampNeg) a4 a6).bind fun p6 =>
  (f_X5_writeLying p6 98 59).bind fun p7 =>
  if ¬ a3 < 0 ∧ a3.toNatClampNeg < 12 then
  ((f_X7_tryAlone p7 a1 (38 + a3.toNatClampNeg) a4 a6).bind fun p9 =>
  vlet (if (p9.1 (38 + a2.toNatClampNeg) 1) < (p9.1 (38 + a3.toNatClampNeg) 1) then (p9.1 (38 + a3.toNatClampNeg) 1) else (p9.1 (38 + a2.toNatClampNeg) 1) : Int32) fun x10 =>
  f_X7_alike_105  20000 p9 a2 a3 x10 (0 : Int32) (0 : Int32))
else none)
else none)
else
  (some ((-1 : Int32), v)))
else
  (some ((-1 : Int32), v)))
else
  (some ((-1 : Int32), v)))
else
  (some ((-1 : Int32), v))
set_option maxRecDepth 20000 in
theorem b_X7_alike_184 {X : Nat × (Nat → Int32)} {r : Int32 × rV} {v : rV} {q105 : rV → Int32 → Int32 → Int32 → Int32 → Int32 → Option (Int32 × rV)} (hq105 : ∀ (v : rV) (a2 : Int32) (a3 : Int32) (a7 : Int32) (a8 : Int32) (a9 : Int32) , q105 v a2 a3 a7 a8 a9 = some r → Ev mX7_alike 7 0 0 105 [(0, .ref 0), (2, .int a2), (3, .int a3), (7, .int a7), (8, .int a8), (9, .int a9)] [] (rZ X) v (rPI X r)) {a2 : Int32} {a3 : Int32} {a7 : Int32} {a8 : Int32} {a9 : Int32}  (h : f_X7_alike_184 q105 v a2 a3 a7 a8 a9 = some r) : Ev mX7_alike 7 0 0 184 [(0, .ref 0), (2, .int a2), (3, .int a3), (7, .int a7), (8, .int a8), (9, .int a9)] [] (rZ X) v (rPI X r) := by
  unfold f_X7_alike_184 at h
  obtain ⟨x17, ex17, h⟩ := vlet_ex h
  refine e_iinc (lv' := [(9, .int x17), (0, .ref 0), (2, .int a2), (3, .int a3), (7, .int a7), (8, .int a8)]) dX7_alike_184 rfl (ex17.symm) (by decide) rfl ?_
  clear ex17
  refine e_goto (tgt := 105) dX7_alike_187 (by decide) ?_
  refine e_sub [1, 2, 3, 4, 5, 0] rfl ?_
  exact hq105 v a2 a3 a7 a8 x17 h
set_option maxRecDepth 20000 in
theorem b_X7_alike_178 {X : Nat × (Nat → Int32)} {r : Int32 × rV} {v : rV} {q105 : rV → Int32 → Int32 → Int32 → Int32 → Int32 → Option (Int32 × rV)} (hq105 : ∀ (v : rV) (a2 : Int32) (a3 : Int32) (a7 : Int32) (a8 : Int32) (a9 : Int32) , q105 v a2 a3 a7 a8 a9 = some r → Ev mX7_alike 7 0 0 105 [(0, .ref 0), (2, .int a2), (3, .int a3), (7, .int a7), (8, .int a8), (9, .int a9)] [] (rZ X) v (rPI X r)) {a2 : Int32} {a3 : Int32} {a7 : Int32} {a8 : Int32} {a9 : Int32} {s0 : Int32} {s1 : Int32}  (h : f_X7_alike_178 q105 v a2 a3 a7 a8 a9 s0 s1 = some r) : Ev mX7_alike 7 0 0 178 [(0, .ref 0), (2, .int a2), (3, .int a3), (7, .int a7), (8, .int a8), (9, .int a9)] [.int s0, .int s1] (rZ X) v (rPI X r) := by
  unfold f_X7_alike_178 at h
  refine e_icmp_ne (tgt := 184) dX7_alike_178 (by decide) (fun c19 => ?_) (fun c19 => ?_)
  · rw [if_neg c19] at h
    exact b_X7_alike_184 hq105 h
  · rw [if_pos c19] at h
    obtain ⟨x18, ex18, h⟩ := vlet_ex h
    refine e_iinc (lv' := [(8, .int x18), (0, .ref 0), (2, .int a2), (3, .int a3), (7, .int a7), (9, .int a9)]) dX7_alike_181 rfl (ex18.symm) (by decide) rfl ?_
    clear ex18
    refine e_sub [1, 2, 3, 4, 0, 5] rfl ?_
    exact b_X7_alike_184 hq105 h
set_option maxRecDepth 20000 in
theorem b_X7_alike_157 {X : Nat × (Nat → Int32)} {r : Int32 × rV} {v : rV} {q105 : rV → Int32 → Int32 → Int32 → Int32 → Int32 → Option (Int32 × rV)} (hq105 : ∀ (v : rV) (a2 : Int32) (a3 : Int32) (a7 : Int32) (a8 : Int32) (a9 : Int32) , q105 v a2 a3 a7 a8 a9 = some r → Ev mX7_alike 7 0 0 105 [(0, .ref 0), (2, .int a2), (3, .int a3), (7, .int a7), (8, .int a8), (9, .int a9)] [] (rZ X) v (rPI X r)) {a2 : Int32} {a3 : Int32} {a7 : Int32} {a8 : Int32} {a9 : Int32} {a11 : Int32} {s0 : Int32}  (h : f_X7_alike_157 q105 v a2 a3 a7 a8 a9 a11 s0 = some r) : Ev mX7_alike 7 0 0 157 [(0, .ref 0), (2, .int a2), (3, .int a3), (7, .int a7), (8, .int a8), (9, .int a9), (11, .int a11)] [.int s0] (rZ X) v (rPI X r) := by
  unfold f_X7_alike_157 at h
  refine e_iload dX7_alike_157 rfl ?_
  refine c_SZ (M' := mX7_isCell) [.int a11] dX7_alike_159 rfl wmX7_187 stX7_isCell lkX7_isCell (Nat.le_of_ble_eq_true rfl) ((x_X7_isCell ).mono (by omega)) ?_
  refine e_if_eq (tgt := 177) dX7_alike_162 (by decide) (fun c21 => ?_) (fun c21 => ?_)
  · rw [if_neg (bI_n c21)] at h
    refine e_iconst (x := (0 : Int32)) dX7_alike_177 (by decide) ?_
    refine e_sub [0, 1, 2, 3, 4, 5] rfl ?_
    exact b_X7_alike_178 hq105 h
  · rw [if_pos (bI_p c21)] at h
    refine e_aload_n dX7_alike_165 rfl ?_
    refine e_get (w := .ref 98) (j := 11) dX7_alike_166 k0_0 rc7 (by decide) wfX7_67 (g0_0_11) ?_
    refine e_iload dX7_alike_169 rfl ?_
    obtain ⟨p20, ep20, h⟩ := Option.bind_eq_some_iff.mp h
    refine c_VI (M' := mX5_lyingAt) [.int a11] dX7_alike_171 rfl wmX7_205 imX5_lyingAt seX5_lyingAt lkX5_lyingAt k0_98 rc5 (Nat.le_of_ble_eq_true rfl) ((x_X5_lyingAt (by decide) ep20).mono (by omega)) ?_
    refine e_goto (tgt := 178) dX7_alike_174 (by decide) ?_
    refine e_sub [0, 1, 2, 3, 4, 5] rfl ?_
    exact b_X7_alike_178 hq105 h
set_option maxRecDepth 20000 in
theorem b_X7_alike_105 {X : Nat × (Nat → Int32)} {r : Int32 × rV}   : ∀ (n : Nat) (v : rV) (a2 : Int32) (a3 : Int32) (a7 : Int32) (a8 : Int32) (a9 : Int32) , f_X7_alike_105   n v a2 a3 a7 a8 a9 = some r → Ev mX7_alike 7 0 0 105 [(0, .ref 0), (2, .int a2), (3, .int a3), (7, .int a7), (8, .int a8), (9, .int a9)] [] (rZ X) v (rPI X r) := by
  intro n
  induction n with
  | zero =>
    intros
    rename_i h
    cases h
  | succ n ih =>
    intro v a2 a3 a7 a8 a9 h
    rw [f_X7_alike_105] at h
    refine e_iload dX7_alike_105 rfl ?_
    refine e_iload dX7_alike_107 rfl ?_
    refine e_icmp_ge (tgt := 190) dX7_alike_109 (by decide) (fun c24 => ?_) (fun c24 => ?_)
    · rw [if_pos c24] at h
      refine e_iload dX7_alike_190 rfl ?_
      obtain rfl := Option.some.inj h
      exact e_iret dX7_alike_192 rfl rfl ⟨rfl, rfl, rfl⟩
    · rw [if_neg c24] at h
      refine e_aload_n dX7_alike_112 rfl ?_
      refine e_get (w := .ref 37) (j := 5) dX7_alike_113 k0_0 rc7 (by decide) wfX7_44 (g0_0_5) ?_
      refine e_iload_n dX7_alike_116 rfl ?_
      obtain ⟨c11, h⟩ := grd h
      refine e_aaldJ dX7_alike_117 k0_37 rfl rfl c11.2 c11.1 (r0_37 (c11).2) ?_
      refine e_iconst (x := (0 : Int32)) dX7_alike_118 (by decide) ?_
      refine e_ialdJ dX7_alike_119 (q0_37 (c11).2) (j := 0) (by decide) (by decide) (by decide) ?_
      refine e_iload dX7_alike_120 rfl ?_
      refine e_iadd dX7_alike_122 ?_
      obtain ⟨x12, ex12, h⟩ := vlet_ex h
      refine e_nameI ex12.symm ?_
      clear ex12
      refine e_istore (lv' := [(10, .int x12), (0, .ref 0), (2, .int a2), (3, .int a3), (7, .int a7), (8, .int a8), (9, .int a9)]) dX7_alike_123 (by decide) rfl ?_
      refine e_aload_n dX7_alike_125 rfl ?_
      refine e_get (w := .ref 37) (j := 5) dX7_alike_126 k0_0 rc7 (by decide) wfX7_44 (g0_0_5) ?_
      refine e_iload_n dX7_alike_129 rfl ?_
      obtain ⟨c13, h⟩ := grd h
      refine e_aaldJ dX7_alike_130 k0_37 rfl rfl c13.2 c13.1 (r0_37 (c13).2) ?_
      refine e_iconst (x := (0 : Int32)) dX7_alike_131 (by decide) ?_
      refine e_ialdJ dX7_alike_132 (q0_37 (c13).2) (j := 0) (by decide) (by decide) (by decide) ?_
      refine e_iload dX7_alike_133 rfl ?_
      refine e_iadd dX7_alike_135 ?_
      obtain ⟨x14, ex14, h⟩ := vlet_ex h
      refine e_nameI ex14.symm ?_
      clear ex14
      refine e_istore (lv' := [(11, .int x14), (10, .int x12), (0, .ref 0), (2, .int a2), (3, .int a3), (7, .int a7), (8, .int a8), (9, .int a9)]) dX7_alike_136 (by decide) rfl ?_
      refine e_iload dX7_alike_138 rfl ?_
      refine c_SZ (M' := mX7_isCell) [.int x12] dX7_alike_140 rfl wmX7_187 stX7_isCell lkX7_isCell (Nat.le_of_ble_eq_true rfl) ((x_X7_isCell ).mono (by omega)) ?_
      refine e_if_eq (tgt := 156) dX7_alike_143 (by decide) (fun c23 => ?_) (fun c23 => ?_)
      · rw [if_neg (bI_n c23)] at h
        refine e_iconst (x := (0 : Int32)) dX7_alike_156 (by decide) ?_
        refine e_sub [2, 3, 4, 5, 6, 7, 0] rfl ?_
        exact b_X7_alike_157 (fun v a2 a3 a7 a8 a9  hh => ih v a2 a3 a7 a8 a9  hh) h
      · rw [if_pos (bI_p c23)] at h
        refine e_aload_n dX7_alike_146 rfl ?_
        refine e_get (w := .ref 59) (j := 9) dX7_alike_147 k0_0 rc7 (by decide) wfX7_57 (g0_0_9) ?_
        refine e_iload dX7_alike_150 rfl ?_
        obtain ⟨c22, h⟩ := grd h
        refine e_ialdJ dX7_alike_152 k0_59 rfl c22.2 c22.1 ?_
        refine e_goto (tgt := 157) dX7_alike_153 (by decide) ?_
        refine e_sub [2, 3, 4, 5, 6, 7, 0] rfl ?_
        exact b_X7_alike_157 (fun v a2 a3 a7 a8 a9  hh => ih v a2 a3 a7 a8 a9  hh) h
set_option maxRecDepth 20000 in
theorem x_X7_alike {X : Nat × (Nat → Int32)} {v : rV} {r : Int32 × rV} {a1 : Int32} {a2 : Int32} {a3 : Int32} {a4 : Int64} {a6 : Int32}  (h : f_X7_alike v a1 a2 a3 a4 a6 = some r) : EvM mX7_alike 7 0 0 [.ref 0, .int a1, .int a2, .int a3, .long a4, .int a6] (rZ X) v (rPI X r) := by
  refine evm_of (by decide +kernel) (fun G => Nat.le_of_ble_eq_true rfl) ?_
  show Ev mX7_alike 7 0 0 0 [(0, .ref 0), (1, .int a1), (2, .int a2), (3, .int a3), (4, .long a4), (6, .int a6)] [] (rZ X) v _
  unfold f_X7_alike at h
  refine e_aload_n dX7_alike_0 rfl ?_
  refine e_get (w := .ref 9) (j := 3) dX7_alike_1 k0_0 rc7 (by decide) wfX7_35 (g0_0_3) ?_
  refine e_iload_n dX7_alike_4 rfl ?_
  refine c_VZ (M' := mX4_has) [.int a1] dX7_alike_5 rfl wmX7_148 imX4_has seX4_has lkX4_has k0_9 rc4 (Nat.le_of_ble_eq_true rfl) ((x_X4_has (by decide)).mono (by omega)) ?_
  refine e_if_eq (tgt := 35) dX7_alike_8 (by decide) (fun c28 => ?_) (fun c28 => ?_)
  · rw [if_neg (bI_n c28)] at h
    refine e_iconst (x := (-1 : Int32)) dX7_alike_35 (by decide) ?_
    obtain rfl := Option.some.inj h
    exact e_iret dX7_alike_36 rfl rfl ⟨rfl, rfl, rfl⟩
  · rw [if_pos (bI_p c28)] at h
    refine e_aload_n dX7_alike_11 rfl ?_
    refine e_iload_n dX7_alike_12 rfl ?_
    refine c_VZ (M' := mX7_isDrop) [.int a2] dX7_alike_13 rfl wmX7_124 imX7_isDrop seX7_isDrop lkX7_isDrop k0_0 rc7 (Nat.le_of_ble_eq_true rfl) ((x_X7_isDrop ).mono (by omega)) ?_
    refine e_if_eq (tgt := 35) dX7_alike_16 (by decide) (fun c27 => ?_) (fun c27 => ?_)
    · rw [if_neg (bI_n c27)] at h
      refine e_iconst (x := (-1 : Int32)) dX7_alike_35 (by decide) ?_
      obtain rfl := Option.some.inj h
      exact e_iret dX7_alike_36 rfl rfl ⟨rfl, rfl, rfl⟩
    · rw [if_pos (bI_p c27)] at h
      refine e_aload_n dX7_alike_19 rfl ?_
      refine e_iload_n dX7_alike_20 rfl ?_
      refine c_VZ (M' := mX7_isDrop) [.int a3] dX7_alike_21 rfl wmX7_124 imX7_isDrop seX7_isDrop lkX7_isDrop k0_0 rc7 (Nat.le_of_ble_eq_true rfl) ((x_X7_isDrop ).mono (by omega)) ?_
      refine e_if_eq (tgt := 35) dX7_alike_24 (by decide) (fun c26 => ?_) (fun c26 => ?_)
      · rw [if_neg (bI_n c26)] at h
        refine e_iconst (x := (-1 : Int32)) dX7_alike_35 (by decide) ?_
        obtain rfl := Option.some.inj h
        exact e_iret dX7_alike_36 rfl rfl ⟨rfl, rfl, rfl⟩
      · rw [if_pos (bI_p c26)] at h
        refine e_iload dX7_alike_27 rfl ?_
        refine c_SZ (M' := mX7_areTicks) [.int a6] dX7_alike_29 rfl wmX7_177 stX7_areTicks lkX7_areTicks (Nat.le_of_ble_eq_true rfl) ((x_X7_areTicks ).mono (by omega)) ?_
        refine e_if_ne (tgt := 37) dX7_alike_32 (by decide) (fun c25 => ?_) (fun c25 => ?_)
        · rw [if_pos (bI_p c25)] at h
          refine e_aload_n dX7_alike_37 rfl ?_
          refine e_iload_n dX7_alike_38 rfl ?_
          refine e_aload_n dX7_alike_39 rfl ?_
          refine e_get (w := .ref 37) (j := 5) dX7_alike_40 k0_0 rc7 (by decide) wfX7_44 (g0_0_5) ?_
          refine e_iload_n dX7_alike_43 rfl ?_
          obtain ⟨c5, h⟩ := grd h
          refine e_aaldJ dX7_alike_44 k0_37 rfl rfl c5.2 c5.1 (r0_37 (c5).2) ?_
          refine e_lload dX7_alike_45 rfl ?_
          refine e_iload dX7_alike_47 rfl ?_
          obtain ⟨p6, ep6, h⟩ := Option.bind_eq_some_iff.mp h
          refine c_VV (M' := mX7_tryAlone) [.int a1, .ref (38 + a2.toNatClampNeg), .long a4, .int a6] dX7_alike_49 rfl wmX7_277 imX7_tryAlone seX7_tryAlone lkX7_tryAlone k0_0 rc7 (Nat.le_of_ble_eq_true rfl) ((x_X7_tryAlone (q0_37 (X := X) (c5).2) ep6).mono (by omega)) ?_
          refine e_aload_n dX7_alike_52 rfl ?_
          refine e_get (w := .ref 98) (j := 11) dX7_alike_53 k0_0 rc7 (by decide) wfX7_67 (g0_0_11) ?_
          refine e_aload_n dX7_alike_56 rfl ?_
          refine e_get (w := .ref 59) (j := 9) dX7_alike_57 k0_0 rc7 (by decide) wfX7_57 (g0_0_9) ?_
          obtain ⟨p7, ep7, h⟩ := Option.bind_eq_some_iff.mp h
          refine c_VV (M' := mX5_writeLying) [.ref 59] dX7_alike_60 rfl wmX7_284 imX5_writeLying seX5_writeLying lkX5_writeLying k0_98 rc5 (Nat.le_of_ble_eq_true rfl) ((x_X5_writeLying (by decide) (k0_59 (X := X)) ep7).mono (by omega)) ?_
          refine e_aload_n dX7_alike_63 rfl ?_
          refine e_iload_n dX7_alike_64 rfl ?_
          refine e_aload_n dX7_alike_65 rfl ?_
          refine e_get (w := .ref 37) (j := 5) dX7_alike_66 k0_0 rc7 (by decide) wfX7_44 (g0_0_5) ?_
          refine e_iload_n dX7_alike_69 rfl ?_
          obtain ⟨c8, h⟩ := grd h
          refine e_aaldJ dX7_alike_70 k0_37 rfl rfl c8.2 c8.1 (r0_37 (c8).2) ?_
          refine e_lload dX7_alike_71 rfl ?_
          refine e_iload dX7_alike_73 rfl ?_
          obtain ⟨p9, ep9, h⟩ := Option.bind_eq_some_iff.mp h
          refine c_VV (M' := mX7_tryAlone) [.int a1, .ref (38 + a3.toNatClampNeg), .long a4, .int a6] dX7_alike_75 rfl wmX7_277 imX7_tryAlone seX7_tryAlone lkX7_tryAlone k0_0 rc7 (Nat.le_of_ble_eq_true rfl) ((x_X7_tryAlone (q0_37 (X := X) (c8).2) ep9).mono (by omega)) ?_
          refine e_aload_n dX7_alike_78 rfl ?_
          refine e_get (w := .ref 37) (j := 5) dX7_alike_79 k0_0 rc7 (by decide) wfX7_44 (g0_0_5) ?_
          refine e_iload_n dX7_alike_82 rfl ?_
          refine e_aaldJ dX7_alike_83 k0_37 rfl rfl (c5).2 (c5).1 (r0_37 (c5).2) ?_
          refine e_iconst (x := (1 : Int32)) dX7_alike_84 (by decide) ?_
          refine e_ialdJ dX7_alike_85 (q0_37 (c5).2) (j := 1) (by decide) (by decide) (by decide) ?_
          refine e_aload_n dX7_alike_86 rfl ?_
          refine e_get (w := .ref 37) (j := 5) dX7_alike_87 k0_0 rc7 (by decide) wfX7_44 (g0_0_5) ?_
          refine e_iload_n dX7_alike_90 rfl ?_
          refine e_aaldJ dX7_alike_91 k0_37 rfl rfl (c8).2 (c8).1 (r0_37 (c8).2) ?_
          refine e_iconst (x := (1 : Int32)) dX7_alike_92 (by decide) ?_
          refine e_ialdJ dX7_alike_93 (q0_37 (c8).2) (j := 1) (by decide) (by decide) (by decide) ?_
          refine e_max dX7_alike_94 wmX7_291 wmst_max winimath wmcd_max (by omega) (Nat.le_of_ble_eq_true rfl) ?_
          obtain ⟨x10, ex10, h⟩ := vlet_ex h
          refine e_nameI ex10.symm ?_
          clear ex10
          refine e_istore (lv' := [(7, .int x10), (0, .ref 0), (1, .int a1), (2, .int a2), (3, .int a3), (4, .long a4), (6, .int a6)]) dX7_alike_97 (by decide) rfl ?_
          refine e_iconst (x := (0 : Int32)) dX7_alike_99 (by decide) ?_
          refine e_istore (lv' := [(8, .int (0 : Int32)), (7, .int x10), (0, .ref 0), (1, .int a1), (2, .int a2), (3, .int a3), (4, .long a4), (6, .int a6)]) dX7_alike_100 (by decide) rfl ?_
          refine e_iconst (x := (0 : Int32)) dX7_alike_102 (by decide) ?_
          refine e_istore (lv' := [(9, .int (0 : Int32)), (8, .int (0 : Int32)), (7, .int x10), (0, .ref 0), (1, .int a1), (2, .int a2), (3, .int a3), (4, .long a4), (6, .int a6)]) dX7_alike_103 (by decide) rfl ?_
          refine e_sub [3, 5, 6, 2, 1, 0] rfl ?_
          exact b_X7_alike_105  _ p9 a2 a3 x10 (0 : Int32) (0 : Int32) h
        · rw [if_neg (bI_n c25)] at h
          refine e_iconst (x := (-1 : Int32)) dX7_alike_35 (by decide) ?_
          obtain rfl := Option.some.inj h
          exact e_iret dX7_alike_36 rfl rfl ⟨rfl, rfl, rfl⟩
def f_X7_back (v : rV)  : Option (Int32 × rV) := if (v.1 0 16) = 0 then
  (some ((-1 : Int32), v))
else
  ((f_X5_copy v 60 136).bind fun p1 =>
  some (p1.1 60 15, p1))
set_option maxRecDepth 20000 in
theorem x_X7_back {X : Nat × (Nat → Int32)} {v : rV} {r : Int32 × rV}   (h : f_X7_back v = some r) : EvM mX7_back 3 0 0 [.ref 0] (rZ X) v (rPI X r) := by
  refine evm_of (by decide +kernel) (fun G => Nat.le_of_ble_eq_true rfl) ?_
  show Ev mX7_back 3 0 0 0 [(0, .ref 0)] [] (rZ X) v _
  unfold f_X7_back at h
  refine e_aload_n dX7_back_0 rfl ?_
  refine e_get (w := .int (v.1 0 16)) (j := 16) dX7_back_1 k0_0 rc7 (by decide) wfX7_259 rfl ?_
  refine e_if_ne (tgt := 9) dX7_back_4 (by decide) (fun c2 => ?_) (fun c2 => ?_)
  · rw [if_neg c2] at h
    refine e_aload_n dX7_back_9 rfl ?_
    refine e_get (w := .ref 60) (j := 10) dX7_back_10 k0_0 rc7 (by decide) wfX7_63 (g0_0_10) ?_
    refine e_aload_n dX7_back_13 rfl ?_
    refine e_get (w := .ref 136) (j := 12) dX7_back_14 k0_0 rc7 (by decide) wfX7_70 (g0_0_12) ?_
    obtain ⟨p1, ep1, h⟩ := Option.bind_eq_some_iff.mp h
    refine c_VV (M' := mX5_copy) [.ref 136] dX7_back_17 rfl wmX7_255 imX5_copy seX5_copy lkX5_copy k0_60 rc5 (Nat.le_of_ble_eq_true rfl) ((x_X5_copy (by decide) (by decide) ep1).mono (by omega)) ?_
    refine e_aload_n dX7_back_20 rfl ?_
    refine e_get (w := .ref 60) (j := 10) dX7_back_21 k0_0 rc7 (by decide) wfX7_63 (g0_0_10) ?_
    refine e_get (w := .int (p1.1 60 15)) (j := 15) dX7_back_24 k0_60 rc5 (by decide) wfX7_224 rfl ?_
    obtain rfl := Option.some.inj h
    exact e_iret dX7_back_27 rfl rfl ⟨rfl, rfl, rfl⟩
  · rw [if_pos c2] at h
    refine e_iconst (x := (-1 : Int32)) dX7_back_7 (by decide) ?_
    obtain rfl := Option.some.inj h
    exact e_iret dX7_back_8 rfl rfl ⟨rfl, rfl, rfl⟩
def f_X7_body (v : rV) (a1 : Int32) (a2 : Int32) : Option (Int32) := (f_X5_ofBody v 60 a1 a2).bind fun p1 =>
  some p1
set_option maxRecDepth 20000 in
theorem x_X7_body {X : Nat × (Nat → Int32)} {v : rV} {r : Int32} {a1 : Int32} {a2 : Int32}  (h : f_X7_body v a1 a2 = some r) : EvM mX7_body 3 0 0 [.ref 0, .int a1, .int a2] (rZ X) v (rPI X (r, v)) := by
  refine evm_of (by decide +kernel) (fun G => Nat.le_of_ble_eq_true rfl) ?_
  show Ev mX7_body 3 0 0 0 [(0, .ref 0), (1, .int a1), (2, .int a2)] [] (rZ X) v _
  unfold f_X7_body at h
  refine e_aload_n dX7_body_0 rfl ?_
  refine e_get (w := .ref 60) (j := 10) dX7_body_1 k0_0 rc7 (by decide) wfX7_63 (g0_0_10) ?_
  refine e_iload_n dX7_body_4 rfl ?_
  refine e_iload_n dX7_body_5 rfl ?_
  obtain ⟨p1, ep1, h⟩ := Option.bind_eq_some_iff.mp h
  refine c_VI (M' := mX5_ofBody) [.int a1, .int a2] dX7_body_6 rfl wmX7_184 imX5_ofBody seX5_ofBody lkX5_ofBody k0_60 rc5 (Nat.le_of_ble_eq_true rfl) ((x_X5_ofBody (by decide) ep1).mono (by omega)) ?_
  obtain rfl := Option.some.inj h
  exact e_iret dX7_body_9 rfl rfl ⟨rfl, rfl, rfl⟩
def f_X7_canStart (v : rV) (a1 : Int32) (a2 : Int32) : Option (Bool) := if (f_X4_has v 9 a1) = true then
  (if a2 = 0 then
  (some false)
else
  (if (f_X7_areDrops v a2) = true then
  ((f_X7_areApart v a2).bind fun p3 =>
  if p3 = true then
  (some true)
else
  (some false))
else
  (some false)))
else
  (some false)
set_option maxRecDepth 20000 in
theorem x_X7_canStart {X : Nat × (Nat → Int32)} {v : rV} {r : Bool} {a1 : Int32} {a2 : Int32}  (h : f_X7_canStart v a1 a2 = some r) : EvM mX7_canStart 3 0 0 [.ref 0, .int a1, .int a2] (rZ X) v (rPZ X (r, v)) := by
  refine evm_of (by decide +kernel) (fun G => Nat.le_of_ble_eq_true rfl) ?_
  show Ev mX7_canStart 3 0 0 0 [(0, .ref 0), (1, .int a1), (2, .int a2)] [] (rZ X) v _
  unfold f_X7_canStart at h
  refine e_aload_n dX7_canStart_0 rfl ?_
  refine e_get (w := .ref 9) (j := 3) dX7_canStart_1 k0_0 rc7 (by decide) wfX7_35 (g0_0_3) ?_
  refine e_iload_n dX7_canStart_4 rfl ?_
  refine c_VZ (M' := mX4_has) [.int a1] dX7_canStart_5 rfl wmX7_148 imX4_has seX4_has lkX4_has k0_9 rc4 (Nat.le_of_ble_eq_true rfl) ((x_X4_has (by decide)).mono (by omega)) ?_
  refine e_if_eq (tgt := 35) dX7_canStart_8 (by decide) (fun c7 => ?_) (fun c7 => ?_)
  · rw [if_neg (bI_n c7)] at h
    refine e_iconst (x := (0 : Int32)) dX7_canStart_35 (by decide) ?_
    obtain rfl := Option.some.inj h
    exact e_iret dX7_canStart_36 rfl rfl ⟨rfl, rfl, rfl⟩
  · rw [if_pos (bI_p c7)] at h
    refine e_iload_n dX7_canStart_11 rfl ?_
    refine e_if_eq (tgt := 35) dX7_canStart_12 (by decide) (fun c6 => ?_) (fun c6 => ?_)
    · rw [if_pos c6] at h
      refine e_iconst (x := (0 : Int32)) dX7_canStart_35 (by decide) ?_
      obtain rfl := Option.some.inj h
      exact e_iret dX7_canStart_36 rfl rfl ⟨rfl, rfl, rfl⟩
    · rw [if_neg c6] at h
      refine e_aload_n dX7_canStart_15 rfl ?_
      refine e_iload_n dX7_canStart_16 rfl ?_
      refine c_VZ (M' := mX7_areDrops) [.int a2] dX7_canStart_17 rfl wmX7_151 imX7_areDrops seX7_areDrops lkX7_areDrops k0_0 rc7 (Nat.le_of_ble_eq_true rfl) ((x_X7_areDrops ).mono (by omega)) ?_
      refine e_if_eq (tgt := 35) dX7_canStart_20 (by decide) (fun c5 => ?_) (fun c5 => ?_)
      · rw [if_neg (bI_n c5)] at h
        refine e_iconst (x := (0 : Int32)) dX7_canStart_35 (by decide) ?_
        obtain rfl := Option.some.inj h
        exact e_iret dX7_canStart_36 rfl rfl ⟨rfl, rfl, rfl⟩
      · rw [if_pos (bI_p c5)] at h
        refine e_aload_n dX7_canStart_23 rfl ?_
        refine e_iload_n dX7_canStart_24 rfl ?_
        obtain ⟨p3, ep3, h⟩ := Option.bind_eq_some_iff.mp h
        refine c_VZ (M' := mX7_areApart) [.int a2] dX7_canStart_25 rfl wmX7_154 imX7_areApart seX7_areApart lkX7_areApart k0_0 rc7 (Nat.le_of_ble_eq_true rfl) ((x_X7_areApart  ep3).mono (by omega)) ?_
        refine e_if_eq (tgt := 35) dX7_canStart_28 (by decide) (fun c4 => ?_) (fun c4 => ?_)
        · rw [if_neg (bI_n c4)] at h
          refine e_iconst (x := (0 : Int32)) dX7_canStart_35 (by decide) ?_
          obtain rfl := Option.some.inj h
          exact e_iret dX7_canStart_36 rfl rfl ⟨rfl, rfl, rfl⟩
        · rw [if_pos (bI_p c4)] at h
          refine e_iconst (x := (1 : Int32)) dX7_canStart_31 (by decide) ?_
          refine e_goto (tgt := 36) dX7_canStart_32 (by decide) ?_
          obtain rfl := Option.some.inj h
          exact e_iret dX7_canStart_36 rfl rfl ⟨rfl, rfl, rfl⟩
def f_X7_change (v : rV) (a1 : Int32) : Option (rV) := if ¬ a1 < 0 ∧ a1.toNatClampNeg < 12 then
  (vlet (rCp v 51 (38 + a1.toNatClampNeg) 0 0 12) fun v2 =>
  some v2)
else none
set_option maxRecDepth 20000 in
theorem x_X7_change {X : Nat × (Nat → Int32)} {v : rV} {r : rV} {a1 : Int32}  (h : f_X7_change v a1 = some r) : EvM mX7_change 1 0 0 [.ref 0, .int a1] (rZ X) v (rPV X r) := by
  refine evm_of (by decide +kernel) (fun G => Nat.le_of_ble_eq_true rfl) ?_
  show Ev mX7_change 1 0 0 0 [(0, .ref 0), (1, .int a1)] [] (rZ X) v _
  unfold f_X7_change at h
  refine e_aload_n dX7_change_0 rfl ?_
  refine e_get (w := .ref 37) (j := 5) dX7_change_1 k0_0 rc7 (by decide) wfX7_44 (g0_0_5) ?_
  refine e_iload_n dX7_change_4 rfl ?_
  obtain ⟨c1, h⟩ := grd h
  refine e_aaldJ dX7_change_5 k0_37 rfl rfl c1.2 c1.1 (r0_37 (c1).2) ?_
  refine e_iconst (x := (0 : Int32)) dX7_change_6 (by decide) ?_
  refine e_aload_n dX7_change_7 rfl ?_
  refine e_get (w := .ref 51) (j := 7) dX7_change_8 k0_0 rc7 (by decide) wfX7_51 (g0_0_7) ?_
  refine e_iconst (x := (0 : Int32)) dX7_change_11 (by decide) ?_
  refine e_bipush (x := (12 : Int32)) dX7_change_12 (by decide) ?_
  refine e_copy dX7_change_14 wmX7_118 wnative wcopystat winisys (q0_37 (c1).2) k0_51 rfl (by decide) (by decide) (by decide) (by decide) (by decide) (Nat.le_of_ble_eq_true rfl) (by omega) ?_
  obtain ⟨v2, ev2, h⟩ := vlet_ex h
  refine e_nameV ev2.symm ?_
  clear ev2
  obtain rfl := Option.some.inj h
  exact e_ret dX7_change_17 rfl ⟨rfl, rfl, rfl⟩
def f_X7_layPrint_82   (v : rV) (a7 : Int32) : Option (Int32 × rV) := (f_X5_begin v 98).bind fun p5 =>
  some (a7, p5)
def f_X7_layPrint_33   : Nat → rV → Int32 → Int32 → Int32 → Int32 → Int32 → Option (Int32 × rV)
  | 0, _, _, _, _, _, _ => none
  | n + 1, v, a2, a3, a6, a7, a8 => if (24 : Int32) < (a8 + a6) then
  (f_X7_layPrint_82  v a7)
else
  (if (12 : Int32) ≤ a7 then
  (f_X7_layPrint_82  v a7)
else
  (if ¬ a2 < 0 ∧ a2.toNatClampNeg < 12 then
  ((f_X5_put v 98 (38 + a2.toNatClampNeg) a7 a8).bind fun p7 =>
  vlet (a7 + (1 : Int32)) fun x8 =>
  vlet (a8 + (a6 + a3) : Int32) fun x9 =>
  f_X7_layPrint_33  n p7 a2 a3 a6 x8 x9)
else none))
def f_X7_layPrint (v : rV) (a1 : Int32) (a2 : Int32) (a3 : Int32) (a4 : Int64) : Option (Int32 × rV) := if ¬ a2 < 0 ∧ a2.toNatClampNeg < 12 then
  (vlet (v.1 (38 + a2.toNatClampNeg) 1 : Int32) fun x2 =>
  (f_X4_at v 9 a1).bind fun p3 =>
  if isForm p3 = true then
  ((f_X5_clear v 98 p3 a4).bind fun p4 =>
  f_X7_layPrint_33  20000 p4 a2 a3 x2 (0 : Int32) (0 : Int32)) else none)
else none
set_option maxRecDepth 20000 in
theorem b_X7_layPrint_82 {X : Nat × (Nat → Int32)} {r : Int32 × rV} {v : rV}   {a7 : Int32}  (h : f_X7_layPrint_82  v a7 = some r) : Ev mX7_layPrint 4 0 0 82 [(0, .ref 0), (7, .int a7)] [] (rZ X) v (rPI X r) := by
  unfold f_X7_layPrint_82 at h
  refine e_aload_n dX7_layPrint_82 rfl ?_
  refine e_get (w := .ref 98) (j := 11) dX7_layPrint_83 k0_0 rc7 (by decide) wfX7_67 (g0_0_11) ?_
  obtain ⟨p5, ep5, h⟩ := Option.bind_eq_some_iff.mp h
  refine c_VV (M' := mX5_begin) [] dX7_layPrint_86 rfl wmX7_171 imX5_begin seX5_begin lkX5_begin k0_98 rc5 (Nat.le_of_ble_eq_true rfl) ((x_X5_begin (by decide) ep5).mono (by omega)) ?_
  refine e_iload dX7_layPrint_89 rfl ?_
  obtain rfl := Option.some.inj h
  exact e_iret dX7_layPrint_91 rfl rfl ⟨rfl, rfl, rfl⟩
set_option maxRecDepth 20000 in
theorem b_X7_layPrint_33 {X : Nat × (Nat → Int32)} {r : Int32 × rV}   : ∀ (n : Nat) (v : rV) (a2 : Int32) (a3 : Int32) (a6 : Int32) (a7 : Int32) (a8 : Int32) , f_X7_layPrint_33   n v a2 a3 a6 a7 a8 = some r → Ev mX7_layPrint 4 0 0 33 [(0, .ref 0), (2, .int a2), (3, .int a3), (6, .int a6), (7, .int a7), (8, .int a8)] [] (rZ X) v (rPI X r) := by
  intro n
  induction n with
  | zero =>
    intros
    rename_i h
    cases h
  | succ n ih =>
    intro v a2 a3 a6 a7 a8 h
    rw [f_X7_layPrint_33] at h
    refine e_iload dX7_layPrint_33 rfl ?_
    refine e_iload dX7_layPrint_35 rfl ?_
    refine e_iadd dX7_layPrint_37 ?_
    refine e_bipush (x := (24 : Int32)) dX7_layPrint_38 (by decide) ?_
    refine e_icmp_gt (tgt := 82) dX7_layPrint_40 (by decide) (fun c11 => ?_) (fun c11 => ?_)
    · rw [if_pos c11] at h
      refine e_sub [0, 4] rfl ?_
      exact b_X7_layPrint_82  h
    · rw [if_neg c11] at h
      refine e_iload dX7_layPrint_43 rfl ?_
      refine e_bipush (x := (12 : Int32)) dX7_layPrint_45 (by decide) ?_
      refine e_icmp_ge (tgt := 82) dX7_layPrint_47 (by decide) (fun c10 => ?_) (fun c10 => ?_)
      · rw [if_pos c10] at h
        refine e_sub [0, 4] rfl ?_
        exact b_X7_layPrint_82  h
      · rw [if_neg c10] at h
        refine e_aload_n dX7_layPrint_50 rfl ?_
        refine e_get (w := .ref 98) (j := 11) dX7_layPrint_51 k0_0 rc7 (by decide) wfX7_67 (g0_0_11) ?_
        refine e_aload_n dX7_layPrint_54 rfl ?_
        refine e_get (w := .ref 37) (j := 5) dX7_layPrint_55 k0_0 rc7 (by decide) wfX7_44 (g0_0_5) ?_
        refine e_iload_n dX7_layPrint_58 rfl ?_
        obtain ⟨c6, h⟩ := grd h
        refine e_aaldJ dX7_layPrint_59 k0_37 rfl rfl c6.2 c6.1 (r0_37 (c6).2) ?_
        refine e_iload dX7_layPrint_60 rfl ?_
        refine e_iload dX7_layPrint_62 rfl ?_
        obtain ⟨p7, ep7, h⟩ := Option.bind_eq_some_iff.mp h
        refine c_VV (M' := mX5_put) [.ref (38 + a2.toNatClampNeg), .int a7, .int a8] dX7_layPrint_64 rfl wmX7_167 imX5_put seX5_put lkX5_put k0_98 rc5 (Nat.le_of_ble_eq_true rfl) ((x_X5_put (by decide) (q0_37 (X := X) (c6).2) ep7).mono (by omega)) ?_
        obtain ⟨x8, ex8, h⟩ := vlet_ex h
        refine e_iinc (lv' := [(7, .int x8), (0, .ref 0), (2, .int a2), (3, .int a3), (6, .int a6), (8, .int a8)]) dX7_layPrint_67 rfl (ex8.symm) (by decide) rfl ?_
        clear ex8
        refine e_iload dX7_layPrint_70 rfl ?_
        refine e_iload dX7_layPrint_72 rfl ?_
        refine e_iload_n dX7_layPrint_74 rfl ?_
        refine e_iadd dX7_layPrint_75 ?_
        refine e_iadd dX7_layPrint_76 ?_
        obtain ⟨x9, ex9, h⟩ := vlet_ex h
        refine e_nameI ex9.symm ?_
        clear ex9
        refine e_istore (lv' := [(8, .int x9), (7, .int x8), (0, .ref 0), (2, .int a2), (3, .int a3), (6, .int a6)]) dX7_layPrint_77 (by decide) rfl ?_
        refine e_goto (tgt := 33) dX7_layPrint_79 (by decide) ?_
        refine e_sub [2, 3, 4, 5, 1, 0] rfl ?_
        exact ih p7 a2 a3 a6 x8 x9 h
set_option maxRecDepth 20000 in
theorem x_X7_layPrint {X : Nat × (Nat → Int32)} {v : rV} {r : Int32 × rV} {a1 : Int32} {a2 : Int32} {a3 : Int32} {a4 : Int64}  (h : f_X7_layPrint v a1 a2 a3 a4 = some r) : EvM mX7_layPrint 4 0 0 [.ref 0, .int a1, .int a2, .int a3, .long a4] (rZ X) v (rPI X r) := by
  refine evm_of (by decide +kernel) (fun G => Nat.le_of_ble_eq_true rfl) ?_
  show Ev mX7_layPrint 4 0 0 0 [(0, .ref 0), (1, .int a1), (2, .int a2), (3, .int a3), (4, .long a4)] [] (rZ X) v _
  unfold f_X7_layPrint at h
  refine e_aload_n dX7_layPrint_0 rfl ?_
  refine e_get (w := .ref 37) (j := 5) dX7_layPrint_1 k0_0 rc7 (by decide) wfX7_44 (g0_0_5) ?_
  refine e_iload_n dX7_layPrint_4 rfl ?_
  obtain ⟨c1, h⟩ := grd h
  refine e_aaldJ dX7_layPrint_5 k0_37 rfl rfl c1.2 c1.1 (r0_37 (c1).2) ?_
  refine e_iconst (x := (1 : Int32)) dX7_layPrint_6 (by decide) ?_
  refine e_ialdJ dX7_layPrint_7 (q0_37 (c1).2) (j := 1) (by decide) (by decide) (by decide) ?_
  obtain ⟨x2, ex2, h⟩ := vlet_ex h
  refine e_nameI ex2.symm ?_
  clear ex2
  refine e_istore (lv' := [(6, .int x2), (0, .ref 0), (1, .int a1), (2, .int a2), (3, .int a3), (4, .long a4)]) dX7_layPrint_8 (by decide) rfl ?_
  refine e_iconst (x := (0 : Int32)) dX7_layPrint_10 (by decide) ?_
  refine e_istore (lv' := [(7, .int (0 : Int32)), (6, .int x2), (0, .ref 0), (1, .int a1), (2, .int a2), (3, .int a3), (4, .long a4)]) dX7_layPrint_11 (by decide) rfl ?_
  refine e_aload_n dX7_layPrint_13 rfl ?_
  refine e_get (w := .ref 98) (j := 11) dX7_layPrint_14 k0_0 rc7 (by decide) wfX7_67 (g0_0_11) ?_
  refine e_aload_n dX7_layPrint_17 rfl ?_
  refine e_get (w := .ref 9) (j := 3) dX7_layPrint_18 k0_0 rc7 (by decide) wfX7_35 (g0_0_3) ?_
  refine e_iload_n dX7_layPrint_21 rfl ?_
  obtain ⟨p3, ep3, h⟩ := Option.bind_eq_some_iff.mp h
  refine c_VA (M' := mX4_at) [.int a1] dX7_layPrint_22 rfl wmX7_159 imX4_at seX4_at lkX4_at k0_9 rc4 (Nat.le_of_ble_eq_true rfl) ((x_X4_at (by decide) ep3).mono (by omega)) ?_
  obtain ⟨hfp3, h⟩ := grd h
  refine e_lload dX7_layPrint_25 rfl ?_
  obtain ⟨p4, ep4, h⟩ := Option.bind_eq_some_iff.mp h
  refine c_VV (M' := mX5_clear) [.ref p3, .long a4] dX7_layPrint_27 rfl wmX7_163 imX5_clear seX5_clear lkX5_clear k0_98 rc5 (Nat.le_of_ble_eq_true rfl) ((x_X5_clear (by decide) hfp3 ep4).mono (by omega)) ?_
  refine e_iconst (x := (0 : Int32)) dX7_layPrint_30 (by decide) ?_
  refine e_istore (lv' := [(8, .int (0 : Int32)), (7, .int (0 : Int32)), (6, .int x2), (0, .ref 0), (1, .int a1), (2, .int a2), (3, .int a3), (4, .long a4)]) dX7_layPrint_31 (by decide) rfl ?_
  refine e_sub [3, 5, 6, 2, 1, 0] rfl ?_
  exact b_X7_layPrint_33  _ p4 a2 a3 x2 (0 : Int32) (0 : Int32) h
def f_X7_evenInTheEnd (v : rV) (a1 : Int32) : Option (Int32 × rV) := (f_X5_goOn v 98 a1 (v.1 0 15)).bind fun p1 =>
  (f_X5_even p1.2 98).bind fun p2 =>
  some (p2, p1.2)
set_option maxRecDepth 20000 in
theorem x_X7_evenInTheEnd {X : Nat × (Nat → Int32)} {v : rV} {r : Int32 × rV} {a1 : Int32}  (h : f_X7_evenInTheEnd v a1 = some r) : EvM mX7_evenInTheEnd 6 0 0 [.ref 0, .int a1] (rZ X) v (rPI X r) := by
  refine evm_of (by decide +kernel) (fun G => Nat.le_of_ble_eq_true rfl) ?_
  show Ev mX7_evenInTheEnd 6 0 0 0 [(0, .ref 0), (1, .int a1)] [] (rZ X) v _
  unfold f_X7_evenInTheEnd at h
  refine e_aload_n dX7_evenInTheEnd_0 rfl ?_
  refine e_get (w := .ref 98) (j := 11) dX7_evenInTheEnd_1 k0_0 rc7 (by decide) wfX7_67 (g0_0_11) ?_
  refine e_iload_n dX7_evenInTheEnd_4 rfl ?_
  refine e_aload_n dX7_evenInTheEnd_5 rfl ?_
  refine e_get (w := .int (v.1 0 15)) (j := 15) dX7_evenInTheEnd_6 k0_0 rc7 (by decide) wfX7_73 rfl ?_
  obtain ⟨p1, ep1, h⟩ := Option.bind_eq_some_iff.mp h
  refine c_VI (M' := mX5_goOn) [.int a1, .int (v.1 0 15)] dX7_evenInTheEnd_9 rfl wmX7_180 imX5_goOn seX5_goOn lkX5_goOn k0_98 rc5 (Nat.le_of_ble_eq_true rfl) ((x_X5_goOn (by decide) ep1).mono (by omega)) ?_
  refine e_pop dX7_evenInTheEnd_12 rfl ?_
  refine e_aload_n dX7_evenInTheEnd_13 rfl ?_
  refine e_get (w := .ref 98) (j := 11) dX7_evenInTheEnd_14 k0_0 rc7 (by decide) wfX7_67 (g0_0_11) ?_
  obtain ⟨p2, ep2, h⟩ := Option.bind_eq_some_iff.mp h
  refine c_VI (M' := mX5_even) [] dX7_evenInTheEnd_17 rfl wmX7_303 imX5_even seX5_even lkX5_even k0_98 rc5 (Nat.le_of_ble_eq_true rfl) ((x_X5_even (by decide) ep2).mono (by omega)) ?_
  obtain rfl := Option.some.inj h
  exact e_iret dX7_evenInTheEnd_20 rfl rfl ⟨rfl, rfl, rfl⟩
def f_X7_dots_84  (q38 : rV → Int32 → Int32 → Int64 → Int32 → Int32 → Int32 → Int32 → Option (Int32 × rV)) (v : rV) (a1 : Int32) (a2 : Int32) (a3 : Int64) (a5 : Int32) (a6 : Int32) (a7 : Int32) (a8 : Int32) : Option (Int32 × rV) := vlet (a8 + (1 : Int32)) fun x6 =>
  q38 v a1 a2 a3 a5 a6 a7 x6
def f_X7_dots_76  (q38 : rV → Int32 → Int32 → Int64 → Int32 → Int32 → Int32 → Int32 → Option (Int32 × rV)) (v : rV) (a1 : Int32) (a2 : Int32) (a3 : Int64) (a5 : Int32) (a8 : Int32) (a9 : Int32) : Option (Int32 × rV) := f_X7_dots_84 q38 v a1 a2 a3 a5 a8 a9 a8
def f_X7_dots_38   : Nat → rV → Int32 → Int32 → Int64 → Int32 → Int32 → Int32 → Int32 → Option (Int32 × rV)
  | 0, _, _, _, _, _, _, _, _ => none
  | n + 1, v, a1, a2, a3, a5, a6, a7, a8 => if (9 : Int32) < a8 then
  (some (a6, v))
else
  ((f_X7_layPrint v a1 a2 a8 a3).bind fun p4 =>
  (f_X7_evenInTheEnd p4.2 a5).bind fun p5 =>
  if a6 = (-1 : Int32) then
  (f_X7_dots_76 (fun v a1 a2 a3 a5 a6 a7 a8 => f_X7_dots_38  n v a1 a2 a3 a5 a6 a7 a8) p5.2 a1 a2 a3 a5 a8 p5.1)
else
  (if a7 ≤ p5.1 then
  (f_X7_dots_84 (fun v a1 a2 a3 a5 a6 a7 a8 => f_X7_dots_38  n v a1 a2 a3 a5 a6 a7 a8) p5.2 a1 a2 a3 a5 a6 a7 a8)
else
  (f_X7_dots_76 (fun v a1 a2 a3 a5 a6 a7 a8 => f_X7_dots_38  n v a1 a2 a3 a5 a6 a7 a8) p5.2 a1 a2 a3 a5 a8 p5.1)))
def f_X7_dots (v : rV) (a1 : Int32) (a2 : Int32) (a3 : Int64) (a5 : Int32) : Option (Int32 × rV) := if (f_X4_has v 9 a1) = true then
  (if (f_X7_isDrop v a2) = true then
  (if (f_X7_areTicks a5) = true then
  (f_X7_dots_38  20000 v a1 a2 a3 a5 (-1 : Int32) (0 : Int32) (0 : Int32))
else
  (some ((-1 : Int32), v)))
else
  (some ((-1 : Int32), v)))
else
  (some ((-1 : Int32), v))
set_option maxRecDepth 20000 in
theorem b_X7_dots_84 {X : Nat × (Nat → Int32)} {r : Int32 × rV} {v : rV} {q38 : rV → Int32 → Int32 → Int64 → Int32 → Int32 → Int32 → Int32 → Option (Int32 × rV)} (hq38 : ∀ (v : rV) (a1 : Int32) (a2 : Int32) (a3 : Int64) (a5 : Int32) (a6 : Int32) (a7 : Int32) (a8 : Int32) , q38 v a1 a2 a3 a5 a6 a7 a8 = some r → Ev mX7_dots 7 0 0 38 [(0, .ref 0), (1, .int a1), (2, .int a2), (3, .long a3), (5, .int a5), (6, .int a6), (7, .int a7), (8, .int a8)] [] (rZ X) v (rPI X r)) {a1 : Int32} {a2 : Int32} {a3 : Int64} {a5 : Int32} {a6 : Int32} {a7 : Int32} {a8 : Int32}  (h : f_X7_dots_84 q38 v a1 a2 a3 a5 a6 a7 a8 = some r) : Ev mX7_dots 7 0 0 84 [(0, .ref 0), (1, .int a1), (2, .int a2), (3, .long a3), (5, .int a5), (6, .int a6), (7, .int a7), (8, .int a8)] [] (rZ X) v (rPI X r) := by
  unfold f_X7_dots_84 at h
  obtain ⟨x6, ex6, h⟩ := vlet_ex h
  refine e_iinc (lv' := [(8, .int x6), (0, .ref 0), (1, .int a1), (2, .int a2), (3, .long a3), (5, .int a5), (6, .int a6), (7, .int a7)]) dX7_dots_84 rfl (ex6.symm) (by decide) rfl ?_
  clear ex6
  refine e_goto (tgt := 38) dX7_dots_87 (by decide) ?_
  refine e_sub [1, 2, 3, 4, 5, 6, 7, 0] rfl ?_
  exact hq38 v a1 a2 a3 a5 a6 a7 x6 h
set_option maxRecDepth 20000 in
theorem b_X7_dots_76 {X : Nat × (Nat → Int32)} {r : Int32 × rV} {v : rV} {q38 : rV → Int32 → Int32 → Int64 → Int32 → Int32 → Int32 → Int32 → Option (Int32 × rV)} (hq38 : ∀ (v : rV) (a1 : Int32) (a2 : Int32) (a3 : Int64) (a5 : Int32) (a6 : Int32) (a7 : Int32) (a8 : Int32) , q38 v a1 a2 a3 a5 a6 a7 a8 = some r → Ev mX7_dots 7 0 0 38 [(0, .ref 0), (1, .int a1), (2, .int a2), (3, .long a3), (5, .int a5), (6, .int a6), (7, .int a7), (8, .int a8)] [] (rZ X) v (rPI X r)) {a1 : Int32} {a2 : Int32} {a3 : Int64} {a5 : Int32} {a8 : Int32} {a9 : Int32}  (h : f_X7_dots_76 q38 v a1 a2 a3 a5 a8 a9 = some r) : Ev mX7_dots 7 0 0 76 [(0, .ref 0), (1, .int a1), (2, .int a2), (3, .long a3), (5, .int a5), (8, .int a8), (9, .int a9)] [] (rZ X) v (rPI X r) := by
  unfold f_X7_dots_76 at h
  refine e_iload dX7_dots_76 rfl ?_
  refine e_istore (lv' := [(6, .int a8), (0, .ref 0), (1, .int a1), (2, .int a2), (3, .long a3), (5, .int a5), (8, .int a8), (9, .int a9)]) dX7_dots_78 (by decide) rfl ?_
  refine e_iload dX7_dots_80 rfl ?_
  refine e_istore (lv' := [(7, .int a9), (6, .int a8), (0, .ref 0), (1, .int a1), (2, .int a2), (3, .long a3), (5, .int a5), (8, .int a8), (9, .int a9)]) dX7_dots_82 (by decide) rfl ?_
  refine e_sub [2, 3, 4, 5, 6, 1, 0, 7] rfl ?_
  exact b_X7_dots_84 hq38 h
set_option maxRecDepth 20000 in
theorem b_X7_dots_38 {X : Nat × (Nat → Int32)} {r : Int32 × rV}   : ∀ (n : Nat) (v : rV) (a1 : Int32) (a2 : Int32) (a3 : Int64) (a5 : Int32) (a6 : Int32) (a7 : Int32) (a8 : Int32) , f_X7_dots_38   n v a1 a2 a3 a5 a6 a7 a8 = some r → Ev mX7_dots 7 0 0 38 [(0, .ref 0), (1, .int a1), (2, .int a2), (3, .long a3), (5, .int a5), (6, .int a6), (7, .int a7), (8, .int a8)] [] (rZ X) v (rPI X r) := by
  intro n
  induction n with
  | zero =>
    intros
    rename_i h
    cases h
  | succ n ih =>
    intro v a1 a2 a3 a5 a6 a7 a8 h
    rw [f_X7_dots_38] at h
    refine e_iload dX7_dots_38 rfl ?_
    refine e_bipush (x := (9 : Int32)) dX7_dots_40 (by decide) ?_
    refine e_icmp_gt (tgt := 90) dX7_dots_42 (by decide) (fun c9 => ?_) (fun c9 => ?_)
    · rw [if_pos c9] at h
      refine e_iload dX7_dots_90 rfl ?_
      obtain rfl := Option.some.inj h
      exact e_iret dX7_dots_92 rfl rfl ⟨rfl, rfl, rfl⟩
    · rw [if_neg c9] at h
      refine e_aload_n dX7_dots_45 rfl ?_
      refine e_iload_n dX7_dots_46 rfl ?_
      refine e_iload_n dX7_dots_47 rfl ?_
      refine e_iload dX7_dots_48 rfl ?_
      refine e_lload_n dX7_dots_50 rfl ?_
      obtain ⟨p4, ep4, h⟩ := Option.bind_eq_some_iff.mp h
      refine c_VI (M' := mX7_layPrint) [.int a1, .int a2, .int a8, .long a3] dX7_dots_51 rfl wmX7_296 imX7_layPrint seX7_layPrint lkX7_layPrint k0_0 rc7 (Nat.le_of_ble_eq_true rfl) ((x_X7_layPrint  ep4).mono (by omega)) ?_
      refine e_pop dX7_dots_54 rfl ?_
      refine e_aload_n dX7_dots_55 rfl ?_
      refine e_iload dX7_dots_56 rfl ?_
      obtain ⟨p5, ep5, h⟩ := Option.bind_eq_some_iff.mp h
      refine c_VI (M' := mX7_evenInTheEnd) [.int a5] dX7_dots_58 rfl wmX7_300 imX7_evenInTheEnd seX7_evenInTheEnd lkX7_evenInTheEnd k0_0 rc7 (Nat.le_of_ble_eq_true rfl) ((x_X7_evenInTheEnd  ep5).mono (by omega)) ?_
      refine e_istore (lv' := [(9, .int p5.1), (0, .ref 0), (1, .int a1), (2, .int a2), (3, .long a3), (5, .int a5), (6, .int a6), (7, .int a7), (8, .int a8)]) dX7_dots_61 (by decide) rfl ?_
      refine e_iload dX7_dots_63 rfl ?_
      refine e_iconst (x := (-1 : Int32)) dX7_dots_65 (by decide) ?_
      refine e_icmp_eq (tgt := 76) dX7_dots_66 (by decide) (fun c8 => ?_) (fun c8 => ?_)
      · rw [if_pos c8] at h
        refine e_sub [1, 2, 3, 4, 5, 8, 0] rfl ?_
        exact b_X7_dots_76 (fun v a1 a2 a3 a5 a6 a7 a8  hh => ih v a1 a2 a3 a5 a6 a7 a8  hh) h
      · rw [if_neg c8] at h
        refine e_iload dX7_dots_69 rfl ?_
        refine e_iload dX7_dots_71 rfl ?_
        refine e_icmp_ge (tgt := 84) dX7_dots_73 (by decide) (fun c7 => ?_) (fun c7 => ?_)
        · rw [if_pos c7] at h
          refine e_sub [1, 2, 3, 4, 5, 6, 7, 8] rfl ?_
          exact b_X7_dots_84 (fun v a1 a2 a3 a5 a6 a7 a8  hh => ih v a1 a2 a3 a5 a6 a7 a8  hh) h
        · rw [if_neg c7] at h
          refine e_sub [1, 2, 3, 4, 5, 8, 0] rfl ?_
          exact b_X7_dots_76 (fun v a1 a2 a3 a5 a6 a7 a8  hh => ih v a1 a2 a3 a5 a6 a7 a8  hh) h
set_option maxRecDepth 20000 in
theorem x_X7_dots {X : Nat × (Nat → Int32)} {v : rV} {r : Int32 × rV} {a1 : Int32} {a2 : Int32} {a3 : Int64} {a5 : Int32}  (h : f_X7_dots v a1 a2 a3 a5 = some r) : EvM mX7_dots 7 0 0 [.ref 0, .int a1, .int a2, .long a3, .int a5] (rZ X) v (rPI X r) := by
  refine evm_of (by decide +kernel) (fun G => Nat.le_of_ble_eq_true rfl) ?_
  show Ev mX7_dots 7 0 0 0 [(0, .ref 0), (1, .int a1), (2, .int a2), (3, .long a3), (5, .int a5)] [] (rZ X) v _
  unfold f_X7_dots at h
  refine e_aload_n dX7_dots_0 rfl ?_
  refine e_get (w := .ref 9) (j := 3) dX7_dots_1 k0_0 rc7 (by decide) wfX7_35 (g0_0_3) ?_
  refine e_iload_n dX7_dots_4 rfl ?_
  refine c_VZ (M' := mX4_has) [.int a1] dX7_dots_5 rfl wmX7_148 imX4_has seX4_has lkX4_has k0_9 rc4 (Nat.le_of_ble_eq_true rfl) ((x_X4_has (by decide)).mono (by omega)) ?_
  refine e_if_eq (tgt := 27) dX7_dots_8 (by decide) (fun c12 => ?_) (fun c12 => ?_)
  · rw [if_neg (bI_n c12)] at h
    refine e_iconst (x := (-1 : Int32)) dX7_dots_27 (by decide) ?_
    obtain rfl := Option.some.inj h
    exact e_iret dX7_dots_28 rfl rfl ⟨rfl, rfl, rfl⟩
  · rw [if_pos (bI_p c12)] at h
    refine e_aload_n dX7_dots_11 rfl ?_
    refine e_iload_n dX7_dots_12 rfl ?_
    refine c_VZ (M' := mX7_isDrop) [.int a2] dX7_dots_13 rfl wmX7_124 imX7_isDrop seX7_isDrop lkX7_isDrop k0_0 rc7 (Nat.le_of_ble_eq_true rfl) ((x_X7_isDrop ).mono (by omega)) ?_
    refine e_if_eq (tgt := 27) dX7_dots_16 (by decide) (fun c11 => ?_) (fun c11 => ?_)
    · rw [if_neg (bI_n c11)] at h
      refine e_iconst (x := (-1 : Int32)) dX7_dots_27 (by decide) ?_
      obtain rfl := Option.some.inj h
      exact e_iret dX7_dots_28 rfl rfl ⟨rfl, rfl, rfl⟩
    · rw [if_pos (bI_p c11)] at h
      refine e_iload dX7_dots_19 rfl ?_
      refine c_SZ (M' := mX7_areTicks) [.int a5] dX7_dots_21 rfl wmX7_177 stX7_areTicks lkX7_areTicks (Nat.le_of_ble_eq_true rfl) ((x_X7_areTicks ).mono (by omega)) ?_
      refine e_if_ne (tgt := 29) dX7_dots_24 (by decide) (fun c10 => ?_) (fun c10 => ?_)
      · rw [if_pos (bI_p c10)] at h
        refine e_iconst (x := (-1 : Int32)) dX7_dots_29 (by decide) ?_
        refine e_istore (lv' := [(6, .int (-1 : Int32)), (0, .ref 0), (1, .int a1), (2, .int a2), (3, .long a3), (5, .int a5)]) dX7_dots_30 (by decide) rfl ?_
        refine e_iconst (x := (0 : Int32)) dX7_dots_32 (by decide) ?_
        refine e_istore (lv' := [(7, .int (0 : Int32)), (6, .int (-1 : Int32)), (0, .ref 0), (1, .int a1), (2, .int a2), (3, .long a3), (5, .int a5)]) dX7_dots_33 (by decide) rfl ?_
        refine e_iconst (x := (0 : Int32)) dX7_dots_35 (by decide) ?_
        refine e_istore (lv' := [(8, .int (0 : Int32)), (7, .int (0 : Int32)), (6, .int (-1 : Int32)), (0, .ref 0), (1, .int a1), (2, .int a2), (3, .long a3), (5, .int a5)]) dX7_dots_36 (by decide) rfl ?_
        refine e_sub [3, 4, 5, 6, 7, 2, 1, 0] rfl ?_
        exact b_X7_dots_38  _ v a1 a2 a3 a5 (-1 : Int32) (0 : Int32) (0 : Int32) h
      · rw [if_neg (bI_n c10)] at h
        refine e_iconst (x := (-1 : Int32)) dX7_dots_27 (by decide) ?_
        obtain rfl := Option.some.inj h
        exact e_iret dX7_dots_28 rfl rfl ⟨rfl, rfl, rfl⟩
def f_X7_dry (v : rV) (a1 : Int32) (a2 : Int32) (a3 : Int64) : Option (Int32 × rV) := if (f_X4_has v 9 a1) = true then
  (if (f_X7_isDrop v a2) = true then
  (if ¬ a2 < 0 ∧ a2.toNatClampNeg < 12 then
  ((f_X7_tryAlone v a1 (38 + a2.toNatClampNeg) a3 (200 : Int32)).bind fun p4 =>
  if (p4.1 98 10) = 0 then
  (some (p4.1 98 15, p4))
else
  (some ((-1 : Int32), p4)))
else none)
else
  (some ((-1 : Int32), v)))
else
  (some ((-1 : Int32), v))
set_option maxRecDepth 20000 in
theorem x_X7_dry {X : Nat × (Nat → Int32)} {v : rV} {r : Int32 × rV} {a1 : Int32} {a2 : Int32} {a3 : Int64}  (h : f_X7_dry v a1 a2 a3 = some r) : EvM mX7_dry 7 0 0 [.ref 0, .int a1, .int a2, .long a3] (rZ X) v (rPI X r) := by
  refine evm_of (by decide +kernel) (fun G => Nat.le_of_ble_eq_true rfl) ?_
  show Ev mX7_dry 7 0 0 0 [(0, .ref 0), (1, .int a1), (2, .int a2), (3, .long a3)] [] (rZ X) v _
  unfold f_X7_dry at h
  refine e_aload_n dX7_dry_0 rfl ?_
  refine e_get (w := .ref 9) (j := 3) dX7_dry_1 k0_0 rc7 (by decide) wfX7_35 (g0_0_3) ?_
  refine e_iload_n dX7_dry_4 rfl ?_
  refine c_VZ (M' := mX4_has) [.int a1] dX7_dry_5 rfl wmX7_148 imX4_has seX4_has lkX4_has k0_9 rc4 (Nat.le_of_ble_eq_true rfl) ((x_X4_has (by decide)).mono (by omega)) ?_
  refine e_if_eq (tgt := 19) dX7_dry_8 (by decide) (fun c7 => ?_) (fun c7 => ?_)
  · rw [if_neg (bI_n c7)] at h
    refine e_iconst (x := (-1 : Int32)) dX7_dry_19 (by decide) ?_
    obtain rfl := Option.some.inj h
    exact e_iret dX7_dry_20 rfl rfl ⟨rfl, rfl, rfl⟩
  · rw [if_pos (bI_p c7)] at h
    refine e_aload_n dX7_dry_11 rfl ?_
    refine e_iload_n dX7_dry_12 rfl ?_
    refine c_VZ (M' := mX7_isDrop) [.int a2] dX7_dry_13 rfl wmX7_124 imX7_isDrop seX7_isDrop lkX7_isDrop k0_0 rc7 (Nat.le_of_ble_eq_true rfl) ((x_X7_isDrop ).mono (by omega)) ?_
    refine e_if_ne (tgt := 21) dX7_dry_16 (by decide) (fun c6 => ?_) (fun c6 => ?_)
    · rw [if_pos (bI_p c6)] at h
      refine e_aload_n dX7_dry_21 rfl ?_
      refine e_iload_n dX7_dry_22 rfl ?_
      refine e_aload_n dX7_dry_23 rfl ?_
      refine e_get (w := .ref 37) (j := 5) dX7_dry_24 k0_0 rc7 (by decide) wfX7_44 (g0_0_5) ?_
      refine e_iload_n dX7_dry_27 rfl ?_
      obtain ⟨c3, h⟩ := grd h
      refine e_aaldJ dX7_dry_28 k0_37 rfl rfl c3.2 c3.1 (r0_37 (c3).2) ?_
      refine e_lload_n dX7_dry_29 rfl ?_
      refine e_sipush (x := (200 : Int32)) dX7_dry_30 (by decide) ?_
      obtain ⟨p4, ep4, h⟩ := Option.bind_eq_some_iff.mp h
      refine c_VV (M' := mX7_tryAlone) [.int a1, .ref (38 + a2.toNatClampNeg), .long a3, .int (200 : Int32)] dX7_dry_33 rfl wmX7_277 imX7_tryAlone seX7_tryAlone lkX7_tryAlone k0_0 rc7 (Nat.le_of_ble_eq_true rfl) ((x_X7_tryAlone (q0_37 (X := X) (c3).2) ep4).mono (by omega)) ?_
      refine e_aload_n dX7_dry_36 rfl ?_
      refine e_get (w := .ref 98) (j := 11) dX7_dry_37 k0_0 rc7 (by decide) wfX7_67 (g0_0_11) ?_
      refine e_get (w := .int (p4.1 98 10)) (j := 10) dX7_dry_40 k0_98 rc5 (by decide) wfX7_145 rfl ?_
      refine e_if_ne (tgt := 56) dX7_dry_43 (by decide) (fun c5 => ?_) (fun c5 => ?_)
      · rw [if_neg c5] at h
        refine e_iconst (x := (-1 : Int32)) dX7_dry_56 (by decide) ?_
        obtain rfl := Option.some.inj h
        exact e_iret dX7_dry_57 rfl rfl ⟨rfl, rfl, rfl⟩
      · rw [if_pos c5] at h
        refine e_aload_n dX7_dry_46 rfl ?_
        refine e_get (w := .ref 98) (j := 11) dX7_dry_47 k0_0 rc7 (by decide) wfX7_67 (g0_0_11) ?_
        refine e_get (w := .int (p4.1 98 15)) (j := 15) dX7_dry_50 k0_98 rc5 (by decide) wfX7_224 rfl ?_
        refine e_goto (tgt := 57) dX7_dry_53 (by decide) ?_
        obtain rfl := Option.some.inj h
        exact e_iret dX7_dry_57 rfl rfl ⟨rfl, rfl, rfl⟩
    · rw [if_neg (bI_n c6)] at h
      refine e_iconst (x := (-1 : Int32)) dX7_dry_19 (by decide) ?_
      obtain rfl := Option.some.inj h
      exact e_iret dX7_dry_20 rfl rfl ⟨rfl, rfl, rfl⟩
def f_X7_end (v : rV) (a1 : Int32) : Option (Bool × rV) := if a1 < 0 then
  (some (false, v))
else
  (if a1 ≤ (v.1 1 1) then
  (vlet (rI v 1 1 a1) fun v1 =>
  some (true, v1))
else
  (some (false, v)))
set_option maxRecDepth 20000 in
theorem x_X7_end {X : Nat × (Nat → Int32)} {v : rV} {r : Bool × rV} {a1 : Int32}  (h : f_X7_end v a1 = some r) : EvM mX7_end 1 0 0 [.ref 0, .int a1] (rZ X) v (rPZ X r) := by
  refine evm_of (by decide +kernel) (fun G => Nat.le_of_ble_eq_true rfl) ?_
  show Ev mX7_end 1 0 0 0 [(0, .ref 0), (1, .int a1)] [] (rZ X) v _
  unfold f_X7_end at h
  refine e_iload_n dX7_end_0 rfl ?_
  refine e_if_lt (tgt := 15) dX7_end_1 (by decide) (fun c3 => ?_) (fun c3 => ?_)
  · rw [if_pos c3] at h
    refine e_iconst (x := (0 : Int32)) dX7_end_15 (by decide) ?_
    obtain rfl := Option.some.inj h
    exact e_iret dX7_end_16 rfl rfl ⟨rfl, rfl, rfl⟩
  · rw [if_neg c3] at h
    refine e_iload_n dX7_end_4 rfl ?_
    refine e_aload_n dX7_end_5 rfl ?_
    refine e_get (w := .ref 1) (j := 0) dX7_end_6 k0_0 rc7 (by decide) wfX7_12 (g0_0_0) ?_
    refine e_get (w := .int (v.1 1 1)) (j := 1) dX7_end_9 k0_1 rc6 (by decide) wfX7_81 rfl ?_
    refine e_icmp_le (tgt := 17) dX7_end_12 (by decide) (fun c2 => ?_) (fun c2 => ?_)
    · rw [if_pos c2] at h
      refine e_aload_n dX7_end_17 rfl ?_
      refine e_get (w := .ref 1) (j := 0) dX7_end_18 k0_0 rc7 (by decide) wfX7_12 (g0_0_0) ?_
      refine e_iload_n dX7_end_21 rfl ?_
      refine e_putI (j := 1) dX7_end_22 k0_1 rc6 (by decide) wfX7_81 rfl rfl ?_
      obtain ⟨v1, ev1, h⟩ := vlet_ex h
      refine e_nameV ev1.symm ?_
      clear ev1
      refine e_iconst (x := (1 : Int32)) dX7_end_25 (by decide) ?_
      obtain rfl := Option.some.inj h
      exact e_iret dX7_end_26 rfl rfl ⟨rfl, rfl, rfl⟩
    · rw [if_neg c2] at h
      refine e_iconst (x := (0 : Int32)) dX7_end_15 (by decide) ?_
      obtain rfl := Option.some.inj h
      exact e_iret dX7_end_16 rfl rfl ⟨rfl, rfl, rfl⟩
def f_X7_fault (v : rV) (a1 : Int32) : Option (Int32 × rV) := if a1 = 0 then
  ((f_X3_faultOfLaw v).bind fun p5 =>
  some (p5.1, p5.2))
else
  (if a1 = (1 : Int32) then
  ((f_X3_faultOfWant v).bind fun p3 =>
  some (p3.1, p3.2))
else
  (if a1 = (2 : Int32) then
  ((f_X1_faultOfDrop v).bind fun p1 =>
  some (p1.1, p1.2))
else
  (some ((-2 : Int32), v))))
set_option maxRecDepth 20000 in
theorem x_X7_fault {X : Nat × (Nat → Int32)} {v : rV} {r : Int32 × rV} {a1 : Int32}  (h : f_X7_fault v a1 = some r) : EvM mX7_fault 54 0 0 [.ref 0, .int a1] (rZ X) v (rPI X r) := by
  refine evm_of (by decide +kernel) (fun G => Nat.le_of_ble_eq_true rfl) ?_
  show Ev mX7_fault 54 0 0 0 [(0, .ref 0), (1, .int a1)] [] (rZ X) v _
  unfold f_X7_fault at h
  refine e_iload_n dX7_fault_0 rfl ?_
  refine e_if_ne (tgt := 12) dX7_fault_1 (by decide) (fun c6 => ?_) (fun c6 => ?_)
  · rw [if_neg c6] at h
    refine e_iload_n dX7_fault_12 rfl ?_
    refine e_iconst (x := (1 : Int32)) dX7_fault_13 (by decide) ?_
    refine e_icmp_ne (tgt := 25) dX7_fault_14 (by decide) (fun c4 => ?_) (fun c4 => ?_)
    · rw [if_neg c4] at h
      refine e_iload_n dX7_fault_25 rfl ?_
      refine e_iconst (x := (2 : Int32)) dX7_fault_26 (by decide) ?_
      refine e_icmp_ne (tgt := 38) dX7_fault_27 (by decide) (fun c2 => ?_) (fun c2 => ?_)
      · rw [if_neg c2] at h
        refine e_bipush (x := (-2 : Int32)) dX7_fault_38 (by decide) ?_
        obtain rfl := Option.some.inj h
        exact e_iret dX7_fault_40 rfl rfl ⟨rfl, rfl, rfl⟩
      · rw [if_pos c2] at h
        refine e_aload_n dX7_fault_30 rfl ?_
        refine e_get (w := .ref 7) (j := 2) dX7_fault_31 k0_0 rc7 (by decide) wfX7_28 (g0_0_2) ?_
        obtain ⟨p1, ep1, h⟩ := Option.bind_eq_some_iff.mp h
        refine c_VI (M' := mX1_faultOfDrop) [] dX7_fault_34 rfl wmX7_95 imX1_faultOfDrop seX1_faultOfDrop lkX1_faultOfDrop k0_7 rc1 (Nat.le_of_ble_eq_true rfl) ((x_X1_faultOfDrop  ep1).mono (by omega)) ?_
        obtain rfl := Option.some.inj h
        exact e_iret dX7_fault_37 rfl rfl ⟨rfl, rfl, rfl⟩
    · rw [if_pos c4] at h
      refine e_aload_n dX7_fault_17 rfl ?_
      refine e_get (w := .ref 3) (j := 1) dX7_fault_18 k0_0 rc7 (by decide) wfX7_21 (g0_0_1) ?_
      obtain ⟨p3, ep3, h⟩ := Option.bind_eq_some_iff.mp h
      refine c_VI (M' := mX3_faultOfWant) [] dX7_fault_21 rfl wmX7_92 imX3_faultOfWant seX3_faultOfWant lkX3_faultOfWant k0_3 rc3 (Nat.le_of_ble_eq_true rfl) ((x_X3_faultOfWant  ep3).mono (by omega)) ?_
      obtain rfl := Option.some.inj h
      exact e_iret dX7_fault_24 rfl rfl ⟨rfl, rfl, rfl⟩
  · rw [if_pos c6] at h
    refine e_aload_n dX7_fault_4 rfl ?_
    refine e_get (w := .ref 3) (j := 1) dX7_fault_5 k0_0 rc7 (by decide) wfX7_21 (g0_0_1) ?_
    obtain ⟨p5, ep5, h⟩ := Option.bind_eq_some_iff.mp h
    refine c_VI (M' := mX3_faultOfLaw) [] dX7_fault_8 rfl wmX7_88 imX3_faultOfLaw seX3_faultOfLaw lkX3_faultOfLaw k0_3 rc3 (Nat.le_of_ble_eq_true rfl) ((x_X3_faultOfLaw  ep5).mono (by omega)) ?_
    obtain rfl := Option.some.inj h
    exact e_iret dX7_fault_11 rfl rfl ⟨rfl, rfl, rfl⟩
def f_X7_feed (v : rV) (a1 : Int32) (a2 : Int32) (a3 : Int32) (a4 : Int32) (a5 : Int32) : Option (Int32 × rV) := (f_X6_bytesIn v a1).bind fun p1 =>
  (f_X6_bytesIn v a2).bind fun p2 =>
  (f_X6_bytesIn v a3).bind fun p3 =>
  (f_X6_bytesIn v a4).bind fun p4 =>
  (f_X6_bytesIn v a5).bind fun p5 =>
  vlet ((((p1 + p2) + p3) + p4) + p5 : Int32) fun x6 =>
  if ((v.1 1 1) + x6) ≤ (160 : Int32) then
  ((f_X6_append v a1).bind fun p7 =>
  (f_X6_append p7 a2).bind fun p8 =>
  (f_X6_append p8 a3).bind fun p9 =>
  (f_X6_append p9 a4).bind fun p10 =>
  (f_X6_append p10 a5).bind fun p11 =>
  some (p11.1 1 1, p11))
else
  (some ((-1 : Int32), v))
set_option maxRecDepth 20000 in
theorem x_X7_feed {X : Nat × (Nat → Int32)} {v : rV} {r : Int32 × rV} {a1 : Int32} {a2 : Int32} {a3 : Int32} {a4 : Int32} {a5 : Int32}  (h : f_X7_feed v a1 a2 a3 a4 a5 = some r) : EvM mX7_feed 2 0 0 [.ref 0, .int a1, .int a2, .int a3, .int a4, .int a5] (rZ X) v (rPI X r) := by
  refine evm_of (by decide +kernel) (fun G => Nat.le_of_ble_eq_true rfl) ?_
  show Ev mX7_feed 2 0 0 0 [(0, .ref 0), (1, .int a1), (2, .int a2), (3, .int a3), (4, .int a4), (5, .int a5)] [] (rZ X) v _
  unfold f_X7_feed at h
  refine e_iload_n dX7_feed_0 rfl ?_
  obtain ⟨p1, ep1, h⟩ := Option.bind_eq_some_iff.mp h
  refine c_SI (M' := mX6_bytesIn) [.int a1] dX7_feed_1 rfl wmX7_77 stX6_bytesIn lkX6_bytesIn (Nat.le_of_ble_eq_true rfl) ((x_X6_bytesIn  ep1).mono (by omega)) ?_
  refine e_iload_n dX7_feed_4 rfl ?_
  obtain ⟨p2, ep2, h⟩ := Option.bind_eq_some_iff.mp h
  refine c_SI (M' := mX6_bytesIn) [.int a2] dX7_feed_5 rfl wmX7_77 stX6_bytesIn lkX6_bytesIn (Nat.le_of_ble_eq_true rfl) ((x_X6_bytesIn  ep2).mono (by omega)) ?_
  refine e_iadd dX7_feed_8 ?_
  refine e_iload_n dX7_feed_9 rfl ?_
  obtain ⟨p3, ep3, h⟩ := Option.bind_eq_some_iff.mp h
  refine c_SI (M' := mX6_bytesIn) [.int a3] dX7_feed_10 rfl wmX7_77 stX6_bytesIn lkX6_bytesIn (Nat.le_of_ble_eq_true rfl) ((x_X6_bytesIn  ep3).mono (by omega)) ?_
  refine e_iadd dX7_feed_13 ?_
  refine e_iload dX7_feed_14 rfl ?_
  obtain ⟨p4, ep4, h⟩ := Option.bind_eq_some_iff.mp h
  refine c_SI (M' := mX6_bytesIn) [.int a4] dX7_feed_16 rfl wmX7_77 stX6_bytesIn lkX6_bytesIn (Nat.le_of_ble_eq_true rfl) ((x_X6_bytesIn  ep4).mono (by omega)) ?_
  refine e_iadd dX7_feed_19 ?_
  refine e_iload dX7_feed_20 rfl ?_
  obtain ⟨p5, ep5, h⟩ := Option.bind_eq_some_iff.mp h
  refine c_SI (M' := mX6_bytesIn) [.int a5] dX7_feed_22 rfl wmX7_77 stX6_bytesIn lkX6_bytesIn (Nat.le_of_ble_eq_true rfl) ((x_X6_bytesIn  ep5).mono (by omega)) ?_
  refine e_iadd dX7_feed_25 ?_
  obtain ⟨x6, ex6, h⟩ := vlet_ex h
  refine e_nameI ex6.symm ?_
  clear ex6
  refine e_istore (lv' := [(6, .int x6), (0, .ref 0), (1, .int a1), (2, .int a2), (3, .int a3), (4, .int a4), (5, .int a5)]) dX7_feed_26 (by decide) rfl ?_
  refine e_aload_n dX7_feed_28 rfl ?_
  refine e_get (w := .ref 1) (j := 0) dX7_feed_29 k0_0 rc7 (by decide) wfX7_12 (g0_0_0) ?_
  refine e_get (w := .int (v.1 1 1)) (j := 1) dX7_feed_32 k0_1 rc6 (by decide) wfX7_81 rfl ?_
  refine e_iload dX7_feed_35 rfl ?_
  refine e_iadd dX7_feed_37 ?_
  refine e_sipush (x := (160 : Int32)) dX7_feed_38 (by decide) ?_
  refine e_icmp_le (tgt := 46) dX7_feed_41 (by decide) (fun c12 => ?_) (fun c12 => ?_)
  · rw [if_pos c12] at h
    refine e_aload_n dX7_feed_46 rfl ?_
    refine e_get (w := .ref 1) (j := 0) dX7_feed_47 k0_0 rc7 (by decide) wfX7_12 (g0_0_0) ?_
    refine e_iload_n dX7_feed_50 rfl ?_
    obtain ⟨p7, ep7, h⟩ := Option.bind_eq_some_iff.mp h
    refine c_VV (M' := mX6_append) [.int a1] dX7_feed_51 rfl wmX7_84 imX6_append seX6_append lkX6_append k0_1 rc6 (Nat.le_of_ble_eq_true rfl) ((x_X6_append  ep7).mono (by omega)) ?_
    refine e_aload_n dX7_feed_54 rfl ?_
    refine e_get (w := .ref 1) (j := 0) dX7_feed_55 k0_0 rc7 (by decide) wfX7_12 (g0_0_0) ?_
    refine e_iload_n dX7_feed_58 rfl ?_
    obtain ⟨p8, ep8, h⟩ := Option.bind_eq_some_iff.mp h
    refine c_VV (M' := mX6_append) [.int a2] dX7_feed_59 rfl wmX7_84 imX6_append seX6_append lkX6_append k0_1 rc6 (Nat.le_of_ble_eq_true rfl) ((x_X6_append  ep8).mono (by omega)) ?_
    refine e_aload_n dX7_feed_62 rfl ?_
    refine e_get (w := .ref 1) (j := 0) dX7_feed_63 k0_0 rc7 (by decide) wfX7_12 (g0_0_0) ?_
    refine e_iload_n dX7_feed_66 rfl ?_
    obtain ⟨p9, ep9, h⟩ := Option.bind_eq_some_iff.mp h
    refine c_VV (M' := mX6_append) [.int a3] dX7_feed_67 rfl wmX7_84 imX6_append seX6_append lkX6_append k0_1 rc6 (Nat.le_of_ble_eq_true rfl) ((x_X6_append  ep9).mono (by omega)) ?_
    refine e_aload_n dX7_feed_70 rfl ?_
    refine e_get (w := .ref 1) (j := 0) dX7_feed_71 k0_0 rc7 (by decide) wfX7_12 (g0_0_0) ?_
    refine e_iload dX7_feed_74 rfl ?_
    obtain ⟨p10, ep10, h⟩ := Option.bind_eq_some_iff.mp h
    refine c_VV (M' := mX6_append) [.int a4] dX7_feed_76 rfl wmX7_84 imX6_append seX6_append lkX6_append k0_1 rc6 (Nat.le_of_ble_eq_true rfl) ((x_X6_append  ep10).mono (by omega)) ?_
    refine e_aload_n dX7_feed_79 rfl ?_
    refine e_get (w := .ref 1) (j := 0) dX7_feed_80 k0_0 rc7 (by decide) wfX7_12 (g0_0_0) ?_
    refine e_iload dX7_feed_83 rfl ?_
    obtain ⟨p11, ep11, h⟩ := Option.bind_eq_some_iff.mp h
    refine c_VV (M' := mX6_append) [.int a5] dX7_feed_85 rfl wmX7_84 imX6_append seX6_append lkX6_append k0_1 rc6 (Nat.le_of_ble_eq_true rfl) ((x_X6_append  ep11).mono (by omega)) ?_
    refine e_aload_n dX7_feed_88 rfl ?_
    refine e_get (w := .ref 1) (j := 0) dX7_feed_89 k0_0 rc7 (by decide) wfX7_12 (g0_0_0) ?_
    refine e_get (w := .int (p11.1 1 1)) (j := 1) dX7_feed_92 k0_1 rc6 (by decide) wfX7_81 rfl ?_
    obtain rfl := Option.some.inj h
    exact e_iret dX7_feed_95 rfl rfl ⟨rfl, rfl, rfl⟩
  · rw [if_neg c12] at h
    refine e_iconst (x := (-1 : Int32)) dX7_feed_44 (by decide) ?_
    obtain rfl := Option.some.inj h
    exact e_iret dX7_feed_45 rfl rfl ⟨rfl, rfl, rfl⟩
def f_X7_grain (v : rV) (a1 : Int32) (a2 : Int32) (a3 : Int32) : Option (Bool × rV) := if (f_X7_isStain v a1) = true then
  (if (f_X7_isCell a2) = true then
  (if a3 < 0 then
  (some (false, v))
else
  (if a3 ≤ (9999 : Int32) then
  (if ¬ a1 < 0 ∧ a1.toNatClampNeg < 6 then
  (if ¬ a2 < 0 ∧ a2.toNatClampNeg < 24 then
  (vlet (rI v (53 + a1.toNatClampNeg) a2.toNatClampNeg a3) fun v5 =>
  some (true, v5))
else none)
else none)
else
  (some (false, v))))
else
  (some (false, v)))
else
  (some (false, v))
set_option maxRecDepth 20000 in
theorem x_X7_grain {X : Nat × (Nat → Int32)} {v : rV} {r : Bool × rV} {a1 : Int32} {a2 : Int32} {a3 : Int32}  (h : f_X7_grain v a1 a2 a3 = some r) : EvM mX7_grain 2 0 0 [.ref 0, .int a1, .int a2, .int a3] (rZ X) v (rPZ X r) := by
  refine evm_of (by decide +kernel) (fun G => Nat.le_of_ble_eq_true rfl) ?_
  show Ev mX7_grain 2 0 0 0 [(0, .ref 0), (1, .int a1), (2, .int a2), (3, .int a3)] [] (rZ X) v _
  unfold f_X7_grain at h
  refine e_aload_n dX7_grain_0 rfl ?_
  refine e_iload_n dX7_grain_1 rfl ?_
  refine c_VZ (M' := mX7_isStain) [.int a1] dX7_grain_2 rfl wmX7_306 imX7_isStain seX7_isStain lkX7_isStain k0_0 rc7 (Nat.le_of_ble_eq_true rfl) ((x_X7_isStain ).mono (by omega)) ?_
  refine e_if_eq (tgt := 26) dX7_grain_5 (by decide) (fun c9 => ?_) (fun c9 => ?_)
  · rw [if_neg (bI_n c9)] at h
    refine e_iconst (x := (0 : Int32)) dX7_grain_26 (by decide) ?_
    obtain rfl := Option.some.inj h
    exact e_iret dX7_grain_27 rfl rfl ⟨rfl, rfl, rfl⟩
  · rw [if_pos (bI_p c9)] at h
    refine e_iload_n dX7_grain_8 rfl ?_
    refine c_SZ (M' := mX7_isCell) [.int a2] dX7_grain_9 rfl wmX7_187 stX7_isCell lkX7_isCell (Nat.le_of_ble_eq_true rfl) ((x_X7_isCell ).mono (by omega)) ?_
    refine e_if_eq (tgt := 26) dX7_grain_12 (by decide) (fun c8 => ?_) (fun c8 => ?_)
    · rw [if_neg (bI_n c8)] at h
      refine e_iconst (x := (0 : Int32)) dX7_grain_26 (by decide) ?_
      obtain rfl := Option.some.inj h
      exact e_iret dX7_grain_27 rfl rfl ⟨rfl, rfl, rfl⟩
    · rw [if_pos (bI_p c8)] at h
      refine e_iload_n dX7_grain_15 rfl ?_
      refine e_if_lt (tgt := 26) dX7_grain_16 (by decide) (fun c7 => ?_) (fun c7 => ?_)
      · rw [if_pos c7] at h
        refine e_iconst (x := (0 : Int32)) dX7_grain_26 (by decide) ?_
        obtain rfl := Option.some.inj h
        exact e_iret dX7_grain_27 rfl rfl ⟨rfl, rfl, rfl⟩
      · rw [if_neg c7] at h
        refine e_iload_n dX7_grain_19 rfl ?_
        refine e_sipush (x := (9999 : Int32)) dX7_grain_20 (by decide) ?_
        refine e_icmp_le (tgt := 28) dX7_grain_23 (by decide) (fun c6 => ?_) (fun c6 => ?_)
        · rw [if_pos c6] at h
          refine e_aload_n dX7_grain_28 rfl ?_
          refine e_get (w := .ref 52) (j := 8) dX7_grain_29 k0_0 rc7 (by decide) wfX7_54 (g0_0_8) ?_
          refine e_iload_n dX7_grain_32 rfl ?_
          obtain ⟨c3, h⟩ := grd h
          refine e_aaldJ dX7_grain_33 k0_52 rfl rfl c3.2 c3.1 (r0_52 (c3).2) ?_
          refine e_iload_n dX7_grain_34 rfl ?_
          refine e_iload_n dX7_grain_35 rfl ?_
          obtain ⟨c4, h⟩ := grd h
          refine e_iastJ dX7_grain_36 (q0_52 (c3).2) rfl c4.2 c4.1 ?_
          obtain ⟨v5, ev5, h⟩ := vlet_ex h
          refine e_nameV ev5.symm ?_
          clear ev5
          refine e_iconst (x := (1 : Int32)) dX7_grain_37 (by decide) ?_
          obtain rfl := Option.some.inj h
          exact e_iret dX7_grain_38 rfl rfl ⟨rfl, rfl, rfl⟩
        · rw [if_neg c6] at h
          refine e_iconst (x := (0 : Int32)) dX7_grain_26 (by decide) ?_
          obtain rfl := Option.some.inj h
          exact e_iret dX7_grain_27 rfl rfl ⟨rfl, rfl, rfl⟩
def f_X7_heap (v : rV) (a1 : Int32) (a2 : Int32) : Option (Int32) := if (f_X7_isCell a1) = true then
  (if a2 < 0 then
  (some (-1 : Int32))
else
  (if a2 ≤ (1 : Int32) then
  (if a2 = (1 : Int32) then
  (if ¬ a1 < 0 ∧ a1.toNatClampNeg < 24 then
  (some (v.1 70 a1.toNatClampNeg))
else none)
else
  ((f_X5_lyingAt v 60 a1).bind fun p2 =>
  if ¬ a1 < 0 ∧ a1.toNatClampNeg < 24 then
  (some (p2 - (v.1 70 a1.toNatClampNeg)))
else none))
else
  (some (-1 : Int32))))
else
  (some (-1 : Int32))
set_option maxRecDepth 20000 in
theorem x_X7_heap {X : Nat × (Nat → Int32)} {v : rV} {r : Int32} {a1 : Int32} {a2 : Int32}  (h : f_X7_heap v a1 a2 = some r) : EvM mX7_heap 2 0 0 [.ref 0, .int a1, .int a2] (rZ X) v (rPI X (r, v)) := by
  refine evm_of (by decide +kernel) (fun G => Nat.le_of_ble_eq_true rfl) ?_
  show Ev mX7_heap 2 0 0 0 [(0, .ref 0), (1, .int a1), (2, .int a2)] [] (rZ X) v _
  unfold f_X7_heap at h
  refine e_iload_n dX7_heap_0 rfl ?_
  refine c_SZ (M' := mX7_isCell) [.int a1] dX7_heap_1 rfl wmX7_187 stX7_isCell lkX7_isCell (Nat.le_of_ble_eq_true rfl) ((x_X7_isCell ).mono (by omega)) ?_
  refine e_if_eq (tgt := 16) dX7_heap_4 (by decide) (fun c8 => ?_) (fun c8 => ?_)
  · rw [if_neg (bI_n c8)] at h
    refine e_iconst (x := (-1 : Int32)) dX7_heap_16 (by decide) ?_
    obtain rfl := Option.some.inj h
    exact e_iret dX7_heap_17 rfl rfl ⟨rfl, rfl, rfl⟩
  · rw [if_pos (bI_p c8)] at h
    refine e_iload_n dX7_heap_7 rfl ?_
    refine e_if_lt (tgt := 16) dX7_heap_8 (by decide) (fun c7 => ?_) (fun c7 => ?_)
    · rw [if_pos c7] at h
      refine e_iconst (x := (-1 : Int32)) dX7_heap_16 (by decide) ?_
      obtain rfl := Option.some.inj h
      exact e_iret dX7_heap_17 rfl rfl ⟨rfl, rfl, rfl⟩
    · rw [if_neg c7] at h
      refine e_iload_n dX7_heap_11 rfl ?_
      refine e_iconst (x := (1 : Int32)) dX7_heap_12 (by decide) ?_
      refine e_icmp_le (tgt := 18) dX7_heap_13 (by decide) (fun c6 => ?_) (fun c6 => ?_)
      · rw [if_pos c6] at h
        refine e_iload_n dX7_heap_18 rfl ?_
        refine e_iconst (x := (1 : Int32)) dX7_heap_19 (by decide) ?_
        refine e_icmp_ne (tgt := 35) dX7_heap_20 (by decide) (fun c5 => ?_) (fun c5 => ?_)
        · rw [if_neg c5] at h
          refine e_aload_n dX7_heap_35 rfl ?_
          refine e_get (w := .ref 60) (j := 10) dX7_heap_36 k0_0 rc7 (by decide) wfX7_63 (g0_0_10) ?_
          refine e_iload_n dX7_heap_39 rfl ?_
          obtain ⟨p2, ep2, h⟩ := Option.bind_eq_some_iff.mp h
          refine c_VI (M' := mX5_lyingAt) [.int a1] dX7_heap_40 rfl wmX7_205 imX5_lyingAt seX5_lyingAt lkX5_lyingAt k0_60 rc5 (Nat.le_of_ble_eq_true rfl) ((x_X5_lyingAt (by decide) ep2).mono (by omega)) ?_
          refine e_aload_n dX7_heap_43 rfl ?_
          refine e_get (w := .ref 60) (j := 10) dX7_heap_44 k0_0 rc7 (by decide) wfX7_63 (g0_0_10) ?_
          refine e_get (w := .ref 70) (j := 6) dX7_heap_47 k0_60 rc5 (by decide) wfX7_202 (g0_60_6) ?_
          refine e_iload_n dX7_heap_50 rfl ?_
          obtain ⟨c3, h⟩ := grd h
          refine e_ialdJ dX7_heap_51 k0_70 rfl c3.2 c3.1 ?_
          refine e_isub dX7_heap_52 ?_
          obtain rfl := Option.some.inj h
          exact e_iret dX7_heap_53 rfl rfl ⟨rfl, rfl, rfl⟩
        · rw [if_pos c5] at h
          refine e_aload_n dX7_heap_23 rfl ?_
          refine e_get (w := .ref 60) (j := 10) dX7_heap_24 k0_0 rc7 (by decide) wfX7_63 (g0_0_10) ?_
          refine e_get (w := .ref 70) (j := 6) dX7_heap_27 k0_60 rc5 (by decide) wfX7_202 (g0_60_6) ?_
          refine e_iload_n dX7_heap_30 rfl ?_
          obtain ⟨c4, h⟩ := grd h
          refine e_ialdJ dX7_heap_31 k0_70 rfl c4.2 c4.1 ?_
          refine e_goto (tgt := 53) dX7_heap_32 (by decide) ?_
          obtain rfl := Option.some.inj h
          exact e_iret dX7_heap_53 rfl rfl ⟨rfl, rfl, rfl⟩
      · rw [if_neg c6] at h
        refine e_iconst (x := (-1 : Int32)) dX7_heap_16 (by decide) ?_
        obtain rfl := Option.some.inj h
        exact e_iret dX7_heap_17 rfl rfl ⟨rfl, rfl, rfl⟩
def f_X7_image (v : rV)  : Option (Int32 × rV) := (f_X5_copy v 136 60).bind fun p1 =>
  vlet (rI p1 0 16 (1 : Int32)) fun v2 =>
  some (v2.1 60 15, v2)
set_option maxRecDepth 20000 in
theorem x_X7_image {X : Nat × (Nat → Int32)} {v : rV} {r : Int32 × rV}   (h : f_X7_image v = some r) : EvM mX7_image 3 0 0 [.ref 0] (rZ X) v (rPI X r) := by
  refine evm_of (by decide +kernel) (fun G => Nat.le_of_ble_eq_true rfl) ?_
  show Ev mX7_image 3 0 0 0 [(0, .ref 0)] [] (rZ X) v _
  unfold f_X7_image at h
  refine e_aload_n dX7_image_0 rfl ?_
  refine e_get (w := .ref 136) (j := 12) dX7_image_1 k0_0 rc7 (by decide) wfX7_70 (g0_0_12) ?_
  refine e_aload_n dX7_image_4 rfl ?_
  refine e_get (w := .ref 60) (j := 10) dX7_image_5 k0_0 rc7 (by decide) wfX7_63 (g0_0_10) ?_
  obtain ⟨p1, ep1, h⟩ := Option.bind_eq_some_iff.mp h
  refine c_VV (M' := mX5_copy) [.ref 60] dX7_image_8 rfl wmX7_255 imX5_copy seX5_copy lkX5_copy k0_136 rc5 (Nat.le_of_ble_eq_true rfl) ((x_X5_copy (by decide) (by decide) ep1).mono (by omega)) ?_
  refine e_aload_n dX7_image_11 rfl ?_
  refine e_iconst (x := (1 : Int32)) dX7_image_12 (by decide) ?_
  refine e_putZ (j := 16) dX7_image_13 k0_0 rc7 (by decide) wfX7_259 rfl rfl (by decide) ?_
  obtain ⟨v2, ev2, h⟩ := vlet_ex h
  refine e_nameV ev2.symm ?_
  clear ev2
  refine e_aload_n dX7_image_16 rfl ?_
  refine e_get (w := .ref 60) (j := 10) dX7_image_17 k0_0 rc7 (by decide) wfX7_63 (g0_0_10) ?_
  refine e_get (w := .int (v2.1 60 15)) (j := 15) dX7_image_20 k0_60 rc5 (by decide) wfX7_224 rfl ?_
  obtain rfl := Option.some.inj h
  exact e_iret dX7_image_23 rfl rfl ⟨rfl, rfl, rfl⟩
def f_X7_isMetBy (v : rV) (k1 : Nat) (a2 : Int32) : Option (Bool × rV) := (f_X5_tellWants v k1).bind fun p1 =>
  (f_X4_at p1 23 a2).bind fun p2 =>
  if isForm p2 = true then
  ((f_X2_worth p1 p2 (k1 + 3)).bind fun p3 =>
  if p3.1 = 0 then
  (some (false, p3.2))
else
  (some (true, p3.2))) else none
set_option maxRecDepth 20000 in
theorem x_X7_isMetBy {X : Nat × (Nat → Int32)} {v : rV} {r : Bool × rV} {k1 : Nat} {a2 : Int32} (hk1 : isStrip k1 = true) (h : f_X7_isMetBy v k1 a2 = some r) : EvM mX7_isMetBy 11 0 0 [.ref 0, .ref k1, .int a2] (rZ X) v (rPZ X r) := by
  refine evm_of (by decide +kernel) (fun G => Nat.le_of_ble_eq_true rfl) ?_
  show Ev mX7_isMetBy 11 0 0 0 [(0, .ref 0), (1, .ref k1), (2, .int a2)] [] (rZ X) v _
  unfold f_X7_isMetBy at h
  refine e_aload_n dX7_isMetBy_0 rfl ?_
  obtain ⟨p1, ep1, h⟩ := Option.bind_eq_some_iff.mp h
  refine c_VV (M' := mX5_tellWants) [] dX7_isMetBy_1 rfl wmX7_243 imX5_tellWants seX5_tellWants lkX5_tellWants (kStrip_0 hk1) rc5 (Nat.le_of_ble_eq_true rfl) ((x_X5_tellWants hk1 ep1).mono (by omega)) ?_
  refine e_aload_n dX7_isMetBy_4 rfl ?_
  refine e_get (w := .ref 23) (j := 4) dX7_isMetBy_5 k0_0 rc7 (by decide) wfX7_39 (g0_0_4) ?_
  refine e_iload_n dX7_isMetBy_8 rfl ?_
  obtain ⟨p2, ep2, h⟩ := Option.bind_eq_some_iff.mp h
  refine c_VA (M' := mX4_at) [.int a2] dX7_isMetBy_9 rfl wmX7_159 imX4_at seX4_at lkX4_at k0_23 rc4 (Nat.le_of_ble_eq_true rfl) ((x_X4_at (by decide) ep2).mono (by omega)) ?_
  obtain ⟨hfp2, h⟩ := grd h
  refine e_aload_n dX7_isMetBy_12 rfl ?_
  refine e_get (w := .ref (k1 + 3)) (j := 2) dX7_isMetBy_13 (kStrip_0 hk1) rc5 (by decide) wfX7_246 (gStrip_2 hk1) ?_
  obtain ⟨p3, ep3, h⟩ := Option.bind_eq_some_iff.mp h
  refine c_VI (M' := mX2_worth) [.ref (k1 + 3)] dX7_isMetBy_16 rfl wmX7_249 imX2_worth seX2_worth lkX2_worth (kForm_0 hfp2) rc2 (Nat.le_of_ble_eq_true rfl) ((x_X2_worth hfp2 (kStrip_3 (X := X) hk1) ep3).mono (by omega)) ?_
  refine e_if_eq (tgt := 26) dX7_isMetBy_19 (by decide) (fun c4 => ?_) (fun c4 => ?_)
  · rw [if_pos c4] at h
    refine e_iconst (x := (0 : Int32)) dX7_isMetBy_26 (by decide) ?_
    obtain rfl := Option.some.inj h
    exact e_iret dX7_isMetBy_27 rfl rfl ⟨rfl, rfl, rfl⟩
  · rw [if_neg c4] at h
    refine e_iconst (x := (1 : Int32)) dX7_isMetBy_22 (by decide) ?_
    refine e_goto (tgt := 27) dX7_isMetBy_23 (by decide) ?_
    obtain rfl := Option.some.inj h
    exact e_iret dX7_isMetBy_27 rfl rfl ⟨rfl, rfl, rfl⟩
def f_X7_join_28   : Nat → rV → Int32 → Int32 → Int32 → Int32 → Option (Int32 × rV)
  | 0, _, _, _, _, _ => none
  | n + 1, v, a1, a2, a3, a4 => if (24 : Int32) ≤ a4 then
  (some (a3, v))
else
  (if ¬ a1 < 0 ∧ a1.toNatClampNeg < 6 then
  (if ¬ a4 < 0 ∧ a4.toNatClampNeg < 24 then
  (if ¬ a2 < 0 ∧ a2.toNatClampNeg < 6 then
  (vlet (rI v (53 + a1.toNatClampNeg) a4.toNatClampNeg (if ((v.1 (53 + a1.toNatClampNeg) a4.toNatClampNeg) + (v.1 (53 + a2.toNatClampNeg) a4.toNatClampNeg)) < (9999 : Int32) then ((v.1 (53 + a1.toNatClampNeg) a4.toNatClampNeg) + (v.1 (53 + a2.toNatClampNeg) a4.toNatClampNeg)) else (9999 : Int32))) fun v6 =>
  vlet (a3 + (v6.1 (53 + a1.toNatClampNeg) a4.toNatClampNeg) : Int32) fun x7 =>
  vlet (a4 + (1 : Int32)) fun x8 =>
  f_X7_join_28  n v6 a1 a2 x7 x8)
else none)
else none)
else none)
def f_X7_join (v : rV) (a1 : Int32) (a2 : Int32) : Option (Int32 × rV) := if (f_X7_isStain v a1) = true then
  (if (f_X7_isStain v a2) = true then
  (if a1 = a2 then
  (some ((-1 : Int32), v))
else
  (f_X7_join_28  20000 v a1 a2 (0 : Int32) (0 : Int32)))
else
  (some ((-1 : Int32), v)))
else
  (some ((-1 : Int32), v))
set_option maxRecDepth 20000 in
theorem b_X7_join_28 {X : Nat × (Nat → Int32)} {r : Int32 × rV}   : ∀ (n : Nat) (v : rV) (a1 : Int32) (a2 : Int32) (a3 : Int32) (a4 : Int32) , f_X7_join_28   n v a1 a2 a3 a4 = some r → Ev mX7_join 2 0 0 28 [(0, .ref 0), (1, .int a1), (2, .int a2), (3, .int a3), (4, .int a4)] [] (rZ X) v (rPI X r) := by
  intro n
  induction n with
  | zero =>
    intros
    rename_i h
    cases h
  | succ n ih =>
    intro v a1 a2 a3 a4 h
    rw [f_X7_join_28] at h
    refine e_iload dX7_join_28 rfl ?_
    refine e_bipush (x := (24 : Int32)) dX7_join_30 (by decide) ?_
    refine e_icmp_ge (tgt := 87) dX7_join_32 (by decide) (fun c9 => ?_) (fun c9 => ?_)
    · rw [if_pos c9] at h
      refine e_iload_n dX7_join_87 rfl ?_
      obtain rfl := Option.some.inj h
      exact e_iret dX7_join_88 rfl rfl ⟨rfl, rfl, rfl⟩
    · rw [if_neg c9] at h
      refine e_aload_n dX7_join_35 rfl ?_
      refine e_get (w := .ref 52) (j := 8) dX7_join_36 k0_0 rc7 (by decide) wfX7_54 (g0_0_8) ?_
      refine e_iload_n dX7_join_39 rfl ?_
      obtain ⟨c3, h⟩ := grd h
      refine e_aaldJ dX7_join_40 k0_52 rfl rfl c3.2 c3.1 (r0_52 (c3).2) ?_
      refine e_iload dX7_join_41 rfl ?_
      refine e_sipush (x := (9999 : Int32)) dX7_join_43 (by decide) ?_
      refine e_aload_n dX7_join_46 rfl ?_
      refine e_get (w := .ref 52) (j := 8) dX7_join_47 k0_0 rc7 (by decide) wfX7_54 (g0_0_8) ?_
      refine e_iload_n dX7_join_50 rfl ?_
      refine e_aaldJ dX7_join_51 k0_52 rfl rfl (c3).2 (c3).1 (r0_52 (c3).2) ?_
      refine e_iload dX7_join_52 rfl ?_
      obtain ⟨c4, h⟩ := grd h
      refine e_ialdJ dX7_join_54 (q0_52 (c3).2) rfl c4.2 c4.1 ?_
      refine e_aload_n dX7_join_55 rfl ?_
      refine e_get (w := .ref 52) (j := 8) dX7_join_56 k0_0 rc7 (by decide) wfX7_54 (g0_0_8) ?_
      refine e_iload_n dX7_join_59 rfl ?_
      obtain ⟨c5, h⟩ := grd h
      refine e_aaldJ dX7_join_60 k0_52 rfl rfl c5.2 c5.1 (r0_52 (c5).2) ?_
      refine e_iload dX7_join_61 rfl ?_
      refine e_ialdJ dX7_join_63 (q0_52 (c5).2) rfl (c4).2 (c4).1 ?_
      refine e_iadd dX7_join_64 ?_
      refine e_min dX7_join_65 wmX7_315 wmst_min winimath wmcd_min (by omega) (Nat.le_of_ble_eq_true rfl) ?_
      refine e_iastJ dX7_join_68 (q0_52 (c3).2) rfl (c4).2 (c4).1 ?_
      obtain ⟨v6, ev6, h⟩ := vlet_ex h
      refine e_nameV ev6.symm ?_
      clear ev6
      refine e_iload_n dX7_join_69 rfl ?_
      refine e_aload_n dX7_join_70 rfl ?_
      refine e_get (w := .ref 52) (j := 8) dX7_join_71 k0_0 rc7 (by decide) wfX7_54 (g0_0_8) ?_
      refine e_iload_n dX7_join_74 rfl ?_
      refine e_aaldJ dX7_join_75 k0_52 rfl rfl (c3).2 (c3).1 (r0_52 (c3).2) ?_
      refine e_iload dX7_join_76 rfl ?_
      refine e_ialdJ dX7_join_78 (q0_52 (c3).2) rfl (c4).2 (c4).1 ?_
      refine e_iadd dX7_join_79 ?_
      obtain ⟨x7, ex7, h⟩ := vlet_ex h
      refine e_nameI ex7.symm ?_
      clear ex7
      refine e_istore_n (lv' := [(3, .int x7), (0, .ref 0), (1, .int a1), (2, .int a2), (4, .int a4)]) dX7_join_80 (by decide) rfl ?_
      obtain ⟨x8, ex8, h⟩ := vlet_ex h
      refine e_iinc (lv' := [(4, .int x8), (3, .int x7), (0, .ref 0), (1, .int a1), (2, .int a2)]) dX7_join_81 rfl (ex8.symm) (by decide) rfl ?_
      clear ex8
      refine e_goto (tgt := 28) dX7_join_84 (by decide) ?_
      refine e_sub [2, 3, 4, 1, 0] rfl ?_
      exact ih v6 a1 a2 x7 x8 h
set_option maxRecDepth 20000 in
theorem x_X7_join {X : Nat × (Nat → Int32)} {v : rV} {r : Int32 × rV} {a1 : Int32} {a2 : Int32}  (h : f_X7_join v a1 a2 = some r) : EvM mX7_join 2 0 0 [.ref 0, .int a1, .int a2] (rZ X) v (rPI X r) := by
  refine evm_of (by decide +kernel) (fun G => Nat.le_of_ble_eq_true rfl) ?_
  show Ev mX7_join 2 0 0 0 [(0, .ref 0), (1, .int a1), (2, .int a2)] [] (rZ X) v _
  unfold f_X7_join at h
  refine e_aload_n dX7_join_0 rfl ?_
  refine e_iload_n dX7_join_1 rfl ?_
  refine c_VZ (M' := mX7_isStain) [.int a1] dX7_join_2 rfl wmX7_306 imX7_isStain seX7_isStain lkX7_isStain k0_0 rc7 (Nat.le_of_ble_eq_true rfl) ((x_X7_isStain ).mono (by omega)) ?_
  refine e_if_eq (tgt := 21) dX7_join_5 (by decide) (fun c12 => ?_) (fun c12 => ?_)
  · rw [if_neg (bI_n c12)] at h
    refine e_iconst (x := (-1 : Int32)) dX7_join_21 (by decide) ?_
    obtain rfl := Option.some.inj h
    exact e_iret dX7_join_22 rfl rfl ⟨rfl, rfl, rfl⟩
  · rw [if_pos (bI_p c12)] at h
    refine e_aload_n dX7_join_8 rfl ?_
    refine e_iload_n dX7_join_9 rfl ?_
    refine c_VZ (M' := mX7_isStain) [.int a2] dX7_join_10 rfl wmX7_306 imX7_isStain seX7_isStain lkX7_isStain k0_0 rc7 (Nat.le_of_ble_eq_true rfl) ((x_X7_isStain ).mono (by omega)) ?_
    refine e_if_eq (tgt := 21) dX7_join_13 (by decide) (fun c11 => ?_) (fun c11 => ?_)
    · rw [if_neg (bI_n c11)] at h
      refine e_iconst (x := (-1 : Int32)) dX7_join_21 (by decide) ?_
      obtain rfl := Option.some.inj h
      exact e_iret dX7_join_22 rfl rfl ⟨rfl, rfl, rfl⟩
    · rw [if_pos (bI_p c11)] at h
      refine e_iload_n dX7_join_16 rfl ?_
      refine e_iload_n dX7_join_17 rfl ?_
      refine e_icmp_ne (tgt := 23) dX7_join_18 (by decide) (fun c10 => ?_) (fun c10 => ?_)
      · rw [if_neg c10] at h
        refine e_iconst (x := (0 : Int32)) dX7_join_23 (by decide) ?_
        refine e_istore_n (lv' := [(3, .int (0 : Int32)), (0, .ref 0), (1, .int a1), (2, .int a2)]) dX7_join_24 (by decide) rfl ?_
        refine e_iconst (x := (0 : Int32)) dX7_join_25 (by decide) ?_
        refine e_istore (lv' := [(4, .int (0 : Int32)), (3, .int (0 : Int32)), (0, .ref 0), (1, .int a1), (2, .int a2)]) dX7_join_26 (by decide) rfl ?_
        refine e_sub [2, 3, 4, 1, 0] rfl ?_
        exact b_X7_join_28  _ v a1 a2 (0 : Int32) (0 : Int32) h
      · rw [if_pos c10] at h
        refine e_iconst (x := (-1 : Int32)) dX7_join_21 (by decide) ?_
        obtain rfl := Option.some.inj h
        exact e_iret dX7_join_22 rfl rfl ⟨rfl, rfl, rfl⟩
def f_X7_keepDrop (v : rV)  : Option (Int32 × rV) := if (v.1 0 13) < (12 : Int32) then
  (if ¬ (v.1 0 13) < 0 ∧ (v.1 0 13).toNatClampNeg < 12 then
  (vlet (rCp v (38 + (v.1 0 13).toNatClampNeg) 8 0 0 12) fun v2 =>
  vlet (rI v2 0 13 ((v2.1 0 13) + (1 : Int32))) fun v3 =>
  some ((v3.1 0 13) - (1 : Int32), v3))
else none)
else
  (some ((-1 : Int32), v))
set_option maxRecDepth 20000 in
theorem x_X7_keepDrop {X : Nat × (Nat → Int32)} {v : rV} {r : Int32 × rV}   (h : f_X7_keepDrop v = some r) : EvM mX7_keepDrop 1 0 0 [.ref 0] (rZ X) v (rPI X r) := by
  refine evm_of (by decide +kernel) (fun G => Nat.le_of_ble_eq_true rfl) ?_
  show Ev mX7_keepDrop 1 0 0 0 [(0, .ref 0)] [] (rZ X) v _
  unfold f_X7_keepDrop at h
  refine e_aload_n dX7_keepDrop_0 rfl ?_
  refine e_get (w := .int (v.1 0 13)) (j := 13) dX7_keepDrop_1 k0_0 rc7 (by decide) wfX7_112 rfl ?_
  refine e_aload_n dX7_keepDrop_4 rfl ?_
  refine e_get (w := .ref 37) (j := 5) dX7_keepDrop_5 k0_0 rc7 (by decide) wfX7_44 (g0_0_5) ?_
  refine e_alenJ (x := (12 : Int32)) dX7_keepDrop_8 k0_37 (Or.inr (Or.inr rfl)) (by decide) ?_
  refine e_icmp_lt (tgt := 14) dX7_keepDrop_9 (by decide) (fun c4 => ?_) (fun c4 => ?_)
  · rw [if_pos c4] at h
    refine e_aload_n dX7_keepDrop_14 rfl ?_
    refine e_get (w := .ref 7) (j := 2) dX7_keepDrop_15 k0_0 rc7 (by decide) wfX7_28 (g0_0_2) ?_
    refine e_get (w := .ref 8) (j := 1) dX7_keepDrop_18 k0_7 rc1 (by decide) wfX7_115 (g0_7_1) ?_
    refine e_iconst (x := (0 : Int32)) dX7_keepDrop_21 (by decide) ?_
    refine e_aload_n dX7_keepDrop_22 rfl ?_
    refine e_get (w := .ref 37) (j := 5) dX7_keepDrop_23 k0_0 rc7 (by decide) wfX7_44 (g0_0_5) ?_
    refine e_aload_n dX7_keepDrop_26 rfl ?_
    refine e_get (w := .int (v.1 0 13)) (j := 13) dX7_keepDrop_27 k0_0 rc7 (by decide) wfX7_112 rfl ?_
    obtain ⟨c1, h⟩ := grd h
    refine e_aaldJ dX7_keepDrop_30 k0_37 rfl rfl c1.2 c1.1 (r0_37 (c1).2) ?_
    refine e_iconst (x := (0 : Int32)) dX7_keepDrop_31 (by decide) ?_
    refine e_bipush (x := (12 : Int32)) dX7_keepDrop_32 (by decide) ?_
    refine e_copy dX7_keepDrop_34 wmX7_118 wnative wcopystat winisys k0_8 (q0_37 (c1).2) rfl (by decide) (by decide) (by decide) (by decide) (by decide) (Nat.le_of_ble_eq_true rfl) (by omega) ?_
    obtain ⟨v2, ev2, h⟩ := vlet_ex h
    refine e_nameV ev2.symm ?_
    clear ev2
    refine e_aload_n dX7_keepDrop_37 rfl ?_
    refine e_dup dX7_keepDrop_38 rfl ?_
    refine e_get (w := .int (v2.1 0 13)) (j := 13) dX7_keepDrop_39 k0_0 rc7 (by decide) wfX7_112 rfl ?_
    refine e_iconst (x := (1 : Int32)) dX7_keepDrop_42 (by decide) ?_
    refine e_iadd dX7_keepDrop_43 ?_
    refine e_putI (j := 13) dX7_keepDrop_44 k0_0 rc7 (by decide) wfX7_112 rfl rfl ?_
    obtain ⟨v3, ev3, h⟩ := vlet_ex h
    refine e_nameV ev3.symm ?_
    clear ev3
    refine e_aload_n dX7_keepDrop_47 rfl ?_
    refine e_get (w := .int (v3.1 0 13)) (j := 13) dX7_keepDrop_48 k0_0 rc7 (by decide) wfX7_112 rfl ?_
    refine e_iconst (x := (1 : Int32)) dX7_keepDrop_51 (by decide) ?_
    refine e_isub dX7_keepDrop_52 ?_
    obtain rfl := Option.some.inj h
    exact e_iret dX7_keepDrop_53 rfl rfl ⟨rfl, rfl, rfl⟩
  · rw [if_neg c4] at h
    refine e_iconst (x := (-1 : Int32)) dX7_keepDrop_12 (by decide) ?_
    obtain rfl := Option.some.inj h
    exact e_iret dX7_keepDrop_13 rfl rfl ⟨rfl, rfl, rfl⟩
def f_X7_leastOfChanged_3   : Nat → rV → Int32 → Int32 → Int32 → Int64 → Int32 → Int32 → Option (Int32 × rV)
  | 0, _, _, _, _, _, _, _ => none
  | n + 1, v, a1, a2, a3, a4, a6, a7 => if (60 : Int32) < a7 then
  (some ((-1 : Int32), v))
else
  (if ¬ a2 < 0 ∧ a2.toNatClampNeg < 12 then
  (vlet (rI v 51 a2.toNatClampNeg a7) fun v2 =>
  (f_X7_tryAlone v2 a1 51 a4 a6).bind fun p3 =>
  (f_X7_isMetBy p3 98 a3).bind fun p4 =>
  if p4.1 = true then
  (some (a7, p4.2))
else
  (vlet (a7 + (1 : Int32)) fun x5 =>
  f_X7_leastOfChanged_3  n p4.2 a1 a2 a3 a4 a6 x5))
else none)
def f_X7_leastOfChanged (v : rV) (a1 : Int32) (a2 : Int32) (a3 : Int32) (a4 : Int64) (a6 : Int32) : Option (Int32 × rV) := f_X7_leastOfChanged_3  20000 v a1 a2 a3 a4 a6 (0 : Int32)
set_option maxRecDepth 20000 in
theorem b_X7_leastOfChanged_3 {X : Nat × (Nat → Int32)} {r : Int32 × rV}   : ∀ (n : Nat) (v : rV) (a1 : Int32) (a2 : Int32) (a3 : Int32) (a4 : Int64) (a6 : Int32) (a7 : Int32) , f_X7_leastOfChanged_3   n v a1 a2 a3 a4 a6 a7 = some r → Ev mX7_leastOfChanged 12 0 0 3 [(0, .ref 0), (1, .int a1), (2, .int a2), (3, .int a3), (4, .long a4), (6, .int a6), (7, .int a7)] [] (rZ X) v (rPI X r) := by
  intro n
  induction n with
  | zero =>
    intros
    rename_i h
    cases h
  | succ n ih =>
    intro v a1 a2 a3 a4 a6 a7 h
    rw [f_X7_leastOfChanged_3] at h
    refine e_iload dX7_leastOfChanged_3 rfl ?_
    refine e_bipush (x := (60 : Int32)) dX7_leastOfChanged_5 (by decide) ?_
    refine e_icmp_gt (tgt := 52) dX7_leastOfChanged_7 (by decide) (fun c7 => ?_) (fun c7 => ?_)
    · rw [if_pos c7] at h
      refine e_iconst (x := (-1 : Int32)) dX7_leastOfChanged_52 (by decide) ?_
      obtain rfl := Option.some.inj h
      exact e_iret dX7_leastOfChanged_53 rfl rfl ⟨rfl, rfl, rfl⟩
    · rw [if_neg c7] at h
      refine e_aload_n dX7_leastOfChanged_10 rfl ?_
      refine e_get (w := .ref 51) (j := 7) dX7_leastOfChanged_11 k0_0 rc7 (by decide) wfX7_51 (g0_0_7) ?_
      refine e_iload_n dX7_leastOfChanged_14 rfl ?_
      refine e_iload dX7_leastOfChanged_15 rfl ?_
      obtain ⟨c1, h⟩ := grd h
      refine e_iastJ dX7_leastOfChanged_17 k0_51 rfl c1.2 c1.1 ?_
      obtain ⟨v2, ev2, h⟩ := vlet_ex h
      refine e_nameV ev2.symm ?_
      clear ev2
      refine e_aload_n dX7_leastOfChanged_18 rfl ?_
      refine e_iload_n dX7_leastOfChanged_19 rfl ?_
      refine e_aload_n dX7_leastOfChanged_20 rfl ?_
      refine e_get (w := .ref 51) (j := 7) dX7_leastOfChanged_21 k0_0 rc7 (by decide) wfX7_51 (g0_0_7) ?_
      refine e_lload dX7_leastOfChanged_24 rfl ?_
      refine e_iload dX7_leastOfChanged_26 rfl ?_
      obtain ⟨p3, ep3, h⟩ := Option.bind_eq_some_iff.mp h
      refine c_VV (M' := mX7_tryAlone) [.int a1, .ref 51, .long a4, .int a6] dX7_leastOfChanged_28 rfl wmX7_277 imX7_tryAlone seX7_tryAlone lkX7_tryAlone k0_0 rc7 (Nat.le_of_ble_eq_true rfl) ((x_X7_tryAlone (k0_51 (X := X)) ep3).mono (by omega)) ?_
      refine e_aload_n dX7_leastOfChanged_31 rfl ?_
      refine e_aload_n dX7_leastOfChanged_32 rfl ?_
      refine e_get (w := .ref 98) (j := 11) dX7_leastOfChanged_33 k0_0 rc7 (by decide) wfX7_67 (g0_0_11) ?_
      refine e_iload_n dX7_leastOfChanged_36 rfl ?_
      obtain ⟨p4, ep4, h⟩ := Option.bind_eq_some_iff.mp h
      refine c_VZ (M' := mX7_isMetBy) [.ref 98, .int a3] dX7_leastOfChanged_37 rfl wmX7_239 imX7_isMetBy seX7_isMetBy lkX7_isMetBy k0_0 rc7 (Nat.le_of_ble_eq_true rfl) ((x_X7_isMetBy (by decide) ep4).mono (by omega)) ?_
      refine e_if_eq (tgt := 46) dX7_leastOfChanged_40 (by decide) (fun c6 => ?_) (fun c6 => ?_)
      · rw [if_neg (bI_n c6)] at h
        obtain ⟨x5, ex5, h⟩ := vlet_ex h
        refine e_iinc (lv' := [(7, .int x5), (0, .ref 0), (1, .int a1), (2, .int a2), (3, .int a3), (4, .long a4), (6, .int a6)]) dX7_leastOfChanged_46 rfl (ex5.symm) (by decide) rfl ?_
        clear ex5
        refine e_goto (tgt := 3) dX7_leastOfChanged_49 (by decide) ?_
        refine e_sub [1, 2, 3, 4, 5, 6, 0] rfl ?_
        exact ih p4.2 a1 a2 a3 a4 a6 x5 h
      · rw [if_pos (bI_p c6)] at h
        refine e_iload dX7_leastOfChanged_43 rfl ?_
        obtain rfl := Option.some.inj h
        exact e_iret dX7_leastOfChanged_45 rfl rfl ⟨rfl, rfl, rfl⟩
set_option maxRecDepth 20000 in
theorem x_X7_leastOfChanged {X : Nat × (Nat → Int32)} {v : rV} {r : Int32 × rV} {a1 : Int32} {a2 : Int32} {a3 : Int32} {a4 : Int64} {a6 : Int32}  (h : f_X7_leastOfChanged v a1 a2 a3 a4 a6 = some r) : EvM mX7_leastOfChanged 12 0 0 [.ref 0, .int a1, .int a2, .int a3, .long a4, .int a6] (rZ X) v (rPI X r) := by
  refine evm_of (by decide +kernel) (fun G => Nat.le_of_ble_eq_true rfl) ?_
  show Ev mX7_leastOfChanged 12 0 0 0 [(0, .ref 0), (1, .int a1), (2, .int a2), (3, .int a3), (4, .long a4), (6, .int a6)] [] (rZ X) v _
  unfold f_X7_leastOfChanged at h
  refine e_iconst (x := (0 : Int32)) dX7_leastOfChanged_0 (by decide) ?_
  refine e_istore (lv' := [(7, .int (0 : Int32)), (0, .ref 0), (1, .int a1), (2, .int a2), (3, .int a3), (4, .long a4), (6, .int a6)]) dX7_leastOfChanged_1 (by decide) rfl ?_
  refine e_sub [1, 2, 3, 4, 5, 6, 0] rfl ?_
  exact b_X7_leastOfChanged_3  _ v a1 a2 a3 a4 a6 (0 : Int32) h
def f_X7_least (v : rV) (a1 : Int32) (a2 : Int32) (a3 : Int32) (a4 : Int32) (a5 : Int64) (a7 : Int32) : Option (Int32 × rV) := if (f_X4_has v 9 a1) = true then
  (if (f_X7_isDrop v a2) = true then
  (if (f_X7_isTriedLetter a3) = true then
  (if (f_X4_has v 23 a4) = true then
  (if (f_X7_areTicks a7) = true then
  ((f_X7_change v a2).bind fun p6 =>
  (f_X7_leastOfChanged p6 a1 a3 a4 a5 a7).bind fun p7 =>
  some (p7.1, p7.2))
else
  (some ((-1 : Int32), v)))
else
  (some ((-1 : Int32), v)))
else
  (some ((-1 : Int32), v)))
else
  (some ((-1 : Int32), v)))
else
  (some ((-1 : Int32), v))
set_option maxRecDepth 20000 in
theorem x_X7_least {X : Nat × (Nat → Int32)} {v : rV} {r : Int32 × rV} {a1 : Int32} {a2 : Int32} {a3 : Int32} {a4 : Int32} {a5 : Int64} {a7 : Int32}  (h : f_X7_least v a1 a2 a3 a4 a5 a7 = some r) : EvM mX7_least 13 0 0 [.ref 0, .int a1, .int a2, .int a3, .int a4, .long a5, .int a7] (rZ X) v (rPI X r) := by
  refine evm_of (by decide +kernel) (fun G => Nat.le_of_ble_eq_true rfl) ?_
  show Ev mX7_least 13 0 0 0 [(0, .ref 0), (1, .int a1), (2, .int a2), (3, .int a3), (4, .int a4), (5, .long a5), (7, .int a7)] [] (rZ X) v _
  unfold f_X7_least at h
  refine e_aload_n dX7_least_0 rfl ?_
  refine e_get (w := .ref 9) (j := 3) dX7_least_1 k0_0 rc7 (by decide) wfX7_35 (g0_0_3) ?_
  refine e_iload_n dX7_least_4 rfl ?_
  refine c_VZ (M' := mX4_has) [.int a1] dX7_least_5 rfl wmX7_148 imX4_has seX4_has lkX4_has k0_9 rc4 (Nat.le_of_ble_eq_true rfl) ((x_X4_has (by decide)).mono (by omega)) ?_
  refine e_if_eq (tgt := 46) dX7_least_8 (by decide) (fun c12 => ?_) (fun c12 => ?_)
  · rw [if_neg (bI_n c12)] at h
    refine e_iconst (x := (-1 : Int32)) dX7_least_46 (by decide) ?_
    obtain rfl := Option.some.inj h
    exact e_iret dX7_least_47 rfl rfl ⟨rfl, rfl, rfl⟩
  · rw [if_pos (bI_p c12)] at h
    refine e_aload_n dX7_least_11 rfl ?_
    refine e_iload_n dX7_least_12 rfl ?_
    refine c_VZ (M' := mX7_isDrop) [.int a2] dX7_least_13 rfl wmX7_124 imX7_isDrop seX7_isDrop lkX7_isDrop k0_0 rc7 (Nat.le_of_ble_eq_true rfl) ((x_X7_isDrop ).mono (by omega)) ?_
    refine e_if_eq (tgt := 46) dX7_least_16 (by decide) (fun c11 => ?_) (fun c11 => ?_)
    · rw [if_neg (bI_n c11)] at h
      refine e_iconst (x := (-1 : Int32)) dX7_least_46 (by decide) ?_
      obtain rfl := Option.some.inj h
      exact e_iret dX7_least_47 rfl rfl ⟨rfl, rfl, rfl⟩
    · rw [if_pos (bI_p c11)] at h
      refine e_iload_n dX7_least_19 rfl ?_
      refine c_SZ (M' := mX7_isTriedLetter) [.int a3] dX7_least_20 rfl wmX7_267 stX7_isTriedLetter lkX7_isTriedLetter (Nat.le_of_ble_eq_true rfl) ((x_X7_isTriedLetter ).mono (by omega)) ?_
      refine e_if_eq (tgt := 46) dX7_least_23 (by decide) (fun c10 => ?_) (fun c10 => ?_)
      · rw [if_neg (bI_n c10)] at h
        refine e_iconst (x := (-1 : Int32)) dX7_least_46 (by decide) ?_
        obtain rfl := Option.some.inj h
        exact e_iret dX7_least_47 rfl rfl ⟨rfl, rfl, rfl⟩
      · rw [if_pos (bI_p c10)] at h
        refine e_aload_n dX7_least_26 rfl ?_
        refine e_get (w := .ref 23) (j := 4) dX7_least_27 k0_0 rc7 (by decide) wfX7_39 (g0_0_4) ?_
        refine e_iload dX7_least_30 rfl ?_
        refine c_VZ (M' := mX4_has) [.int a4] dX7_least_32 rfl wmX7_148 imX4_has seX4_has lkX4_has k0_23 rc4 (Nat.le_of_ble_eq_true rfl) ((x_X4_has (by decide)).mono (by omega)) ?_
        refine e_if_eq (tgt := 46) dX7_least_35 (by decide) (fun c9 => ?_) (fun c9 => ?_)
        · rw [if_neg (bI_n c9)] at h
          refine e_iconst (x := (-1 : Int32)) dX7_least_46 (by decide) ?_
          obtain rfl := Option.some.inj h
          exact e_iret dX7_least_47 rfl rfl ⟨rfl, rfl, rfl⟩
        · rw [if_pos (bI_p c9)] at h
          refine e_iload dX7_least_38 rfl ?_
          refine c_SZ (M' := mX7_areTicks) [.int a7] dX7_least_40 rfl wmX7_177 stX7_areTicks lkX7_areTicks (Nat.le_of_ble_eq_true rfl) ((x_X7_areTicks ).mono (by omega)) ?_
          refine e_if_ne (tgt := 48) dX7_least_43 (by decide) (fun c8 => ?_) (fun c8 => ?_)
          · rw [if_pos (bI_p c8)] at h
            refine e_aload_n dX7_least_48 rfl ?_
            refine e_iload_n dX7_least_49 rfl ?_
            obtain ⟨p6, ep6, h⟩ := Option.bind_eq_some_iff.mp h
            refine c_VV (M' := mX7_change) [.int a2] dX7_least_50 rfl wmX7_270 imX7_change seX7_change lkX7_change k0_0 rc7 (Nat.le_of_ble_eq_true rfl) ((x_X7_change  ep6).mono (by omega)) ?_
            refine e_aload_n dX7_least_53 rfl ?_
            refine e_iload_n dX7_least_54 rfl ?_
            refine e_iload_n dX7_least_55 rfl ?_
            refine e_iload dX7_least_56 rfl ?_
            refine e_lload dX7_least_58 rfl ?_
            refine e_iload dX7_least_60 rfl ?_
            obtain ⟨p7, ep7, h⟩ := Option.bind_eq_some_iff.mp h
            refine c_VI (M' := mX7_leastOfChanged) [.int a1, .int a3, .int a4, .long a5, .int a7] dX7_least_62 rfl wmX7_273 imX7_leastOfChanged seX7_leastOfChanged lkX7_leastOfChanged k0_0 rc7 (Nat.le_of_ble_eq_true rfl) ((x_X7_leastOfChanged  ep7).mono (by omega)) ?_
            obtain rfl := Option.some.inj h
            exact e_iret dX7_least_65 rfl rfl ⟨rfl, rfl, rfl⟩
          · rw [if_neg (bI_n c8)] at h
            refine e_iconst (x := (-1 : Int32)) dX7_least_46 (by decide) ?_
            obtain rfl := Option.some.inj h
            exact e_iret dX7_least_47 rfl rfl ⟨rfl, rfl, rfl⟩
def f_X7_line_160  (q116 : rV → Int32 → Int32 → Int32 → Int32 → Int64 → Int32 → Int32 → Int32 → Option (Int32 × rV)) (v : rV) (a1 : Int32) (a3 : Int32) (a4 : Int32) (a6 : Int32) (a7 : Int64) (a9 : Int32) (a10 : Int32) (a11 : Int32) : Option (Int32 × rV) := vlet (a11 + (1 : Int32)) fun x11 =>
  q116 v a1 a3 a4 a6 a7 a9 a10 x11
def f_X7_line_116   : Nat → rV → Int32 → Int32 → Int32 → Int32 → Int64 → Int32 → Int32 → Int32 → Option (Int32 × rV)
  | 0, _, _, _, _, _, _, _, _, _ => none
  | n + 1, v, a1, a3, a4, a6, a7, a9, a10, a11 => if (7 : Int32) ≤ a11 then
  (some (a10, v))
else
  (if ¬ a3 < 0 ∧ a3.toNatClampNeg < 12 then
  (vlet (rI v 51 a3.toNatClampNeg ((10 : Int32) * a11)) fun v9 =>
  (f_X7_leastOfChanged v9 a1 a4 a6 a7 a9).bind fun p10 =>
  if p10.1 = (-1 : Int32) then
  (f_X7_line_160 (fun v a1 a3 a4 a6 a7 a9 a10 a11 => f_X7_line_116  n v a1 a3 a4 a6 a7 a9 a10 a11) p10.2 a1 a3 a4 a6 a7 a9 a10 a11)
else
  (vlet (a10 ||| ((1 : Int32) <<< (a11 &&& 31)) : Int32) fun x12 =>
  f_X7_line_160 (fun v a1 a3 a4 a6 a7 a9 a10 a11 => f_X7_line_116  n v a1 a3 a4 a6 a7 a9 a10 a11) p10.2 a1 a3 a4 a6 a7 a9 x12 a11))
else none)
def f_X7_line (v : rV) (a1 : Int32) (a2 : Int32) (a3 : Int32) (a4 : Int32) (a5 : Int32) (a6 : Int32) (a7 : Int64) (a9 : Int32) : Option (Int32 × rV) := if (f_X4_has v 9 a1) = true then
  (if (f_X7_isDrop v a2) = true then
  (if (f_X4_has v 23 a6) = true then
  (if (f_X7_areTicks a9) = true then
  (if (f_X7_isTriedLetter a3) = true then
  (if (f_X7_isTriedLetter a4) = true then
  (if a3 = a4 then
  (some ((-1 : Int32), v))
else
  (if a5 < (-1 : Int32) then
  (some ((-1 : Int32), v))
else
  (if a5 ≤ (60 : Int32) then
  ((f_X7_change v a2).bind fun p7 =>
  if a5 = (-1 : Int32) then
  (f_X7_line_116  20000 p7 a1 a3 a4 a6 a7 a9 (0 : Int32) (0 : Int32))
else
  (if ¬ a3 < 0 ∧ a3.toNatClampNeg < 12 then
  (vlet (rI p7 51 a3.toNatClampNeg a5) fun v16 =>
  (f_X7_leastOfChanged v16 a1 a4 a6 a7 a9).bind fun p17 =>
  some (p17.1, p17.2))
else none))
else
  (some ((-1 : Int32), v)))))
else
  (some ((-1 : Int32), v)))
else
  (some ((-1 : Int32), v)))
else
  (some ((-1 : Int32), v)))
else
  (some ((-1 : Int32), v)))
else
  (some ((-1 : Int32), v)))
else
  (some ((-1 : Int32), v))
set_option maxRecDepth 20000 in
theorem b_X7_line_160 {X : Nat × (Nat → Int32)} {r : Int32 × rV} {v : rV} {q116 : rV → Int32 → Int32 → Int32 → Int32 → Int64 → Int32 → Int32 → Int32 → Option (Int32 × rV)} (hq116 : ∀ (v : rV) (a1 : Int32) (a3 : Int32) (a4 : Int32) (a6 : Int32) (a7 : Int64) (a9 : Int32) (a10 : Int32) (a11 : Int32) , q116 v a1 a3 a4 a6 a7 a9 a10 a11 = some r → Ev mX7_line 13 0 0 116 [(0, .ref 0), (1, .int a1), (3, .int a3), (4, .int a4), (6, .int a6), (7, .long a7), (9, .int a9), (10, .int a10), (11, .int a11)] [] (rZ X) v (rPI X r)) {a1 : Int32} {a3 : Int32} {a4 : Int32} {a6 : Int32} {a7 : Int64} {a9 : Int32} {a10 : Int32} {a11 : Int32}  (h : f_X7_line_160 q116 v a1 a3 a4 a6 a7 a9 a10 a11 = some r) : Ev mX7_line 13 0 0 160 [(0, .ref 0), (1, .int a1), (3, .int a3), (4, .int a4), (6, .int a6), (7, .long a7), (9, .int a9), (10, .int a10), (11, .int a11)] [] (rZ X) v (rPI X r) := by
  unfold f_X7_line_160 at h
  obtain ⟨x11, ex11, h⟩ := vlet_ex h
  refine e_iinc (lv' := [(11, .int x11), (0, .ref 0), (1, .int a1), (3, .int a3), (4, .int a4), (6, .int a6), (7, .long a7), (9, .int a9), (10, .int a10)]) dX7_line_160 rfl (ex11.symm) (by decide) rfl ?_
  clear ex11
  refine e_goto (tgt := 116) dX7_line_163 (by decide) ?_
  refine e_sub [1, 2, 3, 4, 5, 6, 7, 8, 0] rfl ?_
  exact hq116 v a1 a3 a4 a6 a7 a9 a10 x11 h
set_option maxRecDepth 20000 in
theorem b_X7_line_116 {X : Nat × (Nat → Int32)} {r : Int32 × rV}   : ∀ (n : Nat) (v : rV) (a1 : Int32) (a3 : Int32) (a4 : Int32) (a6 : Int32) (a7 : Int64) (a9 : Int32) (a10 : Int32) (a11 : Int32) , f_X7_line_116   n v a1 a3 a4 a6 a7 a9 a10 a11 = some r → Ev mX7_line 13 0 0 116 [(0, .ref 0), (1, .int a1), (3, .int a3), (4, .int a4), (6, .int a6), (7, .long a7), (9, .int a9), (10, .int a10), (11, .int a11)] [] (rZ X) v (rPI X r) := by
  intro n
  induction n with
  | zero =>
    intros
    rename_i h
    cases h
  | succ n ih =>
    intro v a1 a3 a4 a6 a7 a9 a10 a11 h
    rw [f_X7_line_116] at h
    refine e_iload dX7_line_116 rfl ?_
    refine e_bipush (x := (7 : Int32)) dX7_line_118 (by decide) ?_
    refine e_icmp_ge (tgt := 166) dX7_line_120 (by decide) (fun c14 => ?_) (fun c14 => ?_)
    · rw [if_pos c14] at h
      refine e_iload dX7_line_166 rfl ?_
      obtain rfl := Option.some.inj h
      exact e_iret dX7_line_168 rfl rfl ⟨rfl, rfl, rfl⟩
    · rw [if_neg c14] at h
      refine e_aload_n dX7_line_123 rfl ?_
      refine e_get (w := .ref 51) (j := 7) dX7_line_124 k0_0 rc7 (by decide) wfX7_51 (g0_0_7) ?_
      refine e_iload_n dX7_line_127 rfl ?_
      refine e_bipush (x := (10 : Int32)) dX7_line_128 (by decide) ?_
      refine e_iload dX7_line_130 rfl ?_
      refine e_imul dX7_line_132 ?_
      obtain ⟨c8, h⟩ := grd h
      refine e_iastJ dX7_line_133 k0_51 rfl c8.2 c8.1 ?_
      obtain ⟨v9, ev9, h⟩ := vlet_ex h
      refine e_nameV ev9.symm ?_
      clear ev9
      refine e_aload_n dX7_line_134 rfl ?_
      refine e_iload_n dX7_line_135 rfl ?_
      refine e_iload dX7_line_136 rfl ?_
      refine e_iload dX7_line_138 rfl ?_
      refine e_lload dX7_line_140 rfl ?_
      refine e_iload dX7_line_142 rfl ?_
      obtain ⟨p10, ep10, h⟩ := Option.bind_eq_some_iff.mp h
      refine c_VI (M' := mX7_leastOfChanged) [.int a1, .int a4, .int a6, .long a7, .int a9] dX7_line_144 rfl wmX7_273 imX7_leastOfChanged seX7_leastOfChanged lkX7_leastOfChanged k0_0 rc7 (Nat.le_of_ble_eq_true rfl) ((x_X7_leastOfChanged  ep10).mono (by omega)) ?_
      refine e_iconst (x := (-1 : Int32)) dX7_line_147 (by decide) ?_
      refine e_icmp_eq (tgt := 160) dX7_line_148 (by decide) (fun c13 => ?_) (fun c13 => ?_)
      · rw [if_pos c13] at h
        exact b_X7_line_160 (fun v a1 a3 a4 a6 a7 a9 a10 a11  hh => ih v a1 a3 a4 a6 a7 a9 a10 a11  hh) h
      · rw [if_neg c13] at h
        refine e_iload dX7_line_151 rfl ?_
        refine e_iconst (x := (1 : Int32)) dX7_line_153 (by decide) ?_
        refine e_iload dX7_line_154 rfl ?_
        refine e_ishl dX7_line_156 ?_
        refine e_ior dX7_line_157 ?_
        obtain ⟨x12, ex12, h⟩ := vlet_ex h
        refine e_nameI ex12.symm ?_
        clear ex12
        refine e_istore (lv' := [(10, .int x12), (0, .ref 0), (1, .int a1), (3, .int a3), (4, .int a4), (6, .int a6), (7, .long a7), (9, .int a9), (11, .int a11)]) dX7_line_158 (by decide) rfl ?_
        refine e_sub [1, 2, 3, 4, 5, 6, 7, 0, 8] rfl ?_
        exact b_X7_line_160 (fun v a1 a3 a4 a6 a7 a9 a10 a11  hh => ih v a1 a3 a4 a6 a7 a9 a10 a11  hh) h
set_option maxRecDepth 20000 in
theorem x_X7_line {X : Nat × (Nat → Int32)} {v : rV} {r : Int32 × rV} {a1 : Int32} {a2 : Int32} {a3 : Int32} {a4 : Int32} {a5 : Int32} {a6 : Int32} {a7 : Int64} {a9 : Int32}  (h : f_X7_line v a1 a2 a3 a4 a5 a6 a7 a9 = some r) : EvM mX7_line 13 0 0 [.ref 0, .int a1, .int a2, .int a3, .int a4, .int a5, .int a6, .long a7, .int a9] (rZ X) v (rPI X r) := by
  refine evm_of (by decide +kernel) (fun G => Nat.le_of_ble_eq_true rfl) ?_
  show Ev mX7_line 13 0 0 0 [(0, .ref 0), (1, .int a1), (2, .int a2), (3, .int a3), (4, .int a4), (5, .int a5), (6, .int a6), (7, .long a7), (9, .int a9)] [] (rZ X) v _
  unfold f_X7_line at h
  refine e_aload_n dX7_line_0 rfl ?_
  refine e_get (w := .ref 9) (j := 3) dX7_line_1 k0_0 rc7 (by decide) wfX7_35 (g0_0_3) ?_
  refine e_iload_n dX7_line_4 rfl ?_
  refine c_VZ (M' := mX4_has) [.int a1] dX7_line_5 rfl wmX7_148 imX4_has seX4_has lkX4_has k0_9 rc4 (Nat.le_of_ble_eq_true rfl) ((x_X4_has (by decide)).mono (by omega)) ?_
  refine e_if_eq (tgt := 39) dX7_line_8 (by decide) (fun c27 => ?_) (fun c27 => ?_)
  · rw [if_neg (bI_n c27)] at h
    refine e_iconst (x := (-1 : Int32)) dX7_line_39 (by decide) ?_
    obtain rfl := Option.some.inj h
    exact e_iret dX7_line_40 rfl rfl ⟨rfl, rfl, rfl⟩
  · rw [if_pos (bI_p c27)] at h
    refine e_aload_n dX7_line_11 rfl ?_
    refine e_iload_n dX7_line_12 rfl ?_
    refine c_VZ (M' := mX7_isDrop) [.int a2] dX7_line_13 rfl wmX7_124 imX7_isDrop seX7_isDrop lkX7_isDrop k0_0 rc7 (Nat.le_of_ble_eq_true rfl) ((x_X7_isDrop ).mono (by omega)) ?_
    refine e_if_eq (tgt := 39) dX7_line_16 (by decide) (fun c26 => ?_) (fun c26 => ?_)
    · rw [if_neg (bI_n c26)] at h
      refine e_iconst (x := (-1 : Int32)) dX7_line_39 (by decide) ?_
      obtain rfl := Option.some.inj h
      exact e_iret dX7_line_40 rfl rfl ⟨rfl, rfl, rfl⟩
    · rw [if_pos (bI_p c26)] at h
      refine e_aload_n dX7_line_19 rfl ?_
      refine e_get (w := .ref 23) (j := 4) dX7_line_20 k0_0 rc7 (by decide) wfX7_39 (g0_0_4) ?_
      refine e_iload dX7_line_23 rfl ?_
      refine c_VZ (M' := mX4_has) [.int a6] dX7_line_25 rfl wmX7_148 imX4_has seX4_has lkX4_has k0_23 rc4 (Nat.le_of_ble_eq_true rfl) ((x_X4_has (by decide)).mono (by omega)) ?_
      refine e_if_eq (tgt := 39) dX7_line_28 (by decide) (fun c25 => ?_) (fun c25 => ?_)
      · rw [if_neg (bI_n c25)] at h
        refine e_iconst (x := (-1 : Int32)) dX7_line_39 (by decide) ?_
        obtain rfl := Option.some.inj h
        exact e_iret dX7_line_40 rfl rfl ⟨rfl, rfl, rfl⟩
      · rw [if_pos (bI_p c25)] at h
        refine e_iload dX7_line_31 rfl ?_
        refine c_SZ (M' := mX7_areTicks) [.int a9] dX7_line_33 rfl wmX7_177 stX7_areTicks lkX7_areTicks (Nat.le_of_ble_eq_true rfl) ((x_X7_areTicks ).mono (by omega)) ?_
        refine e_if_ne (tgt := 41) dX7_line_36 (by decide) (fun c24 => ?_) (fun c24 => ?_)
        · rw [if_pos (bI_p c24)] at h
          refine e_iload_n dX7_line_41 rfl ?_
          refine c_SZ (M' := mX7_isTriedLetter) [.int a3] dX7_line_42 rfl wmX7_267 stX7_isTriedLetter lkX7_isTriedLetter (Nat.le_of_ble_eq_true rfl) ((x_X7_isTriedLetter ).mono (by omega)) ?_
          refine e_if_eq (tgt := 75) dX7_line_45 (by decide) (fun c23 => ?_) (fun c23 => ?_)
          · rw [if_neg (bI_n c23)] at h
            refine e_iconst (x := (-1 : Int32)) dX7_line_75 (by decide) ?_
            obtain rfl := Option.some.inj h
            exact e_iret dX7_line_76 rfl rfl ⟨rfl, rfl, rfl⟩
          · rw [if_pos (bI_p c23)] at h
            refine e_iload dX7_line_48 rfl ?_
            refine c_SZ (M' := mX7_isTriedLetter) [.int a4] dX7_line_50 rfl wmX7_267 stX7_isTriedLetter lkX7_isTriedLetter (Nat.le_of_ble_eq_true rfl) ((x_X7_isTriedLetter ).mono (by omega)) ?_
            refine e_if_eq (tgt := 75) dX7_line_53 (by decide) (fun c22 => ?_) (fun c22 => ?_)
            · rw [if_neg (bI_n c22)] at h
              refine e_iconst (x := (-1 : Int32)) dX7_line_75 (by decide) ?_
              obtain rfl := Option.some.inj h
              exact e_iret dX7_line_76 rfl rfl ⟨rfl, rfl, rfl⟩
            · rw [if_pos (bI_p c22)] at h
              refine e_iload_n dX7_line_56 rfl ?_
              refine e_iload dX7_line_57 rfl ?_
              refine e_icmp_eq (tgt := 75) dX7_line_59 (by decide) (fun c21 => ?_) (fun c21 => ?_)
              · rw [if_pos c21] at h
                refine e_iconst (x := (-1 : Int32)) dX7_line_75 (by decide) ?_
                obtain rfl := Option.some.inj h
                exact e_iret dX7_line_76 rfl rfl ⟨rfl, rfl, rfl⟩
              · rw [if_neg c21] at h
                refine e_iload dX7_line_62 rfl ?_
                refine e_iconst (x := (-1 : Int32)) dX7_line_64 (by decide) ?_
                refine e_icmp_lt (tgt := 75) dX7_line_65 (by decide) (fun c20 => ?_) (fun c20 => ?_)
                · rw [if_pos c20] at h
                  refine e_iconst (x := (-1 : Int32)) dX7_line_75 (by decide) ?_
                  obtain rfl := Option.some.inj h
                  exact e_iret dX7_line_76 rfl rfl ⟨rfl, rfl, rfl⟩
                · rw [if_neg c20] at h
                  refine e_iload dX7_line_68 rfl ?_
                  refine e_bipush (x := (60 : Int32)) dX7_line_70 (by decide) ?_
                  refine e_icmp_le (tgt := 77) dX7_line_72 (by decide) (fun c19 => ?_) (fun c19 => ?_)
                  · rw [if_pos c19] at h
                    refine e_aload_n dX7_line_77 rfl ?_
                    refine e_iload_n dX7_line_78 rfl ?_
                    obtain ⟨p7, ep7, h⟩ := Option.bind_eq_some_iff.mp h
                    refine c_VV (M' := mX7_change) [.int a2] dX7_line_79 rfl wmX7_270 imX7_change seX7_change lkX7_change k0_0 rc7 (Nat.le_of_ble_eq_true rfl) ((x_X7_change  ep7).mono (by omega)) ?_
                    refine e_iload dX7_line_82 rfl ?_
                    refine e_iconst (x := (-1 : Int32)) dX7_line_84 (by decide) ?_
                    refine e_icmp_eq (tgt := 110) dX7_line_85 (by decide) (fun c18 => ?_) (fun c18 => ?_)
                    · rw [if_pos c18] at h
                      refine e_iconst (x := (0 : Int32)) dX7_line_110 (by decide) ?_
                      refine e_istore (lv' := [(10, .int (0 : Int32)), (0, .ref 0), (1, .int a1), (2, .int a2), (3, .int a3), (4, .int a4), (5, .int a5), (6, .int a6), (7, .long a7), (9, .int a9)]) dX7_line_111 (by decide) rfl ?_
                      refine e_iconst (x := (0 : Int32)) dX7_line_113 (by decide) ?_
                      refine e_istore (lv' := [(11, .int (0 : Int32)), (10, .int (0 : Int32)), (0, .ref 0), (1, .int a1), (2, .int a2), (3, .int a3), (4, .int a4), (5, .int a5), (6, .int a6), (7, .long a7), (9, .int a9)]) dX7_line_114 (by decide) rfl ?_
                      refine e_sub [2, 3, 5, 6, 8, 9, 10, 1, 0] rfl ?_
                      exact b_X7_line_116  _ p7 a1 a3 a4 a6 a7 a9 (0 : Int32) (0 : Int32) h
                    · rw [if_neg c18] at h
                      refine e_aload_n dX7_line_88 rfl ?_
                      refine e_get (w := .ref 51) (j := 7) dX7_line_89 k0_0 rc7 (by decide) wfX7_51 (g0_0_7) ?_
                      refine e_iload_n dX7_line_92 rfl ?_
                      refine e_iload dX7_line_93 rfl ?_
                      obtain ⟨c15, h⟩ := grd h
                      refine e_iastJ dX7_line_95 k0_51 rfl c15.2 c15.1 ?_
                      obtain ⟨v16, ev16, h⟩ := vlet_ex h
                      refine e_nameV ev16.symm ?_
                      clear ev16
                      refine e_aload_n dX7_line_96 rfl ?_
                      refine e_iload_n dX7_line_97 rfl ?_
                      refine e_iload dX7_line_98 rfl ?_
                      refine e_iload dX7_line_100 rfl ?_
                      refine e_lload dX7_line_102 rfl ?_
                      refine e_iload dX7_line_104 rfl ?_
                      obtain ⟨p17, ep17, h⟩ := Option.bind_eq_some_iff.mp h
                      refine c_VI (M' := mX7_leastOfChanged) [.int a1, .int a4, .int a6, .long a7, .int a9] dX7_line_106 rfl wmX7_273 imX7_leastOfChanged seX7_leastOfChanged lkX7_leastOfChanged k0_0 rc7 (Nat.le_of_ble_eq_true rfl) ((x_X7_leastOfChanged  ep17).mono (by omega)) ?_
                      obtain rfl := Option.some.inj h
                      exact e_iret dX7_line_109 rfl rfl ⟨rfl, rfl, rfl⟩
                  · rw [if_neg c19] at h
                    refine e_iconst (x := (-1 : Int32)) dX7_line_75 (by decide) ?_
                    obtain rfl := Option.some.inj h
                    exact e_iret dX7_line_76 rfl rfl ⟨rfl, rfl, rfl⟩
        · rw [if_neg (bI_n c24)] at h
          refine e_iconst (x := (-1 : Int32)) dX7_line_39 (by decide) ?_
          obtain rfl := Option.some.inj h
          exact e_iret dX7_line_40 rfl rfl ⟨rfl, rfl, rfl⟩
def f_X7_luck_102  (q61 : rV → Int32 → Int32 → Int32 → Int64 → Int32 → Int32 → Int32 → Int32 → Option (Int32 × rV)) (v : rV) (a1 : Int32) (a2 : Int32) (a3 : Int32) (a4 : Int64) (a6 : Int32) (a7 : Int32) (a8 : Int32) (a9 : Int32) : Option (Int32 × rV) := vlet (a9 + (1 : Int32)) fun x8 =>
  q61 v a1 a2 a3 a4 a6 a7 a8 x8
def f_X7_luck_61   : Nat → rV → Int32 → Int32 → Int32 → Int64 → Int32 → Int32 → Int32 → Int32 → Option (Int32 × rV)
  | 0, _, _, _, _, _, _, _, _, _ => none
  | n + 1, v, a1, a2, a3, a4, a6, a7, a8, a9 => if a6 ≤ a9 then
  (some (a8, v))
else
  (if ¬ a2 < 0 ∧ a2.toNatClampNeg < 12 then
  ((f_X7_tryAlone v a1 (38 + a2.toNatClampNeg) (a4 + a9.toInt64) a7).bind fun p6 =>
  (f_X7_isMetBy p6 98 a3).bind fun p7 =>
  if p7.1 = true then
  (vlet (a8 + (1 : Int32)) fun x9 =>
  f_X7_luck_102 (fun v a1 a2 a3 a4 a6 a7 a8 a9 => f_X7_luck_61  n v a1 a2 a3 a4 a6 a7 a8 a9) p7.2 a1 a2 a3 a4 a6 a7 x9 a9)
else
  (f_X7_luck_102 (fun v a1 a2 a3 a4 a6 a7 a8 a9 => f_X7_luck_61  n v a1 a2 a3 a4 a6 a7 a8 a9) p7.2 a1 a2 a3 a4 a6 a7 a8 a9))
else none)
def f_X7_luck (v : rV) (a1 : Int32) (a2 : Int32) (a3 : Int32) (a4 : Int64) (a6 : Int32) (a7 : Int32) : Option (Int32 × rV) := if (f_X4_has v 9 a1) = true then
  (if (f_X7_isDrop v a2) = true then
  (if (f_X4_has v 23 a3) = true then
  (if (f_X7_areTicks a7) = true then
  (if a6 < (1 : Int32) then
  (some ((-1 : Int32), v))
else
  (if a6 ≤ (20 : Int32) then
  (f_X7_luck_61  20000 v a1 a2 a3 a4 a6 a7 (0 : Int32) (0 : Int32))
else
  (some ((-1 : Int32), v))))
else
  (some ((-1 : Int32), v)))
else
  (some ((-1 : Int32), v)))
else
  (some ((-1 : Int32), v)))
else
  (some ((-1 : Int32), v))
set_option maxRecDepth 20000 in
theorem b_X7_luck_102 {X : Nat × (Nat → Int32)} {r : Int32 × rV} {v : rV} {q61 : rV → Int32 → Int32 → Int32 → Int64 → Int32 → Int32 → Int32 → Int32 → Option (Int32 × rV)} (hq61 : ∀ (v : rV) (a1 : Int32) (a2 : Int32) (a3 : Int32) (a4 : Int64) (a6 : Int32) (a7 : Int32) (a8 : Int32) (a9 : Int32) , q61 v a1 a2 a3 a4 a6 a7 a8 a9 = some r → Ev mX7_luck 12 0 0 61 [(0, .ref 0), (1, .int a1), (2, .int a2), (3, .int a3), (4, .long a4), (6, .int a6), (7, .int a7), (8, .int a8), (9, .int a9)] [] (rZ X) v (rPI X r)) {a1 : Int32} {a2 : Int32} {a3 : Int32} {a4 : Int64} {a6 : Int32} {a7 : Int32} {a8 : Int32} {a9 : Int32}  (h : f_X7_luck_102 q61 v a1 a2 a3 a4 a6 a7 a8 a9 = some r) : Ev mX7_luck 12 0 0 102 [(0, .ref 0), (1, .int a1), (2, .int a2), (3, .int a3), (4, .long a4), (6, .int a6), (7, .int a7), (8, .int a8), (9, .int a9)] [] (rZ X) v (rPI X r) := by
  unfold f_X7_luck_102 at h
  obtain ⟨x8, ex8, h⟩ := vlet_ex h
  refine e_iinc (lv' := [(9, .int x8), (0, .ref 0), (1, .int a1), (2, .int a2), (3, .int a3), (4, .long a4), (6, .int a6), (7, .int a7), (8, .int a8)]) dX7_luck_102 rfl (ex8.symm) (by decide) rfl ?_
  clear ex8
  refine e_goto (tgt := 61) dX7_luck_105 (by decide) ?_
  refine e_sub [1, 2, 3, 4, 5, 6, 7, 8, 0] rfl ?_
  exact hq61 v a1 a2 a3 a4 a6 a7 a8 x8 h
set_option maxRecDepth 20000 in
theorem b_X7_luck_61 {X : Nat × (Nat → Int32)} {r : Int32 × rV}   : ∀ (n : Nat) (v : rV) (a1 : Int32) (a2 : Int32) (a3 : Int32) (a4 : Int64) (a6 : Int32) (a7 : Int32) (a8 : Int32) (a9 : Int32) , f_X7_luck_61   n v a1 a2 a3 a4 a6 a7 a8 a9 = some r → Ev mX7_luck 12 0 0 61 [(0, .ref 0), (1, .int a1), (2, .int a2), (3, .int a3), (4, .long a4), (6, .int a6), (7, .int a7), (8, .int a8), (9, .int a9)] [] (rZ X) v (rPI X r) := by
  intro n
  induction n with
  | zero =>
    intros
    rename_i h
    cases h
  | succ n ih =>
    intro v a1 a2 a3 a4 a6 a7 a8 a9 h
    rw [f_X7_luck_61] at h
    refine e_iload dX7_luck_61 rfl ?_
    refine e_iload dX7_luck_63 rfl ?_
    refine e_icmp_ge (tgt := 108) dX7_luck_65 (by decide) (fun c11 => ?_) (fun c11 => ?_)
    · rw [if_pos c11] at h
      refine e_iload dX7_luck_108 rfl ?_
      obtain rfl := Option.some.inj h
      exact e_iret dX7_luck_110 rfl rfl ⟨rfl, rfl, rfl⟩
    · rw [if_neg c11] at h
      refine e_aload_n dX7_luck_68 rfl ?_
      refine e_iload_n dX7_luck_69 rfl ?_
      refine e_aload_n dX7_luck_70 rfl ?_
      refine e_get (w := .ref 37) (j := 5) dX7_luck_71 k0_0 rc7 (by decide) wfX7_44 (g0_0_5) ?_
      refine e_iload_n dX7_luck_74 rfl ?_
      obtain ⟨c5, h⟩ := grd h
      refine e_aaldJ dX7_luck_75 k0_37 rfl rfl c5.2 c5.1 (r0_37 (c5).2) ?_
      refine e_lload dX7_luck_76 rfl ?_
      refine e_iload dX7_luck_78 rfl ?_
      refine e_i2l dX7_luck_80 ?_
      refine e_ladd dX7_luck_81 ?_
      refine e_iload dX7_luck_82 rfl ?_
      obtain ⟨p6, ep6, h⟩ := Option.bind_eq_some_iff.mp h
      refine c_VV (M' := mX7_tryAlone) [.int a1, .ref (38 + a2.toNatClampNeg), .long (a4 + a9.toInt64), .int a7] dX7_luck_84 rfl wmX7_277 imX7_tryAlone seX7_tryAlone lkX7_tryAlone k0_0 rc7 (Nat.le_of_ble_eq_true rfl) ((x_X7_tryAlone (q0_37 (X := X) (c5).2) ep6).mono (by omega)) ?_
      refine e_aload_n dX7_luck_87 rfl ?_
      refine e_aload_n dX7_luck_88 rfl ?_
      refine e_get (w := .ref 98) (j := 11) dX7_luck_89 k0_0 rc7 (by decide) wfX7_67 (g0_0_11) ?_
      refine e_iload_n dX7_luck_92 rfl ?_
      obtain ⟨p7, ep7, h⟩ := Option.bind_eq_some_iff.mp h
      refine c_VZ (M' := mX7_isMetBy) [.ref 98, .int a3] dX7_luck_93 rfl wmX7_239 imX7_isMetBy seX7_isMetBy lkX7_isMetBy k0_0 rc7 (Nat.le_of_ble_eq_true rfl) ((x_X7_isMetBy (by decide) ep7).mono (by omega)) ?_
      refine e_if_eq (tgt := 102) dX7_luck_96 (by decide) (fun c10 => ?_) (fun c10 => ?_)
      · rw [if_neg (bI_n c10)] at h
        exact b_X7_luck_102 (fun v a1 a2 a3 a4 a6 a7 a8 a9  hh => ih v a1 a2 a3 a4 a6 a7 a8 a9  hh) h
      · rw [if_pos (bI_p c10)] at h
        obtain ⟨x9, ex9, h⟩ := vlet_ex h
        refine e_iinc (lv' := [(8, .int x9), (0, .ref 0), (1, .int a1), (2, .int a2), (3, .int a3), (4, .long a4), (6, .int a6), (7, .int a7), (9, .int a9)]) dX7_luck_99 rfl (ex9.symm) (by decide) rfl ?_
        clear ex9
        refine e_sub [1, 2, 3, 4, 5, 6, 7, 0, 8] rfl ?_
        exact b_X7_luck_102 (fun v a1 a2 a3 a4 a6 a7 a8 a9  hh => ih v a1 a2 a3 a4 a6 a7 a8 a9  hh) h
set_option maxRecDepth 20000 in
theorem x_X7_luck {X : Nat × (Nat → Int32)} {v : rV} {r : Int32 × rV} {a1 : Int32} {a2 : Int32} {a3 : Int32} {a4 : Int64} {a6 : Int32} {a7 : Int32}  (h : f_X7_luck v a1 a2 a3 a4 a6 a7 = some r) : EvM mX7_luck 12 0 0 [.ref 0, .int a1, .int a2, .int a3, .long a4, .int a6, .int a7] (rZ X) v (rPI X r) := by
  refine evm_of (by decide +kernel) (fun G => Nat.le_of_ble_eq_true rfl) ?_
  show Ev mX7_luck 12 0 0 0 [(0, .ref 0), (1, .int a1), (2, .int a2), (3, .int a3), (4, .long a4), (6, .int a6), (7, .int a7)] [] (rZ X) v _
  unfold f_X7_luck at h
  refine e_aload_n dX7_luck_0 rfl ?_
  refine e_get (w := .ref 9) (j := 3) dX7_luck_1 k0_0 rc7 (by decide) wfX7_35 (g0_0_3) ?_
  refine e_iload_n dX7_luck_4 rfl ?_
  refine c_VZ (M' := mX4_has) [.int a1] dX7_luck_5 rfl wmX7_148 imX4_has seX4_has lkX4_has k0_9 rc4 (Nat.le_of_ble_eq_true rfl) ((x_X4_has (by decide)).mono (by omega)) ?_
  refine e_if_eq (tgt := 38) dX7_luck_8 (by decide) (fun c17 => ?_) (fun c17 => ?_)
  · rw [if_neg (bI_n c17)] at h
    refine e_iconst (x := (-1 : Int32)) dX7_luck_38 (by decide) ?_
    obtain rfl := Option.some.inj h
    exact e_iret dX7_luck_39 rfl rfl ⟨rfl, rfl, rfl⟩
  · rw [if_pos (bI_p c17)] at h
    refine e_aload_n dX7_luck_11 rfl ?_
    refine e_iload_n dX7_luck_12 rfl ?_
    refine c_VZ (M' := mX7_isDrop) [.int a2] dX7_luck_13 rfl wmX7_124 imX7_isDrop seX7_isDrop lkX7_isDrop k0_0 rc7 (Nat.le_of_ble_eq_true rfl) ((x_X7_isDrop ).mono (by omega)) ?_
    refine e_if_eq (tgt := 38) dX7_luck_16 (by decide) (fun c16 => ?_) (fun c16 => ?_)
    · rw [if_neg (bI_n c16)] at h
      refine e_iconst (x := (-1 : Int32)) dX7_luck_38 (by decide) ?_
      obtain rfl := Option.some.inj h
      exact e_iret dX7_luck_39 rfl rfl ⟨rfl, rfl, rfl⟩
    · rw [if_pos (bI_p c16)] at h
      refine e_aload_n dX7_luck_19 rfl ?_
      refine e_get (w := .ref 23) (j := 4) dX7_luck_20 k0_0 rc7 (by decide) wfX7_39 (g0_0_4) ?_
      refine e_iload_n dX7_luck_23 rfl ?_
      refine c_VZ (M' := mX4_has) [.int a3] dX7_luck_24 rfl wmX7_148 imX4_has seX4_has lkX4_has k0_23 rc4 (Nat.le_of_ble_eq_true rfl) ((x_X4_has (by decide)).mono (by omega)) ?_
      refine e_if_eq (tgt := 38) dX7_luck_27 (by decide) (fun c15 => ?_) (fun c15 => ?_)
      · rw [if_neg (bI_n c15)] at h
        refine e_iconst (x := (-1 : Int32)) dX7_luck_38 (by decide) ?_
        obtain rfl := Option.some.inj h
        exact e_iret dX7_luck_39 rfl rfl ⟨rfl, rfl, rfl⟩
      · rw [if_pos (bI_p c15)] at h
        refine e_iload dX7_luck_30 rfl ?_
        refine c_SZ (M' := mX7_areTicks) [.int a7] dX7_luck_32 rfl wmX7_177 stX7_areTicks lkX7_areTicks (Nat.le_of_ble_eq_true rfl) ((x_X7_areTicks ).mono (by omega)) ?_
        refine e_if_ne (tgt := 40) dX7_luck_35 (by decide) (fun c14 => ?_) (fun c14 => ?_)
        · rw [if_pos (bI_p c14)] at h
          refine e_iload dX7_luck_40 rfl ?_
          refine e_iconst (x := (1 : Int32)) dX7_luck_42 (by decide) ?_
          refine e_icmp_lt (tgt := 53) dX7_luck_43 (by decide) (fun c13 => ?_) (fun c13 => ?_)
          · rw [if_pos c13] at h
            refine e_iconst (x := (-1 : Int32)) dX7_luck_53 (by decide) ?_
            obtain rfl := Option.some.inj h
            exact e_iret dX7_luck_54 rfl rfl ⟨rfl, rfl, rfl⟩
          · rw [if_neg c13] at h
            refine e_iload dX7_luck_46 rfl ?_
            refine e_bipush (x := (20 : Int32)) dX7_luck_48 (by decide) ?_
            refine e_icmp_le (tgt := 55) dX7_luck_50 (by decide) (fun c12 => ?_) (fun c12 => ?_)
            · rw [if_pos c12] at h
              refine e_iconst (x := (0 : Int32)) dX7_luck_55 (by decide) ?_
              refine e_istore (lv' := [(8, .int (0 : Int32)), (0, .ref 0), (1, .int a1), (2, .int a2), (3, .int a3), (4, .long a4), (6, .int a6), (7, .int a7)]) dX7_luck_56 (by decide) rfl ?_
              refine e_iconst (x := (0 : Int32)) dX7_luck_58 (by decide) ?_
              refine e_istore (lv' := [(9, .int (0 : Int32)), (8, .int (0 : Int32)), (0, .ref 0), (1, .int a1), (2, .int a2), (3, .int a3), (4, .long a4), (6, .int a6), (7, .int a7)]) dX7_luck_59 (by decide) rfl ?_
              refine e_sub [2, 3, 4, 5, 6, 7, 8, 1, 0] rfl ?_
              exact b_X7_luck_61  _ v a1 a2 a3 a4 a6 a7 (0 : Int32) (0 : Int32) h
            · rw [if_neg c12] at h
              refine e_iconst (x := (-1 : Int32)) dX7_luck_53 (by decide) ?_
              obtain rfl := Option.some.inj h
              exact e_iret dX7_luck_54 rfl rfl ⟨rfl, rfl, rfl⟩
        · rw [if_neg (bI_n c14)] at h
          refine e_iconst (x := (-1 : Int32)) dX7_luck_38 (by decide) ?_
          obtain rfl := Option.some.inj h
          exact e_iret dX7_luck_39 rfl rfl ⟨rfl, rfl, rfl⟩
def f_X7_met (v : rV) (a1 : Int32) : Option (Int32 × rV) := if (f_X4_has v 23 a1) = true then
  ((f_X7_isMetBy v 60 a1).bind fun p2 =>
  if p2.1 = true then
  (some ((1 : Int32), p2.2))
else
  (some ((0 : Int32), p2.2)))
else
  (some ((-1 : Int32), v))
set_option maxRecDepth 20000 in
theorem x_X7_met {X : Nat × (Nat → Int32)} {v : rV} {r : Int32 × rV} {a1 : Int32}  (h : f_X7_met v a1 = some r) : EvM mX7_met 12 0 0 [.ref 0, .int a1] (rZ X) v (rPI X r) := by
  refine evm_of (by decide +kernel) (fun G => Nat.le_of_ble_eq_true rfl) ?_
  show Ev mX7_met 12 0 0 0 [(0, .ref 0), (1, .int a1)] [] (rZ X) v _
  unfold f_X7_met at h
  refine e_aload_n dX7_met_0 rfl ?_
  refine e_get (w := .ref 23) (j := 4) dX7_met_1 k0_0 rc7 (by decide) wfX7_39 (g0_0_4) ?_
  refine e_iload_n dX7_met_4 rfl ?_
  refine c_VZ (M' := mX4_has) [.int a1] dX7_met_5 rfl wmX7_148 imX4_has seX4_has lkX4_has k0_23 rc4 (Nat.le_of_ble_eq_true rfl) ((x_X4_has (by decide)).mono (by omega)) ?_
  refine e_if_ne (tgt := 13) dX7_met_8 (by decide) (fun c4 => ?_) (fun c4 => ?_)
  · rw [if_pos (bI_p c4)] at h
    refine e_aload_n dX7_met_13 rfl ?_
    refine e_aload_n dX7_met_14 rfl ?_
    refine e_get (w := .ref 60) (j := 10) dX7_met_15 k0_0 rc7 (by decide) wfX7_63 (g0_0_10) ?_
    refine e_iload_n dX7_met_18 rfl ?_
    obtain ⟨p2, ep2, h⟩ := Option.bind_eq_some_iff.mp h
    refine c_VZ (M' := mX7_isMetBy) [.ref 60, .int a1] dX7_met_19 rfl wmX7_239 imX7_isMetBy seX7_isMetBy lkX7_isMetBy k0_0 rc7 (Nat.le_of_ble_eq_true rfl) ((x_X7_isMetBy (by decide) ep2).mono (by omega)) ?_
    refine e_if_eq (tgt := 29) dX7_met_22 (by decide) (fun c3 => ?_) (fun c3 => ?_)
    · rw [if_neg (bI_n c3)] at h
      refine e_iconst (x := (0 : Int32)) dX7_met_29 (by decide) ?_
      obtain rfl := Option.some.inj h
      exact e_iret dX7_met_30 rfl rfl ⟨rfl, rfl, rfl⟩
    · rw [if_pos (bI_p c3)] at h
      refine e_iconst (x := (1 : Int32)) dX7_met_25 (by decide) ?_
      refine e_goto (tgt := 30) dX7_met_26 (by decide) ?_
      obtain rfl := Option.some.inj h
      exact e_iret dX7_met_30 rfl rfl ⟨rfl, rfl, rfl⟩
  · rw [if_neg (bI_n c4)] at h
    refine e_iconst (x := (-1 : Int32)) dX7_met_11 (by decide) ?_
    obtain rfl := Option.some.inj h
    exact e_iret dX7_met_12 rfl rfl ⟨rfl, rfl, rfl⟩
def f_X7_middle (v : rV) (a1 : Int32) : Option (Int32) := if a1 < 0 then
  (some (-1 : Int32))
else
  (if (1 : Int32) < a1 then
  (some (-1 : Int32))
else
  ((f_X5_lyingAll v 60).bind fun p1 =>
  if p1 = 0 then
  (some (-1 : Int32))
else
  (if a1 = 0 then
  ((f_X5_center v 60).bind fun p3 =>
  some p3)
else
  ((f_X5_spread v 60).bind fun p2 =>
  some p2))))
set_option maxRecDepth 20000 in
theorem x_X7_middle {X : Nat × (Nat → Int32)} {v : rV} {r : Int32} {a1 : Int32}  (h : f_X7_middle v a1 = some r) : EvM mX7_middle 5 0 0 [.ref 0, .int a1] (rZ X) v (rPI X (r, v)) := by
  refine evm_of (by decide +kernel) (fun G => Nat.le_of_ble_eq_true rfl) ?_
  show Ev mX7_middle 5 0 0 0 [(0, .ref 0), (1, .int a1)] [] (rZ X) v _
  unfold f_X7_middle at h
  refine e_iload_n dX7_middle_0 rfl ?_
  refine e_if_lt (tgt := 19) dX7_middle_1 (by decide) (fun c7 => ?_) (fun c7 => ?_)
  · rw [if_pos c7] at h
    refine e_iconst (x := (-1 : Int32)) dX7_middle_19 (by decide) ?_
    obtain rfl := Option.some.inj h
    exact e_iret dX7_middle_20 rfl rfl ⟨rfl, rfl, rfl⟩
  · rw [if_neg c7] at h
    refine e_iload_n dX7_middle_4 rfl ?_
    refine e_iconst (x := (1 : Int32)) dX7_middle_5 (by decide) ?_
    refine e_icmp_gt (tgt := 19) dX7_middle_6 (by decide) (fun c6 => ?_) (fun c6 => ?_)
    · rw [if_pos c6] at h
      refine e_iconst (x := (-1 : Int32)) dX7_middle_19 (by decide) ?_
      obtain rfl := Option.some.inj h
      exact e_iret dX7_middle_20 rfl rfl ⟨rfl, rfl, rfl⟩
    · rw [if_neg c6] at h
      refine e_aload_n dX7_middle_9 rfl ?_
      refine e_get (w := .ref 60) (j := 10) dX7_middle_10 k0_0 rc7 (by decide) wfX7_63 (g0_0_10) ?_
      obtain ⟨p1, ep1, h⟩ := Option.bind_eq_some_iff.mp h
      refine c_VI (M' := mX5_lyingAll) [] dX7_middle_13 rfl wmX7_230 imX5_lyingAll seX5_lyingAll lkX5_lyingAll k0_60 rc5 (Nat.le_of_ble_eq_true rfl) ((x_X5_lyingAll (by decide) ep1).mono (by omega)) ?_
      refine e_if_ne (tgt := 21) dX7_middle_16 (by decide) (fun c5 => ?_) (fun c5 => ?_)
      · rw [if_neg c5] at h
        refine e_iload_n dX7_middle_21 rfl ?_
        refine e_if_ne (tgt := 35) dX7_middle_22 (by decide) (fun c4 => ?_) (fun c4 => ?_)
        · rw [if_neg c4] at h
          refine e_aload_n dX7_middle_35 rfl ?_
          refine e_get (w := .ref 60) (j := 10) dX7_middle_36 k0_0 rc7 (by decide) wfX7_63 (g0_0_10) ?_
          obtain ⟨p2, ep2, h⟩ := Option.bind_eq_some_iff.mp h
          refine c_VI (M' := mX5_spread) [] dX7_middle_39 rfl wmX7_236 imX5_spread seX5_spread lkX5_spread k0_60 rc5 (Nat.le_of_ble_eq_true rfl) ((x_X5_spread (by decide) ep2).mono (by omega)) ?_
          obtain rfl := Option.some.inj h
          exact e_iret dX7_middle_42 rfl rfl ⟨rfl, rfl, rfl⟩
        · rw [if_pos c4] at h
          refine e_aload_n dX7_middle_25 rfl ?_
          refine e_get (w := .ref 60) (j := 10) dX7_middle_26 k0_0 rc7 (by decide) wfX7_63 (g0_0_10) ?_
          obtain ⟨p3, ep3, h⟩ := Option.bind_eq_some_iff.mp h
          refine c_VI (M' := mX5_center) [] dX7_middle_29 rfl wmX7_233 imX5_center seX5_center lkX5_center k0_60 rc5 (Nat.le_of_ble_eq_true rfl) ((x_X5_center (by decide) ep3).mono (by omega)) ?_
          refine e_goto (tgt := 42) dX7_middle_32 (by decide) ?_
          obtain rfl := Option.some.inj h
          exact e_iret dX7_middle_42 rfl rfl ⟨rfl, rfl, rfl⟩
      · rw [if_pos c5] at h
        refine e_iconst (x := (-1 : Int32)) dX7_middle_19 (by decide) ?_
        obtain rfl := Option.some.inj h
        exact e_iret dX7_middle_20 rfl rfl ⟨rfl, rfl, rfl⟩
def f_X7_nearestTick_87  (q22 : rV → Int32 → Int32 → Int32 → Int32 → Option (Int32 × rV)) (v : rV) (a1 : Int32) (a6 : Int32) (a7 : Int32) (a8 : Int32) : Option (Int32 × rV) := vlet (a8 + (1 : Int32)) fun x6 =>
  q22 v a1 a6 a7 x6
def f_X7_nearestTick_79  (q22 : rV → Int32 → Int32 → Int32 → Int32 → Option (Int32 × rV)) (v : rV) (a1 : Int32) (a8 : Int32) (a9 : Int32) : Option (Int32 × rV) := f_X7_nearestTick_87 q22 v a1 a8 a9 a8
def f_X7_nearestTick_22   : Nat → rV → Int32 → Int32 → Int32 → Int32 → Option (Int32 × rV)
  | 0, _, _, _, _, _ => none
  | n + 1, v, a1, a6, a7, a8 => if (60 : Int32) < a8 then
  (some (a6, v))
else
  (if (v.1 98 10) ≤ 0 then
  (some (a6, v))
else
  ((f_X5_goOn v 98 (1 : Int32) (v.1 0 15)).bind fun p3 =>
  if ¬ a1 < 0 ∧ a1.toNatClampNeg < 6 then
  ((f_X5_offFrom p3.2 98 (53 + a1.toNatClampNeg)).bind fun p5 =>
  if a6 = 0 then
  (f_X7_nearestTick_79 (fun v a1 a6 a7 a8 => f_X7_nearestTick_22  n v a1 a6 a7 a8) p3.2 a1 a8 p5)
else
  (if a7 ≤ p5 then
  (f_X7_nearestTick_87 (fun v a1 a6 a7 a8 => f_X7_nearestTick_22  n v a1 a6 a7 a8) p3.2 a1 a6 a7 a8)
else
  (f_X7_nearestTick_79 (fun v a1 a6 a7 a8 => f_X7_nearestTick_22  n v a1 a6 a7 a8) p3.2 a1 a8 p5)))
else none))
def f_X7_nearestTick (v : rV) (a1 : Int32) (a2 : Int32) (a3 : Int32) (a4 : Int64) : Option (Int32 × rV) := if ¬ a3 < 0 ∧ a3.toNatClampNeg < 12 then
  ((f_X7_lay v a2 (38 + a3.toNatClampNeg) a4).bind fun p2 =>
  f_X7_nearestTick_22  20000 p2 a1 (0 : Int32) (0 : Int32) (1 : Int32))
else none
set_option maxRecDepth 20000 in
theorem b_X7_nearestTick_87 {X : Nat × (Nat → Int32)} {r : Int32 × rV} {v : rV} {q22 : rV → Int32 → Int32 → Int32 → Int32 → Option (Int32 × rV)} (hq22 : ∀ (v : rV) (a1 : Int32) (a6 : Int32) (a7 : Int32) (a8 : Int32) , q22 v a1 a6 a7 a8 = some r → Ev mX7_nearestTick 6 0 0 22 [(0, .ref 0), (1, .int a1), (6, .int a6), (7, .int a7), (8, .int a8)] [] (rZ X) v (rPI X r)) {a1 : Int32} {a6 : Int32} {a7 : Int32} {a8 : Int32}  (h : f_X7_nearestTick_87 q22 v a1 a6 a7 a8 = some r) : Ev mX7_nearestTick 6 0 0 87 [(0, .ref 0), (1, .int a1), (6, .int a6), (7, .int a7), (8, .int a8)] [] (rZ X) v (rPI X r) := by
  unfold f_X7_nearestTick_87 at h
  obtain ⟨x6, ex6, h⟩ := vlet_ex h
  refine e_iinc (lv' := [(8, .int x6), (0, .ref 0), (1, .int a1), (6, .int a6), (7, .int a7)]) dX7_nearestTick_87 rfl (ex6.symm) (by decide) rfl ?_
  clear ex6
  refine e_goto (tgt := 22) dX7_nearestTick_90 (by decide) ?_
  refine e_sub [1, 2, 3, 4, 0] rfl ?_
  exact hq22 v a1 a6 a7 x6 h
set_option maxRecDepth 20000 in
theorem b_X7_nearestTick_79 {X : Nat × (Nat → Int32)} {r : Int32 × rV} {v : rV} {q22 : rV → Int32 → Int32 → Int32 → Int32 → Option (Int32 × rV)} (hq22 : ∀ (v : rV) (a1 : Int32) (a6 : Int32) (a7 : Int32) (a8 : Int32) , q22 v a1 a6 a7 a8 = some r → Ev mX7_nearestTick 6 0 0 22 [(0, .ref 0), (1, .int a1), (6, .int a6), (7, .int a7), (8, .int a8)] [] (rZ X) v (rPI X r)) {a1 : Int32} {a8 : Int32} {a9 : Int32}  (h : f_X7_nearestTick_79 q22 v a1 a8 a9 = some r) : Ev mX7_nearestTick 6 0 0 79 [(0, .ref 0), (1, .int a1), (8, .int a8), (9, .int a9)] [] (rZ X) v (rPI X r) := by
  unfold f_X7_nearestTick_79 at h
  refine e_iload dX7_nearestTick_79 rfl ?_
  refine e_istore (lv' := [(6, .int a8), (0, .ref 0), (1, .int a1), (8, .int a8), (9, .int a9)]) dX7_nearestTick_81 (by decide) rfl ?_
  refine e_iload dX7_nearestTick_83 rfl ?_
  refine e_istore (lv' := [(7, .int a9), (6, .int a8), (0, .ref 0), (1, .int a1), (8, .int a8), (9, .int a9)]) dX7_nearestTick_85 (by decide) rfl ?_
  refine e_sub [2, 3, 1, 0, 4] rfl ?_
  exact b_X7_nearestTick_87 hq22 h
set_option maxRecDepth 20000 in
theorem b_X7_nearestTick_22 {X : Nat × (Nat → Int32)} {r : Int32 × rV}   : ∀ (n : Nat) (v : rV) (a1 : Int32) (a6 : Int32) (a7 : Int32) (a8 : Int32) , f_X7_nearestTick_22   n v a1 a6 a7 a8 = some r → Ev mX7_nearestTick 6 0 0 22 [(0, .ref 0), (1, .int a1), (6, .int a6), (7, .int a7), (8, .int a8)] [] (rZ X) v (rPI X r) := by
  intro n
  induction n with
  | zero =>
    intros
    rename_i h
    cases h
  | succ n ih =>
    intro v a1 a6 a7 a8 h
    rw [f_X7_nearestTick_22] at h
    refine e_iload dX7_nearestTick_22 rfl ?_
    refine e_bipush (x := (60 : Int32)) dX7_nearestTick_24 (by decide) ?_
    refine e_icmp_gt (tgt := 93) dX7_nearestTick_26 (by decide) (fun c10 => ?_) (fun c10 => ?_)
    · rw [if_pos c10] at h
      refine e_iload dX7_nearestTick_93 rfl ?_
      obtain rfl := Option.some.inj h
      exact e_iret dX7_nearestTick_95 rfl rfl ⟨rfl, rfl, rfl⟩
    · rw [if_neg c10] at h
      refine e_aload_n dX7_nearestTick_29 rfl ?_
      refine e_get (w := .ref 98) (j := 11) dX7_nearestTick_30 k0_0 rc7 (by decide) wfX7_67 (g0_0_11) ?_
      refine e_get (w := .int (v.1 98 10)) (j := 10) dX7_nearestTick_33 k0_98 rc5 (by decide) wfX7_145 rfl ?_
      refine e_if_le (tgt := 93) dX7_nearestTick_36 (by decide) (fun c9 => ?_) (fun c9 => ?_)
      · rw [if_pos c9] at h
        refine e_iload dX7_nearestTick_93 rfl ?_
        obtain rfl := Option.some.inj h
        exact e_iret dX7_nearestTick_95 rfl rfl ⟨rfl, rfl, rfl⟩
      · rw [if_neg c9] at h
        refine e_aload_n dX7_nearestTick_39 rfl ?_
        refine e_get (w := .ref 98) (j := 11) dX7_nearestTick_40 k0_0 rc7 (by decide) wfX7_67 (g0_0_11) ?_
        refine e_iconst (x := (1 : Int32)) dX7_nearestTick_43 (by decide) ?_
        refine e_aload_n dX7_nearestTick_44 rfl ?_
        refine e_get (w := .int (v.1 0 15)) (j := 15) dX7_nearestTick_45 k0_0 rc7 (by decide) wfX7_73 rfl ?_
        obtain ⟨p3, ep3, h⟩ := Option.bind_eq_some_iff.mp h
        refine c_VI (M' := mX5_goOn) [.int (1 : Int32), .int (v.1 0 15)] dX7_nearestTick_48 rfl wmX7_180 imX5_goOn seX5_goOn lkX5_goOn k0_98 rc5 (Nat.le_of_ble_eq_true rfl) ((x_X5_goOn (by decide) ep3).mono (by omega)) ?_
        refine e_pop dX7_nearestTick_51 rfl ?_
        refine e_aload_n dX7_nearestTick_52 rfl ?_
        refine e_get (w := .ref 98) (j := 11) dX7_nearestTick_53 k0_0 rc7 (by decide) wfX7_67 (g0_0_11) ?_
        refine e_aload_n dX7_nearestTick_56 rfl ?_
        refine e_get (w := .ref 52) (j := 8) dX7_nearestTick_57 k0_0 rc7 (by decide) wfX7_54 (g0_0_8) ?_
        refine e_iload_n dX7_nearestTick_60 rfl ?_
        obtain ⟨c4, h⟩ := grd h
        refine e_aaldJ dX7_nearestTick_61 k0_52 rfl rfl c4.2 c4.1 (r0_52 (c4).2) ?_
        obtain ⟨p5, ep5, h⟩ := Option.bind_eq_some_iff.mp h
        refine c_VI (M' := mX5_offFrom) [.ref (53 + a1.toNatClampNeg)] dX7_nearestTick_62 rfl wmX7_288 imX5_offFrom seX5_offFrom lkX5_offFrom k0_98 rc5 (Nat.le_of_ble_eq_true rfl) ((x_X5_offFrom (by decide) (q0_52 (X := X) (c4).2) ep5).mono (by omega)) ?_
        refine e_istore (lv' := [(9, .int p5), (0, .ref 0), (1, .int a1), (6, .int a6), (7, .int a7), (8, .int a8)]) dX7_nearestTick_65 (by decide) rfl ?_
        refine e_iload dX7_nearestTick_67 rfl ?_
        refine e_if_eq (tgt := 79) dX7_nearestTick_69 (by decide) (fun c8 => ?_) (fun c8 => ?_)
        · rw [if_pos c8] at h
          refine e_sub [1, 2, 5, 0] rfl ?_
          exact b_X7_nearestTick_79 (fun v a1 a6 a7 a8  hh => ih v a1 a6 a7 a8  hh) h
        · rw [if_neg c8] at h
          refine e_iload dX7_nearestTick_72 rfl ?_
          refine e_iload dX7_nearestTick_74 rfl ?_
          refine e_icmp_ge (tgt := 87) dX7_nearestTick_76 (by decide) (fun c7 => ?_) (fun c7 => ?_)
          · rw [if_pos c7] at h
            refine e_sub [1, 2, 3, 4, 5] rfl ?_
            exact b_X7_nearestTick_87 (fun v a1 a6 a7 a8  hh => ih v a1 a6 a7 a8  hh) h
          · rw [if_neg c7] at h
            refine e_sub [1, 2, 5, 0] rfl ?_
            exact b_X7_nearestTick_79 (fun v a1 a6 a7 a8  hh => ih v a1 a6 a7 a8  hh) h
set_option maxRecDepth 20000 in
theorem x_X7_nearestTick {X : Nat × (Nat → Int32)} {v : rV} {r : Int32 × rV} {a1 : Int32} {a2 : Int32} {a3 : Int32} {a4 : Int64}  (h : f_X7_nearestTick v a1 a2 a3 a4 = some r) : EvM mX7_nearestTick 6 0 0 [.ref 0, .int a1, .int a2, .int a3, .long a4] (rZ X) v (rPI X r) := by
  refine evm_of (by decide +kernel) (fun G => Nat.le_of_ble_eq_true rfl) ?_
  show Ev mX7_nearestTick 6 0 0 0 [(0, .ref 0), (1, .int a1), (2, .int a2), (3, .int a3), (4, .long a4)] [] (rZ X) v _
  unfold f_X7_nearestTick at h
  refine e_aload_n dX7_nearestTick_0 rfl ?_
  refine e_iload_n dX7_nearestTick_1 rfl ?_
  refine e_aload_n dX7_nearestTick_2 rfl ?_
  refine e_get (w := .ref 37) (j := 5) dX7_nearestTick_3 k0_0 rc7 (by decide) wfX7_44 (g0_0_5) ?_
  refine e_iload_n dX7_nearestTick_6 rfl ?_
  obtain ⟨c1, h⟩ := grd h
  refine e_aaldJ dX7_nearestTick_7 k0_37 rfl rfl c1.2 c1.1 (r0_37 (c1).2) ?_
  refine e_lload dX7_nearestTick_8 rfl ?_
  obtain ⟨p2, ep2, h⟩ := Option.bind_eq_some_iff.mp h
  refine c_VV (M' := mX7_lay) [.int a2, .ref (38 + a3.toNatClampNeg), .long a4] dX7_nearestTick_10 rfl wmX7_263 imX7_lay seX7_lay lkX7_lay k0_0 rc7 (Nat.le_of_ble_eq_true rfl) ((x_X7_lay (q0_37 (X := X) (c1).2) ep2).mono (by omega)) ?_
  refine e_iconst (x := (0 : Int32)) dX7_nearestTick_13 (by decide) ?_
  refine e_istore (lv' := [(6, .int (0 : Int32)), (0, .ref 0), (1, .int a1), (2, .int a2), (3, .int a3), (4, .long a4)]) dX7_nearestTick_14 (by decide) rfl ?_
  refine e_iconst (x := (0 : Int32)) dX7_nearestTick_16 (by decide) ?_
  refine e_istore (lv' := [(7, .int (0 : Int32)), (6, .int (0 : Int32)), (0, .ref 0), (1, .int a1), (2, .int a2), (3, .int a3), (4, .long a4)]) dX7_nearestTick_17 (by decide) rfl ?_
  refine e_iconst (x := (1 : Int32)) dX7_nearestTick_19 (by decide) ?_
  refine e_istore (lv' := [(8, .int (1 : Int32)), (7, .int (0 : Int32)), (6, .int (0 : Int32)), (0, .ref 0), (1, .int a1), (2, .int a2), (3, .int a3), (4, .long a4)]) dX7_nearestTick_20 (by decide) rfl ?_
  refine e_sub [3, 4, 2, 1, 0] rfl ?_
  exact b_X7_nearestTick_22  _ p2 a1 (0 : Int32) (0 : Int32) (1 : Int32) h
def f_X7_partsBy (v : rV) (a1 : Int32) (a2 : Int32) (a3 : Int32) (a4 : Int64) (a6 : Int32) : Option (Int32 × rV) := if ¬ a3 < 0 ∧ a3.toNatClampNeg < 12 then
  ((f_X7_tryAlone v a1 (38 + a3.toNatClampNeg) a4 a6).bind fun p2 =>
  (f_X5_writeLying p2 98 59).bind fun p3 =>
  (f_X7_tryAlone p3 a2 (38 + a3.toNatClampNeg) a4 a6).bind fun p4 =>
  (f_X5_offFrom p4 98 59).bind fun p5 =>
  some (p5, p4))
else none
set_option maxRecDepth 20000 in
theorem x_X7_partsBy {X : Nat × (Nat → Int32)} {v : rV} {r : Int32 × rV} {a1 : Int32} {a2 : Int32} {a3 : Int32} {a4 : Int64} {a6 : Int32}  (h : f_X7_partsBy v a1 a2 a3 a4 a6 = some r) : EvM mX7_partsBy 7 0 0 [.ref 0, .int a1, .int a2, .int a3, .long a4, .int a6] (rZ X) v (rPI X r) := by
  refine evm_of (by decide +kernel) (fun G => Nat.le_of_ble_eq_true rfl) ?_
  show Ev mX7_partsBy 7 0 0 0 [(0, .ref 0), (1, .int a1), (2, .int a2), (3, .int a3), (4, .long a4), (6, .int a6)] [] (rZ X) v _
  unfold f_X7_partsBy at h
  refine e_aload_n dX7_partsBy_0 rfl ?_
  refine e_iload_n dX7_partsBy_1 rfl ?_
  refine e_aload_n dX7_partsBy_2 rfl ?_
  refine e_get (w := .ref 37) (j := 5) dX7_partsBy_3 k0_0 rc7 (by decide) wfX7_44 (g0_0_5) ?_
  refine e_iload_n dX7_partsBy_6 rfl ?_
  obtain ⟨c1, h⟩ := grd h
  refine e_aaldJ dX7_partsBy_7 k0_37 rfl rfl c1.2 c1.1 (r0_37 (c1).2) ?_
  refine e_lload dX7_partsBy_8 rfl ?_
  refine e_iload dX7_partsBy_10 rfl ?_
  obtain ⟨p2, ep2, h⟩ := Option.bind_eq_some_iff.mp h
  refine c_VV (M' := mX7_tryAlone) [.int a1, .ref (38 + a3.toNatClampNeg), .long a4, .int a6] dX7_partsBy_12 rfl wmX7_277 imX7_tryAlone seX7_tryAlone lkX7_tryAlone k0_0 rc7 (Nat.le_of_ble_eq_true rfl) ((x_X7_tryAlone (q0_37 (X := X) (c1).2) ep2).mono (by omega)) ?_
  refine e_aload_n dX7_partsBy_15 rfl ?_
  refine e_get (w := .ref 98) (j := 11) dX7_partsBy_16 k0_0 rc7 (by decide) wfX7_67 (g0_0_11) ?_
  refine e_aload_n dX7_partsBy_19 rfl ?_
  refine e_get (w := .ref 59) (j := 9) dX7_partsBy_20 k0_0 rc7 (by decide) wfX7_57 (g0_0_9) ?_
  obtain ⟨p3, ep3, h⟩ := Option.bind_eq_some_iff.mp h
  refine c_VV (M' := mX5_writeLying) [.ref 59] dX7_partsBy_23 rfl wmX7_284 imX5_writeLying seX5_writeLying lkX5_writeLying k0_98 rc5 (Nat.le_of_ble_eq_true rfl) ((x_X5_writeLying (by decide) (k0_59 (X := X)) ep3).mono (by omega)) ?_
  refine e_aload_n dX7_partsBy_26 rfl ?_
  refine e_iload_n dX7_partsBy_27 rfl ?_
  refine e_aload_n dX7_partsBy_28 rfl ?_
  refine e_get (w := .ref 37) (j := 5) dX7_partsBy_29 k0_0 rc7 (by decide) wfX7_44 (g0_0_5) ?_
  refine e_iload_n dX7_partsBy_32 rfl ?_
  refine e_aaldJ dX7_partsBy_33 k0_37 rfl rfl (c1).2 (c1).1 (r0_37 (c1).2) ?_
  refine e_lload dX7_partsBy_34 rfl ?_
  refine e_iload dX7_partsBy_36 rfl ?_
  obtain ⟨p4, ep4, h⟩ := Option.bind_eq_some_iff.mp h
  refine c_VV (M' := mX7_tryAlone) [.int a2, .ref (38 + a3.toNatClampNeg), .long a4, .int a6] dX7_partsBy_38 rfl wmX7_277 imX7_tryAlone seX7_tryAlone lkX7_tryAlone k0_0 rc7 (Nat.le_of_ble_eq_true rfl) ((x_X7_tryAlone (q0_37 (X := X) (c1).2) ep4).mono (by omega)) ?_
  refine e_aload_n dX7_partsBy_41 rfl ?_
  refine e_get (w := .ref 98) (j := 11) dX7_partsBy_42 k0_0 rc7 (by decide) wfX7_67 (g0_0_11) ?_
  refine e_aload_n dX7_partsBy_45 rfl ?_
  refine e_get (w := .ref 59) (j := 9) dX7_partsBy_46 k0_0 rc7 (by decide) wfX7_57 (g0_0_9) ?_
  obtain ⟨p5, ep5, h⟩ := Option.bind_eq_some_iff.mp h
  refine c_VI (M' := mX5_offFrom) [.ref 59] dX7_partsBy_49 rfl wmX7_288 imX5_offFrom seX5_offFrom lkX5_offFrom k0_98 rc5 (Nat.le_of_ble_eq_true rfl) ((x_X5_offFrom (by decide) (k0_59 (X := X)) ep5).mono (by omega)) ?_
  obtain rfl := Option.some.inj h
  exact e_iret dX7_partsBy_52 rfl rfl ⟨rfl, rfl, rfl⟩
def f_X7_next_100  (q53 : rV → Int32 → Int32 → Int32 → Int64 → Int32 → Int32 → Int32 → Int32 → Option (Int32 × rV)) (v : rV) (a1 : Int32) (a2 : Int32) (a3 : Int32) (a4 : Int64) (a6 : Int32) (a7 : Int32) (a8 : Int32) (a9 : Int32) : Option (Int32 × rV) := vlet (a9 + (1 : Int32)) fun x6 =>
  q53 v a1 a2 a3 a4 a6 a7 a8 x6
def f_X7_next_53   : Nat → rV → Int32 → Int32 → Int32 → Int64 → Int32 → Int32 → Int32 → Int32 → Option (Int32 × rV)
  | 0, _, _, _, _, _, _, _, _, _ => none
  | n + 1, v, a1, a2, a3, a4, a6, a7, a8, a9 => if (v.1 0 13) ≤ a9 then
  (some (a7, v))
else
  (if (f_X7_has a3 a9) = true then
  ((f_X7_partsBy v a1 a2 a9 a4 a6).bind fun p7 =>
  if p7.1 ≤ a8 then
  (f_X7_next_100 (fun v a1 a2 a3 a4 a6 a7 a8 a9 => f_X7_next_53  n v a1 a2 a3 a4 a6 a7 a8 a9) p7.2 a1 a2 a3 a4 a6 a7 a8 a9)
else
  (f_X7_next_100 (fun v a1 a2 a3 a4 a6 a7 a8 a9 => f_X7_next_53  n v a1 a2 a3 a4 a6 a7 a8 a9) p7.2 a1 a2 a3 a4 a6 a9 p7.1 a9))
else
  (f_X7_next_100 (fun v a1 a2 a3 a4 a6 a7 a8 a9 => f_X7_next_53  n v a1 a2 a3 a4 a6 a7 a8 a9) v a1 a2 a3 a4 a6 a7 a8 a9))
def f_X7_next (v : rV) (a1 : Int32) (a2 : Int32) (a3 : Int32) (a4 : Int64) (a6 : Int32) : Option (Int32 × rV) := if (f_X4_has v 9 a1) = true then
  (if (f_X4_has v 9 a2) = true then
  (if a3 = 0 then
  (some ((-1 : Int32), v))
else
  (if (f_X7_areDrops v a3) = true then
  (if (f_X7_areTicks a6) = true then
  (f_X7_next_53  20000 v a1 a2 a3 a4 a6 (-1 : Int32) (-1 : Int32) (0 : Int32))
else
  (some ((-1 : Int32), v)))
else
  (some ((-1 : Int32), v))))
else
  (some ((-1 : Int32), v)))
else
  (some ((-1 : Int32), v))
set_option maxRecDepth 20000 in
theorem b_X7_next_100 {X : Nat × (Nat → Int32)} {r : Int32 × rV} {v : rV} {q53 : rV → Int32 → Int32 → Int32 → Int64 → Int32 → Int32 → Int32 → Int32 → Option (Int32 × rV)} (hq53 : ∀ (v : rV) (a1 : Int32) (a2 : Int32) (a3 : Int32) (a4 : Int64) (a6 : Int32) (a7 : Int32) (a8 : Int32) (a9 : Int32) , q53 v a1 a2 a3 a4 a6 a7 a8 a9 = some r → Ev mX7_next 8 0 0 53 [(0, .ref 0), (1, .int a1), (2, .int a2), (3, .int a3), (4, .long a4), (6, .int a6), (7, .int a7), (8, .int a8), (9, .int a9)] [] (rZ X) v (rPI X r)) {a1 : Int32} {a2 : Int32} {a3 : Int32} {a4 : Int64} {a6 : Int32} {a7 : Int32} {a8 : Int32} {a9 : Int32}  (h : f_X7_next_100 q53 v a1 a2 a3 a4 a6 a7 a8 a9 = some r) : Ev mX7_next 8 0 0 100 [(0, .ref 0), (1, .int a1), (2, .int a2), (3, .int a3), (4, .long a4), (6, .int a6), (7, .int a7), (8, .int a8), (9, .int a9)] [] (rZ X) v (rPI X r) := by
  unfold f_X7_next_100 at h
  obtain ⟨x6, ex6, h⟩ := vlet_ex h
  refine e_iinc (lv' := [(9, .int x6), (0, .ref 0), (1, .int a1), (2, .int a2), (3, .int a3), (4, .long a4), (6, .int a6), (7, .int a7), (8, .int a8)]) dX7_next_100 rfl (ex6.symm) (by decide) rfl ?_
  clear ex6
  refine e_goto (tgt := 53) dX7_next_103 (by decide) ?_
  refine e_sub [1, 2, 3, 4, 5, 6, 7, 8, 0] rfl ?_
  exact hq53 v a1 a2 a3 a4 a6 a7 a8 x6 h
set_option maxRecDepth 20000 in
theorem b_X7_next_53 {X : Nat × (Nat → Int32)} {r : Int32 × rV}   : ∀ (n : Nat) (v : rV) (a1 : Int32) (a2 : Int32) (a3 : Int32) (a4 : Int64) (a6 : Int32) (a7 : Int32) (a8 : Int32) (a9 : Int32) , f_X7_next_53   n v a1 a2 a3 a4 a6 a7 a8 a9 = some r → Ev mX7_next 8 0 0 53 [(0, .ref 0), (1, .int a1), (2, .int a2), (3, .int a3), (4, .long a4), (6, .int a6), (7, .int a7), (8, .int a8), (9, .int a9)] [] (rZ X) v (rPI X r) := by
  intro n
  induction n with
  | zero =>
    intros
    rename_i h
    cases h
  | succ n ih =>
    intro v a1 a2 a3 a4 a6 a7 a8 a9 h
    rw [f_X7_next_53] at h
    refine e_iload dX7_next_53 rfl ?_
    refine e_aload_n dX7_next_55 rfl ?_
    refine e_get (w := .int (v.1 0 13)) (j := 13) dX7_next_56 k0_0 rc7 (by decide) wfX7_112 rfl ?_
    refine e_icmp_ge (tgt := 106) dX7_next_59 (by decide) (fun c10 => ?_) (fun c10 => ?_)
    · rw [if_pos c10] at h
      refine e_iload dX7_next_106 rfl ?_
      obtain rfl := Option.some.inj h
      exact e_iret dX7_next_108 rfl rfl ⟨rfl, rfl, rfl⟩
    · rw [if_neg c10] at h
      refine e_iload_n dX7_next_62 rfl ?_
      refine e_iload dX7_next_63 rfl ?_
      refine c_SZ (M' := mX7_has) [.int a3, .int a9] dX7_next_65 rfl wmX7_157 stX7_has lkX7_has (Nat.le_of_ble_eq_true rfl) ((x_X7_has ).mono (by omega)) ?_
      refine e_if_eq (tgt := 100) dX7_next_68 (by decide) (fun c9 => ?_) (fun c9 => ?_)
      · rw [if_neg (bI_n c9)] at h
        exact b_X7_next_100 (fun v a1 a2 a3 a4 a6 a7 a8 a9  hh => ih v a1 a2 a3 a4 a6 a7 a8 a9  hh) h
      · rw [if_pos (bI_p c9)] at h
        refine e_aload_n dX7_next_71 rfl ?_
        refine e_iload_n dX7_next_72 rfl ?_
        refine e_iload_n dX7_next_73 rfl ?_
        refine e_iload dX7_next_74 rfl ?_
        refine e_lload dX7_next_76 rfl ?_
        refine e_iload dX7_next_78 rfl ?_
        obtain ⟨p7, ep7, h⟩ := Option.bind_eq_some_iff.mp h
        refine c_VI (M' := mX7_partsBy) [.int a1, .int a2, .int a9, .long a4, .int a6] dX7_next_80 rfl wmX7_281 imX7_partsBy seX7_partsBy lkX7_partsBy k0_0 rc7 (Nat.le_of_ble_eq_true rfl) ((x_X7_partsBy  ep7).mono (by omega)) ?_
        refine e_istore (lv' := [(10, .int p7.1), (0, .ref 0), (1, .int a1), (2, .int a2), (3, .int a3), (4, .long a4), (6, .int a6), (7, .int a7), (8, .int a8), (9, .int a9)]) dX7_next_83 (by decide) rfl ?_
        refine e_iload dX7_next_85 rfl ?_
        refine e_iload dX7_next_87 rfl ?_
        refine e_icmp_le (tgt := 100) dX7_next_89 (by decide) (fun c8 => ?_) (fun c8 => ?_)
        · rw [if_pos c8] at h
          refine e_sub [1, 2, 3, 4, 5, 6, 7, 8, 9] rfl ?_
          exact b_X7_next_100 (fun v a1 a2 a3 a4 a6 a7 a8 a9  hh => ih v a1 a2 a3 a4 a6 a7 a8 a9  hh) h
        · rw [if_neg c8] at h
          refine e_iload dX7_next_92 rfl ?_
          refine e_istore (lv' := [(8, .int p7.1), (10, .int p7.1), (0, .ref 0), (1, .int a1), (2, .int a2), (3, .int a3), (4, .long a4), (6, .int a6), (7, .int a7), (9, .int a9)]) dX7_next_94 (by decide) rfl ?_
          refine e_iload dX7_next_96 rfl ?_
          refine e_istore (lv' := [(7, .int a9), (8, .int p7.1), (10, .int p7.1), (0, .ref 0), (1, .int a1), (2, .int a2), (3, .int a3), (4, .long a4), (6, .int a6), (9, .int a9)]) dX7_next_98 (by decide) rfl ?_
          refine e_sub [3, 4, 5, 6, 7, 8, 0, 1, 9] rfl ?_
          exact b_X7_next_100 (fun v a1 a2 a3 a4 a6 a7 a8 a9  hh => ih v a1 a2 a3 a4 a6 a7 a8 a9  hh) h
set_option maxRecDepth 20000 in
theorem x_X7_next {X : Nat × (Nat → Int32)} {v : rV} {r : Int32 × rV} {a1 : Int32} {a2 : Int32} {a3 : Int32} {a4 : Int64} {a6 : Int32}  (h : f_X7_next v a1 a2 a3 a4 a6 = some r) : EvM mX7_next 8 0 0 [.ref 0, .int a1, .int a2, .int a3, .long a4, .int a6] (rZ X) v (rPI X r) := by
  refine evm_of (by decide +kernel) (fun G => Nat.le_of_ble_eq_true rfl) ?_
  show Ev mX7_next 8 0 0 0 [(0, .ref 0), (1, .int a1), (2, .int a2), (3, .int a3), (4, .long a4), (6, .int a6)] [] (rZ X) v _
  unfold f_X7_next at h
  refine e_aload_n dX7_next_0 rfl ?_
  refine e_get (w := .ref 9) (j := 3) dX7_next_1 k0_0 rc7 (by decide) wfX7_35 (g0_0_3) ?_
  refine e_iload_n dX7_next_4 rfl ?_
  refine c_VZ (M' := mX4_has) [.int a1] dX7_next_5 rfl wmX7_148 imX4_has seX4_has lkX4_has k0_9 rc4 (Nat.le_of_ble_eq_true rfl) ((x_X4_has (by decide)).mono (by omega)) ?_
  refine e_if_eq (tgt := 42) dX7_next_8 (by decide) (fun c15 => ?_) (fun c15 => ?_)
  · rw [if_neg (bI_n c15)] at h
    refine e_iconst (x := (-1 : Int32)) dX7_next_42 (by decide) ?_
    obtain rfl := Option.some.inj h
    exact e_iret dX7_next_43 rfl rfl ⟨rfl, rfl, rfl⟩
  · rw [if_pos (bI_p c15)] at h
    refine e_aload_n dX7_next_11 rfl ?_
    refine e_get (w := .ref 9) (j := 3) dX7_next_12 k0_0 rc7 (by decide) wfX7_35 (g0_0_3) ?_
    refine e_iload_n dX7_next_15 rfl ?_
    refine c_VZ (M' := mX4_has) [.int a2] dX7_next_16 rfl wmX7_148 imX4_has seX4_has lkX4_has k0_9 rc4 (Nat.le_of_ble_eq_true rfl) ((x_X4_has (by decide)).mono (by omega)) ?_
    refine e_if_eq (tgt := 42) dX7_next_19 (by decide) (fun c14 => ?_) (fun c14 => ?_)
    · rw [if_neg (bI_n c14)] at h
      refine e_iconst (x := (-1 : Int32)) dX7_next_42 (by decide) ?_
      obtain rfl := Option.some.inj h
      exact e_iret dX7_next_43 rfl rfl ⟨rfl, rfl, rfl⟩
    · rw [if_pos (bI_p c14)] at h
      refine e_iload_n dX7_next_22 rfl ?_
      refine e_if_eq (tgt := 42) dX7_next_23 (by decide) (fun c13 => ?_) (fun c13 => ?_)
      · rw [if_pos c13] at h
        refine e_iconst (x := (-1 : Int32)) dX7_next_42 (by decide) ?_
        obtain rfl := Option.some.inj h
        exact e_iret dX7_next_43 rfl rfl ⟨rfl, rfl, rfl⟩
      · rw [if_neg c13] at h
        refine e_aload_n dX7_next_26 rfl ?_
        refine e_iload_n dX7_next_27 rfl ?_
        refine c_VZ (M' := mX7_areDrops) [.int a3] dX7_next_28 rfl wmX7_151 imX7_areDrops seX7_areDrops lkX7_areDrops k0_0 rc7 (Nat.le_of_ble_eq_true rfl) ((x_X7_areDrops ).mono (by omega)) ?_
        refine e_if_eq (tgt := 42) dX7_next_31 (by decide) (fun c12 => ?_) (fun c12 => ?_)
        · rw [if_neg (bI_n c12)] at h
          refine e_iconst (x := (-1 : Int32)) dX7_next_42 (by decide) ?_
          obtain rfl := Option.some.inj h
          exact e_iret dX7_next_43 rfl rfl ⟨rfl, rfl, rfl⟩
        · rw [if_pos (bI_p c12)] at h
          refine e_iload dX7_next_34 rfl ?_
          refine c_SZ (M' := mX7_areTicks) [.int a6] dX7_next_36 rfl wmX7_177 stX7_areTicks lkX7_areTicks (Nat.le_of_ble_eq_true rfl) ((x_X7_areTicks ).mono (by omega)) ?_
          refine e_if_ne (tgt := 44) dX7_next_39 (by decide) (fun c11 => ?_) (fun c11 => ?_)
          · rw [if_pos (bI_p c11)] at h
            refine e_iconst (x := (-1 : Int32)) dX7_next_44 (by decide) ?_
            refine e_istore (lv' := [(7, .int (-1 : Int32)), (0, .ref 0), (1, .int a1), (2, .int a2), (3, .int a3), (4, .long a4), (6, .int a6)]) dX7_next_45 (by decide) rfl ?_
            refine e_iconst (x := (-1 : Int32)) dX7_next_47 (by decide) ?_
            refine e_istore (lv' := [(8, .int (-1 : Int32)), (7, .int (-1 : Int32)), (0, .ref 0), (1, .int a1), (2, .int a2), (3, .int a3), (4, .long a4), (6, .int a6)]) dX7_next_48 (by decide) rfl ?_
            refine e_iconst (x := (0 : Int32)) dX7_next_50 (by decide) ?_
            refine e_istore (lv' := [(9, .int (0 : Int32)), (8, .int (-1 : Int32)), (7, .int (-1 : Int32)), (0, .ref 0), (1, .int a1), (2, .int a2), (3, .int a3), (4, .long a4), (6, .int a6)]) dX7_next_51 (by decide) rfl ?_
            refine e_sub [3, 4, 5, 6, 7, 8, 2, 1, 0] rfl ?_
            exact b_X7_next_53  _ v a1 a2 a3 a4 a6 (-1 : Int32) (-1 : Int32) (0 : Int32) h
          · rw [if_neg (bI_n c11)] at h
            refine e_iconst (x := (-1 : Int32)) dX7_next_42 (by decide) ?_
            obtain rfl := Option.some.inj h
            exact e_iret dX7_next_43 rfl rfl ⟨rfl, rfl, rfl⟩
def f_X7_read_116  (q55 : rV → Int32 → Int32 → Int32 → Int64 → Int32 → Int32 → Int32 → Int32 → Option (Int32 × rV)) (v : rV) (a1 : Int32) (a2 : Int32) (a3 : Int32) (a4 : Int64) (a6 : Int32) (a7 : Int32) (a8 : Int32) (a9 : Int32) : Option (Int32 × rV) := vlet (a9 + (1 : Int32)) fun x6 =>
  q55 v a1 a2 a3 a4 a6 a7 a8 x6
def f_X7_read_55   : Nat → rV → Int32 → Int32 → Int32 → Int64 → Int32 → Int32 → Int32 → Int32 → Option (Int32 × rV)
  | 0, _, _, _, _, _, _, _, _, _ => none
  | n + 1, v, a1, a2, a3, a4, a6, a7, a8, a9 => if (v.1 0 13) ≤ a9 then
  (some (a8, v))
else
  (if (f_X7_has a3 a9) = true then
  (if ¬ a9 < 0 ∧ a9.toNatClampNeg < 12 then
  ((f_X7_tryAlone v a2 (38 + a9.toNatClampNeg) a4 a6).bind fun p8 =>
  if ¬ a1 < 0 ∧ a1.toNatClampNeg < 6 then
  ((f_X5_farthestFrom p8 98 (53 + a1.toNatClampNeg)).bind fun p10 =>
  if a7 < p10 then
  (f_X7_read_116 (fun v a1 a2 a3 a4 a6 a7 a8 a9 => f_X7_read_55  n v a1 a2 a3 a4 a6 a7 a8 a9) p8 a1 a2 a3 a4 a6 a7 a8 a9)
else
  (vlet (a8 ||| ((1 : Int32) <<< (a9 &&& 31)) : Int32) fun x11 =>
  f_X7_read_116 (fun v a1 a2 a3 a4 a6 a7 a8 a9 => f_X7_read_55  n v a1 a2 a3 a4 a6 a7 a8 a9) p8 a1 a2 a3 a4 a6 a7 x11 a9))
else none)
else none)
else
  (f_X7_read_116 (fun v a1 a2 a3 a4 a6 a7 a8 a9 => f_X7_read_55  n v a1 a2 a3 a4 a6 a7 a8 a9) v a1 a2 a3 a4 a6 a7 a8 a9))
def f_X7_read (v : rV) (a1 : Int32) (a2 : Int32) (a3 : Int32) (a4 : Int64) (a6 : Int32) (a7 : Int32) : Option (Int32 × rV) := if (f_X7_isStain v a1) = true then
  (if (f_X4_has v 9 a2) = true then
  (if (f_X7_areDrops v a3) = true then
  (if (f_X7_areTicks a6) = true then
  (if a7 < 0 then
  (some ((-1 : Int32), v))
else
  (if a7 ≤ (99 : Int32) then
  (f_X7_read_55  20000 v a1 a2 a3 a4 a6 a7 (0 : Int32) (0 : Int32))
else
  (some ((-1 : Int32), v))))
else
  (some ((-1 : Int32), v)))
else
  (some ((-1 : Int32), v)))
else
  (some ((-1 : Int32), v)))
else
  (some ((-1 : Int32), v))
set_option maxRecDepth 20000 in
theorem b_X7_read_116 {X : Nat × (Nat → Int32)} {r : Int32 × rV} {v : rV} {q55 : rV → Int32 → Int32 → Int32 → Int64 → Int32 → Int32 → Int32 → Int32 → Option (Int32 × rV)} (hq55 : ∀ (v : rV) (a1 : Int32) (a2 : Int32) (a3 : Int32) (a4 : Int64) (a6 : Int32) (a7 : Int32) (a8 : Int32) (a9 : Int32) , q55 v a1 a2 a3 a4 a6 a7 a8 a9 = some r → Ev mX7_read 7 0 0 55 [(0, .ref 0), (1, .int a1), (2, .int a2), (3, .int a3), (4, .long a4), (6, .int a6), (7, .int a7), (8, .int a8), (9, .int a9)] [] (rZ X) v (rPI X r)) {a1 : Int32} {a2 : Int32} {a3 : Int32} {a4 : Int64} {a6 : Int32} {a7 : Int32} {a8 : Int32} {a9 : Int32}  (h : f_X7_read_116 q55 v a1 a2 a3 a4 a6 a7 a8 a9 = some r) : Ev mX7_read 7 0 0 116 [(0, .ref 0), (1, .int a1), (2, .int a2), (3, .int a3), (4, .long a4), (6, .int a6), (7, .int a7), (8, .int a8), (9, .int a9)] [] (rZ X) v (rPI X r) := by
  unfold f_X7_read_116 at h
  obtain ⟨x6, ex6, h⟩ := vlet_ex h
  refine e_iinc (lv' := [(9, .int x6), (0, .ref 0), (1, .int a1), (2, .int a2), (3, .int a3), (4, .long a4), (6, .int a6), (7, .int a7), (8, .int a8)]) dX7_read_116 rfl (ex6.symm) (by decide) rfl ?_
  clear ex6
  refine e_goto (tgt := 55) dX7_read_119 (by decide) ?_
  refine e_sub [1, 2, 3, 4, 5, 6, 7, 8, 0] rfl ?_
  exact hq55 v a1 a2 a3 a4 a6 a7 a8 x6 h
set_option maxRecDepth 20000 in
theorem b_X7_read_55 {X : Nat × (Nat → Int32)} {r : Int32 × rV}   : ∀ (n : Nat) (v : rV) (a1 : Int32) (a2 : Int32) (a3 : Int32) (a4 : Int64) (a6 : Int32) (a7 : Int32) (a8 : Int32) (a9 : Int32) , f_X7_read_55   n v a1 a2 a3 a4 a6 a7 a8 a9 = some r → Ev mX7_read 7 0 0 55 [(0, .ref 0), (1, .int a1), (2, .int a2), (3, .int a3), (4, .long a4), (6, .int a6), (7, .int a7), (8, .int a8), (9, .int a9)] [] (rZ X) v (rPI X r) := by
  intro n
  induction n with
  | zero =>
    intros
    rename_i h
    cases h
  | succ n ih =>
    intro v a1 a2 a3 a4 a6 a7 a8 a9 h
    rw [f_X7_read_55] at h
    refine e_iload dX7_read_55 rfl ?_
    refine e_aload_n dX7_read_57 rfl ?_
    refine e_get (w := .int (v.1 0 13)) (j := 13) dX7_read_58 k0_0 rc7 (by decide) wfX7_112 rfl ?_
    refine e_icmp_ge (tgt := 122) dX7_read_61 (by decide) (fun c14 => ?_) (fun c14 => ?_)
    · rw [if_pos c14] at h
      refine e_iload dX7_read_122 rfl ?_
      obtain rfl := Option.some.inj h
      exact e_iret dX7_read_124 rfl rfl ⟨rfl, rfl, rfl⟩
    · rw [if_neg c14] at h
      refine e_iload_n dX7_read_64 rfl ?_
      refine e_iload dX7_read_65 rfl ?_
      refine c_SZ (M' := mX7_has) [.int a3, .int a9] dX7_read_67 rfl wmX7_157 stX7_has lkX7_has (Nat.le_of_ble_eq_true rfl) ((x_X7_has ).mono (by omega)) ?_
      refine e_if_eq (tgt := 116) dX7_read_70 (by decide) (fun c13 => ?_) (fun c13 => ?_)
      · rw [if_neg (bI_n c13)] at h
        exact b_X7_read_116 (fun v a1 a2 a3 a4 a6 a7 a8 a9  hh => ih v a1 a2 a3 a4 a6 a7 a8 a9  hh) h
      · rw [if_pos (bI_p c13)] at h
        refine e_aload_n dX7_read_73 rfl ?_
        refine e_iload_n dX7_read_74 rfl ?_
        refine e_aload_n dX7_read_75 rfl ?_
        refine e_get (w := .ref 37) (j := 5) dX7_read_76 k0_0 rc7 (by decide) wfX7_44 (g0_0_5) ?_
        refine e_iload dX7_read_79 rfl ?_
        obtain ⟨c7, h⟩ := grd h
        refine e_aaldJ dX7_read_81 k0_37 rfl rfl c7.2 c7.1 (r0_37 (c7).2) ?_
        refine e_lload dX7_read_82 rfl ?_
        refine e_iload dX7_read_84 rfl ?_
        obtain ⟨p8, ep8, h⟩ := Option.bind_eq_some_iff.mp h
        refine c_VV (M' := mX7_tryAlone) [.int a2, .ref (38 + a9.toNatClampNeg), .long a4, .int a6] dX7_read_86 rfl wmX7_277 imX7_tryAlone seX7_tryAlone lkX7_tryAlone k0_0 rc7 (Nat.le_of_ble_eq_true rfl) ((x_X7_tryAlone (q0_37 (X := X) (c7).2) ep8).mono (by omega)) ?_
        refine e_aload_n dX7_read_89 rfl ?_
        refine e_get (w := .ref 98) (j := 11) dX7_read_90 k0_0 rc7 (by decide) wfX7_67 (g0_0_11) ?_
        refine e_aload_n dX7_read_93 rfl ?_
        refine e_get (w := .ref 52) (j := 8) dX7_read_94 k0_0 rc7 (by decide) wfX7_54 (g0_0_8) ?_
        refine e_iload_n dX7_read_97 rfl ?_
        obtain ⟨c9, h⟩ := grd h
        refine e_aaldJ dX7_read_98 k0_52 rfl rfl c9.2 c9.1 (r0_52 (c9).2) ?_
        obtain ⟨p10, ep10, h⟩ := Option.bind_eq_some_iff.mp h
        refine c_VI (M' := mX5_farthestFrom) [.ref (53 + a1.toNatClampNeg)] dX7_read_99 rfl wmX7_309 imX5_farthestFrom seX5_farthestFrom lkX5_farthestFrom k0_98 rc5 (Nat.le_of_ble_eq_true rfl) ((x_X5_farthestFrom (by decide) (q0_52 (X := X) (c9).2) ep10).mono (by omega)) ?_
        refine e_iload dX7_read_102 rfl ?_
        refine e_icmp_gt (tgt := 116) dX7_read_104 (by decide) (fun c12 => ?_) (fun c12 => ?_)
        · rw [if_pos c12] at h
          exact b_X7_read_116 (fun v a1 a2 a3 a4 a6 a7 a8 a9  hh => ih v a1 a2 a3 a4 a6 a7 a8 a9  hh) h
        · rw [if_neg c12] at h
          refine e_iload dX7_read_107 rfl ?_
          refine e_iconst (x := (1 : Int32)) dX7_read_109 (by decide) ?_
          refine e_iload dX7_read_110 rfl ?_
          refine e_ishl dX7_read_112 ?_
          refine e_ior dX7_read_113 ?_
          obtain ⟨x11, ex11, h⟩ := vlet_ex h
          refine e_nameI ex11.symm ?_
          clear ex11
          refine e_istore (lv' := [(8, .int x11), (0, .ref 0), (1, .int a1), (2, .int a2), (3, .int a3), (4, .long a4), (6, .int a6), (7, .int a7), (9, .int a9)]) dX7_read_114 (by decide) rfl ?_
          refine e_sub [1, 2, 3, 4, 5, 6, 7, 0, 8] rfl ?_
          exact b_X7_read_116 (fun v a1 a2 a3 a4 a6 a7 a8 a9  hh => ih v a1 a2 a3 a4 a6 a7 a8 a9  hh) h
set_option maxRecDepth 20000 in
theorem x_X7_read {X : Nat × (Nat → Int32)} {v : rV} {r : Int32 × rV} {a1 : Int32} {a2 : Int32} {a3 : Int32} {a4 : Int64} {a6 : Int32} {a7 : Int32}  (h : f_X7_read v a1 a2 a3 a4 a6 a7 = some r) : EvM mX7_read 7 0 0 [.ref 0, .int a1, .int a2, .int a3, .long a4, .int a6, .int a7] (rZ X) v (rPI X r) := by
  refine evm_of (by decide +kernel) (fun G => Nat.le_of_ble_eq_true rfl) ?_
  show Ev mX7_read 7 0 0 0 [(0, .ref 0), (1, .int a1), (2, .int a2), (3, .int a3), (4, .long a4), (6, .int a6), (7, .int a7)] [] (rZ X) v _
  unfold f_X7_read at h
  refine e_aload_n dX7_read_0 rfl ?_
  refine e_iload_n dX7_read_1 rfl ?_
  refine c_VZ (M' := mX7_isStain) [.int a1] dX7_read_2 rfl wmX7_306 imX7_isStain seX7_isStain lkX7_isStain k0_0 rc7 (Nat.le_of_ble_eq_true rfl) ((x_X7_isStain ).mono (by omega)) ?_
  refine e_if_eq (tgt := 47) dX7_read_5 (by decide) (fun c20 => ?_) (fun c20 => ?_)
  · rw [if_neg (bI_n c20)] at h
    refine e_iconst (x := (-1 : Int32)) dX7_read_47 (by decide) ?_
    obtain rfl := Option.some.inj h
    exact e_iret dX7_read_48 rfl rfl ⟨rfl, rfl, rfl⟩
  · rw [if_pos (bI_p c20)] at h
    refine e_aload_n dX7_read_8 rfl ?_
    refine e_get (w := .ref 9) (j := 3) dX7_read_9 k0_0 rc7 (by decide) wfX7_35 (g0_0_3) ?_
    refine e_iload_n dX7_read_12 rfl ?_
    refine c_VZ (M' := mX4_has) [.int a2] dX7_read_13 rfl wmX7_148 imX4_has seX4_has lkX4_has k0_9 rc4 (Nat.le_of_ble_eq_true rfl) ((x_X4_has (by decide)).mono (by omega)) ?_
    refine e_if_eq (tgt := 47) dX7_read_16 (by decide) (fun c19 => ?_) (fun c19 => ?_)
    · rw [if_neg (bI_n c19)] at h
      refine e_iconst (x := (-1 : Int32)) dX7_read_47 (by decide) ?_
      obtain rfl := Option.some.inj h
      exact e_iret dX7_read_48 rfl rfl ⟨rfl, rfl, rfl⟩
    · rw [if_pos (bI_p c19)] at h
      refine e_aload_n dX7_read_19 rfl ?_
      refine e_iload_n dX7_read_20 rfl ?_
      refine c_VZ (M' := mX7_areDrops) [.int a3] dX7_read_21 rfl wmX7_151 imX7_areDrops seX7_areDrops lkX7_areDrops k0_0 rc7 (Nat.le_of_ble_eq_true rfl) ((x_X7_areDrops ).mono (by omega)) ?_
      refine e_if_eq (tgt := 47) dX7_read_24 (by decide) (fun c18 => ?_) (fun c18 => ?_)
      · rw [if_neg (bI_n c18)] at h
        refine e_iconst (x := (-1 : Int32)) dX7_read_47 (by decide) ?_
        obtain rfl := Option.some.inj h
        exact e_iret dX7_read_48 rfl rfl ⟨rfl, rfl, rfl⟩
      · rw [if_pos (bI_p c18)] at h
        refine e_iload dX7_read_27 rfl ?_
        refine c_SZ (M' := mX7_areTicks) [.int a6] dX7_read_29 rfl wmX7_177 stX7_areTicks lkX7_areTicks (Nat.le_of_ble_eq_true rfl) ((x_X7_areTicks ).mono (by omega)) ?_
        refine e_if_eq (tgt := 47) dX7_read_32 (by decide) (fun c17 => ?_) (fun c17 => ?_)
        · rw [if_neg (bI_n c17)] at h
          refine e_iconst (x := (-1 : Int32)) dX7_read_47 (by decide) ?_
          obtain rfl := Option.some.inj h
          exact e_iret dX7_read_48 rfl rfl ⟨rfl, rfl, rfl⟩
        · rw [if_pos (bI_p c17)] at h
          refine e_iload dX7_read_35 rfl ?_
          refine e_if_lt (tgt := 47) dX7_read_37 (by decide) (fun c16 => ?_) (fun c16 => ?_)
          · rw [if_pos c16] at h
            refine e_iconst (x := (-1 : Int32)) dX7_read_47 (by decide) ?_
            obtain rfl := Option.some.inj h
            exact e_iret dX7_read_48 rfl rfl ⟨rfl, rfl, rfl⟩
          · rw [if_neg c16] at h
            refine e_iload dX7_read_40 rfl ?_
            refine e_bipush (x := (99 : Int32)) dX7_read_42 (by decide) ?_
            refine e_icmp_le (tgt := 49) dX7_read_44 (by decide) (fun c15 => ?_) (fun c15 => ?_)
            · rw [if_pos c15] at h
              refine e_iconst (x := (0 : Int32)) dX7_read_49 (by decide) ?_
              refine e_istore (lv' := [(8, .int (0 : Int32)), (0, .ref 0), (1, .int a1), (2, .int a2), (3, .int a3), (4, .long a4), (6, .int a6), (7, .int a7)]) dX7_read_50 (by decide) rfl ?_
              refine e_iconst (x := (0 : Int32)) dX7_read_52 (by decide) ?_
              refine e_istore (lv' := [(9, .int (0 : Int32)), (8, .int (0 : Int32)), (0, .ref 0), (1, .int a1), (2, .int a2), (3, .int a3), (4, .long a4), (6, .int a6), (7, .int a7)]) dX7_read_53 (by decide) rfl ?_
              refine e_sub [2, 3, 4, 5, 6, 7, 8, 1, 0] rfl ?_
              exact b_X7_read_55  _ v a1 a2 a3 a4 a6 a7 (0 : Int32) (0 : Int32) h
            · rw [if_neg c15] at h
              refine e_iconst (x := (-1 : Int32)) dX7_read_47 (by decide) ?_
              obtain rfl := Option.some.inj h
              exact e_iret dX7_read_48 rfl rfl ⟨rfl, rfl, rfl⟩
def f_X7_odds_60  (q29 : rV → Int32 → Int32 → Int32 → Option (Int32 × rV)) (v : rV) (a8 : Int32) (a9 : Int32) (a10 : Int32) : Option (Int32 × rV) := vlet (a10 + (1 : Int32)) fun x3 =>
  q29 v a8 a9 x3
def f_X7_odds_29   : Nat → rV → Int32 → Int32 → Int32 → Option (Int32 × rV)
  | 0, _, _, _, _ => none
  | n + 1, v, a8, a9, a10 => if (v.1 0 13) ≤ a10 then
  (some (a9, v))
else
  (if (f_X7_has a8 a10) = true then
  (if ¬ a10 < 0 ∧ a10.toNatClampNeg < 12 then
  (vlet (a9 + (v.1 50 a10.toNatClampNeg) : Int32) fun x5 =>
  f_X7_odds_60 (fun v a8 a9 a10 => f_X7_odds_29  n v a8 a9 a10) v a8 x5 a10)
else none)
else
  (f_X7_odds_60 (fun v a8 a9 a10 => f_X7_odds_29  n v a8 a9 a10) v a8 a9 a10))
def f_X7_odds (v : rV) (a1 : Int32) (a2 : Int32) (a3 : Int32) (a4 : Int64) (a6 : Int32) (a7 : Int32) : Option (Int32 × rV) := (f_X7_read v a1 a2 a3 a4 a6 a7).bind fun p1 =>
  if p1.1 = (-1 : Int32) then
  (some ((-1 : Int32), p1.2))
else
  (f_X7_odds_29  20000 p1.2 p1.1 (0 : Int32) (0 : Int32))
set_option maxRecDepth 20000 in
theorem b_X7_odds_60 {X : Nat × (Nat → Int32)} {r : Int32 × rV} {v : rV} {q29 : rV → Int32 → Int32 → Int32 → Option (Int32 × rV)} (hq29 : ∀ (v : rV) (a8 : Int32) (a9 : Int32) (a10 : Int32) , q29 v a8 a9 a10 = some r → Ev mX7_odds 8 0 0 29 [(0, .ref 0), (8, .int a8), (9, .int a9), (10, .int a10)] [] (rZ X) v (rPI X r)) {a8 : Int32} {a9 : Int32} {a10 : Int32}  (h : f_X7_odds_60 q29 v a8 a9 a10 = some r) : Ev mX7_odds 8 0 0 60 [(0, .ref 0), (8, .int a8), (9, .int a9), (10, .int a10)] [] (rZ X) v (rPI X r) := by
  unfold f_X7_odds_60 at h
  obtain ⟨x3, ex3, h⟩ := vlet_ex h
  refine e_iinc (lv' := [(10, .int x3), (0, .ref 0), (8, .int a8), (9, .int a9)]) dX7_odds_60 rfl (ex3.symm) (by decide) rfl ?_
  clear ex3
  refine e_goto (tgt := 29) dX7_odds_63 (by decide) ?_
  refine e_sub [1, 2, 3, 0] rfl ?_
  exact hq29 v a8 a9 x3 h
set_option maxRecDepth 20000 in
theorem b_X7_odds_29 {X : Nat × (Nat → Int32)} {r : Int32 × rV}   : ∀ (n : Nat) (v : rV) (a8 : Int32) (a9 : Int32) (a10 : Int32) , f_X7_odds_29   n v a8 a9 a10 = some r → Ev mX7_odds 8 0 0 29 [(0, .ref 0), (8, .int a8), (9, .int a9), (10, .int a10)] [] (rZ X) v (rPI X r) := by
  intro n
  induction n with
  | zero =>
    intros
    rename_i h
    cases h
  | succ n ih =>
    intro v a8 a9 a10 h
    rw [f_X7_odds_29] at h
    refine e_iload dX7_odds_29 rfl ?_
    refine e_aload_n dX7_odds_31 rfl ?_
    refine e_get (w := .int (v.1 0 13)) (j := 13) dX7_odds_32 k0_0 rc7 (by decide) wfX7_112 rfl ?_
    refine e_icmp_ge (tgt := 66) dX7_odds_35 (by decide) (fun c7 => ?_) (fun c7 => ?_)
    · rw [if_pos c7] at h
      refine e_iload dX7_odds_66 rfl ?_
      obtain rfl := Option.some.inj h
      exact e_iret dX7_odds_68 rfl rfl ⟨rfl, rfl, rfl⟩
    · rw [if_neg c7] at h
      refine e_iload dX7_odds_38 rfl ?_
      refine e_iload dX7_odds_40 rfl ?_
      refine c_SZ (M' := mX7_has) [.int a8, .int a10] dX7_odds_42 rfl wmX7_157 stX7_has lkX7_has (Nat.le_of_ble_eq_true rfl) ((x_X7_has ).mono (by omega)) ?_
      refine e_if_eq (tgt := 60) dX7_odds_45 (by decide) (fun c6 => ?_) (fun c6 => ?_)
      · rw [if_neg (bI_n c6)] at h
        exact b_X7_odds_60 (fun v a8 a9 a10  hh => ih v a8 a9 a10  hh) h
      · rw [if_pos (bI_p c6)] at h
        refine e_iload dX7_odds_48 rfl ?_
        refine e_aload_n dX7_odds_50 rfl ?_
        refine e_get (w := .ref 50) (j := 6) dX7_odds_51 k0_0 rc7 (by decide) wfX7_47 (g0_0_6) ?_
        refine e_iload dX7_odds_54 rfl ?_
        obtain ⟨c4, h⟩ := grd h
        refine e_ialdJ dX7_odds_56 k0_50 rfl c4.2 c4.1 ?_
        refine e_iadd dX7_odds_57 ?_
        obtain ⟨x5, ex5, h⟩ := vlet_ex h
        refine e_nameI ex5.symm ?_
        clear ex5
        refine e_istore (lv' := [(9, .int x5), (0, .ref 0), (8, .int a8), (10, .int a10)]) dX7_odds_58 (by decide) rfl ?_
        refine e_sub [1, 2, 0, 3] rfl ?_
        exact b_X7_odds_60 (fun v a8 a9 a10  hh => ih v a8 a9 a10  hh) h
set_option maxRecDepth 20000 in
theorem x_X7_odds {X : Nat × (Nat → Int32)} {v : rV} {r : Int32 × rV} {a1 : Int32} {a2 : Int32} {a3 : Int32} {a4 : Int64} {a6 : Int32} {a7 : Int32}  (h : f_X7_odds v a1 a2 a3 a4 a6 a7 = some r) : EvM mX7_odds 8 0 0 [.ref 0, .int a1, .int a2, .int a3, .long a4, .int a6, .int a7] (rZ X) v (rPI X r) := by
  refine evm_of (by decide +kernel) (fun G => Nat.le_of_ble_eq_true rfl) ?_
  show Ev mX7_odds 8 0 0 0 [(0, .ref 0), (1, .int a1), (2, .int a2), (3, .int a3), (4, .long a4), (6, .int a6), (7, .int a7)] [] (rZ X) v _
  unfold f_X7_odds at h
  refine e_aload_n dX7_odds_0 rfl ?_
  refine e_iload_n dX7_odds_1 rfl ?_
  refine e_iload_n dX7_odds_2 rfl ?_
  refine e_iload_n dX7_odds_3 rfl ?_
  refine e_lload dX7_odds_4 rfl ?_
  refine e_iload dX7_odds_6 rfl ?_
  refine e_iload dX7_odds_8 rfl ?_
  obtain ⟨p1, ep1, h⟩ := Option.bind_eq_some_iff.mp h
  refine c_VI (M' := mX7_read) [.int a1, .int a2, .int a3, .long a4, .int a6, .int a7] dX7_odds_10 rfl wmX7_312 imX7_read seX7_read lkX7_read k0_0 rc7 (Nat.le_of_ble_eq_true rfl) ((x_X7_read  ep1).mono (by omega)) ?_
  refine e_istore (lv' := [(8, .int p1.1), (0, .ref 0), (1, .int a1), (2, .int a2), (3, .int a3), (4, .long a4), (6, .int a6), (7, .int a7)]) dX7_odds_13 (by decide) rfl ?_
  refine e_iload dX7_odds_15 rfl ?_
  refine e_iconst (x := (-1 : Int32)) dX7_odds_17 (by decide) ?_
  refine e_icmp_ne (tgt := 23) dX7_odds_18 (by decide) (fun c8 => ?_) (fun c8 => ?_)
  · rw [if_neg c8] at h
    refine e_iconst (x := (0 : Int32)) dX7_odds_23 (by decide) ?_
    refine e_istore (lv' := [(9, .int (0 : Int32)), (8, .int p1.1), (0, .ref 0), (1, .int a1), (2, .int a2), (3, .int a3), (4, .long a4), (6, .int a6), (7, .int a7)]) dX7_odds_24 (by decide) rfl ?_
    refine e_iconst (x := (0 : Int32)) dX7_odds_26 (by decide) ?_
    refine e_istore (lv' := [(10, .int (0 : Int32)), (9, .int (0 : Int32)), (8, .int p1.1), (0, .ref 0), (1, .int a1), (2, .int a2), (3, .int a3), (4, .long a4), (6, .int a6), (7, .int a7)]) dX7_odds_27 (by decide) rfl ?_
    refine e_sub [3, 2, 1, 0] rfl ?_
    exact b_X7_odds_29  _ p1.2 p1.1 (0 : Int32) (0 : Int32) h
  · rw [if_pos c8] at h
    refine e_iconst (x := (-1 : Int32)) dX7_odds_21 (by decide) ?_
    obtain rfl := Option.some.inj h
    exact e_iret dX7_odds_22 rfl rfl ⟨rfl, rfl, rfl⟩
def f_X7_offBehind (v : rV) (a1 : Int32) (a2 : Int32) (a3 : Int32) (a4 : Int64) (a6 : Int32) : Option (Int32 × rV) := if ¬ a3 < 0 ∧ a3.toNatClampNeg < 12 then
  ((f_X7_tryAlone v a2 (38 + a3.toNatClampNeg) a4 a6).bind fun p2 =>
  if ¬ a1 < 0 ∧ a1.toNatClampNeg < 6 then
  ((f_X5_offFrom p2 98 (53 + a1.toNatClampNeg)).bind fun p4 =>
  some (p4, p2))
else none)
else none
set_option maxRecDepth 20000 in
theorem x_X7_offBehind {X : Nat × (Nat → Int32)} {v : rV} {r : Int32 × rV} {a1 : Int32} {a2 : Int32} {a3 : Int32} {a4 : Int64} {a6 : Int32}  (h : f_X7_offBehind v a1 a2 a3 a4 a6 = some r) : EvM mX7_offBehind 7 0 0 [.ref 0, .int a1, .int a2, .int a3, .long a4, .int a6] (rZ X) v (rPI X r) := by
  refine evm_of (by decide +kernel) (fun G => Nat.le_of_ble_eq_true rfl) ?_
  show Ev mX7_offBehind 7 0 0 0 [(0, .ref 0), (1, .int a1), (2, .int a2), (3, .int a3), (4, .long a4), (6, .int a6)] [] (rZ X) v _
  unfold f_X7_offBehind at h
  refine e_aload_n dX7_offBehind_0 rfl ?_
  refine e_iload_n dX7_offBehind_1 rfl ?_
  refine e_aload_n dX7_offBehind_2 rfl ?_
  refine e_get (w := .ref 37) (j := 5) dX7_offBehind_3 k0_0 rc7 (by decide) wfX7_44 (g0_0_5) ?_
  refine e_iload_n dX7_offBehind_6 rfl ?_
  obtain ⟨c1, h⟩ := grd h
  refine e_aaldJ dX7_offBehind_7 k0_37 rfl rfl c1.2 c1.1 (r0_37 (c1).2) ?_
  refine e_lload dX7_offBehind_8 rfl ?_
  refine e_iload dX7_offBehind_10 rfl ?_
  obtain ⟨p2, ep2, h⟩ := Option.bind_eq_some_iff.mp h
  refine c_VV (M' := mX7_tryAlone) [.int a2, .ref (38 + a3.toNatClampNeg), .long a4, .int a6] dX7_offBehind_12 rfl wmX7_277 imX7_tryAlone seX7_tryAlone lkX7_tryAlone k0_0 rc7 (Nat.le_of_ble_eq_true rfl) ((x_X7_tryAlone (q0_37 (X := X) (c1).2) ep2).mono (by omega)) ?_
  refine e_aload_n dX7_offBehind_15 rfl ?_
  refine e_get (w := .ref 98) (j := 11) dX7_offBehind_16 k0_0 rc7 (by decide) wfX7_67 (g0_0_11) ?_
  refine e_aload_n dX7_offBehind_19 rfl ?_
  refine e_get (w := .ref 52) (j := 8) dX7_offBehind_20 k0_0 rc7 (by decide) wfX7_54 (g0_0_8) ?_
  refine e_iload_n dX7_offBehind_23 rfl ?_
  obtain ⟨c3, h⟩ := grd h
  refine e_aaldJ dX7_offBehind_24 k0_52 rfl rfl c3.2 c3.1 (r0_52 (c3).2) ?_
  obtain ⟨p4, ep4, h⟩ := Option.bind_eq_some_iff.mp h
  refine c_VI (M' := mX5_offFrom) [.ref (53 + a1.toNatClampNeg)] dX7_offBehind_25 rfl wmX7_288 imX5_offFrom seX5_offFrom lkX5_offFrom k0_98 rc5 (Nat.le_of_ble_eq_true rfl) ((x_X5_offFrom (by decide) (q0_52 (X := X) (c3).2) ep4).mono (by omega)) ?_
  obtain rfl := Option.some.inj h
  exact e_iret dX7_offBehind_28 rfl rfl ⟨rfl, rfl, rfl⟩
def f_X7_pace (v : rV) (a1 : Int32) : Option (Bool × rV) := if a1 < 0 then
  (some (false, v))
else
  (if a1 ≤ (99 : Int32) then
  (vlet (rI v 0 15 a1) fun v1 =>
  some (true, v1))
else
  (some (false, v)))
set_option maxRecDepth 20000 in
theorem x_X7_pace {X : Nat × (Nat → Int32)} {v : rV} {r : Bool × rV} {a1 : Int32}  (h : f_X7_pace v a1 = some r) : EvM mX7_pace 1 0 0 [.ref 0, .int a1] (rZ X) v (rPZ X r) := by
  refine evm_of (by decide +kernel) (fun G => Nat.le_of_ble_eq_true rfl) ?_
  show Ev mX7_pace 1 0 0 0 [(0, .ref 0), (1, .int a1)] [] (rZ X) v _
  unfold f_X7_pace at h
  refine e_iload_n dX7_pace_0 rfl ?_
  refine e_if_lt (tgt := 10) dX7_pace_1 (by decide) (fun c3 => ?_) (fun c3 => ?_)
  · rw [if_pos c3] at h
    refine e_iconst (x := (0 : Int32)) dX7_pace_10 (by decide) ?_
    obtain rfl := Option.some.inj h
    exact e_iret dX7_pace_11 rfl rfl ⟨rfl, rfl, rfl⟩
  · rw [if_neg c3] at h
    refine e_iload_n dX7_pace_4 rfl ?_
    refine e_bipush (x := (99 : Int32)) dX7_pace_5 (by decide) ?_
    refine e_icmp_le (tgt := 12) dX7_pace_7 (by decide) (fun c2 => ?_) (fun c2 => ?_)
    · rw [if_pos c2] at h
      refine e_aload_n dX7_pace_12 rfl ?_
      refine e_iload_n dX7_pace_13 rfl ?_
      refine e_putI (j := 15) dX7_pace_14 k0_0 rc7 (by decide) wfX7_73 rfl rfl ?_
      obtain ⟨v1, ev1, h⟩ := vlet_ex h
      refine e_nameV ev1.symm ?_
      clear ev1
      refine e_iconst (x := (1 : Int32)) dX7_pace_17 (by decide) ?_
      obtain rfl := Option.some.inj h
      exact e_iret dX7_pace_18 rfl rfl ⟨rfl, rfl, rfl⟩
    · rw [if_neg c2] at h
      refine e_iconst (x := (0 : Int32)) dX7_pace_10 (by decide) ?_
      obtain rfl := Option.some.inj h
      exact e_iret dX7_pace_11 rfl rfl ⟨rfl, rfl, rfl⟩
def f_X7_parts (v : rV) (a1 : Int32) (a2 : Int32) (a3 : Int32) (a4 : Int64) (a6 : Int32) : Option (Int32 × rV) := if (f_X4_has v 9 a1) = true then
  (if (f_X4_has v 9 a2) = true then
  (if (f_X7_isDrop v a3) = true then
  (if (f_X7_areTicks a6) = true then
  ((f_X7_partsBy v a1 a2 a3 a4 a6).bind fun p5 =>
  some (p5.1, p5.2))
else
  (some ((-1 : Int32), v)))
else
  (some ((-1 : Int32), v)))
else
  (some ((-1 : Int32), v)))
else
  (some ((-1 : Int32), v))
set_option maxRecDepth 20000 in
theorem x_X7_parts {X : Nat × (Nat → Int32)} {v : rV} {r : Int32 × rV} {a1 : Int32} {a2 : Int32} {a3 : Int32} {a4 : Int64} {a6 : Int32}  (h : f_X7_parts v a1 a2 a3 a4 a6 = some r) : EvM mX7_parts 8 0 0 [.ref 0, .int a1, .int a2, .int a3, .long a4, .int a6] (rZ X) v (rPI X r) := by
  refine evm_of (by decide +kernel) (fun G => Nat.le_of_ble_eq_true rfl) ?_
  show Ev mX7_parts 8 0 0 0 [(0, .ref 0), (1, .int a1), (2, .int a2), (3, .int a3), (4, .long a4), (6, .int a6)] [] (rZ X) v _
  unfold f_X7_parts at h
  refine e_aload_n dX7_parts_0 rfl ?_
  refine e_get (w := .ref 9) (j := 3) dX7_parts_1 k0_0 rc7 (by decide) wfX7_35 (g0_0_3) ?_
  refine e_iload_n dX7_parts_4 rfl ?_
  refine c_VZ (M' := mX4_has) [.int a1] dX7_parts_5 rfl wmX7_148 imX4_has seX4_has lkX4_has k0_9 rc4 (Nat.le_of_ble_eq_true rfl) ((x_X4_has (by decide)).mono (by omega)) ?_
  refine e_if_eq (tgt := 38) dX7_parts_8 (by decide) (fun c9 => ?_) (fun c9 => ?_)
  · rw [if_neg (bI_n c9)] at h
    refine e_iconst (x := (-1 : Int32)) dX7_parts_38 (by decide) ?_
    obtain rfl := Option.some.inj h
    exact e_iret dX7_parts_39 rfl rfl ⟨rfl, rfl, rfl⟩
  · rw [if_pos (bI_p c9)] at h
    refine e_aload_n dX7_parts_11 rfl ?_
    refine e_get (w := .ref 9) (j := 3) dX7_parts_12 k0_0 rc7 (by decide) wfX7_35 (g0_0_3) ?_
    refine e_iload_n dX7_parts_15 rfl ?_
    refine c_VZ (M' := mX4_has) [.int a2] dX7_parts_16 rfl wmX7_148 imX4_has seX4_has lkX4_has k0_9 rc4 (Nat.le_of_ble_eq_true rfl) ((x_X4_has (by decide)).mono (by omega)) ?_
    refine e_if_eq (tgt := 38) dX7_parts_19 (by decide) (fun c8 => ?_) (fun c8 => ?_)
    · rw [if_neg (bI_n c8)] at h
      refine e_iconst (x := (-1 : Int32)) dX7_parts_38 (by decide) ?_
      obtain rfl := Option.some.inj h
      exact e_iret dX7_parts_39 rfl rfl ⟨rfl, rfl, rfl⟩
    · rw [if_pos (bI_p c8)] at h
      refine e_aload_n dX7_parts_22 rfl ?_
      refine e_iload_n dX7_parts_23 rfl ?_
      refine c_VZ (M' := mX7_isDrop) [.int a3] dX7_parts_24 rfl wmX7_124 imX7_isDrop seX7_isDrop lkX7_isDrop k0_0 rc7 (Nat.le_of_ble_eq_true rfl) ((x_X7_isDrop ).mono (by omega)) ?_
      refine e_if_eq (tgt := 38) dX7_parts_27 (by decide) (fun c7 => ?_) (fun c7 => ?_)
      · rw [if_neg (bI_n c7)] at h
        refine e_iconst (x := (-1 : Int32)) dX7_parts_38 (by decide) ?_
        obtain rfl := Option.some.inj h
        exact e_iret dX7_parts_39 rfl rfl ⟨rfl, rfl, rfl⟩
      · rw [if_pos (bI_p c7)] at h
        refine e_iload dX7_parts_30 rfl ?_
        refine c_SZ (M' := mX7_areTicks) [.int a6] dX7_parts_32 rfl wmX7_177 stX7_areTicks lkX7_areTicks (Nat.le_of_ble_eq_true rfl) ((x_X7_areTicks ).mono (by omega)) ?_
        refine e_if_ne (tgt := 40) dX7_parts_35 (by decide) (fun c6 => ?_) (fun c6 => ?_)
        · rw [if_pos (bI_p c6)] at h
          refine e_aload_n dX7_parts_40 rfl ?_
          refine e_iload_n dX7_parts_41 rfl ?_
          refine e_iload_n dX7_parts_42 rfl ?_
          refine e_iload_n dX7_parts_43 rfl ?_
          refine e_lload dX7_parts_44 rfl ?_
          refine e_iload dX7_parts_46 rfl ?_
          obtain ⟨p5, ep5, h⟩ := Option.bind_eq_some_iff.mp h
          refine c_VI (M' := mX7_partsBy) [.int a1, .int a2, .int a3, .long a4, .int a6] dX7_parts_48 rfl wmX7_281 imX7_partsBy seX7_partsBy lkX7_partsBy k0_0 rc7 (Nat.le_of_ble_eq_true rfl) ((x_X7_partsBy  ep5).mono (by omega)) ?_
          obtain rfl := Option.some.inj h
          exact e_iret dX7_parts_51 rfl rfl ⟨rfl, rfl, rfl⟩
        · rw [if_neg (bI_n c6)] at h
          refine e_iconst (x := (-1 : Int32)) dX7_parts_38 (by decide) ?_
          obtain rfl := Option.some.inj h
          exact e_iret dX7_parts_39 rfl rfl ⟨rfl, rfl, rfl⟩
def f_X7_print (v : rV) (a1 : Int32) : Option (Int32 × rV) := if (f_X7_isStain v a1) = true then
  (if ¬ a1 < 0 ∧ a1.toNatClampNeg < 6 then
  ((f_X5_writeLying v 60 (53 + a1.toNatClampNeg)).bind fun p3 =>
  (f_X5_lyingAll p3 60).bind fun p4 =>
  some (p4, p3))
else none)
else
  (some ((-1 : Int32), v))
set_option maxRecDepth 20000 in
theorem x_X7_print {X : Nat × (Nat → Int32)} {v : rV} {r : Int32 × rV} {a1 : Int32}  (h : f_X7_print v a1 = some r) : EvM mX7_print 3 0 0 [.ref 0, .int a1] (rZ X) v (rPI X r) := by
  refine evm_of (by decide +kernel) (fun G => Nat.le_of_ble_eq_true rfl) ?_
  show Ev mX7_print 3 0 0 0 [(0, .ref 0), (1, .int a1)] [] (rZ X) v _
  unfold f_X7_print at h
  refine e_aload_n dX7_print_0 rfl ?_
  refine e_iload_n dX7_print_1 rfl ?_
  refine c_VZ (M' := mX7_isStain) [.int a1] dX7_print_2 rfl wmX7_306 imX7_isStain seX7_isStain lkX7_isStain k0_0 rc7 (Nat.le_of_ble_eq_true rfl) ((x_X7_isStain ).mono (by omega)) ?_
  refine e_if_ne (tgt := 10) dX7_print_5 (by decide) (fun c5 => ?_) (fun c5 => ?_)
  · rw [if_pos (bI_p c5)] at h
    refine e_aload_n dX7_print_10 rfl ?_
    refine e_get (w := .ref 60) (j := 10) dX7_print_11 k0_0 rc7 (by decide) wfX7_63 (g0_0_10) ?_
    refine e_aload_n dX7_print_14 rfl ?_
    refine e_get (w := .ref 52) (j := 8) dX7_print_15 k0_0 rc7 (by decide) wfX7_54 (g0_0_8) ?_
    refine e_iload_n dX7_print_18 rfl ?_
    obtain ⟨c2, h⟩ := grd h
    refine e_aaldJ dX7_print_19 k0_52 rfl rfl c2.2 c2.1 (r0_52 (c2).2) ?_
    obtain ⟨p3, ep3, h⟩ := Option.bind_eq_some_iff.mp h
    refine c_VV (M' := mX5_writeLying) [.ref (53 + a1.toNatClampNeg)] dX7_print_20 rfl wmX7_284 imX5_writeLying seX5_writeLying lkX5_writeLying k0_60 rc5 (Nat.le_of_ble_eq_true rfl) ((x_X5_writeLying (by decide) (q0_52 (X := X) (c2).2) ep3).mono (by omega)) ?_
    refine e_aload_n dX7_print_23 rfl ?_
    refine e_get (w := .ref 60) (j := 10) dX7_print_24 k0_0 rc7 (by decide) wfX7_63 (g0_0_10) ?_
    obtain ⟨p4, ep4, h⟩ := Option.bind_eq_some_iff.mp h
    refine c_VI (M' := mX5_lyingAll) [] dX7_print_27 rfl wmX7_230 imX5_lyingAll seX5_lyingAll lkX5_lyingAll k0_60 rc5 (Nat.le_of_ble_eq_true rfl) ((x_X5_lyingAll (by decide) ep4).mono (by omega)) ?_
    obtain rfl := Option.some.inj h
    exact e_iret dX7_print_30 rfl rfl ⟨rfl, rfl, rfl⟩
  · rw [if_neg (bI_n c5)] at h
    refine e_iconst (x := (-1 : Int32)) dX7_print_8 (by decide) ?_
    obtain rfl := Option.some.inj h
    exact e_iret dX7_print_9 rfl rfl ⟨rfl, rfl, rfl⟩
def f_X7_printed (v : rV) (a1 : Int32) (a2 : Int32) (a3 : Int32) (a4 : Int64) (a6 : Int32) (a7 : Int32) : Option (Int32 × rV) := if (f_X4_has v 9 a1) = true then
  (if (f_X7_isDrop v a2) = true then
  (if (f_X7_areTicks a6) = true then
  (if a7 < 0 then
  (some ((-1 : Int32), v))
else
  (if a7 ≤ (1 : Int32) then
  (if a3 < 0 then
  (some ((-1 : Int32), v))
else
  (if a3 ≤ (9 : Int32) then
  ((f_X7_layPrint v a1 a2 a3 a4).bind fun p4 =>
  if a7 = (1 : Int32) then
  (some (p4.1, p4.2))
else
  ((f_X7_evenInTheEnd p4.2 a6).bind fun p5 =>
  some (p5.1, p5.2)))
else
  (some ((-1 : Int32), v))))
else
  (some ((-1 : Int32), v))))
else
  (some ((-1 : Int32), v)))
else
  (some ((-1 : Int32), v)))
else
  (some ((-1 : Int32), v))
set_option maxRecDepth 20000 in
theorem x_X7_printed {X : Nat × (Nat → Int32)} {v : rV} {r : Int32 × rV} {a1 : Int32} {a2 : Int32} {a3 : Int32} {a4 : Int64} {a6 : Int32} {a7 : Int32}  (h : f_X7_printed v a1 a2 a3 a4 a6 a7 = some r) : EvM mX7_printed 7 0 0 [.ref 0, .int a1, .int a2, .int a3, .long a4, .int a6, .int a7] (rZ X) v (rPI X r) := by
  refine evm_of (by decide +kernel) (fun G => Nat.le_of_ble_eq_true rfl) ?_
  show Ev mX7_printed 7 0 0 0 [(0, .ref 0), (1, .int a1), (2, .int a2), (3, .int a3), (4, .long a4), (6, .int a6), (7, .int a7)] [] (rZ X) v _
  unfold f_X7_printed at h
  refine e_aload_n dX7_printed_0 rfl ?_
  refine e_get (w := .ref 9) (j := 3) dX7_printed_1 k0_0 rc7 (by decide) wfX7_35 (g0_0_3) ?_
  refine e_iload_n dX7_printed_4 rfl ?_
  refine c_VZ (M' := mX4_has) [.int a1] dX7_printed_5 rfl wmX7_148 imX4_has seX4_has lkX4_has k0_9 rc4 (Nat.le_of_ble_eq_true rfl) ((x_X4_has (by decide)).mono (by omega)) ?_
  refine e_if_eq (tgt := 38) dX7_printed_8 (by decide) (fun c13 => ?_) (fun c13 => ?_)
  · rw [if_neg (bI_n c13)] at h
    refine e_iconst (x := (-1 : Int32)) dX7_printed_38 (by decide) ?_
    obtain rfl := Option.some.inj h
    exact e_iret dX7_printed_39 rfl rfl ⟨rfl, rfl, rfl⟩
  · rw [if_pos (bI_p c13)] at h
    refine e_aload_n dX7_printed_11 rfl ?_
    refine e_iload_n dX7_printed_12 rfl ?_
    refine c_VZ (M' := mX7_isDrop) [.int a2] dX7_printed_13 rfl wmX7_124 imX7_isDrop seX7_isDrop lkX7_isDrop k0_0 rc7 (Nat.le_of_ble_eq_true rfl) ((x_X7_isDrop ).mono (by omega)) ?_
    refine e_if_eq (tgt := 38) dX7_printed_16 (by decide) (fun c12 => ?_) (fun c12 => ?_)
    · rw [if_neg (bI_n c12)] at h
      refine e_iconst (x := (-1 : Int32)) dX7_printed_38 (by decide) ?_
      obtain rfl := Option.some.inj h
      exact e_iret dX7_printed_39 rfl rfl ⟨rfl, rfl, rfl⟩
    · rw [if_pos (bI_p c12)] at h
      refine e_iload dX7_printed_19 rfl ?_
      refine c_SZ (M' := mX7_areTicks) [.int a6] dX7_printed_21 rfl wmX7_177 stX7_areTicks lkX7_areTicks (Nat.le_of_ble_eq_true rfl) ((x_X7_areTicks ).mono (by omega)) ?_
      refine e_if_eq (tgt := 38) dX7_printed_24 (by decide) (fun c11 => ?_) (fun c11 => ?_)
      · rw [if_neg (bI_n c11)] at h
        refine e_iconst (x := (-1 : Int32)) dX7_printed_38 (by decide) ?_
        obtain rfl := Option.some.inj h
        exact e_iret dX7_printed_39 rfl rfl ⟨rfl, rfl, rfl⟩
      · rw [if_pos (bI_p c11)] at h
        refine e_iload dX7_printed_27 rfl ?_
        refine e_if_lt (tgt := 38) dX7_printed_29 (by decide) (fun c10 => ?_) (fun c10 => ?_)
        · rw [if_pos c10] at h
          refine e_iconst (x := (-1 : Int32)) dX7_printed_38 (by decide) ?_
          obtain rfl := Option.some.inj h
          exact e_iret dX7_printed_39 rfl rfl ⟨rfl, rfl, rfl⟩
        · rw [if_neg c10] at h
          refine e_iload dX7_printed_32 rfl ?_
          refine e_iconst (x := (1 : Int32)) dX7_printed_34 (by decide) ?_
          refine e_icmp_le (tgt := 40) dX7_printed_35 (by decide) (fun c9 => ?_) (fun c9 => ?_)
          · rw [if_pos c9] at h
            refine e_iload_n dX7_printed_40 rfl ?_
            refine e_if_lt (tgt := 50) dX7_printed_41 (by decide) (fun c8 => ?_) (fun c8 => ?_)
            · rw [if_pos c8] at h
              refine e_iconst (x := (-1 : Int32)) dX7_printed_50 (by decide) ?_
              obtain rfl := Option.some.inj h
              exact e_iret dX7_printed_51 rfl rfl ⟨rfl, rfl, rfl⟩
            · rw [if_neg c8] at h
              refine e_iload_n dX7_printed_44 rfl ?_
              refine e_bipush (x := (9 : Int32)) dX7_printed_45 (by decide) ?_
              refine e_icmp_le (tgt := 52) dX7_printed_47 (by decide) (fun c7 => ?_) (fun c7 => ?_)
              · rw [if_pos c7] at h
                refine e_aload_n dX7_printed_52 rfl ?_
                refine e_iload_n dX7_printed_53 rfl ?_
                refine e_iload_n dX7_printed_54 rfl ?_
                refine e_iload_n dX7_printed_55 rfl ?_
                refine e_lload dX7_printed_56 rfl ?_
                obtain ⟨p4, ep4, h⟩ := Option.bind_eq_some_iff.mp h
                refine c_VI (M' := mX7_layPrint) [.int a1, .int a2, .int a3, .long a4] dX7_printed_58 rfl wmX7_296 imX7_layPrint seX7_layPrint lkX7_layPrint k0_0 rc7 (Nat.le_of_ble_eq_true rfl) ((x_X7_layPrint  ep4).mono (by omega)) ?_
                refine e_istore (lv' := [(8, .int p4.1), (0, .ref 0), (1, .int a1), (2, .int a2), (3, .int a3), (4, .long a4), (6, .int a6), (7, .int a7)]) dX7_printed_61 (by decide) rfl ?_
                refine e_iload dX7_printed_63 rfl ?_
                refine e_iconst (x := (1 : Int32)) dX7_printed_65 (by decide) ?_
                refine e_icmp_ne (tgt := 74) dX7_printed_66 (by decide) (fun c6 => ?_) (fun c6 => ?_)
                · rw [if_neg c6] at h
                  refine e_aload_n dX7_printed_74 rfl ?_
                  refine e_iload dX7_printed_75 rfl ?_
                  obtain ⟨p5, ep5, h⟩ := Option.bind_eq_some_iff.mp h
                  refine c_VI (M' := mX7_evenInTheEnd) [.int a6] dX7_printed_77 rfl wmX7_300 imX7_evenInTheEnd seX7_evenInTheEnd lkX7_evenInTheEnd k0_0 rc7 (Nat.le_of_ble_eq_true rfl) ((x_X7_evenInTheEnd  ep5).mono (by omega)) ?_
                  obtain rfl := Option.some.inj h
                  exact e_iret dX7_printed_80 rfl rfl ⟨rfl, rfl, rfl⟩
                · rw [if_pos c6] at h
                  refine e_iload dX7_printed_69 rfl ?_
                  refine e_goto (tgt := 80) dX7_printed_71 (by decide) ?_
                  obtain rfl := Option.some.inj h
                  exact e_iret dX7_printed_80 rfl rfl ⟨rfl, rfl, rfl⟩
              · rw [if_neg c7] at h
                refine e_iconst (x := (-1 : Int32)) dX7_printed_50 (by decide) ?_
                obtain rfl := Option.some.inj h
                exact e_iret dX7_printed_51 rfl rfl ⟨rfl, rfl, rfl⟩
          · rw [if_neg c9] at h
            refine e_iconst (x := (-1 : Int32)) dX7_printed_38 (by decide) ?_
            obtain rfl := Option.some.inj h
            exact e_iret dX7_printed_39 rfl rfl ⟨rfl, rfl, rfl⟩
def f_X7_saved_103  (q42 : rV → Int32 → Int32 → Int32 → Int64 → Int32 → Int32 → Int32 → Option (Int32 × rV)) (v : rV) (a1 : Int32) (a2 : Int32) (a3 : Int32) (a4 : Int64) (a6 : Int32) (a7 : Int32) (a8 : Int32) : Option (Int32 × rV) := vlet (a8 + (1 : Int32)) fun x5 =>
  q42 v a1 a2 a3 a4 a6 a7 x5
def f_X7_saved_95  (q42 : rV → Int32 → Int32 → Int32 → Int64 → Int32 → Int32 → Int32 → Option (Int32 × rV)) (v : rV) (a1 : Int32) (a2 : Int32) (a3 : Int32) (a4 : Int64) (a8 : Int32) (a9 : Int32) : Option (Int32 × rV) := f_X7_saved_103 q42 v a1 a2 a3 a4 a8 a9 a8
def f_X7_saved_42   : Nat → rV → Int32 → Int32 → Int32 → Int64 → Int32 → Int32 → Int32 → Option (Int32 × rV)
  | 0, _, _, _, _, _, _, _, _ => none
  | n + 1, v, a1, a2, a3, a4, a6, a7, a8 => if (v.1 0 13) ≤ a8 then
  (some (a6, v))
else
  (if (f_X7_has a3 a8) = true then
  ((f_X7_nearestTick v a1 a2 a8 a4).bind fun p6 =>
  (f_X7_offBehind p6.2 a1 a2 a8 a4 p6.1).bind fun p7 =>
  if a6 = (-1 : Int32) then
  (f_X7_saved_95 (fun v a1 a2 a3 a4 a6 a7 a8 => f_X7_saved_42  n v a1 a2 a3 a4 a6 a7 a8) p7.2 a1 a2 a3 a4 a8 p7.1)
else
  (if a7 ≤ p7.1 then
  (f_X7_saved_103 (fun v a1 a2 a3 a4 a6 a7 a8 => f_X7_saved_42  n v a1 a2 a3 a4 a6 a7 a8) p7.2 a1 a2 a3 a4 a6 a7 a8)
else
  (f_X7_saved_95 (fun v a1 a2 a3 a4 a6 a7 a8 => f_X7_saved_42  n v a1 a2 a3 a4 a6 a7 a8) p7.2 a1 a2 a3 a4 a8 p7.1)))
else
  (f_X7_saved_103 (fun v a1 a2 a3 a4 a6 a7 a8 => f_X7_saved_42  n v a1 a2 a3 a4 a6 a7 a8) v a1 a2 a3 a4 a6 a7 a8))
def f_X7_saved (v : rV) (a1 : Int32) (a2 : Int32) (a3 : Int32) (a4 : Int64) : Option (Int32 × rV) := if (f_X7_isStain v a1) = true then
  (if (f_X4_has v 9 a2) = true then
  (if a3 = 0 then
  (some ((-1 : Int32), v))
else
  (if (f_X7_areDrops v a3) = true then
  (f_X7_saved_42  20000 v a1 a2 a3 a4 (-1 : Int32) (0 : Int32) (0 : Int32))
else
  (some ((-1 : Int32), v))))
else
  (some ((-1 : Int32), v)))
else
  (some ((-1 : Int32), v))
set_option maxRecDepth 20000 in
theorem b_X7_saved_103 {X : Nat × (Nat → Int32)} {r : Int32 × rV} {v : rV} {q42 : rV → Int32 → Int32 → Int32 → Int64 → Int32 → Int32 → Int32 → Option (Int32 × rV)} (hq42 : ∀ (v : rV) (a1 : Int32) (a2 : Int32) (a3 : Int32) (a4 : Int64) (a6 : Int32) (a7 : Int32) (a8 : Int32) , q42 v a1 a2 a3 a4 a6 a7 a8 = some r → Ev mX7_saved 8 0 0 42 [(0, .ref 0), (1, .int a1), (2, .int a2), (3, .int a3), (4, .long a4), (6, .int a6), (7, .int a7), (8, .int a8)] [] (rZ X) v (rPI X r)) {a1 : Int32} {a2 : Int32} {a3 : Int32} {a4 : Int64} {a6 : Int32} {a7 : Int32} {a8 : Int32}  (h : f_X7_saved_103 q42 v a1 a2 a3 a4 a6 a7 a8 = some r) : Ev mX7_saved 8 0 0 103 [(0, .ref 0), (1, .int a1), (2, .int a2), (3, .int a3), (4, .long a4), (6, .int a6), (7, .int a7), (8, .int a8)] [] (rZ X) v (rPI X r) := by
  unfold f_X7_saved_103 at h
  obtain ⟨x5, ex5, h⟩ := vlet_ex h
  refine e_iinc (lv' := [(8, .int x5), (0, .ref 0), (1, .int a1), (2, .int a2), (3, .int a3), (4, .long a4), (6, .int a6), (7, .int a7)]) dX7_saved_103 rfl (ex5.symm) (by decide) rfl ?_
  clear ex5
  refine e_goto (tgt := 42) dX7_saved_106 (by decide) ?_
  refine e_sub [1, 2, 3, 4, 5, 6, 7, 0] rfl ?_
  exact hq42 v a1 a2 a3 a4 a6 a7 x5 h
set_option maxRecDepth 20000 in
theorem b_X7_saved_95 {X : Nat × (Nat → Int32)} {r : Int32 × rV} {v : rV} {q42 : rV → Int32 → Int32 → Int32 → Int64 → Int32 → Int32 → Int32 → Option (Int32 × rV)} (hq42 : ∀ (v : rV) (a1 : Int32) (a2 : Int32) (a3 : Int32) (a4 : Int64) (a6 : Int32) (a7 : Int32) (a8 : Int32) , q42 v a1 a2 a3 a4 a6 a7 a8 = some r → Ev mX7_saved 8 0 0 42 [(0, .ref 0), (1, .int a1), (2, .int a2), (3, .int a3), (4, .long a4), (6, .int a6), (7, .int a7), (8, .int a8)] [] (rZ X) v (rPI X r)) {a1 : Int32} {a2 : Int32} {a3 : Int32} {a4 : Int64} {a8 : Int32} {a9 : Int32}  (h : f_X7_saved_95 q42 v a1 a2 a3 a4 a8 a9 = some r) : Ev mX7_saved 8 0 0 95 [(0, .ref 0), (1, .int a1), (2, .int a2), (3, .int a3), (4, .long a4), (8, .int a8), (9, .int a9)] [] (rZ X) v (rPI X r) := by
  unfold f_X7_saved_95 at h
  refine e_iload dX7_saved_95 rfl ?_
  refine e_istore (lv' := [(6, .int a8), (0, .ref 0), (1, .int a1), (2, .int a2), (3, .int a3), (4, .long a4), (8, .int a8), (9, .int a9)]) dX7_saved_97 (by decide) rfl ?_
  refine e_iload dX7_saved_99 rfl ?_
  refine e_istore (lv' := [(7, .int a9), (6, .int a8), (0, .ref 0), (1, .int a1), (2, .int a2), (3, .int a3), (4, .long a4), (8, .int a8), (9, .int a9)]) dX7_saved_101 (by decide) rfl ?_
  refine e_sub [2, 3, 4, 5, 6, 1, 0, 7] rfl ?_
  exact b_X7_saved_103 hq42 h
set_option maxRecDepth 20000 in
theorem b_X7_saved_42 {X : Nat × (Nat → Int32)} {r : Int32 × rV}   : ∀ (n : Nat) (v : rV) (a1 : Int32) (a2 : Int32) (a3 : Int32) (a4 : Int64) (a6 : Int32) (a7 : Int32) (a8 : Int32) , f_X7_saved_42   n v a1 a2 a3 a4 a6 a7 a8 = some r → Ev mX7_saved 8 0 0 42 [(0, .ref 0), (1, .int a1), (2, .int a2), (3, .int a3), (4, .long a4), (6, .int a6), (7, .int a7), (8, .int a8)] [] (rZ X) v (rPI X r) := by
  intro n
  induction n with
  | zero =>
    intros
    rename_i h
    cases h
  | succ n ih =>
    intro v a1 a2 a3 a4 a6 a7 a8 h
    rw [f_X7_saved_42] at h
    refine e_iload dX7_saved_42 rfl ?_
    refine e_aload_n dX7_saved_44 rfl ?_
    refine e_get (w := .int (v.1 0 13)) (j := 13) dX7_saved_45 k0_0 rc7 (by decide) wfX7_112 rfl ?_
    refine e_icmp_ge (tgt := 109) dX7_saved_48 (by decide) (fun c11 => ?_) (fun c11 => ?_)
    · rw [if_pos c11] at h
      refine e_iload dX7_saved_109 rfl ?_
      obtain rfl := Option.some.inj h
      exact e_iret dX7_saved_111 rfl rfl ⟨rfl, rfl, rfl⟩
    · rw [if_neg c11] at h
      refine e_iload_n dX7_saved_51 rfl ?_
      refine e_iload dX7_saved_52 rfl ?_
      refine c_SZ (M' := mX7_has) [.int a3, .int a8] dX7_saved_54 rfl wmX7_157 stX7_has lkX7_has (Nat.le_of_ble_eq_true rfl) ((x_X7_has ).mono (by omega)) ?_
      refine e_if_eq (tgt := 103) dX7_saved_57 (by decide) (fun c10 => ?_) (fun c10 => ?_)
      · rw [if_neg (bI_n c10)] at h
        exact b_X7_saved_103 (fun v a1 a2 a3 a4 a6 a7 a8  hh => ih v a1 a2 a3 a4 a6 a7 a8  hh) h
      · rw [if_pos (bI_p c10)] at h
        refine e_aload_n dX7_saved_60 rfl ?_
        refine e_iload_n dX7_saved_61 rfl ?_
        refine e_iload_n dX7_saved_62 rfl ?_
        refine e_iload dX7_saved_63 rfl ?_
        refine e_lload dX7_saved_65 rfl ?_
        refine e_aload_n dX7_saved_67 rfl ?_
        refine e_iload_n dX7_saved_68 rfl ?_
        refine e_iload_n dX7_saved_69 rfl ?_
        refine e_iload dX7_saved_70 rfl ?_
        refine e_lload dX7_saved_72 rfl ?_
        obtain ⟨p6, ep6, h⟩ := Option.bind_eq_some_iff.mp h
        refine c_VI (M' := mX7_nearestTick) [.int a1, .int a2, .int a8, .long a4] dX7_saved_74 rfl wmX7_318 imX7_nearestTick seX7_nearestTick lkX7_nearestTick k0_0 rc7 (Nat.le_of_ble_eq_true rfl) ((x_X7_nearestTick  ep6).mono (by omega)) ?_
        obtain ⟨p7, ep7, h⟩ := Option.bind_eq_some_iff.mp h
        refine c_VI (M' := mX7_offBehind) [.int a1, .int a2, .int a8, .long a4, .int p6.1] dX7_saved_77 rfl wmX7_321 imX7_offBehind seX7_offBehind lkX7_offBehind k0_0 rc7 (Nat.le_of_ble_eq_true rfl) ((x_X7_offBehind  ep7).mono (by omega)) ?_
        refine e_istore (lv' := [(9, .int p7.1), (0, .ref 0), (1, .int a1), (2, .int a2), (3, .int a3), (4, .long a4), (6, .int a6), (7, .int a7), (8, .int a8)]) dX7_saved_80 (by decide) rfl ?_
        refine e_iload dX7_saved_82 rfl ?_
        refine e_iconst (x := (-1 : Int32)) dX7_saved_84 (by decide) ?_
        refine e_icmp_eq (tgt := 95) dX7_saved_85 (by decide) (fun c9 => ?_) (fun c9 => ?_)
        · rw [if_pos c9] at h
          refine e_sub [1, 2, 3, 4, 5, 8, 0] rfl ?_
          exact b_X7_saved_95 (fun v a1 a2 a3 a4 a6 a7 a8  hh => ih v a1 a2 a3 a4 a6 a7 a8  hh) h
        · rw [if_neg c9] at h
          refine e_iload dX7_saved_88 rfl ?_
          refine e_iload dX7_saved_90 rfl ?_
          refine e_icmp_ge (tgt := 103) dX7_saved_92 (by decide) (fun c8 => ?_) (fun c8 => ?_)
          · rw [if_pos c8] at h
            refine e_sub [1, 2, 3, 4, 5, 6, 7, 8] rfl ?_
            exact b_X7_saved_103 (fun v a1 a2 a3 a4 a6 a7 a8  hh => ih v a1 a2 a3 a4 a6 a7 a8  hh) h
          · rw [if_neg c8] at h
            refine e_sub [1, 2, 3, 4, 5, 8, 0] rfl ?_
            exact b_X7_saved_95 (fun v a1 a2 a3 a4 a6 a7 a8  hh => ih v a1 a2 a3 a4 a6 a7 a8  hh) h
set_option maxRecDepth 20000 in
theorem x_X7_saved {X : Nat × (Nat → Int32)} {v : rV} {r : Int32 × rV} {a1 : Int32} {a2 : Int32} {a3 : Int32} {a4 : Int64}  (h : f_X7_saved v a1 a2 a3 a4 = some r) : EvM mX7_saved 8 0 0 [.ref 0, .int a1, .int a2, .int a3, .long a4] (rZ X) v (rPI X r) := by
  refine evm_of (by decide +kernel) (fun G => Nat.le_of_ble_eq_true rfl) ?_
  show Ev mX7_saved 8 0 0 0 [(0, .ref 0), (1, .int a1), (2, .int a2), (3, .int a3), (4, .long a4)] [] (rZ X) v _
  unfold f_X7_saved at h
  refine e_aload_n dX7_saved_0 rfl ?_
  refine e_iload_n dX7_saved_1 rfl ?_
  refine c_VZ (M' := mX7_isStain) [.int a1] dX7_saved_2 rfl wmX7_306 imX7_isStain seX7_isStain lkX7_isStain k0_0 rc7 (Nat.le_of_ble_eq_true rfl) ((x_X7_isStain ).mono (by omega)) ?_
  refine e_if_eq (tgt := 31) dX7_saved_5 (by decide) (fun c15 => ?_) (fun c15 => ?_)
  · rw [if_neg (bI_n c15)] at h
    refine e_iconst (x := (-1 : Int32)) dX7_saved_31 (by decide) ?_
    obtain rfl := Option.some.inj h
    exact e_iret dX7_saved_32 rfl rfl ⟨rfl, rfl, rfl⟩
  · rw [if_pos (bI_p c15)] at h
    refine e_aload_n dX7_saved_8 rfl ?_
    refine e_get (w := .ref 9) (j := 3) dX7_saved_9 k0_0 rc7 (by decide) wfX7_35 (g0_0_3) ?_
    refine e_iload_n dX7_saved_12 rfl ?_
    refine c_VZ (M' := mX4_has) [.int a2] dX7_saved_13 rfl wmX7_148 imX4_has seX4_has lkX4_has k0_9 rc4 (Nat.le_of_ble_eq_true rfl) ((x_X4_has (by decide)).mono (by omega)) ?_
    refine e_if_eq (tgt := 31) dX7_saved_16 (by decide) (fun c14 => ?_) (fun c14 => ?_)
    · rw [if_neg (bI_n c14)] at h
      refine e_iconst (x := (-1 : Int32)) dX7_saved_31 (by decide) ?_
      obtain rfl := Option.some.inj h
      exact e_iret dX7_saved_32 rfl rfl ⟨rfl, rfl, rfl⟩
    · rw [if_pos (bI_p c14)] at h
      refine e_iload_n dX7_saved_19 rfl ?_
      refine e_if_eq (tgt := 31) dX7_saved_20 (by decide) (fun c13 => ?_) (fun c13 => ?_)
      · rw [if_pos c13] at h
        refine e_iconst (x := (-1 : Int32)) dX7_saved_31 (by decide) ?_
        obtain rfl := Option.some.inj h
        exact e_iret dX7_saved_32 rfl rfl ⟨rfl, rfl, rfl⟩
      · rw [if_neg c13] at h
        refine e_aload_n dX7_saved_23 rfl ?_
        refine e_iload_n dX7_saved_24 rfl ?_
        refine c_VZ (M' := mX7_areDrops) [.int a3] dX7_saved_25 rfl wmX7_151 imX7_areDrops seX7_areDrops lkX7_areDrops k0_0 rc7 (Nat.le_of_ble_eq_true rfl) ((x_X7_areDrops ).mono (by omega)) ?_
        refine e_if_ne (tgt := 33) dX7_saved_28 (by decide) (fun c12 => ?_) (fun c12 => ?_)
        · rw [if_pos (bI_p c12)] at h
          refine e_iconst (x := (-1 : Int32)) dX7_saved_33 (by decide) ?_
          refine e_istore (lv' := [(6, .int (-1 : Int32)), (0, .ref 0), (1, .int a1), (2, .int a2), (3, .int a3), (4, .long a4)]) dX7_saved_34 (by decide) rfl ?_
          refine e_iconst (x := (0 : Int32)) dX7_saved_36 (by decide) ?_
          refine e_istore (lv' := [(7, .int (0 : Int32)), (6, .int (-1 : Int32)), (0, .ref 0), (1, .int a1), (2, .int a2), (3, .int a3), (4, .long a4)]) dX7_saved_37 (by decide) rfl ?_
          refine e_iconst (x := (0 : Int32)) dX7_saved_39 (by decide) ?_
          refine e_istore (lv' := [(8, .int (0 : Int32)), (7, .int (0 : Int32)), (6, .int (-1 : Int32)), (0, .ref 0), (1, .int a1), (2, .int a2), (3, .int a3), (4, .long a4)]) dX7_saved_40 (by decide) rfl ?_
          refine e_sub [3, 4, 5, 6, 7, 2, 1, 0] rfl ?_
          exact b_X7_saved_42  _ v a1 a2 a3 a4 (-1 : Int32) (0 : Int32) (0 : Int32) h
        · rw [if_neg (bI_n c12)] at h
          refine e_iconst (x := (-1 : Int32)) dX7_saved_31 (by decide) ?_
          obtain rfl := Option.some.inj h
          exact e_iret dX7_saved_32 rfl rfl ⟨rfl, rfl, rfl⟩
def f_X7_stain (v : rV)  : Option (Int32 × rV) := if (v.1 0 14) < (6 : Int32) then
  (vlet (rI v 0 14 ((v.1 0 14) + (1 : Int32))) fun v1 =>
  some ((v1.1 0 14) - (1 : Int32), v1))
else
  (some ((-1 : Int32), v))
set_option maxRecDepth 20000 in
theorem x_X7_stain {X : Nat × (Nat → Int32)} {v : rV} {r : Int32 × rV}   (h : f_X7_stain v = some r) : EvM mX7_stain 1 0 0 [.ref 0] (rZ X) v (rPI X r) := by
  refine evm_of (by decide +kernel) (fun G => Nat.le_of_ble_eq_true rfl) ?_
  show Ev mX7_stain 1 0 0 0 [(0, .ref 0)] [] (rZ X) v _
  unfold f_X7_stain at h
  refine e_aload_n dX7_stain_0 rfl ?_
  refine e_get (w := .int (v.1 0 14)) (j := 14) dX7_stain_1 k0_0 rc7 (by decide) wfX7_134 rfl ?_
  refine e_bipush (x := (6 : Int32)) dX7_stain_4 (by decide) ?_
  refine e_icmp_lt (tgt := 11) dX7_stain_6 (by decide) (fun c2 => ?_) (fun c2 => ?_)
  · rw [if_pos c2] at h
    refine e_aload_n dX7_stain_11 rfl ?_
    refine e_dup dX7_stain_12 rfl ?_
    refine e_get (w := .int (v.1 0 14)) (j := 14) dX7_stain_13 k0_0 rc7 (by decide) wfX7_134 rfl ?_
    refine e_iconst (x := (1 : Int32)) dX7_stain_16 (by decide) ?_
    refine e_iadd dX7_stain_17 ?_
    refine e_putI (j := 14) dX7_stain_18 k0_0 rc7 (by decide) wfX7_134 rfl rfl ?_
    obtain ⟨v1, ev1, h⟩ := vlet_ex h
    refine e_nameV ev1.symm ?_
    clear ev1
    refine e_aload_n dX7_stain_21 rfl ?_
    refine e_get (w := .int (v1.1 0 14)) (j := 14) dX7_stain_22 k0_0 rc7 (by decide) wfX7_134 rfl ?_
    refine e_iconst (x := (1 : Int32)) dX7_stain_25 (by decide) ?_
    refine e_isub dX7_stain_26 ?_
    obtain rfl := Option.some.inj h
    exact e_iret dX7_stain_27 rfl rfl ⟨rfl, rfl, rfl⟩
  · rw [if_neg c2] at h
    refine e_iconst (x := (-1 : Int32)) dX7_stain_9 (by decide) ?_
    obtain rfl := Option.some.inj h
    exact e_iret dX7_stain_10 rfl rfl ⟨rfl, rfl, rfl⟩
def f_X7_startOn_74  (q17 : rV → Nat → Int32 → Int32 → Option (rV)) (q27 : rV → Nat → Int32 → Int32 → Int32 → Option (rV)) (v : rV) (k1 : Nat) (a3 : Int32) (a6 : Int32) (a7 : Int32) : Option (rV) := vlet (a7 + (1 : Int32)) fun x6 =>
  q27 v k1 a3 a6 x6
def f_X7_startOn_27  (q17 : rV → Nat → Int32 → Int32 → Option (rV)) : Nat → rV → Nat → Int32 → Int32 → Int32 → Option (rV)
  | 0, _, _, _, _, _ => none
  | n + 1, v, k1, a3, a6, a7 => if (v.1 0 13) ≤ a7 then
  (vlet (a6 + (1 : Int32)) fun x4 =>
  q17 v k1 a3 x4)
else
  (if (f_X7_has a3 a7) = true then
  (if ¬ a7 < 0 ∧ a7.toNatClampNeg < 12 then
  (if (v.1 (38 + a7.toNatClampNeg) 0) = a6 then
  ((f_X5_put v k1 (38 + a7.toNatClampNeg) a7 a6).bind fun p8 =>
  f_X7_startOn_74 q17 (fun v k1 a3 a6 a7 => f_X7_startOn_27 q17 n v k1 a3 a6 a7) p8 k1 a3 a6 a7)
else
  (f_X7_startOn_74 q17 (fun v k1 a3 a6 a7 => f_X7_startOn_27 q17 n v k1 a3 a6 a7) v k1 a3 a6 a7))
else none)
else
  (f_X7_startOn_74 q17 (fun v k1 a3 a6 a7 => f_X7_startOn_27 q17 n v k1 a3 a6 a7) v k1 a3 a6 a7))
def f_X7_startOn_17   : Nat → rV → Nat → Int32 → Int32 → Option (rV)
  | 0, _, _, _, _ => none
  | n + 1, v, k1, a3, a6 => if (24 : Int32) ≤ a6 then
  ((f_X5_begin v k1).bind fun p3 =>
  some p3)
else
  (f_X7_startOn_27 (fun v k1 a3 a6 => f_X7_startOn_17  n v k1 a3 a6) 20000 v k1 a3 a6 (0 : Int32))
def f_X7_startOn (v : rV) (k1 : Nat) (a2 : Int32) (a3 : Int32) (a4 : Int64) : Option (rV) := (f_X4_at v 9 a2).bind fun p1 =>
  if isForm p1 = true then
  ((f_X5_clear v k1 p1 a4).bind fun p2 =>
  f_X7_startOn_17  20000 p2 k1 a3 (0 : Int32)) else none
set_option maxRecDepth 20000 in
theorem b_X7_startOn_74 {X : Nat × (Nat → Int32)} {r : rV} {v : rV} {q17 : rV → Nat → Int32 → Int32 → Option (rV)} {q27 : rV → Nat → Int32 → Int32 → Int32 → Option (rV)} (hq17 : ∀ (v : rV) (k1 : Nat) (a3 : Int32) (a6 : Int32) (hk1 : isStrip k1 = true), q17 v k1 a3 a6 = some r → Ev mX7_startOn 4 0 0 17 [(0, .ref 0), (1, .ref k1), (3, .int a3), (6, .int a6)] [] (rZ X) v (rPV X r)) (hq27 : ∀ (v : rV) (k1 : Nat) (a3 : Int32) (a6 : Int32) (a7 : Int32) (hk1 : isStrip k1 = true), q27 v k1 a3 a6 a7 = some r → Ev mX7_startOn 4 0 0 27 [(0, .ref 0), (1, .ref k1), (3, .int a3), (6, .int a6), (7, .int a7)] [] (rZ X) v (rPV X r)) {k1 : Nat} {a3 : Int32} {a6 : Int32} {a7 : Int32} (hk1 : isStrip k1 = true) (h : f_X7_startOn_74 q17 q27 v k1 a3 a6 a7 = some r) : Ev mX7_startOn 4 0 0 74 [(0, .ref 0), (1, .ref k1), (3, .int a3), (6, .int a6), (7, .int a7)] [] (rZ X) v (rPV X r) := by
  unfold f_X7_startOn_74 at h
  obtain ⟨x6, ex6, h⟩ := vlet_ex h
  refine e_iinc (lv' := [(7, .int x6), (0, .ref 0), (1, .ref k1), (3, .int a3), (6, .int a6)]) dX7_startOn_74 rfl (ex6.symm) (by decide) rfl ?_
  clear ex6
  refine e_goto (tgt := 27) dX7_startOn_77 (by decide) ?_
  refine e_sub [1, 2, 3, 4, 0] rfl ?_
  exact hq27 v k1 a3 a6 x6 hk1 h
set_option maxRecDepth 20000 in
theorem b_X7_startOn_27 {X : Nat × (Nat → Int32)} {r : rV} {q17 : rV → Nat → Int32 → Int32 → Option (rV)} (hq17 : ∀ (v : rV) (k1 : Nat) (a3 : Int32) (a6 : Int32) (hk1 : isStrip k1 = true), q17 v k1 a3 a6 = some r → Ev mX7_startOn 4 0 0 17 [(0, .ref 0), (1, .ref k1), (3, .int a3), (6, .int a6)] [] (rZ X) v (rPV X r)) : ∀ (n : Nat) (v : rV) (k1 : Nat) (a3 : Int32) (a6 : Int32) (a7 : Int32) (hk1 : isStrip k1 = true), f_X7_startOn_27  q17 n v k1 a3 a6 a7 = some r → Ev mX7_startOn 4 0 0 27 [(0, .ref 0), (1, .ref k1), (3, .int a3), (6, .int a6), (7, .int a7)] [] (rZ X) v (rPV X r) := by
  intro n
  induction n with
  | zero =>
    intros
    rename_i h
    cases h
  | succ n ih =>
    intro v k1 a3 a6 a7 hk1 h
    rw [f_X7_startOn_27] at h
    refine e_iload dX7_startOn_27 rfl ?_
    refine e_aload_n dX7_startOn_29 rfl ?_
    refine e_get (w := .int (v.1 0 13)) (j := 13) dX7_startOn_30 k0_0 rc7 (by decide) wfX7_112 rfl ?_
    refine e_icmp_ge (tgt := 80) dX7_startOn_33 (by decide) (fun c11 => ?_) (fun c11 => ?_)
    · rw [if_pos c11] at h
      obtain ⟨x4, ex4, h⟩ := vlet_ex h
      refine e_iinc (lv' := [(6, .int x4), (0, .ref 0), (1, .ref k1), (3, .int a3), (7, .int a7)]) dX7_startOn_80 rfl (ex4.symm) (by decide) rfl ?_
      clear ex4
      refine e_goto (tgt := 17) dX7_startOn_83 (by decide) ?_
      refine e_sub [1, 2, 3, 0] rfl ?_
      exact hq17 v k1 a3 x4 hk1 h
    · rw [if_neg c11] at h
      refine e_iload_n dX7_startOn_36 rfl ?_
      refine e_iload dX7_startOn_37 rfl ?_
      refine c_SZ (M' := mX7_has) [.int a3, .int a7] dX7_startOn_39 rfl wmX7_157 stX7_has lkX7_has (Nat.le_of_ble_eq_true rfl) ((x_X7_has ).mono (by omega)) ?_
      refine e_if_eq (tgt := 74) dX7_startOn_42 (by decide) (fun c10 => ?_) (fun c10 => ?_)
      · rw [if_neg (bI_n c10)] at h
        exact b_X7_startOn_74 hq17 (fun v k1 a3 a6 a7 hk1 hh => ih v k1 a3 a6 a7 hk1 hh) hk1 h
      · rw [if_pos (bI_p c10)] at h
        refine e_aload_n dX7_startOn_45 rfl ?_
        refine e_get (w := .ref 37) (j := 5) dX7_startOn_46 k0_0 rc7 (by decide) wfX7_44 (g0_0_5) ?_
        refine e_iload dX7_startOn_49 rfl ?_
        obtain ⟨c7, h⟩ := grd h
        refine e_aaldJ dX7_startOn_51 k0_37 rfl rfl c7.2 c7.1 (r0_37 (c7).2) ?_
        refine e_iconst (x := (0 : Int32)) dX7_startOn_52 (by decide) ?_
        refine e_ialdJ dX7_startOn_53 (q0_37 (c7).2) (j := 0) (by decide) (by decide) (by decide) ?_
        refine e_iload dX7_startOn_54 rfl ?_
        refine e_icmp_ne (tgt := 74) dX7_startOn_56 (by decide) (fun c9 => ?_) (fun c9 => ?_)
        · rw [if_neg c9] at h
          exact b_X7_startOn_74 hq17 (fun v k1 a3 a6 a7 hk1 hh => ih v k1 a3 a6 a7 hk1 hh) hk1 h
        · rw [if_pos c9] at h
          refine e_aload_n dX7_startOn_59 rfl ?_
          refine e_aload_n dX7_startOn_60 rfl ?_
          refine e_get (w := .ref 37) (j := 5) dX7_startOn_61 k0_0 rc7 (by decide) wfX7_44 (g0_0_5) ?_
          refine e_iload dX7_startOn_64 rfl ?_
          refine e_aaldJ dX7_startOn_66 k0_37 rfl rfl (c7).2 (c7).1 (r0_37 (c7).2) ?_
          refine e_iload dX7_startOn_67 rfl ?_
          refine e_iload dX7_startOn_69 rfl ?_
          obtain ⟨p8, ep8, h⟩ := Option.bind_eq_some_iff.mp h
          refine c_VV (M' := mX5_put) [.ref (38 + a7.toNatClampNeg), .int a7, .int a6] dX7_startOn_71 rfl wmX7_167 imX5_put seX5_put lkX5_put (kStrip_0 hk1) rc5 (Nat.le_of_ble_eq_true rfl) ((x_X5_put hk1 (q0_37 (X := X) (c7).2) ep8).mono (by omega)) ?_
          exact b_X7_startOn_74 hq17 (fun v k1 a3 a6 a7 hk1 hh => ih v k1 a3 a6 a7 hk1 hh) hk1 h
set_option maxRecDepth 20000 in
theorem b_X7_startOn_17 {X : Nat × (Nat → Int32)} {r : rV}   : ∀ (n : Nat) (v : rV) (k1 : Nat) (a3 : Int32) (a6 : Int32) (hk1 : isStrip k1 = true), f_X7_startOn_17   n v k1 a3 a6 = some r → Ev mX7_startOn 4 0 0 17 [(0, .ref 0), (1, .ref k1), (3, .int a3), (6, .int a6)] [] (rZ X) v (rPV X r) := by
  intro n
  induction n with
  | zero =>
    intros
    rename_i h
    cases h
  | succ n ih =>
    intro v k1 a3 a6 hk1 h
    rw [f_X7_startOn_17] at h
    refine e_iload dX7_startOn_17 rfl ?_
    refine e_bipush (x := (24 : Int32)) dX7_startOn_19 (by decide) ?_
    refine e_icmp_ge (tgt := 86) dX7_startOn_21 (by decide) (fun c12 => ?_) (fun c12 => ?_)
    · rw [if_pos c12] at h
      refine e_aload_n dX7_startOn_86 rfl ?_
      obtain ⟨p3, ep3, h⟩ := Option.bind_eq_some_iff.mp h
      refine c_VV (M' := mX5_begin) [] dX7_startOn_87 rfl wmX7_171 imX5_begin seX5_begin lkX5_begin (kStrip_0 hk1) rc5 (Nat.le_of_ble_eq_true rfl) ((x_X5_begin hk1 ep3).mono (by omega)) ?_
      obtain rfl := Option.some.inj h
      exact e_ret dX7_startOn_90 rfl ⟨rfl, rfl, rfl⟩
    · rw [if_neg c12] at h
      refine e_iconst (x := (0 : Int32)) dX7_startOn_24 (by decide) ?_
      refine e_istore (lv' := [(7, .int (0 : Int32)), (0, .ref 0), (1, .ref k1), (3, .int a3), (6, .int a6)]) dX7_startOn_25 (by decide) rfl ?_
      refine e_sub [1, 2, 3, 4, 0] rfl ?_
      exact b_X7_startOn_27 (fun v k1 a3 a6 hk1 hh => ih v k1 a3 a6 hk1 hh) _ v k1 a3 a6 (0 : Int32) hk1 h
set_option maxRecDepth 20000 in
theorem x_X7_startOn {X : Nat × (Nat → Int32)} {v : rV} {r : rV} {k1 : Nat} {a2 : Int32} {a3 : Int32} {a4 : Int64} (hk1 : isStrip k1 = true) (h : f_X7_startOn v k1 a2 a3 a4 = some r) : EvM mX7_startOn 4 0 0 [.ref 0, .ref k1, .int a2, .int a3, .long a4] (rZ X) v (rPV X r) := by
  refine evm_of (by decide +kernel) (fun G => Nat.le_of_ble_eq_true rfl) ?_
  show Ev mX7_startOn 4 0 0 0 [(0, .ref 0), (1, .ref k1), (2, .int a2), (3, .int a3), (4, .long a4)] [] (rZ X) v _
  unfold f_X7_startOn at h
  refine e_aload_n dX7_startOn_0 rfl ?_
  refine e_aload_n dX7_startOn_1 rfl ?_
  refine e_get (w := .ref 9) (j := 3) dX7_startOn_2 k0_0 rc7 (by decide) wfX7_35 (g0_0_3) ?_
  refine e_iload_n dX7_startOn_5 rfl ?_
  obtain ⟨p1, ep1, h⟩ := Option.bind_eq_some_iff.mp h
  refine c_VA (M' := mX4_at) [.int a2] dX7_startOn_6 rfl wmX7_159 imX4_at seX4_at lkX4_at k0_9 rc4 (Nat.le_of_ble_eq_true rfl) ((x_X4_at (by decide) ep1).mono (by omega)) ?_
  obtain ⟨hfp1, h⟩ := grd h
  refine e_lload dX7_startOn_9 rfl ?_
  obtain ⟨p2, ep2, h⟩ := Option.bind_eq_some_iff.mp h
  refine c_VV (M' := mX5_clear) [.ref p1, .long a4] dX7_startOn_11 rfl wmX7_163 imX5_clear seX5_clear lkX5_clear (kStrip_0 hk1) rc5 (Nat.le_of_ble_eq_true rfl) ((x_X5_clear hk1 hfp1 ep2).mono (by omega)) ?_
  refine e_iconst (x := (0 : Int32)) dX7_startOn_14 (by decide) ?_
  refine e_istore (lv' := [(6, .int (0 : Int32)), (0, .ref 0), (1, .ref k1), (2, .int a2), (3, .int a3), (4, .long a4)]) dX7_startOn_15 (by decide) rfl ?_
  refine e_sub [1, 2, 4, 0] rfl ?_
  exact b_X7_startOn_17  _ p2 k1 a3 (0 : Int32) hk1 h
def f_X7_start (v : rV) (a1 : Int32) (a2 : Int32) (a3 : Int64) : Option (Int32 × rV) := (f_X7_canStart v a1 a2).bind fun p1 =>
  if p1 = true then
  ((f_X7_startOn v 60 a1 a2 a3).bind fun p2 =>
  some (p2.1 60 10, p2))
else
  (some ((-1 : Int32), v))
set_option maxRecDepth 20000 in
theorem x_X7_start {X : Nat × (Nat → Int32)} {v : rV} {r : Int32 × rV} {a1 : Int32} {a2 : Int32} {a3 : Int64}  (h : f_X7_start v a1 a2 a3 = some r) : EvM mX7_start 5 0 0 [.ref 0, .int a1, .int a2, .long a3] (rZ X) v (rPI X r) := by
  refine evm_of (by decide +kernel) (fun G => Nat.le_of_ble_eq_true rfl) ?_
  show Ev mX7_start 5 0 0 0 [(0, .ref 0), (1, .int a1), (2, .int a2), (3, .long a3)] [] (rZ X) v _
  unfold f_X7_start at h
  refine e_aload_n dX7_start_0 rfl ?_
  refine e_iload_n dX7_start_1 rfl ?_
  refine e_iload_n dX7_start_2 rfl ?_
  obtain ⟨p1, ep1, h⟩ := Option.bind_eq_some_iff.mp h
  refine c_VZ (M' := mX7_canStart) [.int a1, .int a2] dX7_start_3 rfl wmX7_137 imX7_canStart seX7_canStart lkX7_canStart k0_0 rc7 (Nat.le_of_ble_eq_true rfl) ((x_X7_canStart  ep1).mono (by omega)) ?_
  refine e_if_ne (tgt := 11) dX7_start_6 (by decide) (fun c3 => ?_) (fun c3 => ?_)
  · rw [if_pos (bI_p c3)] at h
    refine e_aload_n dX7_start_11 rfl ?_
    refine e_aload_n dX7_start_12 rfl ?_
    refine e_get (w := .ref 60) (j := 10) dX7_start_13 k0_0 rc7 (by decide) wfX7_63 (g0_0_10) ?_
    refine e_iload_n dX7_start_16 rfl ?_
    refine e_iload_n dX7_start_17 rfl ?_
    refine e_lload_n dX7_start_18 rfl ?_
    obtain ⟨p2, ep2, h⟩ := Option.bind_eq_some_iff.mp h
    refine c_VV (M' := mX7_startOn) [.ref 60, .int a1, .int a2, .long a3] dX7_start_19 rfl wmX7_141 imX7_startOn seX7_startOn lkX7_startOn k0_0 rc7 (Nat.le_of_ble_eq_true rfl) ((x_X7_startOn (by decide) ep2).mono (by omega)) ?_
    refine e_aload_n dX7_start_22 rfl ?_
    refine e_get (w := .ref 60) (j := 10) dX7_start_23 k0_0 rc7 (by decide) wfX7_63 (g0_0_10) ?_
    refine e_get (w := .int (p2.1 60 10)) (j := 10) dX7_start_26 k0_60 rc5 (by decide) wfX7_145 rfl ?_
    obtain rfl := Option.some.inj h
    exact e_iret dX7_start_29 rfl rfl ⟨rfl, rfl, rfl⟩
  · rw [if_neg (bI_n c3)] at h
    refine e_iconst (x := (-1 : Int32)) dX7_start_9 (by decide) ?_
    obtain rfl := Option.some.inj h
    exact e_iret dX7_start_10 rfl rfl ⟨rfl, rfl, rfl⟩
def f_X7_steps (v : rV) (a1 : Int32) (a2 : Int32) (a3 : Int32) (a4 : Int64) (a6 : Int32) : Option (Int32 × rV) := if (f_X7_isStain v a1) = true then
  (if (f_X4_has v 9 a2) = true then
  (if (f_X7_isDrop v a3) = true then
  (if a6 < 0 then
  (some ((-1 : Int32), v))
else
  (if a6 ≤ (1 : Int32) then
  ((f_X7_nearestTick v a1 a2 a3 a4).bind fun p4 =>
  if a6 = 0 then
  (some (p4.1, p4.2))
else
  ((f_X7_offBehind p4.2 a1 a2 a3 a4 p4.1).bind fun p5 =>
  some (p5.1, p5.2)))
else
  (some ((-1 : Int32), v))))
else
  (some ((-1 : Int32), v)))
else
  (some ((-1 : Int32), v)))
else
  (some ((-1 : Int32), v))
set_option maxRecDepth 20000 in
theorem x_X7_steps {X : Nat × (Nat → Int32)} {v : rV} {r : Int32 × rV} {a1 : Int32} {a2 : Int32} {a3 : Int32} {a4 : Int64} {a6 : Int32}  (h : f_X7_steps v a1 a2 a3 a4 a6 = some r) : EvM mX7_steps 8 0 0 [.ref 0, .int a1, .int a2, .int a3, .long a4, .int a6] (rZ X) v (rPI X r) := by
  refine evm_of (by decide +kernel) (fun G => Nat.le_of_ble_eq_true rfl) ?_
  show Ev mX7_steps 8 0 0 0 [(0, .ref 0), (1, .int a1), (2, .int a2), (3, .int a3), (4, .long a4), (6, .int a6)] [] (rZ X) v _
  unfold f_X7_steps at h
  refine e_aload_n dX7_steps_0 rfl ?_
  refine e_iload_n dX7_steps_1 rfl ?_
  refine c_VZ (M' := mX7_isStain) [.int a1] dX7_steps_2 rfl wmX7_306 imX7_isStain seX7_isStain lkX7_isStain k0_0 rc7 (Nat.le_of_ble_eq_true rfl) ((x_X7_isStain ).mono (by omega)) ?_
  refine e_if_eq (tgt := 38) dX7_steps_5 (by decide) (fun c11 => ?_) (fun c11 => ?_)
  · rw [if_neg (bI_n c11)] at h
    refine e_iconst (x := (-1 : Int32)) dX7_steps_38 (by decide) ?_
    obtain rfl := Option.some.inj h
    exact e_iret dX7_steps_39 rfl rfl ⟨rfl, rfl, rfl⟩
  · rw [if_pos (bI_p c11)] at h
    refine e_aload_n dX7_steps_8 rfl ?_
    refine e_get (w := .ref 9) (j := 3) dX7_steps_9 k0_0 rc7 (by decide) wfX7_35 (g0_0_3) ?_
    refine e_iload_n dX7_steps_12 rfl ?_
    refine c_VZ (M' := mX4_has) [.int a2] dX7_steps_13 rfl wmX7_148 imX4_has seX4_has lkX4_has k0_9 rc4 (Nat.le_of_ble_eq_true rfl) ((x_X4_has (by decide)).mono (by omega)) ?_
    refine e_if_eq (tgt := 38) dX7_steps_16 (by decide) (fun c10 => ?_) (fun c10 => ?_)
    · rw [if_neg (bI_n c10)] at h
      refine e_iconst (x := (-1 : Int32)) dX7_steps_38 (by decide) ?_
      obtain rfl := Option.some.inj h
      exact e_iret dX7_steps_39 rfl rfl ⟨rfl, rfl, rfl⟩
    · rw [if_pos (bI_p c10)] at h
      refine e_aload_n dX7_steps_19 rfl ?_
      refine e_iload_n dX7_steps_20 rfl ?_
      refine c_VZ (M' := mX7_isDrop) [.int a3] dX7_steps_21 rfl wmX7_124 imX7_isDrop seX7_isDrop lkX7_isDrop k0_0 rc7 (Nat.le_of_ble_eq_true rfl) ((x_X7_isDrop ).mono (by omega)) ?_
      refine e_if_eq (tgt := 38) dX7_steps_24 (by decide) (fun c9 => ?_) (fun c9 => ?_)
      · rw [if_neg (bI_n c9)] at h
        refine e_iconst (x := (-1 : Int32)) dX7_steps_38 (by decide) ?_
        obtain rfl := Option.some.inj h
        exact e_iret dX7_steps_39 rfl rfl ⟨rfl, rfl, rfl⟩
      · rw [if_pos (bI_p c9)] at h
        refine e_iload dX7_steps_27 rfl ?_
        refine e_if_lt (tgt := 38) dX7_steps_29 (by decide) (fun c8 => ?_) (fun c8 => ?_)
        · rw [if_pos c8] at h
          refine e_iconst (x := (-1 : Int32)) dX7_steps_38 (by decide) ?_
          obtain rfl := Option.some.inj h
          exact e_iret dX7_steps_39 rfl rfl ⟨rfl, rfl, rfl⟩
        · rw [if_neg c8] at h
          refine e_iload dX7_steps_32 rfl ?_
          refine e_iconst (x := (1 : Int32)) dX7_steps_34 (by decide) ?_
          refine e_icmp_le (tgt := 40) dX7_steps_35 (by decide) (fun c7 => ?_) (fun c7 => ?_)
          · rw [if_pos c7] at h
            refine e_aload_n dX7_steps_40 rfl ?_
            refine e_iload_n dX7_steps_41 rfl ?_
            refine e_iload_n dX7_steps_42 rfl ?_
            refine e_iload_n dX7_steps_43 rfl ?_
            refine e_lload dX7_steps_44 rfl ?_
            obtain ⟨p4, ep4, h⟩ := Option.bind_eq_some_iff.mp h
            refine c_VI (M' := mX7_nearestTick) [.int a1, .int a2, .int a3, .long a4] dX7_steps_46 rfl wmX7_318 imX7_nearestTick seX7_nearestTick lkX7_nearestTick k0_0 rc7 (Nat.le_of_ble_eq_true rfl) ((x_X7_nearestTick  ep4).mono (by omega)) ?_
            refine e_istore (lv' := [(7, .int p4.1), (0, .ref 0), (1, .int a1), (2, .int a2), (3, .int a3), (4, .long a4), (6, .int a6)]) dX7_steps_49 (by decide) rfl ?_
            refine e_iload dX7_steps_51 rfl ?_
            refine e_if_ne (tgt := 61) dX7_steps_53 (by decide) (fun c6 => ?_) (fun c6 => ?_)
            · rw [if_neg c6] at h
              refine e_aload_n dX7_steps_61 rfl ?_
              refine e_iload_n dX7_steps_62 rfl ?_
              refine e_iload_n dX7_steps_63 rfl ?_
              refine e_iload_n dX7_steps_64 rfl ?_
              refine e_lload dX7_steps_65 rfl ?_
              refine e_iload dX7_steps_67 rfl ?_
              obtain ⟨p5, ep5, h⟩ := Option.bind_eq_some_iff.mp h
              refine c_VI (M' := mX7_offBehind) [.int a1, .int a2, .int a3, .long a4, .int p4.1] dX7_steps_69 rfl wmX7_321 imX7_offBehind seX7_offBehind lkX7_offBehind k0_0 rc7 (Nat.le_of_ble_eq_true rfl) ((x_X7_offBehind  ep5).mono (by omega)) ?_
              obtain rfl := Option.some.inj h
              exact e_iret dX7_steps_72 rfl rfl ⟨rfl, rfl, rfl⟩
            · rw [if_pos c6] at h
              refine e_iload dX7_steps_56 rfl ?_
              refine e_goto (tgt := 72) dX7_steps_58 (by decide) ?_
              obtain rfl := Option.some.inj h
              exact e_iret dX7_steps_72 rfl rfl ⟨rfl, rfl, rfl⟩
          · rw [if_neg c7] at h
            refine e_iconst (x := (-1 : Int32)) dX7_steps_38 (by decide) ?_
            obtain rfl := Option.some.inj h
            exact e_iret dX7_steps_39 rfl rfl ⟨rfl, rfl, rfl⟩
def f_X7_text_48   (v : rV) (s0 : Int32) : Option (Int32 × rV) := if s0 = (-1 : Int32) then
  (some (s0, v))
else
  (vlet (rI v 1 1 (0 : Int32)) fun v3 =>
  some (s0, v3))
def f_X7_text_38   (v : rV) (ks0 : Nat) : Option (Int32 × rV) := (f_X4_keep v ks0 4).bind fun p2 =>
  f_X7_text_48  p2.2 p2.1
def f_X7_text (v : rV) (a1 : Int32) : Option (Int32 × rV) := (f_X7_fault v a1).bind fun p1 =>
  if p1.1 = (-1 : Int32) then
  (if a1 = (2 : Int32) then
  ((f_X7_keepDrop p1.2).bind fun p6 =>
  f_X7_text_48  p6.2 p6.1)
else
  (if a1 = 0 then
  (f_X7_text_38  p1.2 9)
else
  (f_X7_text_38  p1.2 23)))
else
  (some ((-1 : Int32), p1.2))
set_option maxRecDepth 20000 in
theorem b_X7_text_48 {X : Nat × (Nat → Int32)} {r : Int32 × rV} {v : rV}   {s0 : Int32}  (h : f_X7_text_48  v s0 = some r) : Ev mX7_text 55 0 0 48 [(0, .ref 0)] [.int s0] (rZ X) v (rPI X r) := by
  unfold f_X7_text_48 at h
  refine e_istore_n (lv' := [(2, .int s0), (0, .ref 0)]) dX7_text_48 (by decide) rfl ?_
  refine e_iload_n dX7_text_49 rfl ?_
  refine e_iconst (x := (-1 : Int32)) dX7_text_50 (by decide) ?_
  refine e_icmp_eq (tgt := 62) dX7_text_51 (by decide) (fun c4 => ?_) (fun c4 => ?_)
  · rw [if_pos c4] at h
    refine e_iload_n dX7_text_62 rfl ?_
    obtain rfl := Option.some.inj h
    exact e_iret dX7_text_63 rfl rfl ⟨rfl, rfl, rfl⟩
  · rw [if_neg c4] at h
    refine e_aload_n dX7_text_54 rfl ?_
    refine e_get (w := .ref 1) (j := 0) dX7_text_55 k0_0 rc7 (by decide) wfX7_12 (g0_0_0) ?_
    refine e_iconst (x := (0 : Int32)) dX7_text_58 (by decide) ?_
    refine e_putI (j := 1) dX7_text_59 k0_1 rc6 (by decide) wfX7_81 rfl rfl ?_
    obtain ⟨v3, ev3, h⟩ := vlet_ex h
    refine e_nameV ev3.symm ?_
    clear ev3
    refine e_iload_n dX7_text_62 rfl ?_
    obtain rfl := Option.some.inj h
    exact e_iret dX7_text_63 rfl rfl ⟨rfl, rfl, rfl⟩
set_option maxRecDepth 20000 in
theorem b_X7_text_38 {X : Nat × (Nat → Int32)} {r : Int32 × rV} {v : rV}   {ks0 : Nat} (hks0 : isShelf ks0 = true) (h : f_X7_text_38  v ks0 = some r) : Ev mX7_text 55 0 0 38 [(0, .ref 0)] [.ref ks0] (rZ X) v (rPI X r) := by
  unfold f_X7_text_38 at h
  refine e_aload_n dX7_text_38 rfl ?_
  refine e_get (w := .ref 3) (j := 1) dX7_text_39 k0_0 rc7 (by decide) wfX7_21 (g0_0_1) ?_
  refine e_get (w := .ref 4) (j := 1) dX7_text_42 k0_3 rc3 (by decide) wfX7_104 (g0_3_1) ?_
  obtain ⟨p2, ep2, h⟩ := Option.bind_eq_some_iff.mp h
  refine c_VI (M' := mX4_keep) [.ref 4] dX7_text_45 rfl wmX7_108 imX4_keep seX4_keep lkX4_keep (kShelf_0 hks0) rc4 (Nat.le_of_ble_eq_true rfl) ((x_X4_keep hks0 (by decide) ep2).mono (by omega)) ?_
  exact b_X7_text_48  h
set_option maxRecDepth 20000 in
theorem x_X7_text {X : Nat × (Nat → Int32)} {v : rV} {r : Int32 × rV} {a1 : Int32}  (h : f_X7_text v a1 = some r) : EvM mX7_text 55 0 0 [.ref 0, .int a1] (rZ X) v (rPI X r) := by
  refine evm_of (by decide +kernel) (fun G => Nat.le_of_ble_eq_true rfl) ?_
  show Ev mX7_text 55 0 0 0 [(0, .ref 0), (1, .int a1)] [] (rZ X) v _
  unfold f_X7_text at h
  refine e_aload_n dX7_text_0 rfl ?_
  refine e_iload_n dX7_text_1 rfl ?_
  obtain ⟨p1, ep1, h⟩ := Option.bind_eq_some_iff.mp h
  refine c_VI (M' := mX7_fault) [.int a1] dX7_text_2 rfl wmX7_98 imX7_fault seX7_fault lkX7_fault k0_0 rc7 (Nat.le_of_ble_eq_true rfl) ((x_X7_fault  ep1).mono (by omega)) ?_
  refine e_iconst (x := (-1 : Int32)) dX7_text_5 (by decide) ?_
  refine e_icmp_eq (tgt := 11) dX7_text_6 (by decide) (fun c8 => ?_) (fun c8 => ?_)
  · rw [if_pos c8] at h
    refine e_iload_n dX7_text_11 rfl ?_
    refine e_iconst (x := (2 : Int32)) dX7_text_12 (by decide) ?_
    refine e_icmp_ne (tgt := 23) dX7_text_13 (by decide) (fun c7 => ?_) (fun c7 => ?_)
    · rw [if_neg c7] at h
      refine e_iload_n dX7_text_23 rfl ?_
      refine e_if_ne (tgt := 34) dX7_text_24 (by decide) (fun c5 => ?_) (fun c5 => ?_)
      · rw [if_neg c5] at h
        refine e_aload_n dX7_text_34 rfl ?_
        refine e_get (w := .ref 23) (j := 4) dX7_text_35 k0_0 rc7 (by decide) wfX7_39 (g0_0_4) ?_
        refine e_sub [0] rfl ?_
        exact b_X7_text_38 (by decide) h
      · rw [if_pos c5] at h
        refine e_aload_n dX7_text_27 rfl ?_
        refine e_get (w := .ref 9) (j := 3) dX7_text_28 k0_0 rc7 (by decide) wfX7_35 (g0_0_3) ?_
        refine e_goto (tgt := 38) dX7_text_31 (by decide) ?_
        refine e_sub [0] rfl ?_
        exact b_X7_text_38 (by decide) h
    · rw [if_pos c7] at h
      refine e_aload_n dX7_text_16 rfl ?_
      obtain ⟨p6, ep6, h⟩ := Option.bind_eq_some_iff.mp h
      refine c_VI (M' := mX7_keepDrop) [] dX7_text_17 rfl wmX7_101 imX7_keepDrop seX7_keepDrop lkX7_keepDrop k0_0 rc7 (Nat.le_of_ble_eq_true rfl) ((x_X7_keepDrop  ep6).mono (by omega)) ?_
      refine e_goto (tgt := 48) dX7_text_20 (by decide) ?_
      refine e_sub [0] rfl ?_
      exact b_X7_text_48  h
  · rw [if_neg c8] at h
    refine e_iconst (x := (-1 : Int32)) dX7_text_9 (by decide) ?_
    obtain rfl := Option.some.inj h
    exact e_iret dX7_text_10 rfl rfl ⟨rfl, rfl, rfl⟩
def f_X7_tick (v : rV) (a1 : Int32) : Option (Int32 × rV) := match v.2.2 60 13 with
  | none => (some ((-1 : Int32), v))
  | some kd1 => if isForm kd1 = true then (if (f_X7_areTicks a1) = true then
  ((f_X5_goOn v 60 a1 (v.1 0 15)).bind fun p3 =>
  some (p3.1, p3.2))
else
  (some ((-1 : Int32), v))) else none
set_option maxRecDepth 20000 in
theorem x_X7_tick {X : Nat × (Nat → Int32)} {v : rV} {r : Int32 × rV} {a1 : Int32}  (h : f_X7_tick v a1 = some r) : EvM mX7_tick 6 0 0 [.ref 0, .int a1] (rZ X) v (rPI X r) := by
  refine evm_of (by decide +kernel) (fun G => Nat.le_of_ble_eq_true rfl) ?_
  show Ev mX7_tick 6 0 0 0 [(0, .ref 0), (1, .int a1)] [] (rZ X) v _
  unfold f_X7_tick at h
  refine e_aload_n dX7_tick_0 rfl ?_
  refine e_get (w := .ref 60) (j := 10) dX7_tick_1 k0_0 rc7 (by decide) wfX7_63 (g0_0_10) ?_
  rcases ekd1 : v.2.2 60 13 with _ | kd1
  · rw [ekd1] at h
    refine e_get (w := .null) (j := 13) dX7_tick_4 k0_60 rc5 (by decide) wfX7_174 (law_v (dStrip_law (by decide)) ekd1) ?_
    refine e_ifnullN (tgt := 17) dX7_tick_7 (by decide) ?_
    refine e_iconst (x := (-1 : Int32)) dX7_tick_17 (by decide) ?_
    obtain rfl := Option.some.inj h
    exact e_iret dX7_tick_18 rfl rfl ⟨rfl, rfl, rfl⟩
  · rw [ekd1] at h
    obtain ⟨hkd1, h⟩ := grd h
    refine e_get (w := .ref kd1) (j := 13) dX7_tick_4 k0_60 rc5 (by decide) wfX7_174 (law_v (dStrip_law (by decide)) ekd1) ?_
    refine e_ifnull dX7_tick_7 ?_
    refine e_iload_n dX7_tick_10 rfl ?_
    refine c_SZ (M' := mX7_areTicks) [.int a1] dX7_tick_11 rfl wmX7_177 stX7_areTicks lkX7_areTicks (Nat.le_of_ble_eq_true rfl) ((x_X7_areTicks ).mono (by omega)) ?_
    refine e_if_ne (tgt := 19) dX7_tick_14 (by decide) (fun c4 => ?_) (fun c4 => ?_)
    · rw [if_pos (bI_p c4)] at h
      refine e_aload_n dX7_tick_19 rfl ?_
      refine e_get (w := .ref 60) (j := 10) dX7_tick_20 k0_0 rc7 (by decide) wfX7_63 (g0_0_10) ?_
      refine e_iload_n dX7_tick_23 rfl ?_
      refine e_aload_n dX7_tick_24 rfl ?_
      refine e_get (w := .int (v.1 0 15)) (j := 15) dX7_tick_25 k0_0 rc7 (by decide) wfX7_73 rfl ?_
      obtain ⟨p3, ep3, h⟩ := Option.bind_eq_some_iff.mp h
      refine c_VI (M' := mX5_goOn) [.int a1, .int (v.1 0 15)] dX7_tick_28 rfl wmX7_180 imX5_goOn seX5_goOn lkX5_goOn k0_60 rc5 (Nat.le_of_ble_eq_true rfl) ((x_X5_goOn (by decide) ep3).mono (by omega)) ?_
      obtain rfl := Option.some.inj h
      exact e_iret dX7_tick_31 rfl rfl ⟨rfl, rfl, rfl⟩
    · rw [if_neg (bI_n c4)] at h
      refine e_iconst (x := (-1 : Int32)) dX7_tick_17 (by decide) ?_
      obtain rfl := Option.some.inj h
      exact e_iret dX7_tick_18 rfl rfl ⟨rfl, rfl, rfl⟩
def f_X7_tried (v : rV) (a1 : Int32) (a2 : Int32) (a3 : Int64) (a5 : Int32) (a6 : Int32) : Option (Int32 × rV) := (f_X7_canStart v a1 a2).bind fun p1 =>
  if p1 = true then
  (if (f_X7_areTicks a5) = true then
  (if a6 < 0 then
  (some ((-1 : Int32), v))
else
  (if a6 < (33 : Int32) then
  ((f_X7_startOn v 98 a1 a2 a3).bind fun p3 =>
  (f_X5_goOn p3 98 a5 (p3.1 0 15)).bind fun p4 =>
  if (9 : Int32) ≤ a6 then
  ((f_X5_lyingAt p4.2 98 (a6 - (9 : Int32))).bind fun p5 =>
  some (p5, p4.2))
else
  ((f_X5_tell p4.2 98 a6).bind fun p6 =>
  some (p6, p4.2)))
else
  (some ((-1 : Int32), v))))
else
  (some ((-1 : Int32), v)))
else
  (some ((-1 : Int32), v))
set_option maxRecDepth 20000 in
theorem x_X7_tried {X : Nat × (Nat → Int32)} {v : rV} {r : Int32 × rV} {a1 : Int32} {a2 : Int32} {a3 : Int64} {a5 : Int32} {a6 : Int32}  (h : f_X7_tried v a1 a2 a3 a5 a6 = some r) : EvM mX7_tried 6 0 0 [.ref 0, .int a1, .int a2, .long a3, .int a5, .int a6] (rZ X) v (rPI X r) := by
  refine evm_of (by decide +kernel) (fun G => Nat.le_of_ble_eq_true rfl) ?_
  show Ev mX7_tried 6 0 0 0 [(0, .ref 0), (1, .int a1), (2, .int a2), (3, .long a3), (5, .int a5), (6, .int a6)] [] (rZ X) v _
  unfold f_X7_tried at h
  refine e_aload_n dX7_tried_0 rfl ?_
  refine e_iload_n dX7_tried_1 rfl ?_
  refine e_iload_n dX7_tried_2 rfl ?_
  obtain ⟨p1, ep1, h⟩ := Option.bind_eq_some_iff.mp h
  refine c_VZ (M' := mX7_canStart) [.int a1, .int a2] dX7_tried_3 rfl wmX7_137 imX7_canStart seX7_canStart lkX7_canStart k0_0 rc7 (Nat.le_of_ble_eq_true rfl) ((x_X7_canStart  ep1).mono (by omega)) ?_
  refine e_if_eq (tgt := 29) dX7_tried_6 (by decide) (fun c11 => ?_) (fun c11 => ?_)
  · rw [if_neg (bI_n c11)] at h
    refine e_iconst (x := (-1 : Int32)) dX7_tried_29 (by decide) ?_
    obtain rfl := Option.some.inj h
    exact e_iret dX7_tried_30 rfl rfl ⟨rfl, rfl, rfl⟩
  · rw [if_pos (bI_p c11)] at h
    refine e_iload dX7_tried_9 rfl ?_
    refine c_SZ (M' := mX7_areTicks) [.int a5] dX7_tried_11 rfl wmX7_177 stX7_areTicks lkX7_areTicks (Nat.le_of_ble_eq_true rfl) ((x_X7_areTicks ).mono (by omega)) ?_
    refine e_if_eq (tgt := 29) dX7_tried_14 (by decide) (fun c10 => ?_) (fun c10 => ?_)
    · rw [if_neg (bI_n c10)] at h
      refine e_iconst (x := (-1 : Int32)) dX7_tried_29 (by decide) ?_
      obtain rfl := Option.some.inj h
      exact e_iret dX7_tried_30 rfl rfl ⟨rfl, rfl, rfl⟩
    · rw [if_pos (bI_p c10)] at h
      refine e_iload dX7_tried_17 rfl ?_
      refine e_if_lt (tgt := 29) dX7_tried_19 (by decide) (fun c9 => ?_) (fun c9 => ?_)
      · rw [if_pos c9] at h
        refine e_iconst (x := (-1 : Int32)) dX7_tried_29 (by decide) ?_
        obtain rfl := Option.some.inj h
        exact e_iret dX7_tried_30 rfl rfl ⟨rfl, rfl, rfl⟩
      · rw [if_neg c9] at h
        refine e_iload dX7_tried_22 rfl ?_
        refine e_bipush (x := (33 : Int32)) dX7_tried_24 (by decide) ?_
        refine e_icmp_lt (tgt := 31) dX7_tried_26 (by decide) (fun c8 => ?_) (fun c8 => ?_)
        · rw [if_pos c8] at h
          refine e_aload_n dX7_tried_31 rfl ?_
          refine e_aload_n dX7_tried_32 rfl ?_
          refine e_get (w := .ref 98) (j := 11) dX7_tried_33 k0_0 rc7 (by decide) wfX7_67 (g0_0_11) ?_
          refine e_iload_n dX7_tried_36 rfl ?_
          refine e_iload_n dX7_tried_37 rfl ?_
          refine e_lload_n dX7_tried_38 rfl ?_
          obtain ⟨p3, ep3, h⟩ := Option.bind_eq_some_iff.mp h
          refine c_VV (M' := mX7_startOn) [.ref 98, .int a1, .int a2, .long a3] dX7_tried_39 rfl wmX7_141 imX7_startOn seX7_startOn lkX7_startOn k0_0 rc7 (Nat.le_of_ble_eq_true rfl) ((x_X7_startOn (by decide) ep3).mono (by omega)) ?_
          refine e_aload_n dX7_tried_42 rfl ?_
          refine e_get (w := .ref 98) (j := 11) dX7_tried_43 k0_0 rc7 (by decide) wfX7_67 (g0_0_11) ?_
          refine e_iload dX7_tried_46 rfl ?_
          refine e_aload_n dX7_tried_48 rfl ?_
          refine e_get (w := .int (p3.1 0 15)) (j := 15) dX7_tried_49 k0_0 rc7 (by decide) wfX7_73 rfl ?_
          obtain ⟨p4, ep4, h⟩ := Option.bind_eq_some_iff.mp h
          refine c_VI (M' := mX5_goOn) [.int a5, .int (p3.1 0 15)] dX7_tried_52 rfl wmX7_180 imX5_goOn seX5_goOn lkX5_goOn k0_98 rc5 (Nat.le_of_ble_eq_true rfl) ((x_X5_goOn (by decide) ep4).mono (by omega)) ?_
          refine e_pop dX7_tried_55 rfl ?_
          refine e_iload dX7_tried_56 rfl ?_
          refine e_bipush (x := (9 : Int32)) dX7_tried_58 (by decide) ?_
          refine e_icmp_ge (tgt := 75) dX7_tried_60 (by decide) (fun c7 => ?_) (fun c7 => ?_)
          · rw [if_pos c7] at h
            refine e_aload_n dX7_tried_75 rfl ?_
            refine e_get (w := .ref 98) (j := 11) dX7_tried_76 k0_0 rc7 (by decide) wfX7_67 (g0_0_11) ?_
            refine e_iload dX7_tried_79 rfl ?_
            refine e_bipush (x := (9 : Int32)) dX7_tried_81 (by decide) ?_
            refine e_isub dX7_tried_83 ?_
            obtain ⟨p5, ep5, h⟩ := Option.bind_eq_some_iff.mp h
            refine c_VI (M' := mX5_lyingAt) [.int (a6 - (9 : Int32))] dX7_tried_84 rfl wmX7_205 imX5_lyingAt seX5_lyingAt lkX5_lyingAt k0_98 rc5 (Nat.le_of_ble_eq_true rfl) ((x_X5_lyingAt (by decide) ep5).mono (by omega)) ?_
            obtain rfl := Option.some.inj h
            exact e_iret dX7_tried_87 rfl rfl ⟨rfl, rfl, rfl⟩
          · rw [if_neg c7] at h
            refine e_aload_n dX7_tried_63 rfl ?_
            refine e_get (w := .ref 98) (j := 11) dX7_tried_64 k0_0 rc7 (by decide) wfX7_67 (g0_0_11) ?_
            refine e_iload dX7_tried_67 rfl ?_
            obtain ⟨p6, ep6, h⟩ := Option.bind_eq_some_iff.mp h
            refine c_VI (M' := mX5_tell) [.int a6] dX7_tried_69 rfl wmX7_212 imX5_tell seX5_tell lkX5_tell k0_98 rc5 (Nat.le_of_ble_eq_true rfl) ((x_X5_tell (by decide) ep6).mono (by omega)) ?_
            refine e_goto (tgt := 87) dX7_tried_72 (by decide) ?_
            obtain rfl := Option.some.inj h
            exact e_iret dX7_tried_87 rfl rfl ⟨rfl, rfl, rfl⟩
        · rw [if_neg c8] at h
          refine e_iconst (x := (-1 : Int32)) dX7_tried_29 (by decide) ?_
          obtain rfl := Option.some.inj h
          exact e_iret dX7_tried_30 rfl rfl ⟨rfl, rfl, rfl⟩
def f_X7_weigh (v : rV) (a1 : Int32) (a2 : Int32) : Option (Bool × rV) := if (f_X7_isDrop v a1) = true then
  (if a2 < (1 : Int32) then
  (some (false, v))
else
  (if a2 ≤ (9 : Int32) then
  (if ¬ a1 < 0 ∧ a1.toNatClampNeg < 12 then
  (vlet (rI v 50 a1.toNatClampNeg a2) fun v3 =>
  some (true, v3))
else none)
else
  (some (false, v))))
else
  (some (false, v))
set_option maxRecDepth 20000 in
theorem x_X7_weigh {X : Nat × (Nat → Int32)} {v : rV} {r : Bool × rV} {a1 : Int32} {a2 : Int32}  (h : f_X7_weigh v a1 a2 = some r) : EvM mX7_weigh 2 0 0 [.ref 0, .int a1, .int a2] (rZ X) v (rPZ X r) := by
  refine evm_of (by decide +kernel) (fun G => Nat.le_of_ble_eq_true rfl) ?_
  show Ev mX7_weigh 2 0 0 0 [(0, .ref 0), (1, .int a1), (2, .int a2)] [] (rZ X) v _
  unfold f_X7_weigh at h
  refine e_aload_n dX7_weigh_0 rfl ?_
  refine e_iload_n dX7_weigh_1 rfl ?_
  refine c_VZ (M' := mX7_isDrop) [.int a1] dX7_weigh_2 rfl wmX7_124 imX7_isDrop seX7_isDrop lkX7_isDrop k0_0 rc7 (Nat.le_of_ble_eq_true rfl) ((x_X7_isDrop ).mono (by omega)) ?_
  refine e_if_eq (tgt := 19) dX7_weigh_5 (by decide) (fun c6 => ?_) (fun c6 => ?_)
  · rw [if_neg (bI_n c6)] at h
    refine e_iconst (x := (0 : Int32)) dX7_weigh_19 (by decide) ?_
    obtain rfl := Option.some.inj h
    exact e_iret dX7_weigh_20 rfl rfl ⟨rfl, rfl, rfl⟩
  · rw [if_pos (bI_p c6)] at h
    refine e_iload_n dX7_weigh_8 rfl ?_
    refine e_iconst (x := (1 : Int32)) dX7_weigh_9 (by decide) ?_
    refine e_icmp_lt (tgt := 19) dX7_weigh_10 (by decide) (fun c5 => ?_) (fun c5 => ?_)
    · rw [if_pos c5] at h
      refine e_iconst (x := (0 : Int32)) dX7_weigh_19 (by decide) ?_
      obtain rfl := Option.some.inj h
      exact e_iret dX7_weigh_20 rfl rfl ⟨rfl, rfl, rfl⟩
    · rw [if_neg c5] at h
      refine e_iload_n dX7_weigh_13 rfl ?_
      refine e_bipush (x := (9 : Int32)) dX7_weigh_14 (by decide) ?_
      refine e_icmp_le (tgt := 21) dX7_weigh_16 (by decide) (fun c4 => ?_) (fun c4 => ?_)
      · rw [if_pos c4] at h
        refine e_aload_n dX7_weigh_21 rfl ?_
        refine e_get (w := .ref 50) (j := 6) dX7_weigh_22 k0_0 rc7 (by decide) wfX7_47 (g0_0_6) ?_
        refine e_iload_n dX7_weigh_25 rfl ?_
        refine e_iload_n dX7_weigh_26 rfl ?_
        obtain ⟨c2, h⟩ := grd h
        refine e_iastJ dX7_weigh_27 k0_50 rfl c2.2 c2.1 ?_
        obtain ⟨v3, ev3, h⟩ := vlet_ex h
        refine e_nameV ev3.symm ?_
        clear ev3
        refine e_iconst (x := (1 : Int32)) dX7_weigh_28 (by decide) ?_
        obtain rfl := Option.some.inj h
        exact e_iret dX7_weigh_29 rfl rfl ⟨rfl, rfl, rfl⟩
      · rw [if_neg c4] at h
        refine e_iconst (x := (0 : Int32)) dX7_weigh_19 (by decide) ?_
        obtain rfl := Option.some.inj h
        exact e_iret dX7_weigh_20 rfl rfl ⟨rfl, rfl, rfl⟩
