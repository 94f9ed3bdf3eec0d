/-! ONE CODE: the class's step and the model's, each for itself -/
def wOp (q4 : rV → Nat → Nat → Int32 → Int32 → Option (Int32 × rV)) (v : rV) (k0 k1 : Nat) (a2 a3 x2 : Int32) : Option (Int32 × rV) := if a2 < (1 : Int32) then
  (some ((0 : Int32), v))
else
  (if a2 ≤ (32 : Int32) then
  (if ¬ (a2 - (1 : Int32)) < 0 ∧ (a2 - (1 : Int32)).toNatClampNeg < 32 then
  (vlet (v.1 (k0 + 2) ((a2 - (1 : Int32)).toNatClampNeg) : Int32) fun x13 =>
  if x2 = (-12 : Int32) then
  (some (x13, v))
else
  (if x2 = (-10 : Int32) then
  (if x13 = 0 then
  (f_X2_worth_156 q4 v k0 k1 a2 a3 (1 : Int32) (a2 - (1 : Int32)) (k0 + 2))
else
  (f_X2_worth_156 q4 v k0 k1 a2 a3 (0 : Int32) (a2 - (1 : Int32)) (k0 + 2)))
else
  (if x2 = (-11 : Int32) then
  (vlet (a2 + (-1 : Int32)) fun x19 =>
  vlet (a3 + (1 : Int32)) fun x20 =>
  if x13 = 0 then
  (if (162 : Int32) ≤ x20 then
  (f_X2_worth_201 q4 v k0 k1 x19 x20)
else
  (if ¬ x20 < 0 ∧ x20.toNatClampNeg < 162 then
  (f_X2_worth_202 q4 v k0 k1 x19 (if (0 : Int32) < (v.1 (k0 + 1) x20.toNatClampNeg) then (v.1 (k0 + 1) x20.toNatClampNeg) else (0 : Int32)) x20)
else none))
else
  (f_X2_worth_201 q4 v k0 k1 x19 x20))
else
  (if (2 : Int32) ≤ a2 then
  (vlet (a2 + (-1 : Int32)) fun x14 =>
  if ¬ (x14 - (1 : Int32)) < 0 ∧ (x14 - (1 : Int32)).toNatClampNeg < 32 then
  ((f_X2_joined x2 ((v.1 (k0 + 2) ((x14 - (1 : Int32)).toNatClampNeg)).toInt64) x13.toInt64).bind fun p16 =>
  vlet (rI v (k0 + 2) ((x14 - (1 : Int32)).toNatClampNeg) (f_X8_bounded p16)) fun v17 =>
  f_X2_worth_259 q4 v17 k0 k1 x14 a3)
else none)
else
  (some ((0 : Int32), v))))))
else none)
else
  (some ((0 : Int32), v)))
def wCd (q4 : rV → Nat → Nat → Int32 → Int32 → Option (Int32 × rV)) (v : rV) (k0 k1 : Nat) (a2 a3 x2 : Int32) : Option (Int32 × rV) := if 0 ≤ x2 then
  (f_X2_worth_41 q4 v k0 k1 a2 a3 x2)
else
  (if (-20 : Int32) < x2 then
  wOp q4 v k0 k1 a2 a3 x2
else
  (f_X2_worth_41 q4 v k0 k1 a2 a3 x2))
theorem w_in {n kf kl len p : Nat} {v : rV} {a2 x : Int32} (hl : v.1 kf 2 = nI len) (hp : p < len) (h162 : len ≤ 162) (hc : v.1 (kf + 1) p = x) : f_X2_worth_4 (n + 1) v kf kl a2 (nI p) = wCd (fun v k0 k1 a2 a3 => f_X2_worth_4 n v k0 k1 a2 a3) v kf kl a2 (nI p) x := by
  rw [f_X2_worth_4, hl, if_neg (nle hp (by omega)), if_neg (show ¬ (162 : Int32) ≤ nI p from nle (a := 162) (by omega) (by omega)), if_pos (gin (show p < 162 by omega) (by omega)), niCl (by omega), hc, vlet_eq]
  unfold wCd wOp f_X8_bounded
  rfl
theorem w_end {n kf kl len p : Nat} {v : rV} {a2 : Int32} (hl : v.1 kf 2 = nI len) (hp : len ≤ p) (h : p < 1000) : f_X2_worth_4 (n + 1) v kf kl a2 (nI p) = some (0, v) := by
  rw [f_X2_worth_4, hl, if_pos (ple hp (by omega))]
theorem wB_num {q4 : rV → Nat → Nat → Int32 → Int32 → Option (Int32 × rV)} {kf kl d p x : Nat} {v : rV} (hd : d < 32) (hx : x < 10000) : wCd q4 v kf kl (nI d) (nI p) (nI x) = q4 (rI v (kf + 2) d (nI x)) kf kl (nI (d + 1)) (nI (p + 1)) := by
  unfold wCd f_X2_worth_41 f_X2_worth_89 f_X2_worth_259
  rw [if_pos (show (0 : Int32) ≤ nI x from ple (a := 0) (by omega) (by omega)), if_pos (show nI d < (32 : Int32) from plt (b := 32) hd (by omega)), vlet_eq, if_neg (niGe (by omega)), if_pos (gin hd (by omega)), niCl (show d < 2147483648 by omega), vlet_eq, vlet_eq, vlet_eq, ad1, ad1]
theorem m20 {x : Nat} (hx : x < 10000) : (-20 - nI x : Int32).toInt = -20 - (x : Int) := by
  have e : (-20 : Int32).toInt = -20 := by decide
  rw [sub_toInt] <;> rw [niInt (by omega), e] <;> omega
theorem wB_let {q4 : rV → Nat → Nat → Int32 → Int32 → Option (Int32 × rV)} {kf kl d p x : Nat} {v : rV} (hd : d < 32) (hx : x < 7) : wCd q4 v kf kl (nI d) (nI p) (-20 - nI x) = q4 (rI v (kf + 2) d (v.1 kl x)) kf kl (nI (d + 1)) (nI (p + 1)) := by
  have t := m20 (show x < 10000 by omega)
  have z0 : (0 : Int32).toInt = 0 := by decide
  have z20 : (-20 : Int32).toInt = -20 := by decide
  have n1 : ¬ (0 : Int32) ≤ -20 - nI x := by rw [le_toInt, t, z0]; omega
  have n2 : ¬ (-20 : Int32) < -20 - nI x := by rw [lt_toInt, t, z20]; omega
  have n3 : (-20 - nI x : Int32) < 0 := by rw [lt_toInt, t, z0]; omega
  have n4 : (-20 : Int32) - (-20 - nI x) = nI x := by
    have : ((-20 : Int32) - (-20 - nI x)).toInt = (-20 : Int32).toInt - (-20 - nI x : Int32).toInt := sub_toInt (by omega) (by omega)
    rw [eq_toInt, this, t, z20, niInt (by omega)]
    omega
  unfold wCd f_X2_worth_41 f_X2_worth_89 f_X2_worth_259
  rw [if_neg n1, if_neg n2, if_pos (show nI d < (32 : Int32) from plt (b := 32) hd (by omega)), n4, vlet_eq, if_pos n3, if_neg (show ¬ (7 : Int32) ≤ nI x from nle (a := 7) (by omega) (by omega)), if_pos (gin hx (by omega)), niCl (show x < 2147483648 by omega), if_pos (gin hd (by omega)), niCl (show d < 2147483648 by omega), vlet_eq, vlet_eq, vlet_eq, ad1, ad1]
theorem wB_not {q4 : rV → Nat → Nat → Int32 → Int32 → Option (Int32 × rV)} {kf kl d p : Nat} {v : rV} (hd : d < 32) : wCd q4 v kf kl (nI (d + 1)) (nI p) (-10) = q4 (rI v (kf + 2) d (if v.1 (kf + 2) d = 0 then 1 else 0)) kf kl (nI (d + 1)) (nI (p + 1)) := by
  have hr : nI (d + 1) - 1 = nI d := niSub (a := d + 1) (b := 1) (by omega)
  unfold wCd wOp f_X2_worth_156 f_X2_worth_259
  rw [if_neg (by decide), if_pos (by decide), if_neg (show ¬ nI (d + 1) < (1 : Int32) from nlt (b := 1) (by omega) (by omega)), if_pos (show nI (d + 1) ≤ (32 : Int32) from ple (b := 32) (by omega) (by omega)), hr, if_pos (gin hd (by omega)), niCl (show d < 2147483648 by omega), vlet_eq, if_neg (by decide), if_pos rfl]
  by_cases z : v.1 (kf + 2) d = 0
  · rw [if_pos z, if_pos z, if_pos ⟨niGe (by omega), hd⟩, vlet_eq, vlet_eq, ad1]
  · rw [if_neg z, if_neg z, if_pos ⟨niGe (by omega), hd⟩, vlet_eq, vlet_eq, ad1]
theorem wB_bin {q4 : rV → Nat → Nat → Int32 → Int32 → Option (Int32 × rV)} {kf kl d p : Nat} {v : rV} {x : Int32} {y : Int64} (hd : d + 1 < 32) (n1 : x < 0) (n2 : -20 < x) (n12 : x ≠ -12) (n10 : x ≠ -10) (n11 : x ≠ -11) (hj : f_X2_joined x (v.1 (kf + 2) d).toInt64 (v.1 (kf + 2) (d + 1)).toInt64 = some y) : wCd q4 v kf kl (nI (d + 2)) (nI p) x = q4 (rI v (kf + 2) d (f_X8_bounded y)) kf kl (nI (d + 1)) (nI (p + 1)) := by
  have hr : nI (d + 2) - 1 = nI (d + 1) := niSub (a := d + 2) (b := 1) (by omega)
  have hr2 : nI (d + 1) - 1 = nI d := niSub (a := d + 1) (b := 1) (by omega)
  have hr3 : nI (d + 2) + (-1) = nI (d + 1) := by
    rw [← hr, Int32.sub_eq_add_neg]
  unfold wCd wOp f_X2_worth_259
  rw [if_neg (lt_nle n1), if_pos n2, if_neg (show ¬ nI (d + 2) < (1 : Int32) from nlt (b := 1) (by omega) (by omega)), if_pos (show nI (d + 2) ≤ (32 : Int32) from ple (b := 32) (by omega) (by omega)), hr, if_pos (gin hd (by omega)), niCl (show d + 1 < 2147483648 by omega), vlet_eq, if_neg n12, if_neg n10, if_neg n11, if_pos (show (2 : Int32) ≤ nI (d + 2) from ple (a := 2) (by omega) (by omega)), hr3, vlet_eq, hr2, if_pos (gin (show d < 32 by omega) (by omega)), niCl (show d < 2147483648 by omega), hj, Option.bind_some, vlet_eq, vlet_eq, ad1]
theorem wB_stop {q4 : rV → Nat → Nat → Int32 → Int32 → Option (Int32 × rV)} {kf kl p : Nat} {v : rV} : wCd q4 v kf kl 1 (nI p) (-12) = some (v.1 (kf + 2) 0, v) := by
  unfold wCd wOp
  rw [if_neg (by decide), if_pos (by decide), if_neg (by decide), if_pos (by decide), if_pos (by decide), vlet_eq, if_pos rfl]
  rfl
theorem mxz_u {u : Nat} (h : u < 1000) : (if (0 : Int32) < nI u then nI u else (0 : Int32)) = nI u := by
  rcases Nat.eq_zero_or_pos u with rfl | h1
  · rw [if_neg (by decide)]
    rfl
  · exact if_pos (plt (a := 0) h1 (by omega))
theorem wB_skip {q4 : rV → Nat → Nat → Int32 → Int32 → Option (Int32 × rV)} {kf kl p u : Nat} {v : rV} (hp : p + 1 < 162) (hu : v.1 (kf + 1) (p + 1) = nI u) (hu9 : u < 1000) : wCd q4 v kf kl 1 (nI p) (-11) = if v.1 (kf + 2) 0 = 0 then q4 v kf kl 0 (nI (p + u + 2)) else q4 v kf kl 0 (nI (p + 2)) := by
  unfold wCd wOp f_X2_worth_201 f_X2_worth_202 f_X2_worth_259
  rw [if_neg (by decide), if_pos (by decide), if_neg (by decide), if_pos (by decide), if_pos (by decide), vlet_eq, if_neg (by decide), if_neg (by decide), if_pos rfl, vlet_eq, vlet_eq, ad1, if_neg (show ¬ (162 : Int32) ≤ nI (p + 1) from nle (a := 162) hp (by omega)), if_pos (gin hp (by omega)), niCl (show p + 1 < 2147483648 by omega), hu, mxz_u hu9]
  simp only [vlet_eq]
  rw [niAdd, ad1, Int32.add_zero, ad1, show p + 1 + u + 1 = p + u + 2 by omega]
  rfl
/-- the model -/
theorem m_in {n T m E : Nat} {v : rV} {a3 a4 : Int32} (hm : m < E) (hE : E ≤ 3060) (ha : (340 : Int32) * nI T + a3 = nI E) : f_X8_workOut_12 (n + 1) v (nI T) a3 a4 (nI m) = (if (v.1 176 m) = 0 then (f_X8_workOut_45 (fun v a1 a3 a4 a5 => f_X8_workOut_12 n v a1 a3 a4 a5) v (nI T) a3 a4 (nI m)) else (if (v.1 176 m) = (1 : Int32) then (f_X8_workOut_45 (fun v a1 a3 a4 a5 => f_X8_workOut_12 n v a1 a3 a4 a5) v (nI T) a3 a4 (nI m)) else (if (v.1 176 m) = (9 : Int32) then (if ¬ (a4 - (1 : Int32)) < 0 ∧ (a4 - (1 : Int32)).toNatClampNeg < 80 then (vlet (rI v 184 ((a4 - (1 : Int32)).toNatClampNeg) ((1 : Int32) - (v.1 184 ((a4 - (1 : Int32)).toNatClampNeg)))) fun v16 => f_X8_workOut_165 (fun v a1 a3 a4 a5 => f_X8_workOut_12 n v a1 a3 a4 a5) v16 (nI T) a3 a4 (nI m)) else none) else (vlet (a4 + (-1 : Int32)) fun x10 => if ¬ (x10 - (1 : Int32)) < 0 ∧ (x10 - (1 : Int32)).toNatClampNeg < 80 then (if ¬ x10 < 0 ∧ x10.toNatClampNeg < 80 then ((f_X8_worked v (v.1 176 m) ((v.1 184 ((x10 - (1 : Int32)).toNatClampNeg)).toInt64) ((v.1 184 x10.toNatClampNeg).toInt64)).bind fun p13 => vlet (rI v 184 ((x10 - (1 : Int32)).toNatClampNeg) p13) fun v14 => f_X8_workOut_165 (fun v a1 a3 a4 a5 => f_X8_workOut_12 n v a1 a3 a4 a5) v14 (nI T) a3 x10 (nI m)) else none) else none)))) := by
  rw [f_X8_workOut_12, ha, if_neg (nle hm (by omega)), if_pos (gin (show m < 3060 by omega) (by omega)), niCl (show m < 2147483648 by omega)]
theorem m_end {n T m E : Nat} {v : rV} {a3 a4 : Int32} (hm : E ≤ m) (hE : m < 10000) (ha : (340 : Int32) * nI T + a3 = nI E) : f_X8_workOut_12 (n + 1) v (nI T) a3 a4 (nI m) = some (v.1 184 0, v) := by
  rw [f_X8_workOut_12, ha, if_pos (ple hm (by omega))]
theorem m_num {n T m E d : Nat} {v : rV} {a3 : Int32} (hm : m < E) (hE : E ≤ 3060) (ha : (340 : Int32) * nI T + a3 = nI E) (hd : d < 80) (ho : v.1 176 m = 0) : f_X8_workOut_12 (n + 1) v (nI T) a3 (nI d) (nI m) = f_X8_workOut_12 n (rI v 184 d (v.1 177 m)) (nI T) a3 (nI (d + 1)) (nI (m + 1)) := by
  rw [m_in hm hE ha, if_pos ho]
  unfold f_X8_workOut_45 f_X8_workOut_83 f_X8_workOut_165
  rw [if_pos (gin (show m < 3060 by omega) (by omega)), niCl (show m < 2147483648 by omega), if_pos ho, if_pos (gin hd (by omega)), niCl (show d < 2147483648 by omega), vlet_eq, vlet_eq, vlet_eq, ad1, ad1]
theorem m_let {n T m E d x : Nat} {v : rV} {a3 : Int32} (hm : m < E) (hE : E ≤ 3060) (ha : (340 : Int32) * nI T + a3 = nI E) (hd : d < 80) (ho : v.1 176 m = nI 1) (hv : v.1 177 m = nI x) (hx : x < 7) : f_X8_workOut_12 (n + 1) v (nI T) a3 (nI d) (nI m) = f_X8_workOut_12 n (rI v 184 d (v.1 183 x)) (nI T) a3 (nI (d + 1)) (nI (m + 1)) := by
  have n0 : ¬ v.1 176 m = 0 := by rw [ho]; decide
  rw [m_in hm hE ha, if_neg n0, if_pos (show v.1 176 m = 1 from ho)]
  unfold f_X8_workOut_45 f_X8_workOut_83 f_X8_workOut_165
  rw [if_pos (gin (show m < 3060 by omega) (by omega)), niCl (show m < 2147483648 by omega), if_neg n0, hv, if_pos (gin hx (by omega)), niCl (show x < 2147483648 by omega), if_pos (gin hd (by omega)), niCl (show d < 2147483648 by omega), vlet_eq, vlet_eq, vlet_eq, ad1, ad1]
theorem m_not {n T m E d : Nat} {v : rV} {a3 : Int32} (hm : m < E) (hE : E ≤ 3060) (ha : (340 : Int32) * nI T + a3 = nI E) (hd : d < 79) (ho : v.1 176 m = nI 9) : f_X8_workOut_12 (n + 1) v (nI T) a3 (nI (d + 1)) (nI m) = f_X8_workOut_12 n (rI v 184 d (1 - v.1 184 d)) (nI T) a3 (nI (d + 1)) (nI (m + 1)) := by
  have hr : nI (d + 1) - 1 = nI d := niSub (a := d + 1) (b := 1) (by omega)
  rw [m_in hm hE ha, if_neg (show ¬ v.1 176 m = 0 by rw [ho]; decide), if_neg (show ¬ v.1 176 m = 1 by rw [ho]; decide), if_pos (show v.1 176 m = 9 from ho), hr, if_pos (gin (show d < 80 by omega) (by omega)), niCl (show d < 2147483648 by omega), vlet_eq]
  unfold f_X8_workOut_165
  rw [vlet_eq, ad1]
theorem m_bin {n T m E d o : Nat} {v : rV} {a3 z : Int32} (hm : m < E) (hE : E ≤ 3060) (ha : (340 : Int32) * nI T + a3 = nI E) (hd : d < 78) (ho : v.1 176 m = nI o) (h2 : 2 ≤ o) (h11 : o ≤ 11) (h9 : o ≠ 9) (hw : f_X8_worked v (nI o) (v.1 184 d).toInt64 (v.1 184 (d + 1)).toInt64 = some z) : f_X8_workOut_12 (n + 1) v (nI T) a3 (nI (d + 2)) (nI m) = f_X8_workOut_12 n (rI v 184 d z) (nI T) a3 (nI (d + 1)) (nI (m + 1)) := by
  have no : ∀ u, u < 12 → u ≠ o → ¬ nI o = nI u := fun u hu hn => nne (by omega) (by omega) (by omega)
  have hr : nI (d + 2) - 1 = nI (d + 1) := niSub (a := d + 2) (b := 1) (by omega)
  have hr2 : nI (d + 1) - 1 = nI d := niSub (a := d + 1) (b := 1) (by omega)
  have hr3 : nI (d + 2) + (-1) = nI (d + 1) := by
    rw [← hr, Int32.sub_eq_add_neg]
  rw [m_in hm hE ha, ho, if_neg (show ¬ nI o = 0 from no 0 (by omega) (by omega)), if_neg (show ¬ nI o = 1 from no 1 (by omega) (by omega)), if_neg (show ¬ nI o = 9 from no 9 (by omega) (by omega)), hr3, vlet_eq, hr2, if_pos (gin (show d < 80 by omega) (by omega)), if_pos (gin (show d + 1 < 80 by omega) (by omega)), niCl (show d < 2147483648 by omega), niCl (show d + 1 < 2147483648 by omega), hw, Option.bind_some, vlet_eq]
  unfold f_X8_workOut_165
  rw [vlet_eq, ad1]
