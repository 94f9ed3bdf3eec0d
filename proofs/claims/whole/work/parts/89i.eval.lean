/-! WHAT CODES ARE WORTH, class against model -/
def VE (kf kl T len w : Nat) (P O V : Nat → Int32) (vc vm : rV) : Prop := vc.1 kf 2 = nI len ∧ (∀ j, vc.1 (kf + 1) j = P j) ∧ (∀ j, 340 * T ≤ j → j < 340 * T + 340 → vm.1 176 j = O j ∧ vm.1 177 j = V j) ∧ (∀ j, j < w → vc.1 kl j = vm.1 183 j) ∧ kl ≠ kf + 2 ∧ w ≤ 7 ∧ T < 9 ∧ len ≤ 162
def Sw2 (kf : Nat) : Nat → Nat → Prop := fun k j => k = kf + 2 ∧ j < 1000
def Tw2 : Nat → Nat → Prop := fun k j => k = 184 ∧ j < 1000
theorem VE.ch {kf kl T len w : Nat} {P O V : Nat → Int32} {vc vm wc wm : rV} (h : VE kf kl T len w P O V vc vm) (hc : Ch (Sw2 kf) vc wc) (hm : Ch Tw2 vm wm) : VE kf kl T len w P O V wc wm := by
  obtain ⟨a, b, c, d, e, f⟩ := h
  refine ⟨by rw [hc.1 _ _ (by unfold Sw2; omega)]; exact a, fun j => by rw [hc.1 _ _ (by unfold Sw2; omega)]; exact b j, fun j h1 h2 => ?_, fun j hj => ?_, e, f⟩
  · rw [hm.1 176 _ (by unfold Tw2; omega), hm.1 177 _ (by unfold Tw2; omega)]; exact c j h1 h2
  · rw [hc.1 _ _ (by unfold Sw2; omega), hm.1 _ _ (by unfold Tw2; omega)]; exact d j hj
def GS (P O V : Nat → Int32) (l m : Nat) (s : List (Nat × Nat)) : Prop := ∀ (i : Nat) x, s[i]? = some x → P (l + i) = cl x ∧ O (m + i) = nI x.1 ∧ V (m + i) = nI x.2
theorem GS.tail {P O V : Nat → Int32} {l m : Nat} {x : Nat × Nat} {s : List (Nat × Nat)} (h : GS P O V l m (x :: s)) : GS P O V (l + 1) (m + 1) s := fun i y hy => by
  have := h (i + 1) y (by simpa using hy)
  rwa [show l + (i + 1) = l + 1 + i by omega, show m + (i + 1) = m + 1 + i by omega] at this
/-- the stacks, of the same types -/
def SK (kf : Nat) (vc vm : rV) : List Bool → Prop
  | [] => True
  | b :: r => (vc.1 (kf + 2) r.length = vm.1 184 r.length ∧ (b = true → vm.1 184 r.length = 0 ∨ vm.1 184 r.length = 1)) ∧ SK kf vc vm r
theorem SK.up {kf : Nat} {vc vm : rV} {i : Nat} {x y : Int32} : ∀ {r : List Bool}, SK kf vc vm r → r.length ≤ i → SK kf (rI vc (kf + 2) i x) (rI vm 184 i y) r
  | [], _, _ => trivial
  | b :: r, ⟨⟨h1, h2⟩, h3⟩, hi => by
    simp only [List.length_cons] at hi
    refine ⟨⟨?_, fun hb => ?_⟩, SK.up h3 (by omega)⟩
    · rw [rI_no (by omega), rI_no (by omega)]; exact h1
    · rw [rI_no (by omega)]; exact h2 hb
theorem ck1_inv {w : Nat} {x : Nat × Nat} {st st' : List Bool} (h : ck1 w x st = some st') : (x.1 = 0 ∧ x.2 < 10000 ∧ st.length < 32 ∧ st' = false :: st) ∨ (x.1 = 1 ∧ x.2 < w ∧ st.length < 32 ∧ st' = false :: st) ∨ (x.1 = 9 ∧ ∃ r, st = true :: r ∧ st' = true :: r) ∨ (2 ≤ x.1 ∧ x.1 ≤ 5 ∧ ∃ r, st = false :: false :: r ∧ st' = false :: r) ∨ (6 ≤ x.1 ∧ x.1 ≤ 8 ∧ ∃ r, st = false :: false :: r ∧ st' = true :: r) ∨ (10 ≤ x.1 ∧ x.1 ≤ 11 ∧ ∃ r, st = true :: true :: r ∧ st' = true :: r) := by
  unfold ck1 at h
  by_cases c0 : x.1 = 0
  · rw [if_pos c0] at h
    by_cases p : x.2 < 10000 ∧ st.length < 32
    · rw [if_pos p] at h
      exact Or.inl ⟨c0, p.1, p.2, (Option.some.inj h).symm⟩
    · rw [if_neg p] at h; cases h
  rw [if_neg c0] at h
  by_cases c1 : x.1 = 1
  · rw [if_pos c1] at h
    by_cases p : x.2 < w ∧ st.length < 32
    · rw [if_pos p] at h
      exact Or.inr (Or.inl ⟨c1, p.1, p.2, (Option.some.inj h).symm⟩)
    · rw [if_neg p] at h; cases h
  rw [if_neg c1] at h
  by_cases c9 : x.1 = 9
  · rw [if_pos c9] at h
    match st, h with
    | true :: r, h => exact Or.inr (Or.inr (Or.inl ⟨c9, r, rfl, (Option.some.inj h).symm⟩))
    | false :: r, h => cases h
    | [], h => cases h
  rw [if_neg c9] at h
  by_cases c5 : x.1 ≤ 5
  · rw [if_pos c5] at h
    match st, h with
    | false :: false :: r, h => exact Or.inr (Or.inr (Or.inr (Or.inl ⟨by omega, c5, r, rfl, (Option.some.inj h).symm⟩)))
    | false :: true :: r, h => cases h
    | true :: r, h => cases h
    | [false], h => cases h
    | [], h => cases h
  rw [if_neg c5] at h
  by_cases c8 : x.1 ≤ 8
  · rw [if_pos c8] at h
    match st, h with
    | false :: false :: r, h => exact Or.inr (Or.inr (Or.inr (Or.inr (Or.inl ⟨by omega, c8, r, rfl, (Option.some.inj h).symm⟩))))
    | false :: true :: r, h => cases h
    | true :: r, h => cases h
    | [false], h => cases h
    | [], h => cases h
  rw [if_neg c8] at h
  by_cases c11 : x.1 ≤ 11
  · rw [if_pos c11] at h
    match st, h with
    | true :: true :: r, h => exact Or.inr (Or.inr (Or.inr (Or.inr (Or.inr ⟨by omega, c11, r, rfl, (Option.some.inj h).symm⟩))))
    | true :: false :: r, h => cases h
    | false :: r, h => cases h
    | [true], h => cases h
    | [], h => cases h
  · rw [if_neg c11] at h; cases h
theorem lg_0 {a b : Int64} : lg_cmp a b = 0 ↔ a = b := by
  unfold lg_cmp
  by_cases p : a > b
  · rw [if_pos p]
    refine ⟨fun h => absurd h (by decide), fun h => ?_⟩
    rw [h] at p
    exact absurd p (Int64.lt_irrefl)
  · rw [if_neg p]
    by_cases q : a = b
    · rw [if_pos q]; exact ⟨fun _ => q, fun _ => rfl⟩
    · rw [if_neg q]; exact ⟨fun h => absurd h (by decide), fun h => absurd h q⟩
/-- numbers joined -/
theorem op_num {o : Nat} {a b : Int64} (h1 : 2 ≤ o) (h2 : o ≤ 8) (v : Nat) : ∃ (y : Int64) (z : Int32), f_X2_joined (cl (o, v)) a b = some y ∧ f_X8_bounded y = z ∧ (∀ w, f_X8_worked w (nI o) a b = some z) ∧ (6 ≤ o → z = 0 ∨ z = 1) := by
  have c1 : f_X8_bounded 1 = 1 := by decide
  have c0 : f_X8_bounded 0 = 0 := by decide
  have : o = 2 ∨ o = 3 ∨ o = 4 ∨ o = 5 ∨ o = 6 ∨ o = 7 ∨ o = 8 := by omega
  rcases this with rfl | rfl | rfl | rfl | rfl | rfl | rfl
  · exact ⟨a + b, f_X8_bounded (a + b), rfl, rfl, fun w => rfl, fun h => by omega⟩
  · exact ⟨a - b, f_X8_bounded (a - b), rfl, rfl, fun w => rfl, fun h => by omega⟩
  · exact ⟨a * b, f_X8_bounded (a * b), rfl, rfl, fun w => rfl, fun h => by omega⟩
  · by_cases z : b = 0
    · have l : lg_cmp b 0 = 0 := lg_0.mpr z
      refine ⟨0, 0, ?_, c0, fun w => ?_, fun h => by omega⟩
      · show (if lg_cmp b 0 = 0 then some (0 : Int64) else if b = 0 then none else some (a / b)) = _
        rw [if_pos l]
      · show (if lg_cmp b 0 = 0 then some (0 : Int32) else if b = 0 then none else some (f_X8_bounded (a / b))) = _
        rw [if_pos l]
    · have l : ¬ lg_cmp b 0 = 0 := fun h => z (lg_0.mp h)
      refine ⟨a / b, f_X8_bounded (a / b), ?_, rfl, fun w => ?_, fun h => by omega⟩
      · show (if lg_cmp b 0 = 0 then some (0 : Int64) else if b = 0 then none else some (a / b)) = _
        rw [if_neg l, if_neg z]
      · show (if lg_cmp b 0 = 0 then some (0 : Int32) else if b = 0 then none else some (f_X8_bounded (a / b))) = _
        rw [if_neg l, if_neg z]
  · by_cases z : lg_cmp a b = 0
    · refine ⟨1, 1, ?_, c1, fun w => ?_, fun _ => Or.inr rfl⟩
      · show (if lg_cmp a b = 0 then some (1 : Int64) else some 0) = _
        rw [if_pos z]
      · show (if lg_cmp a b = 0 then some (1 : Int32) else some 0) = _
        rw [if_pos z]
    · refine ⟨0, 0, ?_, c0, fun w => ?_, fun _ => Or.inl rfl⟩
      · show (if lg_cmp a b = 0 then some (1 : Int64) else some 0) = _
        rw [if_neg z]
      · show (if lg_cmp a b = 0 then some (1 : Int32) else some 0) = _
        rw [if_neg z]
  · by_cases z : 0 ≤ lg_cmp a b
    · refine ⟨0, 0, ?_, c0, fun w => ?_, fun _ => Or.inl rfl⟩
      · show (if 0 ≤ lg_cmp a b then some (0 : Int64) else some 1) = _
        rw [if_pos z]
      · show (if 0 ≤ lg_cmp a b then some (0 : Int32) else some 1) = _
        rw [if_pos z]
    · refine ⟨1, 1, ?_, c1, fun w => ?_, fun _ => Or.inr rfl⟩
      · show (if 0 ≤ lg_cmp a b then some (0 : Int64) else some 1) = _
        rw [if_neg z]
      · show (if 0 ≤ lg_cmp a b then some (0 : Int32) else some 1) = _
        rw [if_neg z]
  · by_cases z : lg_cmp a b ≤ 0
    · refine ⟨0, 0, ?_, c0, fun w => ?_, fun _ => Or.inl rfl⟩
      · show (if lg_cmp a b ≤ 0 then some (0 : Int64) else some 1) = _
        rw [if_pos z]
      · show (if lg_cmp a b ≤ 0 then some (0 : Int32) else some 1) = _
        rw [if_pos z]
    · refine ⟨1, 1, ?_, c1, fun w => ?_, fun _ => Or.inr rfl⟩
      · show (if lg_cmp a b ≤ 0 then some (0 : Int64) else some 1) = _
        rw [if_neg z]
      · show (if lg_cmp a b ≤ 0 then some (0 : Int32) else some 1) = _
        rw [if_neg z]
/-- truths joined -/
theorem op_tru {o : Nat} {a b : Int32} (h1 : 10 ≤ o) (h2 : o ≤ 11) (ha : a = 0 ∨ a = 1) (hb : b = 0 ∨ b = 1) (v : Nat) : ∃ (y : Int64) (z : Int32), f_X2_joined (cl (o, v)) a.toInt64 b.toInt64 = some y ∧ f_X8_bounded y = z ∧ (∀ w, f_X8_worked w (nI o) a.toInt64 b.toInt64 = some z) ∧ (z = 0 ∨ z = 1) := by
  have c1 : f_X8_bounded 1 = 1 := by decide
  have c0 : f_X8_bounded 0 = 0 := by decide
  have : o = 10 ∨ o = 11 := by omega
  rcases this with rfl | rfl <;> rcases ha with rfl | rfl <;> rcases hb with rfl | rfl
  · exact ⟨0, 0, rfl, c0, fun w => rfl, Or.inl rfl⟩
  · exact ⟨0, 0, rfl, c0, fun w => rfl, Or.inl rfl⟩
  · exact ⟨0, 0, rfl, c0, fun w => rfl, Or.inl rfl⟩
  · exact ⟨1, 1, rfl, c1, fun w => rfl, Or.inr rfl⟩
  · exact ⟨0, 0, rfl, c0, fun w => rfl, Or.inl rfl⟩
  · exact ⟨1, 1, rfl, c1, fun w => rfl, Or.inr rfl⟩
  · exact ⟨1, 1, rfl, c1, fun w => rfl, Or.inr rfl⟩
  · exact ⟨1, 1, rfl, c1, fun w => rfl, Or.inr rfl⟩
theorem cl_bin {o v : Nat} (h1 : 2 ≤ o) (h2 : o ≤ 11) (h9 : o ≠ 9) : (cl (o, v) < 0 ∧ -20 < cl (o, v)) ∧ cl (o, v) ≠ -12 ∧ cl (o, v) ≠ -10 ∧ cl (o, v) ≠ -11 := by
  have : o = 2 ∨ o = 3 ∨ o = 4 ∨ o = 5 ∨ o = 6 ∨ o = 7 ∨ o = 8 ∨ o = 10 ∨ o = 11 := by omega
  rcases this with rfl | rfl | rfl | rfl | rfl | rfl | rfl | rfl | rfl
  · exact ⟨(by decide : (-1 : Int32) < 0 ∧ -20 < (-1 : Int32)), (by decide : (-1 : Int32) ≠ -12), (by decide : (-1 : Int32) ≠ -10), (by decide : (-1 : Int32) ≠ -11)⟩
  · exact ⟨(by decide : (-2 : Int32) < 0 ∧ -20 < (-2 : Int32)), (by decide : (-2 : Int32) ≠ -12), (by decide : (-2 : Int32) ≠ -10), (by decide : (-2 : Int32) ≠ -11)⟩
  · exact ⟨(by decide : (-3 : Int32) < 0 ∧ -20 < (-3 : Int32)), (by decide : (-3 : Int32) ≠ -12), (by decide : (-3 : Int32) ≠ -10), (by decide : (-3 : Int32) ≠ -11)⟩
  · exact ⟨(by decide : (-4 : Int32) < 0 ∧ -20 < (-4 : Int32)), (by decide : (-4 : Int32) ≠ -12), (by decide : (-4 : Int32) ≠ -10), (by decide : (-4 : Int32) ≠ -11)⟩
  · exact ⟨(by decide : (-5 : Int32) < 0 ∧ -20 < (-5 : Int32)), (by decide : (-5 : Int32) ≠ -12), (by decide : (-5 : Int32) ≠ -10), (by decide : (-5 : Int32) ≠ -11)⟩
  · exact ⟨(by decide : (-6 : Int32) < 0 ∧ -20 < (-6 : Int32)), (by decide : (-6 : Int32) ≠ -12), (by decide : (-6 : Int32) ≠ -10), (by decide : (-6 : Int32) ≠ -11)⟩
  · exact ⟨(by decide : (-7 : Int32) < 0 ∧ -20 < (-7 : Int32)), (by decide : (-7 : Int32) ≠ -12), (by decide : (-7 : Int32) ≠ -10), (by decide : (-7 : Int32) ≠ -11)⟩
  · exact ⟨(by decide : (-8 : Int32) < 0 ∧ -20 < (-8 : Int32)), (by decide : (-8 : Int32) ≠ -12), (by decide : (-8 : Int32) ≠ -10), (by decide : (-8 : Int32) ≠ -11)⟩
  · exact ⟨(by decide : (-9 : Int32) < 0 ∧ -20 < (-9 : Int32)), (by decide : (-9 : Int32) ≠ -12), (by decide : (-9 : Int32) ≠ -10), (by decide : (-9 : Int32) ≠ -11)⟩
theorem lt_nle {a b : Int32} (h : a < b) : ¬ b ≤ a := by rw [le_toInt]; rw [lt_toInt] at h; omega
