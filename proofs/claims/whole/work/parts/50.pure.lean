/-! THE PURE SIDE: class functions against model functions, over two heaps -/
theorem vlet_eq {α β : Type} (a : α) (f : α → β) : vlet a f = f a := rfl
theorem rI_at (v : rV) (k j : Nat) (x : Int32) : (rI v k j x).1 k j = x := by simp [rI]
theorem rI_no {v : rV} {k j a b : Nat} {x : Int32} (h : ¬ (a = k ∧ b = j)) : (rI v k j x).1 a b = v.1 a b := by simp [rI, h]
/-- the tape's length is the same -/
theorem o_end {vc vm : rV} {a : Int32} (h : vc.1 1 1 = vm.1 174 2) : ∃ (r : Bool) (vc' vm' : rV), f_X7_end vc a = some (r, vc') ∧ f_X8_end vm a = some (r, vm') ∧ vc'.1 1 1 = vm'.1 174 2 ∧ (vc' = vc ∨ vc' = rI vc 1 1 a) ∧ (vm' = vm ∨ vm' = rI vm 174 2 a) := by
  unfold f_X7_end f_X8_end
  rw [h]
  by_cases h0 : a < 0
  · rw [if_pos h0, if_pos h0]
    exact ⟨_, _, _, rfl, rfl, h, Or.inl rfl, Or.inl rfl⟩
  · rw [if_neg h0, if_neg h0]
    by_cases h1 : a ≤ vm.1 174 2
    · rw [if_pos h1, if_pos h1]
      exact ⟨_, _, _, rfl, rfl, by rw [rI_at, rI_at], Or.inr rfl, Or.inr rfl⟩
    · rw [if_neg h1, if_neg h1]
      exact ⟨_, _, _, rfl, rfl, h, Or.inl rfl, Or.inl rfl⟩
theorem in_eq {a : Int32} {lo hi : Int32} : f_X8_in a lo hi = true ↔ (¬ a < lo ∧ ¬ hi < a) := by
  unfold f_X8_in
  by_cases h0 : a < lo
  · simp [h0]
  · by_cases h1 : hi < a <;> simp [h0, h1]
/-- pace: the same bounds -/
theorem o_pace {vc vm : rV} {a : Int32} (h : vc.1 0 15 = vm.1 174 23) : ∃ (r : Bool) (vc' vm' : rV), f_X7_pace vc a = some (r, vc') ∧ f_X8_pace vm a = some (r, vm') ∧ vc'.1 0 15 = vm'.1 174 23 ∧ (vc' = vc ∨ vc' = rI vc 0 15 a) ∧ (vm' = vm ∨ vm' = rI vm 174 23 a) := by
  unfold f_X7_pace f_X8_pace
  by_cases h0 : a < 0
  · have e : ¬ f_X8_in a 0 99 = true := fun q => (in_eq.mp q).1 h0
    rw [if_pos h0, if_neg e]
    exact ⟨_, _, _, rfl, rfl, h, Or.inl rfl, Or.inl rfl⟩
  · rw [if_neg h0]
    by_cases h1 : a ≤ 99
    · have e : f_X8_in a 0 99 = true := in_eq.mpr ⟨h0, Int32.not_lt.mpr h1⟩
      rw [if_pos h1, if_pos e]
      exact ⟨_, _, _, rfl, rfl, by rw [rI_at, rI_at], Or.inr rfl, Or.inr rfl⟩
    · have e : ¬ f_X8_in a 0 99 = true := fun q => h1 (Int32.not_lt.mp (in_eq.mp q).2)
      rw [if_neg h1, if_neg e]
      exact ⟨_, _, _, rfl, rfl, h, Or.inl rfl, Or.inl rfl⟩
