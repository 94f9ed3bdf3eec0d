/-! THE START: behind the constructors class and model agree -/
set_option maxRecDepth 1000000 in
theorem start_RF60 : RF 60 vc_350 (fun i => 60 + 14 + 2 * i) := fun i hi => ⟨(by decide +kernel : ∀ i, i < 12 → vc_350.2.2 73 i = some (60 + 14 + 2 * i)) i hi, ⟨i, hi, rfl⟩, fun j _ e => by have : 60 + 14 + 2 * i = 60 + 14 + 2 * j := e; omega⟩
set_option maxRecDepth 1000000 in
theorem start_RF98 : RF 98 vc_350 (fun i => 98 + 14 + 2 * i) := fun i hi => ⟨(by decide +kernel : ∀ i, i < 12 → vc_350.2.2 111 i = some (98 + 14 + 2 * i)) i hi, ⟨i, hi, rfl⟩, fun j _ e => by have : 98 + 14 + 2 * i = 98 + 14 + 2 * j := e; omega⟩
set_option maxRecDepth 1000000 in
theorem start_RF136 : RF 136 vc_350 (fun i => 136 + 14 + 2 * i) := fun i hi => ⟨(by decide +kernel : ∀ i, i < 12 → vc_350.2.2 149 i = some (136 + 14 + 2 * i)) i hi, ⟨i, hi, rfl⟩, fun j _ e => by have : 136 + 14 + 2 * i = 136 + 14 + 2 * j := e; omega⟩
set_option maxRecDepth 1000000 in
theorem start_ST : ST 0 60 0 vc_350 vc_350 := by
  refine ⟨fun i => 60 + 14 + 2 * i, [], 0, 0, 0, ⟨by decide, by decide, Nat.le_refl _⟩, ⟨start_RF60, by decide, fun i e h => by simp at h, fun e h => by simp at h, List.Pairwise.nil, fun e h => by simp at h⟩, ⟨(by decide +kernel : vc_350.1 60 10 = nI 0), (by decide +kernel : vc_350.1 187 288 = nI 0), fun s e h => by simp at h⟩, ⟨⟨?_, ?_⟩, ?_, ?_, ?_, ?_, ?_⟩, ⟨⟨0, 0, 0, 0, ⟨?_, ?_⟩, ⟨?_, ?_⟩, ⟨?_, ?_⟩, ⟨?_, ?_⟩, rfl, rfl⟩, ?_⟩, ⟨(by decide +kernel : vc_350.1 60 15 = nI 0), (by decide +kernel : vc_350.1 187 289 = nI 0), ?_, ?_, ?_, ?_, ?_⟩, ⟨?_, ?_, fun s _ h => absurd h (Nat.not_lt_zero _)⟩⟩
  · exact (by decide +kernel : ∀ c, c < 24 → vc_350.1 65 c = vc_350.1 187 (24 + c))
  · exact (by decide +kernel : ∀ c, c < 24 → vc_350.1 66 c = vc_350.1 187 (48 + c))
  · exact (by decide +kernel : ∀ c, c < 24 → vc_350.1 68 c = vc_350.1 187 (72 + c))
  · exact (by decide +kernel : ∀ c, c < 24 → vc_350.1 69 c = vc_350.1 187 (96 + c))
  · exact (by decide +kernel : ∀ c, c < 24 → vc_350.1 70 c = vc_350.1 187 (144 + c))
  · exact (by decide +kernel : ∀ c, c < 24 → vc_350.1 71 c = vc_350.1 187 (168 + c))
  · exact (by decide +kernel : ∀ c, c < 24 → vc_350.1 61 c = vc_350.1 187 (0 + c))
  · exact (by decide +kernel : ∀ c, c < 24 → 0 ≤ am vc_350 24 c)
  · decide +kernel
  · exact (by decide +kernel : ∀ c, c < 24 → 0 ≤ am vc_350 72 c)
  · decide +kernel
  · exact (by decide +kernel : ∀ c, c < 24 → 0 ≤ am vc_350 48 c)
  · decide +kernel
  · exact (by decide +kernel : ∀ c, c < 24 → 0 ≤ am vc_350 96 c)
  · decide +kernel
  · exact (by decide +kernel : ∀ c, c < 24 → vc_350.1 187 (120 + c) + vc_350.1 187 (144 + c) = vc_350.1 187 (72 + c) + vc_350.1 187 (96 + c))
  · decide +kernel
  · decide +kernel
  · decide +kernel
  · decide +kernel
  · decide +kernel
  · exact (by decide +kernel : ∀ c, c < 24 → vc_350.1 187 (216 + c) = if f_X7_has (vc_350.1 60 11) (nI c) = true then 1 else 0)
  · exact (by decide +kernel : ∀ c, c < 24 → vc_350.1 187 (192 + c) = if f_X7_has (vc_350.1 60 12) (nI c) = true then 1 else 0)
set_option maxRecDepth 1000000 in
theorem start_Rs : Rs vc_350 vc_350 := ⟨0, by decide, (by decide +kernel : vc_350.1 0 14 = nI 0), (by decide +kernel : vc_350.1 174 41 = nI 0), (by decide +kernel : ∀ s, s < 6 → ∀ c, c < 24 → vc_350.1 (53 + s) c = vc_350.1 195 (24 * s + c) ∧ 0 ≤ (vc_350.1 195 (24 * s + c)).toInt ∧ (vc_350.1 195 (24 * s + c)).toInt ≤ 24000)⟩
set_option maxRecDepth 1000000 in
theorem start_rel : Rel 0 vc_350 vc_350 := by
  refine ⟨0, 0, 0, 3, ⟨Rt0 (by decide +kernel) (by decide +kernel), ⟨by decide, (by decide +kernel : vc_350.1 9 1 = nI 0), (by decide +kernel : vc_350.1 174 13 = nI 0), fun n hn => absurd hn (Nat.not_lt_zero _)⟩, ⟨by decide, (by decide +kernel : vc_350.1 23 1 = nI 0), (by decide +kernel : vc_350.1 174 14 = nI 0), fun n hn => absurd hn (Nat.not_lt_zero _)⟩, ⟨⟨by decide, (by decide +kernel : vc_350.1 174 21 = nI 0), fun n hn => absurd hn (Nat.not_lt_zero _)⟩, ⟨(by decide +kernel : vc_350.1 0 13 = nI 0), fun n hn => absurd hn (Nat.not_lt_zero _)⟩, fun n hn => absurd hn (Nat.not_lt_zero _), fun d _ h => (by decide +kernel : ∀ d, d < 12 → vc_350.1 50 d = 1) d h⟩, start_Rs, ⟨by decide, (by decide +kernel : vc_350.1 0 15 = nI 3), (by decide +kernel : vc_350.1 174 23 = nI 3)⟩, Or.inl ⟨by decide +kernel, by decide +kernel⟩, ⟨⟨_, start_RF98⟩, ⟨_, start_RF136⟩⟩⟩, start_ST, Or.inl ⟨by decide +kernel, by decide +kernel⟩⟩
