/-! READS OF THE STRIP AND OF WHAT IS COUNTED -/
theorem in_t {a b c : Int32} (h : f_X8_in a b c = true) : ¬ a < b ∧ ¬ c < a := by
  unfold f_X8_in at h
  by_cases p : a < b
  · rw [if_pos p] at h; cases h
  · rw [if_neg p] at h
    by_cases q : c < a
    · rw [if_pos q] at h; cases h
    · exact ⟨p, q⟩
theorem in_p {a b c : Int32} (h : ¬ a < b) (k : ¬ c < a) : f_X8_in a b c = true := by
  unfold f_X8_in; rw [if_neg h, if_neg k]
theorem in_ff {a b c : Int32} (h : a < b ∨ c < a) : ¬ f_X8_in a b c = true := fun q => by
  have := in_t q
  rcases h with h | h
  · exact this.1 h
  · exact this.2 h
/-- an upper bound one below -/
theorem lt_suc {a : Int32} {n : Nat} (hn : n < 1000000) (ha : ¬ a < 0) : (nI n - 1 < a) = (nI n ≤ a) := by
  have e := niOfc a ha
  have e1 : (nI n - 1).toInt = (n : Int) - 1 := by
    rw [sub_toInt] <;> rw [niInt (by omega), show (1 : Int32).toInt = 1 from rfl] <;> omega
  rw [lt_toInt, le_toInt, e1, niInt (by omega)]
  exact propext ⟨fun h => by omega, fun h => by omega⟩
theorem isSort_c {a : Int32} : f_X7_isSort a = f_X8_in a 0 1 := by
  unfold f_X7_isSort f_X8_in
  by_cases p : a < 0
  · rw [if_pos p, if_pos p]
  · rw [if_neg p, if_neg p]
    by_cases q : (2 : Int32) ≤ a
    · rw [if_pos q, if_pos (by rw [lt_toInt]; rw [le_toInt] at q; have h1 : (2 : Int32).toInt = 2 := rfl; have h2 : (1 : Int32).toInt = 1 := rfl; omega)]
    · rw [if_neg q, if_neg (by rw [lt_toInt]; rw [le_toInt] at q; have h1 : (2 : Int32).toInt = 2 := rfl; have h2 : (1 : Int32).toInt = 1 := rfl; omega)]
/-- within a small range the number is a natural one -/
theorem in_n {a : Int32} {n : Nat} (hn : n < 1000000) (h : f_X8_in a 0 (nI n) = true) : ∃ c, c ≤ n ∧ a = nI c := by
  obtain ⟨p, q⟩ := in_t h
  refine ⟨a.toNatClampNeg, ?_, niOfc a p⟩
  have e := niOfc a p
  rw [lt_toInt, niInt (by omega)] at q
  have h3 : a.toInt.toNat = a.toNatClampNeg := rfl
  omega
theorem in_np {n c : Nat} (hn : n < 1000000) (h : c ≤ n) : f_X8_in (nI c) 0 (nI n) = true := in_p (niGe (by omega)) (nlt h (by omega))
theorem water_go {M B tb : Nat} {vc vm : rV} (hB : B = 60) (h : ST M B tb vc vm) (a : Int32) : ∃ r, f_X7_water vc a = some r ∧ f_X8_water vm a = some r := by
  subst hB
  obtain ⟨t, S0, S1, -, ⟨F, R8, R9, R10, R11, R1⟩, -⟩ := h.parts
  unfold f_X7_water f_X8_water
  rw [isCell_c]
  by_cases p : f_X8_isCell a = true
  · obtain ⟨c, hc, rfl⟩ := isCell_n p
    rw [if_pos p, if_pos p, Int32.zero_add, if_pos (gin hc (by omega)), if_pos (gin (show c < 416 by omega) (by omega)), niCl (by omega)]
    exact ⟨_, rfl, by rw [show vc.1 61 c = _ from R1 c hc, Nat.zero_add]⟩
  · rw [if_neg p, if_neg p]; exact ⟨_, rfl, rfl⟩
theorem lies_go {M B tb : Nat} {vc vm : rV} (hB : B = 60) (h : ST M B tb vc vm) (a s : Int32) : ∃ r, f_X7_lies vc a s = some r ∧ f_X8_lies vm a s = some r := by
  subst hB
  obtain ⟨t, S0, S1, -, ⟨F, R8, R9, R10, R11, R1⟩, -⟩ := h.parts
  unfold f_X7_lies f_X8_lies
  rw [isCell_c, isSort_c]
  by_cases p : f_X8_isCell a = true
  · obtain ⟨c, hc, rfl⟩ := isCell_n p
    rw [if_pos p, if_pos p]
    by_cases q : f_X8_in s 0 1 = true
    · obtain ⟨k, hk, rfl⟩ := in_n (n := 1) (by omega) q
      rw [if_pos q, if_pos q, if_pos (gin (show k < 2 by omega) (by omega)), if_pos (gin hc (by omega)), niCl (by omega), niCl (by omega), show (24 : Int32) * nI k = nI (24 * k) from niMul 24 k, show (72 : Int32) + nI (24 * k) = nI (72 + 24 * k) from niAdd 72 _, niAdd, if_pos (gin (show 72 + 24 * k + c < 416 by omega) (by omega)), niCl (by omega)]
      refine ⟨_, rfl, ?_⟩
      have hk2 : k = 0 ∨ k = 1 := by omega
      rcases hk2 with rfl | rfl
      · rw [show vc.1 (68 + 0) c = _ from R8 c hc]
      · rw [show vc.1 (68 + 1) c = _ from R9 c hc]
    · rw [if_neg q, if_neg q]; exact ⟨_, rfl, rfl⟩
  · rw [if_neg p, if_neg p]; exact ⟨_, rfl, rfl⟩
theorem free_go {M B tb : Nat} {vc vm : rV} (hB : B = 60) (h : ST M B tb vc vm) (a s : Int32) : ∃ r, f_X7_free vc a s = some r ∧ f_X8_free vm a s = some r := by
  subst hB
  obtain ⟨t, S0, S1, -, ⟨F, R8, R9, R10, R11, R1⟩, -⟩ := h.parts
  unfold f_X7_free f_X8_free
  rw [isCell_c, isSort_c]
  by_cases p : f_X8_isCell a = true
  · obtain ⟨c, hc, rfl⟩ := isCell_n p
    rw [if_pos p, if_pos p]
    by_cases q : f_X8_in s 0 1 = true
    · obtain ⟨k, hk, rfl⟩ := in_n (n := 1) (by omega) q
      rw [if_pos q, if_pos q, if_pos (gin (show k < 2 by omega) (by omega)), if_pos (gin hc (by omega)), niCl (by omega), niCl (by omega), show (24 : Int32) * nI k = nI (24 * k) from niMul 24 k, show (24 : Int32) + nI (24 * k) = nI (24 + 24 * k) from niAdd 24 _, niAdd, if_pos (gin (show 24 + 24 * k + c < 416 by omega) (by omega)), niCl (by omega)]
      refine ⟨_, rfl, ?_⟩
      have hk2 : k = 0 ∨ k = 1 := by omega
      rcases hk2 with rfl | rfl
      · rw [show vc.1 (65 + 0) c = _ from F.1 c hc]
      · rw [show vc.1 (65 + 1) c = _ from F.2 c hc]
    · rw [if_neg q, if_neg q]; exact ⟨_, rfl, rfl⟩
  · rw [if_neg p, if_neg p]; exact ⟨_, rfl, rfl⟩
theorem heap_go {M B tb : Nat} {vc vm : rV} (hB : B = 60) (h : ST M B tb vc vm) (a s : Int32) : ∃ r, f_X7_heap vc a s = some r ∧ f_X8_heap vm a s = some r := by
  subst hB
  obtain ⟨t, S0, S1, -, ⟨F, R8, R9, R10, R11, R1⟩, ⟨hAA, hrow⟩, -⟩ := h.parts
  unfold f_X7_heap f_X8_heap
  rw [isCell_c]
  by_cases p : f_X8_isCell a = true
  · obtain ⟨c, hc, rfl⟩ := isCell_n p
    rw [if_pos p, if_pos p]
    by_cases q : f_X8_in s 0 1 = true
    · obtain ⟨k, hk, rfl⟩ := in_n (n := 1) (by omega) q
      rw [if_pos q, if_neg (niGe (by omega)), if_pos (show nI k ≤ (1 : Int32) from ple (b := 1) (by omega) (by omega))]
      have hk2 : k = 0 ∨ k = 1 := by omega
      rcases hk2 with rfl | rfl
      · rw [if_neg (show ¬ nI 0 = (1 : Int32) from by decide), if_pos (show nI 0 = (0 : Int32) from rfl), laid_eq ⟨R8, R9⟩, laid_at hc, show (120 : Int32) + nI c = nI (120 + c) from niAdd 120 _, if_pos (gin (show 120 + c < 416 by omega) (by omega)), niCl (show 120 + c < 2147483648 by omega), Option.bind_some, if_pos (gin hc (by omega)), niCl (by omega)]
        refine ⟨_, rfl, ?_⟩
        have e := hrow c hc
        rw [show vc.1 70 c = _ from R10 c hc]
        unfold la
        rw [← e, Int32.add_sub_cancel]
      · rw [if_pos (show nI 1 = (1 : Int32) from rfl), if_neg (show ¬ nI 1 = (0 : Int32) from by decide), show (144 : Int32) + nI c = nI (144 + c) from niAdd 144 _, if_pos (gin (show 144 + c < 416 by omega) (by omega)), niCl (show 144 + c < 2147483648 by omega), if_pos (gin hc (by omega)), niCl (by omega)]
        exact ⟨_, rfl, by rw [show vc.1 70 c = _ from R10 c hc]⟩
    · rw [if_neg q]
      refine ⟨_, ?_, rfl⟩
      by_cases z : s < 0
      · rw [if_pos z]
      · rw [if_neg z, if_neg (fun z2 => q (in_p z (by rw [lt_toInt]; rw [le_toInt] at z2; omega)))]
  · rw [if_neg p, if_neg p]; exact ⟨_, rfl, rfl⟩
theorem flowAt_go {M B tb : Nat} {vc vm : rV} (hB : B = 60) (h : ST M B tb vc vm) (a : Int32) : ∃ r, f_X7_flow vc a = some r ∧ f_X8_flow vm a = some r := by
  subst hB
  obtain ⟨t, S0, S1, -, ⟨F, R8, R9, R10, R11, R1⟩, -⟩ := h.parts
  unfold f_X7_flow f_X8_flow
  rw [isCell_c]
  by_cases p : f_X8_isCell a = true
  · obtain ⟨c, hc, rfl⟩ := isCell_n p
    rw [if_pos p, if_pos p, show (168 : Int32) + nI c = nI (168 + c) from niAdd 168 _, if_pos (gin hc (by omega)), if_pos (gin (show 168 + c < 416 by omega) (by omega)), niCl (by omega), niCl (by omega)]
    exact ⟨_, rfl, by rw [show vc.1 71 c = _ from R11 c hc]⟩
  · rw [if_neg p, if_neg p]; exact ⟨_, rfl, rfl⟩
theorem speed_go {M B tb : Nat} {vc vm : rV} (hB : B = 60) (h : ST M B tb vc vm) : f_X7_speed vc = f_X8_speed vm := by
  subst hB
  obtain ⟨t, S0, S1, -, -, -, ⟨t1, t2, e16, e17, e18, e19, esd⟩, -⟩ := h.parts
  exact e17
theorem rush_go {M B tb : Nat} {vc vm : rV} (hB : B = 60) (h : ST M B tb vc vm) (a : Int32) : f_X7_rush vc a = f_X8_rush vm a := by
  subst hB
  obtain ⟨t, S0, S1, -, -, -, ⟨t1, t2, e16, e17, e18, e19, esd⟩, -⟩ := h.parts
  unfold f_X7_rush f_X8_rush
  rw [e19, e18]
  by_cases z : vm.1 187 292 = 0
  · rw [if_pos z, if_pos z]
  rw [if_neg z, if_neg z]
  by_cases q : f_X8_in a 0 1 = true
  · obtain ⟨k, hk, rfl⟩ := in_n (n := 1) (by omega) q
    rw [if_pos q]
    have hk2 : k = 0 ∨ k = 1 := by omega
    rcases hk2 with rfl | rfl
    · rw [if_pos (show nI 0 = (0 : Int32) from rfl), if_pos (show nI 0 = (0 : Int32) from rfl)]
    · rw [if_neg (show ¬ nI 1 = (0 : Int32) from by decide), if_neg (show ¬ nI 1 = (0 : Int32) from by decide), if_pos (show nI 1 = (1 : Int32) from rfl)]
  · rw [if_neg q, if_neg (fun e => q (by rw [e]; rfl)), if_neg (fun e => q (by rw [e]; rfl))]
theorem came_go {M B tb : Nat} {vc vm : rV} (hB : B = 60) (htb : tb < 1000000) (h : ST M B tb vc vm) (a : Int32) : ∃ r, f_X7_came vc a = some r ∧ f_X8_came vm a = some r := by
  subst hB
  obtain ⟨t, S0, S1, ⟨-, -, ht⟩, -, -, ⟨t1, t2, -⟩, ⟨-, -, har⟩⟩ := h.parts
  unfold f_X7_came f_X8_came
  rw [t1, t2]
  have o1 : (1 : Int32).toInt = 1 := rfl
  have o2 : (120 : Int32).toInt = 120 := rfl
  have et := niInt (a := t) (by omega)
  by_cases p : a < 1
  · rw [if_pos p, if_neg (in_ff (Or.inl p))]; exact ⟨_, rfl, rfl⟩
  rw [if_neg p]
  by_cases q : nI t < a
  · rw [if_pos q, if_neg (in_ff (Or.inr ?_))]
    · exact ⟨_, rfl, rfl⟩
    · by_cases z : nI t < (120 : Int32)
      · rw [if_pos z]; exact q
      · rw [if_neg z]
        rw [lt_toInt] at q z ⊢
        omega
  rw [if_neg q]
  by_cases q2 : a ≤ 120
  · rw [if_pos q2]
    obtain ⟨c, ha, hc⟩ : ∃ c, a = nI c ∧ 1 ≤ c ∧ c ≤ 120 ∧ c ≤ t := by
      rw [lt_toInt] at p q
      rw [le_toInt] at q2
      exact ⟨a.toInt.toNat, niOf (by omega), by omega, by omega, by omega⟩
    subst ha
    rw [if_pos (in_p p (by
      by_cases z : nI t < (120 : Int32)
      · rw [if_pos z]; exact q
      · rw [if_neg z]; rw [lt_toInt]; rw [le_toInt] at q2; omega)), show nI c - 1 = nI (c - 1) from niSub (b := 1) hc.1, show (296 : Int32) + nI c = nI (296 + c) from niAdd 296 c, show nI (296 + c) - 1 = nI (296 + c - 1) from niSub (b := 1) (by omega), if_pos (gin (show c - 1 < 120 by omega) (by omega)), if_pos (gin (show 296 + c - 1 < 416 by omega) (by omega)), niCl (by omega), niCl (by omega)]
    refine ⟨_, rfl, ?_⟩
    rw [show vc.1 72 (c - 1) = _ from har (c - 1) (by omega) (by omega), show 296 + c - 1 = 296 + (c - 1) by omega]
  · rw [if_neg q2, if_neg (in_ff (Or.inr ?_))]
    · exact ⟨_, rfl, rfl⟩
    · rw [le_toInt] at q2
      by_cases z : nI t < (120 : Int32)
      · rw [if_pos z]; rw [lt_toInt] at z ⊢; omega
      · rw [if_neg z]; rw [lt_toInt]; omega
