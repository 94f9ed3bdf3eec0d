/-! STIR -/
theorem half_le {a b : Int} (ha : 0 ≤ a) (hb : 0 ≤ b) : 0 ≤ a - (a - b).tdiv 2 ∧ 0 ≤ b + (a - b).tdiv 2 := by
  rcases Int.le_total b a with q | q
  · rw [Int.tdiv_eq_ediv_of_nonneg (by omega)]; omega
  · have e : (a - b).tdiv 2 = -((b - a).tdiv 2) := by rw [← Int.neg_tdiv]; congr 1; omega
    rw [e, Int.tdiv_eq_ediv_of_nonneg (by omega)]; omega
theorem stirC {q : rV → Nat → Nat → Int32 → Option rV} {n B kd c s : Nat} {vc : rV} (hs : s < 2) (hc : c + 1 < 24) :
    f_X5_stir_27 q (n + 1) vc B kd (nI c) (nI s) = f_X5_stir_27 q n (mvr vc (B + 5 + s) c (c + 1) ((vc.1 (B + 5 + s) c - vc.1 (B + 5 + s) (c + 1)) / 2)) B kd (nI c) (nI (s + 1)) := by
  have g1 : ¬ (2 : Int32) ≤ nI s := nle (a := 2) (by omega) (by omega)
  rw [f_X5_stir_27, if_neg g1, if_pos (gin hs (by omega)), if_pos (gin (show c < 24 by omega) (by omega)), show nI c + 1 = nI (c + 1) from niAdd c 1, if_pos (gin hc (by omega)), niCl (by omega), niCl (by omega), niCl (by omega)]
  simp only [vlet_eq]
  rw [if_pos (gin hc (by omega)), niCl (by omega), show nI s + 1 = nI (s + 1) from niAdd s 1]
  rfl
theorem stirC_end {q : rV → Nat → Nat → Int32 → Option rV} {n B kd c : Nat} {vc : rV} : f_X5_stir_27 q (n + 1) vc B kd (nI c) (nI 2) = q vc B kd (nI (c + 1)) := by
  rw [f_X5_stir_27, if_pos (show (2 : Int32) ≤ nI 2 from by decide)]
  simp only [vlet_eq]
  rw [show nI c + 1 = nI (c + 1) from niAdd c 1]
theorem stirM {q : rV → Int32 → Option rV} {n c s : Nat} {vm : rV} (hs : s < 2) (hc : c + 1 < 24) :
    f_X8_stir_15 q (n + 1) vm (nI c) (nI s) = f_X8_stir_15 q n (mvr vm 187 (24 + 24 * s + c) (24 + 24 * s + (c + 1)) ((vm.1 187 (24 + 24 * s + c) - vm.1 187 (24 + 24 * s + (c + 1))) / 2)) (nI c) (nI (s + 1)) := by
  have g1 : ¬ (2 : Int32) ≤ nI s := nle (a := 2) (by omega) (by omega)
  have e : (24 : Int32) + (24 : Int32) * nI s + nI c = nI (24 + 24 * s + c) := by rw [show (24 : Int32) = nI 24 from rfl, niMul, niAdd, niAdd]
  have e1 : nI (24 + 24 * s + c) + 1 = nI (24 + 24 * s + (c + 1)) := niAdd _ 1
  rw [f_X8_stir_15, if_neg g1]
  simp only [vlet_eq]
  rw [e, if_pos (gin (show 24 + 24 * s + c < 416 by omega) (by omega)), e1, if_pos (gin (show 24 + 24 * s + (c + 1) < 416 by omega) (by omega)), if_pos (gin (show 24 + 24 * s + (c + 1) < 416 by omega) (by omega)), niCl (by omega), niCl (by omega), show nI s + 1 = nI (s + 1) from niAdd s 1]
  rfl
theorem stirM_end {q : rV → Int32 → Option rV} {n c : Nat} {vm : rV} : f_X8_stir_15 q (n + 1) vm (nI c) (nI 2) = q vm (nI (c + 1)) := by
  rw [f_X8_stir_15, if_pos (show (2 : Int32) ≤ nI 2 from by decide)]
  simp only [vlet_eq]
  rw [show nI c + 1 = nI (c + 1) from niAdd c 1]
theorem stir_num {vm : rV} {o c : Nat} {T : Int} (h0 : T ≤ 100000) (a : Am vm o T) (hc : c + 1 < 24) : 0 ≤ (vm.1 187 (o + c)).toInt - ((vm.1 187 (o + c) - vm.1 187 (o + (c + 1))) / 2).toInt ∧ 0 ≤ (vm.1 187 (o + (c + 1))).toInt + ((vm.1 187 (o + c) - vm.1 187 (o + (c + 1))) / 2).toInt := by
  have x := a.one (c := c) (by omega)
  have y := a.one (c := c + 1) hc
  rw [div_toInt (by decide), sub_toInt (by omega) (by omega)]
  exact half_le x.1 y.1
def Sf (B : Nat) : Nat → Nat → Prop := fun k _ => k = B + 5 ∨ k = B + 6
def Tf : Nat → Nat → Prop := fun k j => k = 187 ∧ 24 ≤ j ∧ j < 72
theorem stir_go {B kd l : Nat} {T0 T1 : Int} (h0 : T0 ≤ 100000) (h1 : T1 ≤ 100000) (hkd : B + 7 < kd) (hl : l < 24) : ∀ (d c n m : Nat) (vc vm : rV), c + d = l → d < n → d < m → vc.1 kd 3 = nI l → vm.1 174 38 = nI l → FF B vc vm → Am vm 24 T0 → Am vm 48 T1 →
    ∃ vc' vm', f_X5_stir_17 n vc B kd (nI c) = some vc' ∧ f_X8_stir_5 m vm (nI c) = some vm' ∧ FF B vc' vm' ∧ Am vm' 24 T0 ∧ Am vm' 48 T1 ∧ Ch (Sf B) vc vc' ∧ Ch Tf vm vm' := by
  intro d
  induction d with
  | zero =>
    intro c n m vc vm e hn hm e1 e2 hF a0 a1
    obtain ⟨n, rfl⟩ : ∃ n', n = n' + 1 := ⟨n - 1, by omega⟩
    obtain ⟨m, rfl⟩ : ∃ m', m = m' + 1 := ⟨m - 1, by omega⟩
    refine ⟨vc, vm, ?_, ?_, hF, a0, a1, Ch.rf, Ch.rf⟩
    · rw [f_X5_stir_17, e1, if_pos (by rw [niLe (by omega) (by omega)]; omega)]
    · rw [f_X8_stir_5, e2, if_pos (by rw [niLe (by omega) (by omega)]; omega)]
  | succ d ih =>
    intro c n m vc vm e hn hm e1 e2 hF a0 a1
    obtain ⟨n, rfl⟩ : ∃ n', n = n' + 1 := ⟨n - 1, by omega⟩
    obtain ⟨m, rfl⟩ : ∃ m', m = m' + 1 := ⟨m - 1, by omega⟩
    rw [f_X5_stir_17, e1, if_neg (by rw [niLe (by omega) (by omega)]; omega), f_X8_stir_5, e2, if_neg (by rw [niLe (by omega) (by omega)]; omega)]
    rw [show (0 : Int32) = nI 0 from rfl, stirC (s := 0) (by omega) (by omega), stirC (s := 1) (by omega) (by omega), stirC_end, stirM (s := 0) (by omega) (by omega), stirM (s := 1) (by omega) (by omega), stirM_end]
    simp only [Nat.add_zero, Nat.mul_zero, Nat.mul_one, show B + 5 + 1 = B + 6 from rfl, show 24 + 24 = 48 from rfl]
    have k0 := stir_num h0 a0 (c := c) (by omega)
    have p0 := hF.1 c (by omega)
    have p1 := hF.1 (c + 1) (by omega)
    obtain ⟨z, ez⟩ : ∃ z, z = (vm.1 187 (24 + c) - vm.1 187 (24 + (c + 1))) / 2 := ⟨_, rfl⟩
    rw [p0, p1, ← ez]
    rw [← ez] at k0
    have b0 := a0.mv h0 (i := c) (j := c + 1) (z := z) (by omega) (by omega) (by omega) k0.1 k0.2
    have b1 := a1.mvo (k := 187) (i := 24 + c) (j := 24 + (c + 1)) (z := z) (by omega)
    have r0 := hF.1.mv (z := z) (i := c) (j := c + 1) (by omega) (by omega)
    have r1 := hF.2.mvo (k1 := B + 5) (i := c) (j := c + 1) (z := z) (k2 := 187) (i' := 24 + c) (j' := 24 + (c + 1)) (z' := z) (by omega) (by omega)
    have f1 : (mvr vc (B + 5) c (c + 1) z).1 kd 3 = nI l := by rw [mv_no (by omega)]; exact e1
    have f2 : (mvr vm 187 (24 + c) (24 + (c + 1)) z).1 174 38 = nI l := by rw [mv_no (by omega)]; exact e2
    have c1 : Ch (Sf B) vc (mvr vc (B + 5) c (c + 1) z) := Ch.rf.mv (Or.inl rfl) (Or.inl rfl)
    have c2 : Ch Tf vm (mvr vm 187 (24 + c) (24 + (c + 1)) z) := Ch.rf.mv ⟨rfl, by omega, by omega⟩ ⟨rfl, by omega, by omega⟩
    change Am (mvr vm 187 (24 + c) (24 + (c + 1)) z) 24 T0 at b0
    generalize mvr vc (B + 5) c (c + 1) z = vc1 at *
    generalize mvr vm 187 (24 + c) (24 + (c + 1)) z = vm1 at *
    have k1 := stir_num h1 b1 (c := c) (by omega)
    have p2 := r1 c (by omega)
    have p3 := r1 (c + 1) (by omega)
    obtain ⟨y, ey⟩ : ∃ y, y = (vm1.1 187 (48 + c) - vm1.1 187 (48 + (c + 1))) / 2 := ⟨_, rfl⟩
    rw [p2, p3, ← ey]
    rw [← ey] at k1
    obtain ⟨vc', vm', g1, g2, g3, g4, g5, g6, g7⟩ := ih (c + 1) n m (mvr vc1 (B + 6) c (c + 1) y) (mvr vm1 187 (48 + c) (48 + (c + 1)) y) (by omega) (by omega) (by omega) (by rw [mv_no (by omega)]; exact f1) (by rw [mv_no (by omega)]; exact f2)
      ⟨r0.mvo (by omega) (by omega), r1.mv (by omega) (by omega)⟩ (b0.mvo (by omega)) (b1.mv h1 (i := c) (j := c + 1) (z := y) (by omega) (by omega) (by omega) k1.1 k1.2)
    exact ⟨vc', vm', g1, g2, g3, g4, g5, (c1.mv (Or.inr rfl) (Or.inr rfl)).tr g6, (c2.mv ⟨rfl, by omega, by omega⟩ ⟨rfl, by omega, by omega⟩).tr g7⟩
