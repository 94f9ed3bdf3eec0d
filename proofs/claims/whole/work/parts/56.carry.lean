/-! CARRY: grains go with the flow -/
def gNu (a u b p : Nat) : Nat := (if a * u / b < a then a * u / b else a) * (100 - p) / 100
theorem gN_le {a u b p : Nat} : gNu a u b p ≤ a := by
  unfold gNu
  have h : (if a * u / b < a then a * u / b else a) ≤ a := by split <;> omega
  generalize (if a * u / b < a then a * u / b else a) = w at *
  have : w * (100 - p) ≤ w * 100 := Nat.mul_le_mul_left _ (by omega)
  have h2 : w * (100 - p) / 100 ≤ w * 100 / 100 := Nat.div_le_div_right this
  omega
theorem gC {a u b p : Nat} (ha : a ≤ 12000) (hu : u ≤ 12000) (hb : b ≤ 12000) : ((if nI a * nI u / nI b < nI a then nI a * nI u / nI b else nI a) * nI (100 - p)) / (100 : Int32) = nI (gNu a u b p) := by
  have h1 : a * u ≤ 144000000 := Nat.mul_le_mul ha hu
  have h2 : a * u / b ≤ 144000000 := Nat.le_trans (Nat.div_le_self _ _) h1
  unfold gNu
  rw [niMul, niDiv (by omega) (by omega)]
  have e : (if nI (a * u / b) < nI a then nI (a * u / b) else nI a) = nI (if a * u / b < a then a * u / b else a) := by
    by_cases q : a * u / b < a
    · rw [if_pos q, if_pos (plt q (by omega))]
    · rw [if_neg q, if_neg (nlt (by omega) (by omega))]
  rw [e]
  have h3 : (if a * u / b < a then a * u / b else a) ≤ 12000 := by split <;> omega
  have h4 : (if a * u / b < a then a * u / b else a) * (100 - p) ≤ 12000 * 100 := Nat.mul_le_mul h3 (by omega)
  rw [niMul, show (100 : Int32) = nI 100 from rfl, niDiv (by omega) (by omega)]
theorem i64lt {a b : Nat} (ha : a < 2147483648) (hb : b < 2147483648) : (Int64.ofInt (a : Int) < Int64.ofInt (b : Int)) = (a < b) := by
  apply propext
  rw [Int64.lt_iff_toInt_lt, Int64.toInt_ofInt_of_le (by omega) (by omega), Int64.toInt_ofInt_of_le (by omega) (by omega)]
  omega
theorem ni64' {a : Nat} (ha : a < 2147483648) : (nI a).toInt64 = Int64.ofInt (a : Int) := by
  rw [← Int64.toInt_inj, ni64 ha, Int64.toInt_ofInt_of_le (by omega) (by omega)]
theorem gM {a u b p : Nat} (ha : a ≤ 12000) (hu : u ≤ 12000) (hb : b ≤ 12000) (hp : p ≤ 100) : ((if ((nI a).toInt64 * (nI u).toInt64) / (nI b).toInt64 < (nI a).toInt64 then ((nI a).toInt64 * (nI u).toInt64) / (nI b).toInt64 else (nI a).toInt64).toInt32 * ((100 : Int32) - nI p)) / (100 : Int32) = nI (gNu a u b p) := by
  have h1 : a * u ≤ 144000000 := Nat.mul_le_mul ha hu
  have h2 : a * u / b ≤ 144000000 := Nat.le_trans (Nat.div_le_self _ _) h1
  unfold gNu
  rw [niLong (by omega) (by omega) (by omega), ni64' (by omega)]
  have e : (if Int64.ofInt ((a * u / b : Nat) : Int) < Int64.ofInt (a : Int) then Int64.ofInt ((a * u / b : Nat) : Int) else Int64.ofInt (a : Int)).toInt32 = nI (if a * u / b < a then a * u / b else a) := by
    by_cases q : a * u / b < a
    · rw [if_pos q, if_pos (by rw [i64lt (by omega) (by omega)]; exact q), ni32 (by omega)]
    · rw [if_neg q, if_neg (by rw [i64lt (by omega) (by omega)]; exact q), ni32 (by omega)]
  rw [e]
  have h3 : (if a * u / b < a then a * u / b else a) ≤ 12000 := by split <;> omega
  have h4 : (if a * u / b < a then a * u / b else a) * (100 - p) ≤ 12000 * 100 := Nat.mul_le_mul h3 (by omega)
  rw [show (100 : Int32) - nI p = nI (100 - p) from niSub (a := 100) hp, niMul, show (100 : Int32) = nI 100 from rfl, niDiv (by omega) (by omega)]
theorem carC {n B i j u s b p a : Nat} {vc : rV} (hs : s < 2) (hi : i < 24) (hj : j < 24) (ha : a ≤ 12000) (hu : u ≤ 12000) (hb : b ≤ 12000) (hb1 : 0 < b) (e1 : vc.1 (B + 5 + s) i = nI a) (e2 : vc.1 (B + 2) i = nI b) :
    f_X5_carry_60 (n + 1) vc B (nI i) (nI j) (nI u) (nI (100 - p)) (nI s) = f_X5_carry_60 n (mvr vc (B + 5 + s) i j (nI (gNu a u b p))) B (nI i) (nI j) (nI u) (nI (100 - p)) (nI (s + 1)) := by
  rw [f_X5_carry_60, if_neg (show ¬ (2 : Int32) ≤ nI s from nle (a := 2) (by omega) (by omega)), if_pos (gin hs (by omega)), if_pos (gin hi (by omega))]
  simp only [vlet_eq]
  rw [niCl (show s < 2147483648 by omega), niCl (show i < 2147483648 by omega), e2, if_neg (show ¬ nI b = 0 from nne (b := 0) (by omega) (by omega) (by omega)), if_pos (gin hj (by omega)), niCl (show j < 2147483648 by omega), ad1]
  unfold mvr
  rw [e1, gC ha hu hb]
theorem carM {q : rV → Int32 → Option rV} {n c i j u s b p a : Nat} {x : Int32} {vm : rV} (hs : s < 2) (hi : i < 24) (hj : j < 24) (ha : a ≤ 12000) (hu : u ≤ 12000) (hb : b ≤ 12000) (hb1 : 0 < b) (hp : p ≤ 100) (hx : ¬ x = 0) (hxu : (if 0 ≤ x then x else 0 - x) = nI u) (e1 : vm.1 187 (24 + 24 * s + i) = nI a) (e2 : vm.1 194 i = nI b) (e3 : f_X8_of vm 7 = some (nI p)) :
    f_X8_carry_95 q (n + 1) vm (nI c) x (nI i) (nI j) (nI 0) (nI s) = f_X8_carry_95 q n (mvr vm 187 (24 + 24 * s + i) (24 + 24 * s + j) (nI (gNu a u b p))) (nI c) x (nI i) (nI j) (nI 0) (nI (s + 1)) := by
  have ei : (24 : Int32) + (24 : Int32) * nI s + nI i = nI (24 + 24 * s + i) := by rw [show (24 : Int32) = nI 24 from rfl, niMul, niAdd, niAdd]
  have ej : (24 : Int32) + (24 : Int32) * nI s + nI j = nI (24 + 24 * s + j) := by rw [show (24 : Int32) = nI 24 from rfl, niMul, niAdd, niAdd]
  rw [f_X8_carry_95, if_neg (show ¬ (2 : Int32) ≤ nI s from nle (a := 2) (by omega) (by omega)), if_neg hx, if_pos (gin hi (by omega)), niCl (show i < 2147483648 by omega), e2, if_neg (show ¬ nI b ≤ 0 from nle (b := 0) (by omega) (by omega)), if_pos (show nI 0 = 0 from rfl), ei, ej, if_pos (gin (show 24 + 24 * s + i < 416 by omega) (by omega))]
  simp only [vlet_eq]
  rw [niCl (show 24 + 24 * s + i < 2147483648 by omega), if_neg (fun z => by
      have := ni64 (a := b) (by omega)
      rw [z] at this
      exact absurd this (by rw [show (0 : Int64).toInt = 0 from by decide]; omega)), e3]
  simp only [Option.bind_some]
  rw [if_pos ⟨niGe (show 24 + 24 * s + i < 2147483648 by omega), show 24 + 24 * s + i < 416 by omega⟩, if_pos (gin (show 24 + 24 * s + j < 416 by omega) (by omega)), niCl (show 24 + 24 * s + j < 2147483648 by omega), ad1, hxu]
  unfold mvr
  rw [e1, gM ha hu hb hp]
/-- one cell gives its neighbour -/
theorem car1 {q : rV → Int32 → Option rV} {B kd own f l c i j u p : Nat} {x : Int32} {T0 T1 : Int} {vc vm : rV} (h0 : T0 ≤ 12000) (h1 : T1 ≤ 12000) (hb : BD B kd own f l vc vm) (hi : i < 24) (hj : j < 24) (hij : i ≠ j) (hu : u ≤ 12000) (hx : ¬ x = 0) (hxu : (if 0 ≤ x then x else 0 - x) = nI u) (hF : FF B vc vm) (a0 : Am vm 24 T0) (a1 : Am vm 48 T1) (hB : vc.1 (B + 2) i = vm.1 194 i) (hB0 : 0 ≤ (vm.1 194 i).toInt) (hB1 : (vm.1 194 i).toInt ≤ 12000) (hp : vm.1 185 (12 * own + 7) = nI p) (hp2 : p ≤ 100) :
    ∃ vc' vm', f_X5_carry vc B (nI i) (nI j) (nI u) (nI (100 - p)) = some vc' ∧ f_X8_carry_47 q vm (nI c) x (nI i) (nI j) = q vm' (nI (c + 1)) ∧ FF B vc' vm' ∧ Am vm' 24 T0 ∧ Am vm' 48 T1 ∧ Ch (Sf B) vc vc' ∧ Ch Tf vm vm' := by
  obtain ⟨b, eb, hb1⟩ : ∃ b, vm.1 194 i = nI b ∧ b ≤ 12000 := ⟨_, niOf hB0, by omega⟩
  have r0 := a0.one hi
  have r1 := a1.one hi
  obtain ⟨g0, eg0, hg0⟩ : ∃ b, vm.1 187 (24 + i) = nI b ∧ b ≤ 12000 := ⟨_, niOf r0.1, by omega⟩
  obtain ⟨g1, eg1, hg1⟩ : ∃ b, vm.1 187 (48 + i) = nI b ∧ b ≤ 12000 := ⟨_, niOf r1.1, by omega⟩
  rw [eb] at hB
  have ef0 : vc.1 (B + 5) i = nI g0 := (hF.1 i hi).trans eg0
  have ef1 : vc.1 (B + 6) i = nI g1 := (hF.2 i hi).trans eg1
  have eo : f_X8_of vm 7 = some (nI p) := by rw [show (7 : Int32) = nI 7 from rfl, hb.of (by omega), hp]
  -- none goes
  have stay : ∀ a6, f_X8_carry_95 q 20000 vm (nI c) x (nI i) (nI j) a6 0 = q vm (nI (c + 1)) → f_X8_carry_90 q vm (nI c) x (nI i) (nI j) a6 = q vm (nI (c + 1)) := fun a6 h => h
  have st226 : f_X8_carry_226 q vm (nI c) = q vm (nI (c + 1)) := by
    unfold f_X8_carry_226
    simp only [vlet_eq]
    rw [ad1]
  unfold f_X5_carry
  rw [if_pos (gin hi (by omega)), niCl (show i < 2147483648 by omega)]
  simp only [vlet_eq]
  rw [show B + 5 + 1 = B + 6 from rfl, show B + 5 + 0 = B + 5 from rfl, ef0, ef1]
  unfold f_X8_carry_47
  rw [show (48 : Int32) + nI i = nI (48 + i) from niAdd 48 i, show (24 : Int32) + nI i = nI (24 + i) from niAdd 24 i, if_pos (gin (show 48 + i < 416 by omega) (by omega))]
  simp only [vlet_eq]
  rw [if_pos (gin (show 24 + i < 416 by omega) (by omega)), niCl (show 48 + i < 2147483648 by omega), niCl (show 24 + i < 2147483648 by omega), eg0, eg1, show (10 : Int32) = nI 10 from rfl, niMul, niAdd, niAdd, Nat.add_comm g0 g1]
  have go : ∃ vc' vm', f_X5_carry_38 vc B (nI i) (nI j) (nI u) (nI (100 - p)) = some vc' ∧ f_X8_carry_89 q vm (nI c) x (nI i) (nI j) = q vm' (nI (c + 1)) ∧ FF B vc' vm' ∧ Am vm' 24 T0 ∧ Am vm' 48 T1 ∧ Ch (Sf B) vc vc' ∧ Ch Tf vm vm' := by
    unfold f_X5_carry_38 f_X5_carry_39 f_X8_carry_89 f_X8_carry_90
    rw [if_pos (gin hi (by omega)), niCl (show i < 2147483648 by omega), hB]
    by_cases z : b = 0
    · subst z
      rw [if_pos (show nI 0 < 1 by decide)]
      refine ⟨vc, vm, rfl, ?_, hF, a0, a1, Ch.rf, Ch.rf⟩
      rw [f_X8_carry_95, if_neg (show ¬ (2 : Int32) ≤ 0 by decide), if_neg hx, if_pos (gin hi (by omega)), niCl (show i < 2147483648 by omega), eb, if_pos (show nI 0 ≤ 0 by decide)]
      exact st226
    · rw [if_neg (show ¬ nI b < 1 from nlt (b := 1) (by omega) (by omega)), if_pos rfl, show (0 : Int32) = nI 0 from rfl]
      have m0 := hF.1.mv (z := nI (gNu g0 u b p)) hi hj
      have m1 := hF.2.mvo (k1 := B + 5) (i := i) (j := j) (z := nI (gNu g0 u b p)) (k2 := 187) (i' := 24 + i) (j' := 24 + j) (z' := nI (gNu g0 u b p)) (by omega) (by omega)
      have hle0 : gNu g0 u b p ≤ g0 := gN_le
      have hle1 : gNu g1 u b p ≤ g1 := gN_le
      have r0' := a0.one hj
      have r1' := a1.one hj
      have b0 : Am (mvr vm 187 (24 + i) (24 + j) (nI (gNu g0 u b p))) 24 T0 := a0.mv (by omega) hi hj hij (by rw [eg0, niInt (by omega), niInt (by omega)]; omega) (by rw [niInt (a := gNu g0 u b p) (by omega)]; omega)
      have b1 : Am (mvr vm 187 (24 + i) (24 + j) (nI (gNu g0 u b p))) 48 T1 := a1.mvo (by omega)
      have c1 : Ch (Sf B) vc (mvr vc (B + 5) i j (nI (gNu g0 u b p))) := Ch.rf.mv (Or.inl rfl) (Or.inl rfl)
      have c2 : Ch Tf vm (mvr vm 187 (24 + i) (24 + j) (nI (gNu g0 u b p))) := Ch.rf.mv ⟨rfl, by omega, by omega⟩ ⟨rfl, by omega, by omega⟩
      have k1 : (mvr vc (B + 5) i j (nI (gNu g0 u b p))).1 (B + 5 + 1) i = nI g1 := by rw [mv_no (by omega)]; exact ef1
      have k2 : (mvr vc (B + 5) i j (nI (gNu g0 u b p))).1 (B + 2) i = nI b := by rw [mv_no (by omega)]; exact hB
      have k3 : (mvr vm 187 (24 + i) (24 + j) (nI (gNu g0 u b p))).1 187 (24 + 24 * 1 + i) = nI g1 := by rw [mv_no (by omega)]; exact eg1
      have k4 : (mvr vm 187 (24 + i) (24 + j) (nI (gNu g0 u b p))).1 194 i = nI b := by rw [mv_no (by omega)]; exact eb
      have k5 : f_X8_of (mvr vm 187 (24 + i) (24 + j) (nI (gNu g0 u b p))) 7 = some (nI p) := by
        have hb2 := hb.ch c1 c2 (by unfold Sf; have := hb.2.2.1; omega) (by unfold Sf; have := hb.2.2.1; omega) (fun j _ _ => by unfold Sf; have := hb.2.2.1; omega) (fun j _ _ => by unfold Tf; omega) (fun j => by unfold Tf; omega)
        rw [show (7 : Int32) = nI 7 from rfl, hb2.of (by omega), mv_no (by omega), hp]
      rw [carC (s := 0) (by omega) hi hj hg0 hu hb1 (by omega) ef0 hB, carM (s := 0) (by omega) hi hj hg0 hu hb1 (by omega) hp2 hx hxu eg0 eb eo]
      simp only [Nat.mul_zero, Nat.add_zero, Nat.zero_add]
      have m1' := m1 i hi
      have q1 := b1.one hi
      have q1' := b1.one hj
      have k3' : (mvr vm 187 (24 + i) (24 + j) (nI (gNu g0 u b p))).1 187 (48 + i) = nI g1 := k3
      generalize mvr vc (B + 5) i j (nI (gNu g0 u b p)) = wc at *
      generalize mvr vm 187 (24 + i) (24 + j) (nI (gNu g0 u b p)) = wm at *
      rw [carC (s := 1) (by omega) hi hj hg1 hu hb1 (by omega) k1 k2, carM (s := 1) (by omega) hi hj hg1 hu hb1 (by omega) hp2 hx hxu k3 k4 k5]
      refine ⟨mvr wc (B + 6) i j (nI (gNu g1 u b p)), mvr wm 187 (48 + i) (48 + j) (nI (gNu g1 u b p)), ?_, ?_, ⟨m0.mvo (by omega) (by omega), m1.mv hi hj⟩, b0.mvo (by omega), b1.mv (by omega) hi hj hij (by rw [k3', niInt (by omega), niInt (by omega)]; omega) (by rw [niInt (a := gNu g1 u b p) (by omega)]; omega), c1.mv (Or.inr rfl) (Or.inr rfl), c2.mv ⟨rfl, by omega, by omega⟩ ⟨rfl, by omega, by omega⟩⟩
      · rw [f_X5_carry_60, if_pos (show (2 : Int32) ≤ nI (1 + 1) by decide)]
      · rw [f_X8_carry_95, if_pos (show (2 : Int32) ≤ nI (1 + 1) by decide)]
        unfold f_X8_carry_226
        simp only [vlet_eq]
        rw [ad1]
  by_cases z : nI g1 ≤ 0
  · rw [if_pos z, if_pos z]
    exact go
  · rw [if_neg z, if_neg z]
    by_cases y : nI (10 * g1) < nI (g1 + g0)
    · rw [if_pos y, if_pos y]
      exact go
    · rw [if_neg y, if_neg y]
      refine ⟨vc, vm, ?_, ?_, hF, a0, a1, Ch.rf, Ch.rf⟩
      · unfold f_X5_carry_39
        rw [if_pos (gin hi (by omega))]
        by_cases w : vc.1 (B + 2) (nI i).toNatClampNeg < 1
        · rw [if_pos w]
        · rw [if_neg w, if_neg (show ¬ (1 : Int32) = 0 by decide)]
      · unfold f_X8_carry_90
        rw [f_X8_carry_95, if_neg (show ¬ (2 : Int32) ≤ 0 by decide), if_neg hx, if_pos (gin hi (by omega)), st226, if_neg (show ¬ (1 : Int32) = 0 by decide), ite_self]
theorem carry_go {B kd own f l p : Nat} {T0 T1 : Int} (h0 : T0 ≤ 12000) (h1 : T1 ≤ 12000) (hp2 : p ≤ 100) : ∀ (d c n m : Nat) (vc vm : rV), f ≤ c → c + d = l → d < n → d < m → BD B kd own f l vc vm → FF B vc vm → Am vm 24 T0 → Am vm 48 T1 → (∀ i, f ≤ i → i ≤ l → vc.1 (B + 2) i = vm.1 194 i ∧ 0 ≤ (vm.1 194 i).toInt ∧ (vm.1 194 i).toInt ≤ 12000) → Rw vc (B + 11) vm 187 168 24 → (∀ i, f ≤ i → i < l → -(12000 : Int) ≤ (vm.1 187 (168 + i)).toInt ∧ (vm.1 187 (168 + i)).toInt ≤ 12000) → vm.1 185 (12 * own + 7) = nI p →
    ∃ vc' vm', f_X5_carryAll_16 n vc B kd (nI (100 - p)) (nI c) = some vc' ∧ f_X8_carry_5 m vm (nI c) = some vm' ∧ FF B vc' vm' ∧ Am vm' 24 T0 ∧ Am vm' 48 T1 ∧ Ch (Sf B) vc vc' ∧ Ch Tf vm vm' := by
  intro d
  induction d with
  | zero =>
    intro c n m vc vm g1 g2 hn hm hb hF a0 a1 hB hFl hFb hp
    obtain ⟨n, rfl⟩ : ∃ n', n = n' + 1 := ⟨n - 1, by omega⟩
    obtain ⟨m, rfl⟩ : ∃ m', m = m' + 1 := ⟨m - 1, by omega⟩
    obtain ⟨⟨x1, x2⟩, ⟨b1, b2, b3⟩, ⟨c0, hfl, hl, hkd⟩, -, -⟩ := hb
    refine ⟨vc, vm, ?_, ?_, hF, a0, a1, Ch.rf, Ch.rf⟩
    · rw [f_X5_carryAll_16, x2, if_pos (ple (by omega) (by omega))]
    · rw [f_X8_carry_5, b2, if_pos (ple (by omega) (by omega))]
  | succ d ih =>
    intro c n m vc vm g1 g2 hn hm hb hF a0 a1 hB hFl hFb hp
    obtain ⟨n, rfl⟩ : ∃ n', n = n' + 1 := ⟨n - 1, by omega⟩
    obtain ⟨m, rfl⟩ : ∃ m', m = m' + 1 := ⟨m - 1, by omega⟩
    have hb0 := hb
    obtain ⟨⟨x1, x2⟩, ⟨b1, b2, b3⟩, ⟨c0, hfl, hl, hkd⟩, -, -⟩ := hb
    obtain ⟨y, ey⟩ : ∃ y, y = vm.1 187 (168 + c) := ⟨_, rfl⟩
    have hyb := hFb c g1 (by omega)
    rw [← ey] at hyb
    rw [f_X5_carryAll_16, x2, if_neg (nle (by omega) (by omega)), if_pos (gin (show c < 24 by omega) (by omega)), f_X8_carry_5, b2, if_neg (nle (by omega) (by omega)), show (168 : Int32) + nI c = nI (168 + c) from niAdd 168 c, if_pos (gin (show 168 + c < 416 by omega) (by omega)), niCl (show c < 2147483648 by omega), niCl (show 168 + c < 2147483648 by omega), hFl c (by omega), ← ey, ad1]
    simp only [vlet_eq]
    unfold f_X8_carry_35
    rw [ad1]
    have next : ∀ (wc wm : rV), FF B wc wm → Am wm 24 T0 → Am wm 48 T1 → Ch (Sf B) vc wc → Ch Tf vm wm → ∃ vc' vm', f_X5_carryAll_76 (fun v k0 k1 a2 a3 => f_X5_carryAll_16 n v k0 k1 a2 a3) wc B kd (nI (100 - p)) (nI c) = some vc' ∧ f_X8_carry_5 m wm (nI (c + 1)) = some vm' ∧ FF B vc' vm' ∧ Am vm' 24 T0 ∧ Am vm' 48 T1 ∧ Ch (Sf B) vc vc' ∧ Ch Tf vm vm' := fun wc wm r1 r2 r3 r4 r5 => by
      obtain ⟨vc', vm', k1, k2, k3, k4, k5, k6, k7⟩ := ih (c + 1) n m wc wm (by omega) (by omega) (by omega) (by omega)
        (hb0.ch r4 r5 (by unfold Sf; omega) (by unfold Sf; omega) (fun j _ _ => by unfold Sf; omega) (fun j _ _ => by unfold Tf; omega) (fun j => by unfold Tf; omega)) r1 r2 r3
        (fun i z1 z2 => by rw [r4.1 _ _ (by unfold Sf; omega), r5.1 _ _ (by unfold Tf; omega)]; exact hB i z1 z2)
        (hFl.ch r4 r5 (fun i _ => by unfold Sf; omega) (fun i _ => by unfold Tf; omega))
        (fun i z1 z2 => by rw [r5.1 _ _ (by unfold Tf; omega)]; exact hFb i z1 z2)
        (by rw [r5.1 _ _ (by unfold Tf; omega)]; exact hp)
      refine ⟨vc', vm', ?_, k2, k3, k4, k5, r4.tr k6, r5.tr k7⟩
      unfold f_X5_carryAll_76
      simp only [vlet_eq]
      rw [ad1]
      exact k1
    by_cases p1 : y ≤ 0
    · rw [if_pos p1, if_pos p1]
      by_cases p2 : 0 ≤ y
      · -- no flow
        rw [if_pos p2, if_pos p1]
        have hy0 : y = 0 := by
          rw [le_toInt] at p1 p2
          rw [eq_toInt]
          exact Int.le_antisymm p1 p2
        obtain ⟨vc', vm', k1, k2, k3, k4, k5, k6, k7⟩ := next vc vm hF a0 a1 Ch.rf Ch.rf
        refine ⟨vc', vm', k1, ?_, k3, k4, k5, k6, k7⟩
        rw [← k2]
        have st : ∀ a6, f_X8_carry_90 (fun v a1 => f_X8_carry_5 m v a1) vm (nI c) y (nI (c + 1)) (nI c) a6 = f_X8_carry_5 m vm (nI (c + 1)) := fun a6 => by
          unfold f_X8_carry_90
          rw [f_X8_carry_95, if_neg (show ¬ (2 : Int32) ≤ 0 by decide), if_pos hy0]
          unfold f_X8_carry_226
          simp only [vlet_eq]
          rw [ad1]
        unfold f_X8_carry_47
        rw [show (48 : Int32) + nI (c + 1) = nI (48 + (c + 1)) from niAdd 48 _, show (24 : Int32) + nI (c + 1) = nI (24 + (c + 1)) from niAdd 24 _, if_pos (gin (show 48 + (c + 1) < 416 by omega) (by omega))]
        simp only [vlet_eq]
        rw [if_pos (gin (show 24 + (c + 1) < 416 by omega) (by omega))]
        simp only [f_X8_carry_89, st, ite_self]
      · rw [if_neg p2, if_pos p1]
        have hn0 : ¬ y = 0 := fun e => p2 (by rw [e]; decide)
        have hneg : y.toInt < 0 := by
          rw [le_toInt] at p2
          have : (0 : Int32).toInt = 0 := rfl
          omega
        have e1 : (-y).toInt = -y.toInt := neg_toInt (by omega)
        have e2 : -y = nI (-y).toInt.toNat := niOf (by omega)
        obtain ⟨wc, wm, k1, k2, k3, k4, k5, k6, k7⟩ := car1 (q := fun v a1 => f_X8_carry_5 m v a1) (c := c) (i := c + 1) (j := c) (u := (-y).toInt.toNat) (x := y) (p := p) h0 h1 hb0 (by omega) (by omega) (by omega) (by omega) hn0 (by rw [if_neg p2, ← e2, Int32.zero_sub]) hF a0 a1 (hB (c + 1) (by omega) (by omega)).1 (hB (c + 1) (by omega) (by omega)).2.1 (hB (c + 1) (by omega) (by omega)).2.2 hp hp2
        rw [e2, k1, k2]
        exact next wc wm k3 k4 k5 k6 k7
    · rw [if_neg p1, if_neg p1, if_neg p1]
      have hpos : 0 < y.toInt := by
        rw [le_toInt] at p1
        have : (0 : Int32).toInt = 0 := rfl
        omega
      have hn0 : ¬ y = 0 := fun e => p1 (by rw [e]; decide)
      have p2 : 0 ≤ y := by
        rw [le_toInt]
        have : (0 : Int32).toInt = 0 := rfl
        omega
      have e2 : y = nI y.toInt.toNat := niOf (by omega)
      obtain ⟨wc, wm, k1, k2, k3, k4, k5, k6, k7⟩ := car1 (q := fun v a1 => f_X8_carry_5 m v a1) (c := c) (i := c) (j := c + 1) (u := y.toInt.toNat) (x := y) (p := p) h0 h1 hb0 (by omega) (by omega) (by omega) (by omega) hn0 (by rw [if_pos p2, ← e2]) hF a0 a1 (hB c (by omega) (by omega)).1 (hB c (by omega) (by omega)).2.1 (hB c (by omega) (by omega)).2.2 hp hp2
      rw [k2]
      rw [← e2] at k1
      rw [k1]
      exact next wc wm k3 k4 k5 k6 k7
