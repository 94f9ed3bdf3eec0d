/-! BEARING -/
def Sby (B f l : Nat) : Nat → Nat → Prop := fun k j => ((k = B + 5 ∨ k = B + 6 ∨ k = B + 8 ∨ k = B + 9 ∨ k = B + 10) ∧ f ≤ j ∧ j ≤ l) ∨ (k = B ∧ j = 3)
def Tby (f l : Nat) : Nat → Nat → Prop := fun k j => (k = 187 ∧ ((24 + f ≤ j ∧ j ≤ 24 + l) ∨ (48 + f ≤ j ∧ j ≤ 48 + l) ∨ (72 + f ≤ j ∧ j ≤ 72 + l) ∨ (96 + f ≤ j ∧ j ≤ 96 + l))) ∨ (k = 193 ∧ ((f ≤ j ∧ j ≤ l) ∨ (24 + f ≤ j ∧ j ≤ 24 + l)))
theorem bear_num {a b w c : Int32} {x : Int32} (ha : 0 ≤ a.toInt) (ha2 : a.toInt ≤ 12000) (hb : 0 ≤ b.toInt) (hb2 : b.toInt ≤ 12000) (hw : 0 ≤ w.toInt) (hw2 : w.toInt ≤ 12000) (hc : 0 ≤ c.toInt) (hc2 : c.toInt ≤ 99) (hx : x = (a + b) - (w * c) / 10) (hp : ¬ x ≤ 0) :
    (0 ≤ (if a < x then a else x).toInt ∧ (if a < x then a else x).toInt ≤ a.toInt) ∧ (0 ≤ (x - (if a < x then a else x)).toInt ∧ (x - (if a < x then a else x)).toInt ≤ b.toInt) := by
  have e1 : (a + b).toInt = a.toInt + b.toInt := add_toInt (by omega) (by omega)
  have hwc : 0 ≤ w.toInt * c.toInt ∧ w.toInt * c.toInt ≤ 12000 * 99 := ⟨Int.mul_nonneg hw hc, Int.mul_le_mul hw2 hc2 hc (by omega)⟩
  have e2 : (w * c).toInt = w.toInt * c.toInt := mul_toInt (by omega) (by omega)
  have e3 : (w * c / 10).toInt = (w.toInt * c.toInt).tdiv 10 := by rw [div_toInt (by decide), e2]; rfl
  have e4 : 0 ≤ (w.toInt * c.toInt).tdiv 10 ∧ (w.toInt * c.toInt).tdiv 10 ≤ 12000 * 99 := by
    rw [Int.tdiv_eq_ediv_of_nonneg hwc.1]
    omega
  have e5 : x.toInt = a.toInt + b.toInt - (w.toInt * c.toInt).tdiv 10 := by rw [hx, sub_toInt (by omega) (by omega), e1, e3]
  have e6 : 0 < x.toInt := by
    rw [le_toInt] at hp
    have : (0 : Int32).toInt = 0 := rfl
    omega
  by_cases q : a < x
  · rw [if_pos q]
    rw [lt_toInt] at q
    rw [sub_toInt (by omega) (by omega)]
    omega
  · rw [if_neg q]
    rw [lt_toInt] at q
    rw [sub_toInt (by omega) (by omega)]
    omega
theorem bear_go {B kd own f l : Nat} {pc : Int32} {S0 S1 : Int} (h0 : S0 ≤ 12000) (h1 : S1 ≤ 12000) (hpc : 0 ≤ pc) : ∀ (d c n m : Nat) (vc vm : rV), f ≤ c → c + d = l + 1 → d < n → d < m → BD B kd own f l vc vm → GG B pc S0 S1 vc vm → Rw vc (B + 1) vm 187 0 24 → (∀ i, f ≤ i → i ≤ l → 0 ≤ (vm.1 187 (0 + i)).toInt ∧ (vm.1 187 (0 + i)).toInt ≤ 12000) → (∀ i, c ≤ i → i ≤ l → vm.1 193 i = 0 ∧ vm.1 193 (24 + i) = 0) →
    ∃ vc' vm', f_X5_layDown_5 n vc B kd pc (nI c) = some vc' ∧ f_X8_bear_5 m vm (nI c) = some vm' ∧ GG B pc S0 S1 vc' vm' ∧ Ch (Sby B f l) vc vc' ∧ Ch (Tby f l) vm vm' := by
  intro d
  induction d with
  | zero =>
    intro c n m vc vm g1 g2 hn hm hb hG hW hWb hz
    obtain ⟨n, rfl⟩ : ∃ n', n = n' + 1 := ⟨n - 1, by omega⟩
    obtain ⟨m, rfl⟩ : ∃ m', m = m' + 1 := ⟨m - 1, by omega⟩
    obtain ⟨⟨x1, x2⟩, ⟨b1, b2, b3⟩, ⟨c0, hfl, hl, hkd⟩, -, -⟩ := hb
    refine ⟨vc, vm, ?_, ?_, hG, Ch.rf, Ch.rf⟩
    · rw [f_X5_layDown_5, x2, if_pos (plt (by omega) (by omega))]
    · rw [f_X8_bear_5, b2, if_pos (plt (by omega) (by omega))]
  | succ d ih =>
    intro c n m vc vm g1 g2 hn hm hb hG hW hWb hz
    obtain ⟨n, rfl⟩ : ∃ n', n = n' + 1 := ⟨n - 1, by omega⟩
    obtain ⟨m, rfl⟩ : ∃ m', m = m' + 1 := ⟨m - 1, by omega⟩
    have hb0 := hb
    obtain ⟨⟨x1, x2⟩, ⟨b1, b2, b3⟩, ⟨c0, hfl, hl, hkd⟩, hmade, htd⟩ := hb
    have hG0 := hG
    obtain ⟨⟨f0, f1⟩, -, -, -, T0, U0, T1, U1, a0, u0, a1, u1, t0, t1⟩ := hG
    have n0 := u0.nn
    have n1 := u1.nn
    have r0 := a0.one (c := c) (by omega)
    have r1 := a1.one (c := c) (by omega)
    obtain ⟨cc, ecc, -, hcc⟩ := htd 8 (by omega)
    have hcc2 : cc ≤ 99 := hcc
    have ec : vc.1 (kd + 1) 8 = nI cc := by rw [hmade 8 (by omega) (by omega), ecc]
    have eo : f_X8_of vm 8 = some (nI cc) := by rw [show (8 : Int32) = nI 8 from rfl, hb0.of (by omega), ecc]
    rw [f_X5_layDown_5, x2, if_neg (nlt (by omega) (by omega)), if_pos (gin (show c < 24 by omega) (by omega)), f_X8_bear_5, b2, if_neg (nlt (by omega) (by omega)), show (24 : Int32) + nI c = nI (24 + c) from niAdd 24 c, show (48 : Int32) + nI c = nI (48 + c) from niAdd 48 c, show (0 : Int32) + nI c = nI (0 + c) from niAdd 0 c, if_pos (gin (show 24 + c < 416 by omega) (by omega)), if_pos (gin (show 48 + c < 416 by omega) (by omega)), if_pos (gin (show 0 + c < 416 by omega) (by omega)), eo, Option.bind_some]
    simp only [vlet_eq, Nat.add_zero, show B + 5 + 1 = B + 6 from rfl]
    rw [niCl (show c < 2147483648 by omega), niCl (show 24 + c < 2147483648 by omega), niCl (show 48 + c < 2147483648 by omega), niCl (show 0 + c < 2147483648 by omega), f0 c (by omega), f1 c (by omega), hW c (by omega), ec]
    obtain ⟨x, ex⟩ : ∃ x, x = (vm.1 187 (24 + c) + vm.1 187 (48 + c)) - (vm.1 187 (0 + c) * nI cc) / 10 := ⟨_, rfl⟩
    rw [← ex]
    have next : ∀ (wc wm : rV), GG B pc S0 S1 wc wm → Ch (Sl B c) vc wc → Ch (Tl c) vm wm → ∃ vc' vm', f_X5_layDown_83 (fun v k0 k1 a2 a3 => f_X5_layDown_5 n v k0 k1 a2 a3) wc B kd pc (nI c) = some vc' ∧ f_X8_bear_86 (fun v a1 => f_X8_bear_5 m v a1) wm (nI c) = some vm' ∧ GG B pc S0 S1 vc' vm' ∧ Ch (Sby B f l) vc vc' ∧ Ch (Tby f l) vm vm' := fun wc wm k1 k2 k3 => by
      obtain ⟨vc', vm', j1, j2, j3, j4, j5⟩ := ih (c + 1) n m wc wm (by omega) (by omega) (by omega) (by omega)
        (hb0.ch k2 k3 (by unfold Sl; omega) (by unfold Sl; omega) (fun j _ _ => by unfold Sl; omega) (fun j _ _ => by unfold Tl; omega) (fun j => by unfold Tl; omega)) k1
        (hW.ch k2 k3 (fun i _ => by unfold Sl; omega) (fun i _ => by unfold Tl; omega))
        (fun i z1 z2 => by rw [k3.1 _ _ (by unfold Tl; omega)]; exact hWb i z1 z2)
        (fun i z1 z2 => by rw [k3.1 _ _ (by unfold Tl; omega), k3.1 _ _ (by unfold Tl; omega)]; exact hz i (by omega) z2)
      refine ⟨vc', vm', ?_, ?_, j3, (k2.mono fun k j q => by unfold Sl at q; unfold Sby; omega).tr j4, (k3.mono fun k j q => by unfold Tl at q; unfold Tby; omega).tr j5⟩
      · unfold f_X5_layDown_83
        simp only [vlet_eq]
        rw [ad1]
        exact j1
      · unfold f_X8_bear_86
        simp only [vlet_eq]
        rw [ad1]
        exact j2
    by_cases p : x ≤ 0
    · rw [if_pos p, if_pos p]
      exact next vc vm hG0 Ch.rf Ch.rf
    · rw [if_neg p, if_neg p, lie_eq (by omega), Option.bind_some, show (0 : Int32) = nI 0 from rfl, fall_eq (by omega) (by omega), Option.bind_some, show (1 : Int32) = nI 1 from rfl, fall_eq (by omega) (by omega), Option.bind_some]
      have hw := hWb c g1 (by omega)
      have bn := bear_num (a := vm.1 187 (24 + c)) (b := vm.1 187 (48 + c)) (w := vm.1 187 (0 + c)) (c := nI cc) (x := x) (by omega) (by omega) (by omega) (by omega) hw.1 hw.2 (by rw [niInt (by omega)]; omega) (by rw [niInt (by omega)]; omega) ex p
      obtain ⟨k1, -, -⟩ := lie1 (c := c) h0 h1 (by omega) hpc hG0 bn.1.1 bn.1.2 bn.2.1 bn.2.2 (hz c (by omega) (by omega)).1 (hz c (by omega) (by omega)).2
      exact next _ _ k1 lie_ch ((fa_ch (by omega)).tr (fa_ch (by omega)))
