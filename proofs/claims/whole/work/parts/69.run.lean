/-! TICKS ON END -/
theorem run_go {M B kf N : Nat} (hB : isStrip B = true) : ∀ (d i n m a tb : Nat) (vc vm : rV), i + d = a → d < n → d < m → a ≤ 200 → tb + d < 1000000 → 0 ≤ vm.1 174 23 → ST M B tb vc vm → LSt B kf N vc vm →
    ∃ (k : Nat) (vc' vm' : rV), f_X5_goOn_2 n vc B (nI a) (vm.1 174 23) (nI i) = some (nI k, vc') ∧ f_X8_run_2 m vm (nI a) (nI i) = some (nI k, vm') ∧ i ≤ k ∧ k ≤ a ∧ ST M B (tb + d) vc' vm' ∧ LSt B kf N vc' vm' ∧ Ch (Sst B kf) vc vc' ∧ Ch Tst vm vm' ∧ vc'.1 B 15 + nI i = vc.1 B 15 + nI k := by
  intro d
  induction d with
  | zero =>
    intro i n m a tb vc vm h hn hm ha htb hp hS hL
    obtain ⟨n, rfl⟩ : ∃ n', n = n' + 1 := ⟨n - 1, by omega⟩
    obtain ⟨m, rfl⟩ : ∃ m', m = m' + 1 := ⟨m - 1, by omega⟩
    refine ⟨i, vc, vm, ?_, ?_, Nat.le_refl _, by omega, hS, hL, Ch.rf, Ch.rf, rfl⟩
    · rw [f_X5_goOn_2, if_pos (ple (by omega) (by omega))]
    · rw [f_X8_run_2, if_pos (ple (by omega) (by omega))]
  | succ d ih =>
    intro i n m a tb vc vm h hn hm ha htb hp hS hL
    obtain ⟨n, rfl⟩ : ∃ n', n = n' + 1 := ⟨n - 1, by omega⟩
    obtain ⟨m, rfl⟩ : ∃ m', m = m' + 1 := ⟨m - 1, by omega⟩
    have hS0 := hS
    obtain ⟨ρ, L, t, S0, S1, ⟨s0, s1, ht⟩, hx1, ⟨hN, hN2, hM⟩, hx2⟩ := hS
    by_cases p : nI L.length ≤ 0
    · refine ⟨i, vc, vm, ?_, ?_, Nat.le_refl _, by omega, ⟨ρ, L, t, S0, S1, ⟨s0, s1, by omega⟩, hx1, ⟨hN, hN2, hM⟩, hx2⟩, hL, Ch.rf, Ch.rf, rfl⟩
      · rw [f_X5_goOn_2, if_neg (nle (by omega) (by omega)), hN, if_pos p]
      · rw [f_X8_run_2, if_neg (nle (by omega) (by omega)), hN2, if_pos p]
    · obtain ⟨wc, wm, g1, g2, g3, g4, g5, g6, g7⟩ := tick_go hB (by omega) hp hS0 hL
      have e23 : wm.1 174 23 = vm.1 174 23 := g6.1 _ _ (by unfold Tst; omega)
      obtain ⟨k, vc', vm', j1, j2, j3, j4, j5, j6, j7, j8, j9⟩ := ih (i + 1) n m a (tb + 1) wc wm (by omega) (by omega) (by omega) ha (by omega) (by rw [e23]; exact hp) g3 g4
      refine ⟨k, vc', vm', ?_, ?_, by omega, j4, by rw [show tb + (d + 1) = tb + 1 + d by omega]; exact j5, j6, g5.tr j7, g6.tr j8, ?_⟩
      · rw [f_X5_goOn_2, if_neg (nle (by omega) (by omega)), hN, if_neg p, g1, Option.bind_some, vlet_eq, ad1]
        rw [e23] at j1
        exact j1
      · rw [f_X8_run_2, if_neg (nle (by omega) (by omega)), hN2, if_neg p, g2, Option.bind_some, vlet_eq, ad1]
        exact j2
      · rw [← Int32.add_sub_cancel (vc'.1 B 15 + nI i) 1, Int32.add_assoc, ad1, j9, g7, Int32.add_assoc (vc.1 B 15) 1, Int32.add_comm 1, ← Int32.add_assoc, Int32.add_sub_cancel]
theorem goOn_go {M B kf N a tb : Nat} {vc vm : rV} (hB : isStrip B = true) (ha : a ≤ 200) (htb : tb + a < 1000000) (hp : 0 ≤ vm.1 174 23) (hS : ST M B tb vc vm) (hL : LSt B kf N vc vm) :
    ∃ (k : Nat) (vc' vm' : rV), f_X5_goOn vc B (nI a) (vm.1 174 23) = some (nI k, vc') ∧ f_X8_run vm (nI a) = some (nI k, vm') ∧ k ≤ a ∧ ST M B (tb + a) vc' vm' ∧ LSt B kf N vc' vm' ∧ Ch (Sst B kf) vc vc' ∧ Ch Tst vm vm' ∧ vc'.1 B 15 = vc.1 B 15 + nI k := by
  obtain ⟨k, vc', vm', j1, j2, j3, j4, j5, j6, j7, j8, j9⟩ := run_go (M := M) (N := N) (kf := kf) hB a 0 20000 20000 a tb vc vm (by omega) (by omega) (by omega) ha htb hp hS hL
  exact ⟨k, vc', vm', j1, j2, j4, j5, j6, j7, j8, by rw [show nI 0 = 0 from rfl, Int32.add_zero] at j9; exact j9⟩
