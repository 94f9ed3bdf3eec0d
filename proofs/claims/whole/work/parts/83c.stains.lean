/-! STAINS: PRINT, TURNED, BLOT; A DROP TOLD -/
theorem wl_c {M B tb k : Nat} (hk : k < B ∨ B + 37 < k) : ∀ (d c n : Nat) (vc : rV) (vm : rV), c + d = 24 → d < n → ST M B tb vc vm → ∃ wc, f_X5_writeLying_2 n vc B k (nI c) = some wc ∧ Ch (fun k' j => k' = k ∧ j < 24) vc wc ∧ (∀ i, c ≤ i → i < 24 → wc.1 k i = la vm i) ∧ (∀ i, i < c → wc.1 k i = vc.1 k i) := by
  intro d
  induction d with
  | zero =>
    intro c n vc vm e hn h
    obtain ⟨n, rfl⟩ : ∃ n', n = n' + 1 := ⟨n - 1, by omega⟩
    rw [f_X5_writeLying_2, if_pos (show (24 : Int32) ≤ nI c from ple (a := 24) (by omega) (by omega))]
    exact ⟨vc, rfl, Ch.rf, fun i h1 h2 => by omega, fun i _ => rfl⟩
  | succ d ih =>
    intro c n vc vm e hn h
    obtain ⟨n, rfl⟩ : ∃ n', n = n' + 1 := ⟨n - 1, by omega⟩
    have g : ¬ (24 : Int32) ≤ nI c := nle (a := 24) (by omega) (by omega)
    obtain ⟨t, S0, S1, -, ⟨F, R8, R9, R10, R11, R1⟩, -⟩ := h.parts
    rw [f_X5_writeLying_2, if_neg g, if_neg g, laid_eq ⟨R8, R9⟩, laid_at (by omega), Option.bind_some, if_pos (gin (show c < 24 by omega) (by omega)), niCl (by omega)]
    simp only [vlet_eq, ad1]
    have hc : Ch (fun k' j => k' = k ∧ j < 24) vc (rI vc k c (la vm c)) := Ch.rf.I ⟨rfl, by omega⟩
    obtain ⟨wc, e1, e2, e3, e4⟩ := ih (c + 1) n (rI vc k c (la vm c)) vm (by omega) (by omega) (h.ext hc (fun k' j h1 h2 q => by omega) (fun _ _ => rfl) rfl (fun _ _ => rfl))
    refine ⟨wc, e1, hc.tr e2, fun i h1 h2 => ?_, fun i hi => by rw [e4 i (by omega), rI_no (by omega)]⟩
    by_cases q : i = c
    · rw [q, e4 c (by omega), rI_at]
    · exact e3 i (by omega) h2
theorem pr_m {s : Nat} (hs : s < 6) : ∀ (d c m : Nat) (x : Int32) (vm : rV), c + d = 24 → d < m → ∃ wm, f_X8_print_14 m vm (nI s) x (nI c) = some (x + sI (la vm) c d, wm) ∧ Ch (fun k j => k = 195 ∧ 24 * s ≤ j ∧ j < 24 * s + 24) vm wm ∧ (∀ i, c ≤ i → i < 24 → wm.1 195 (24 * s + i) = la vm i) ∧ (∀ i, i < c → wm.1 195 (24 * s + i) = vm.1 195 (24 * s + i)) := by
  intro d
  induction d with
  | zero =>
    intro c n x vm e hn
    obtain ⟨n, rfl⟩ : ∃ n', n = n' + 1 := ⟨n - 1, by omega⟩
    rw [f_X8_print_14, if_pos (show (24 : Int32) ≤ nI c from ple (a := 24) (by omega) (by omega)), sI, Int32.add_zero]
    exact ⟨vm, rfl, Ch.rf, fun i h1 h2 => by omega, fun i _ => rfl⟩
  | succ d ih =>
    intro c n x vm e hn
    obtain ⟨n, rfl⟩ : ∃ n', n = n' + 1 := ⟨n - 1, by omega⟩
    have g : ¬ (24 : Int32) ≤ nI c := nle (a := 24) (by omega) (by omega)
    rw [f_X8_print_14, if_neg g, laid_at (by omega), Option.bind_some, ix195, if_pos (gin (show 24 * s + c < 144 by omega) (by omega)), niCl (by omega)]
    simp only [vlet_eq, ad1]
    rw [laid_at (by omega), Option.bind_some]
    have hm : Ch (fun k j => k = 195 ∧ 24 * s ≤ j ∧ j < 24 * s + 24) vm (rI vm 195 (24 * s + c) (la vm c)) := Ch.rf.I ⟨rfl, by omega, by omega⟩
    have el : la (rI vm 195 (24 * s + c) (la vm c)) = la vm := by
      funext i
      unfold la
      rw [rI_no (by omega), rI_no (by omega)]
    obtain ⟨wm, e1, e2, e3, e4⟩ := ih (c + 1) n (x + la vm c) (rI vm 195 (24 * s + c) (la vm c)) (by omega) (by omega)
    rw [el] at e1 e3 ⊢
    refine ⟨wm, ?_, hm.tr e2, fun i h1 h2 => ?_, fun i hi => by rw [e4 i (by omega), rI_no (by omega)]⟩
    · rw [e1, sI, Int32.add_assoc]
    · by_cases q : i = c
      · rw [q, e4 c (by omega), rI_at]
      · exact e3 i (by omega) h2
theorem print_go {tb : Nat} {vc vm : rV} (h : Rel tb vc vm) (a : Int32) : Agree tb vc vm (f_X7_print vc a) (f_X8_print vm a) := by
  unfold f_X7_print f_X8_print
  rw [isStain_c h.stains]
  by_cases y : f_X8_isStain vm a = true
  · obtain ⟨s, hs, rfl⟩ := isStain_s h.stains y
    rw [if_pos y, if_pos y, if_pos (gin hs (by omega)), niCl (by omega)]
    obtain ⟨M, hS⟩ := h.st
    obtain ⟨wc, a1, a2, a3, a4⟩ := wl_c (k := 53 + s) (by omega) 24 0 20000 vc vm (by omega) (by omega) hS
    obtain ⟨wm, b1, b2, b3, b4⟩ := pr_m hs 24 0 20000 0 vm (by omega) (by omega)
    have hS2 : ST M 60 tb wc vm := hS.ext a2 (fun k j h1 h2 q => by omega) (fun _ _ => rfl) rfl (fun _ _ => rfl)
    obtain ⟨t, S0, S1, ⟨s0, s1, -⟩, ⟨F, R8, R9, R10, R11, R1⟩, ⟨hAA, -⟩, -⟩ := hS2.parts
    unfold f_X5_writeLying
    rw [show f_X5_writeLying_2 20000 vc 60 (53 + s) 0 = _ from a1, show f_X8_print_14 20000 vm (nI s) 0 0 = _ from b1]
    simp only [Option.bind_some]
    rw [lyAll_eq ⟨R8, R9⟩, Option.bind_some, Int32.zero_add]
    refine Agree.stains h (a2.mono fun k j q => by unfold Gc; omega) (b2.mono fun k j q => by unfold Gm; omega) ?_
    obtain ⟨n, n1, n2, n3, n4⟩ := h.stains
    refine ⟨n, n1, by rw [a2.1 _ _ (by omega)]; exact n2, by rw [b2.1 _ _ (by omega)]; exact n3, fun t ht e he => ?_⟩
    by_cases q : t = s
    · subst q
      rw [a3 e (by omega) he, b3 e (by omega) he]
      have := la_nn s0 s1 hAA he
      exact ⟨rfl, this.1, this.2⟩
    · rw [a2.1 _ _ (by omega), b2.1 _ _ (by omega)]
      exact n4 t ht e he
  · rw [if_neg y, if_neg y]; exact Agree.same h
theorem Rs.row {vc vm : rV} (h : Rs vc vm) {s c : Nat} (hs : s < 6) (hc : c < 24) : vc.1 (53 + s) c = vm.1 195 (24 * s + c) := by
  obtain ⟨n, n1, n2, n3, n4⟩ := h
  exact (n4 s hs c hc).1
theorem tu_go {vc vm : rV} {s u : Nat} (h : Rs vc vm) (hs : s < 6) (hu : u < 6) : ∀ (d c n m : Nat) (x : Int32), c + d = 24 → d < n → d < m → ∃ r, f_X7_turned_23 vc n (nI s) (nI u) x (nI c) = some r ∧ f_X8_turned_23 vm m (nI s) (nI u) x (nI c) = some r := by
  intro d
  induction d with
  | zero =>
    intro c n m x e hn hm
    obtain ⟨n, rfl⟩ : ∃ n', n = n' + 1 := ⟨n - 1, by omega⟩
    obtain ⟨m, rfl⟩ : ∃ m', m = m' + 1 := ⟨m - 1, by omega⟩
    have g : (24 : Int32) ≤ nI c := ple (a := 24) (by omega) (by omega)
    rw [f_X7_turned_23, f_X8_turned_23, if_pos g, if_pos g]
    exact ⟨_, rfl, rfl⟩
  | succ d ih =>
    intro c n m x e hn hm
    obtain ⟨n, rfl⟩ : ∃ n', n = n' + 1 := ⟨n - 1, by omega⟩
    obtain ⟨m, rfl⟩ : ∃ m', m = m' + 1 := ⟨m - 1, by omega⟩
    have g : ¬ (24 : Int32) ≤ nI c := nle (a := 24) (by omega) (by omega)
    have hc : c < 24 := by omega
    rw [f_X7_turned_23, f_X8_turned_23, if_neg g, if_neg g, ix195, show (24 : Int32) * nI u = nI (24 * u) from niMul 24 u, show nI (24 * u) + (24 : Int32) = nI (24 * u + 24) from niAdd _ 24, show nI (24 * u + 24) - (1 : Int32) = nI (24 * u + 24 - 1) from niSub (b := 1) (by omega), niSub (show c ≤ 24 * u + 24 - 1 by omega), show (23 : Int32) - nI c = nI (23 - c) from niSub (a := 23) (by omega), if_pos (gin hs (by omega)), if_pos (gin hc (by omega)), if_pos (gin hu (by omega)), if_pos (gin (show 23 - c < 24 by omega) (by omega)), if_pos (gin (show 24 * s + c < 144 by omega) (by omega)), if_pos (gin (show 24 * u + 24 - 1 - c < 144 by omega) (by omega)), niCl (by omega), niCl (by omega), niCl (by omega), niCl (by omega), niCl (by omega), niCl (by omega), h.row hs hc, h.row hu (by omega), show 24 * u + (23 - c) = 24 * u + 24 - 1 - c by omega]
    unfold f_X7_turned_57 f_X8_turned_68
    simp only [vlet_eq, ad1, Int32.add_zero]
    by_cases z : vm.1 195 (24 * s + c) = vm.1 195 (24 * u + 24 - 1 - c)
    · rw [if_pos z, if_pos z]; exact ih (c + 1) n m _ (by omega) (by omega) (by omega)
    · rw [if_neg z, if_neg z]; exact ih (c + 1) n m _ (by omega) (by omega) (by omega)
theorem turned_go {tb : Nat} {vc vm : rV} (h : Rel tb vc vm) (a b : Int32) : ∃ r, f_X7_turned vc a b = some r ∧ f_X8_turned vm a b = some r := by
  unfold f_X7_turned f_X8_turned
  rw [isStain_c h.stains, isStain_c h.stains]
  by_cases y : f_X8_isStain vm a = true
  · obtain ⟨s, hs, rfl⟩ := isStain_s h.stains y
    rw [if_pos y, if_pos y]
    by_cases w : f_X8_isStain vm b = true
    · obtain ⟨u, hu, rfl⟩ := isStain_s h.stains w
      rw [if_pos w, if_pos w]
      exact tu_go h.stains hs hu 24 0 20000 20000 0 (by omega) (by omega) (by omega)
    · rw [if_neg w, if_neg w]; exact ⟨_, rfl, rfl⟩
  · rw [if_neg y, if_neg y]; exact ⟨_, rfl, rfl⟩
theorem bl_go {vc vm : rV} {s : Nat} {a2 : Int32} (h : Rs vc vm) (hs : s < 6) : ∀ (d c n m : Nat) (a3 a4 a5 a6 a7 : Int32), c + d = 24 → d < n → d < m → ∃ r, f_X7_blot_36 vc n (nI s) a2 a3 a4 a5 a6 a7 (nI c) = some r ∧ f_X8_blot_36 vm m (nI s) a2 a3 a4 a5 a6 a7 (nI c) = some r := by
  intro d
  induction d with
  | zero =>
    intro c n m a3 a4 a5 a6 a7 e hn hm
    obtain ⟨n, rfl⟩ : ∃ n', n = n' + 1 := ⟨n - 1, by omega⟩
    obtain ⟨m, rfl⟩ : ∃ m', m = m' + 1 := ⟨m - 1, by omega⟩
    have g : (24 : Int32) ≤ nI c := ple (a := 24) (by omega) (by omega)
    rw [f_X7_blot_36, f_X8_blot_36, if_pos g, if_pos g]
    by_cases z : a2 = 0
    · rw [if_pos z]; exact ⟨_, rfl, rfl⟩
    · rw [if_neg z]
      by_cases z : a2 = 1
      · rw [if_pos z]; exact ⟨_, rfl, rfl⟩
      · rw [if_neg z]; exact ⟨_, rfl, rfl⟩
  | succ d ih =>
    intro c n m a3 a4 a5 a6 a7 e hn hm
    obtain ⟨n, rfl⟩ : ∃ n', n = n' + 1 := ⟨n - 1, by omega⟩
    obtain ⟨m, rfl⟩ : ∃ m', m = m' + 1 := ⟨m - 1, by omega⟩
    have g : ¬ (24 : Int32) ≤ nI c := nle (a := 24) (by omega) (by omega)
    have hc : c < 24 := by omega
    rw [f_X7_blot_36, f_X8_blot_36, if_neg g, if_neg g, ix195, if_pos (gin hs (by omega)), if_pos (gin hc (by omega)), if_pos (gin (show 24 * s + c < 144 by omega) (by omega)), niCl (by omega), niCl (by omega), niCl (by omega), h.row hs hc]
    unfold f_X7_blot_67 f_X7_blot_80 f_X7_blot_96 f_X8_blot_72 f_X8_blot_73 f_X8_blot_88 f_X8_blot_104
    simp only [vlet_eq, ad1, Int32.add_zero]
    obtain ⟨y, ey⟩ : ∃ y, y = vm.1 195 (24 * s + c) := ⟨_, rfl⟩
    rw [← ey]
    by_cases z : y ≤ 0
    · simp only [if_pos z]
      exact ih (c + 1) n m _ _ _ _ _ (by omega) (by omega) (by omega)
    · simp only [if_neg z]
      by_cases w : a6 = 0
      · simp only [if_pos w]
        exact ih (c + 1) n m _ _ _ _ _ (by omega) (by omega) (by omega)
      · simp only [if_neg w]
        exact ih (c + 1) n m _ _ _ _ _ (by omega) (by omega) (by omega)
theorem blot_go {tb : Nat} {vc vm : rV} (h : Rel tb vc vm) (a b : Int32) : ∃ r, f_X7_blot vc a b = some r ∧ f_X8_blot vm a b = some r := by
  unfold f_X7_blot f_X8_blot
  rw [isStain_c h.stains]
  by_cases y : f_X8_isStain vm a = true
  · obtain ⟨s, hs, rfl⟩ := isStain_s h.stains y
    rw [if_pos y, if_pos y]
    by_cases q : f_X8_in b 0 2 = true
    · obtain ⟨k, hk, rfl⟩ := in_n (n := 2) (by omega) q
      rw [if_pos q, if_neg (niGe (by omega)), if_pos (show nI k ≤ (2 : Int32) from ple (b := 2) (by omega) (by omega))]
      exact bl_go h.stains hs 24 0 20000 20000 0 0 0 0 0 (by omega) (by omega) (by omega)
    · rw [if_neg q]
      refine ⟨-1, ?_, rfl⟩
      by_cases z : b < 0
      · rw [if_pos z]
      · rw [if_neg z, if_neg (fun z2 => q (in_p z (nlt_le.mpr z2)))]
  · rw [if_neg y, if_neg y]; exact ⟨_, rfl, rfl⟩
