/-! WHAT SETS ONE CELL, STAINS -/
theorem nlt_le {a c : Int32} : (¬ c < a) ↔ a ≤ c := by
  rw [lt_toInt, le_toInt]; omega
theorem Rd.one {nd : Nat} {vc vm : rV} (h : Rd nd vc vm) : vc.1 0 13 = nI nd ∧ nd ≤ 12 := ⟨h.2.1.1, h.1.1⟩
theorem Rd.same {S T : Nat → Nat → Prop} {vc vm wc wm : rV} (hc : Ch S vc wc) (hm : Ch T vm wm) (s1 : ¬ S 0 13) (s2 : ∀ k j, 38 ≤ k → k ≤ 50 → j < 12 → ¬ S k j) (t1 : ¬ T 174 21) (t2 : ∀ j, ¬ T 185 j) (t3 : ∀ j, j < 12 → ¬ T 186 j) : ∀ nd, Rd nd vc vm → Rd nd wc wm := fun _ h => h.ch hc hm s1 s2 t1 t2 t3
theorem pace_go {tb : Nat} {vc vm : rV} (h : Rel tb vc vm) (a : Int32) : Agree tb vc vm (f_X7_pace vc a) (f_X8_pace vm a) := by
  unfold f_X7_pace f_X8_pace
  by_cases q : f_X8_in a 0 99 = true
  · obtain ⟨k, hk, rfl⟩ := in_n (n := 99) (by omega) q
    rw [if_pos q, if_neg (niGe (by omega)), if_pos (show nI k ≤ (99 : Int32) from ple (b := 99) (by omega) (by omega)), vlet_eq, vlet_eq]
    have hc : Ch (fun k j => k = 0 ∧ j = 15) vc (rI vc 0 15 (nI k)) := Ch.rf.I ⟨rfl, rfl⟩
    have hm : Ch (fun k j => k = 174 ∧ j = 23) vm (rI vm 174 23 (nI k)) := Ch.rf.I ⟨rfl, rfl⟩
    exact Agree.new h (hc.mono fun k j q => by unfold Sc; omega) (hm.mono fun k j q => by unfold Sm; omega) (h.tape.ch hc hm (by omega) (by omega) (by omega) (by omega)) (Rd.same hc hm (by omega) (by omega) (by omega) (by omega) (by omega)) (h.stains.ch hc hm (by omega) (by omega) (by omega) (by omega)) (fun p hp => ⟨k, hk, rI_at _ _ _ _, rI_at _ _ _ _⟩)
  · rw [if_neg q]
    by_cases z : a < 0
    · rw [if_pos z]; exact Agree.same h
    · rw [if_neg z, if_neg (fun z2 => q (in_p z (nlt_le.mpr z2)))]; exact Agree.same h
theorem end_go {tb : Nat} {vc vm : rV} (h : Rel tb vc vm) (a : Int32) : Agree tb vc vm (f_X7_end vc a) (f_X8_end vm a) := by
  obtain ⟨n, n1, n2, n3, n4⟩ := h.tape
  unfold f_X7_end f_X8_end
  rw [n2, n3]
  by_cases z : a < 0
  · rw [if_pos z, if_pos z]; exact Agree.same h
  rw [if_neg z, if_neg z]
  by_cases y : a ≤ nI n
  · obtain ⟨k, hk, rfl⟩ := in_n (n := n) (by omega) (in_p z (nlt_le.mpr y))
    rw [if_pos y, if_pos y, vlet_eq, vlet_eq]
    have hc : Ch (fun k j => k = 1 ∧ j = 1) vc (rI vc 1 1 (nI k)) := Ch.rf.I ⟨rfl, rfl⟩
    have hm : Ch (fun k j => k = 174 ∧ j = 2) vm (rI vm 174 2 (nI k)) := Ch.rf.I ⟨rfl, rfl⟩
    refine Agree.new h (hc.mono fun k j q => by unfold Sc; omega) (hm.mono fun k j q => by unfold Sm; omega) ?_ (Rd.same hc hm (by omega) (by omega) (by omega) (by omega) (by omega)) (h.stains.ch hc hm (by omega) (by omega) (by omega) (by omega)) (fun p hp => ⟨p, hp.ch hc hm (by omega) (by omega)⟩)
    refine ⟨k, by omega, rI_at _ _ _ _, rI_at _ _ _ _, fun j hj => ?_⟩
    obtain ⟨b, b1, b2, b3, b4⟩ := n4 j (by omega)
    exact ⟨b, b1, b2, by rw [rI_no (by omega)]; exact b3, by rw [rI_no (by omega)]; exact b4⟩
  · rw [if_neg y, if_neg y]; exact Agree.same h
theorem weigh_go {tb : Nat} {vc vm : rV} (h : Rel tb vc vm) (a x : Int32) : Agree tb vc vm (f_X7_weigh vc a x) (f_X8_weigh vm a x) := by
  obtain ⟨nd, hd⟩ := h.drops
  have hd12 := hd.1.1
  unfold f_X7_weigh f_X8_weigh
  rw [isDrop_c hd.1 hd.2.1]
  by_cases y : f_X8_isDrop vm a = true
  · obtain ⟨d, hdd, rfl⟩ := (isDrop_m hd.1).mp y
    rw [if_pos y, if_pos y]
    by_cases z : x < 1
    · rw [if_pos z, if_neg (in_ff (Or.inl z))]; exact Agree.same h
    rw [if_neg z]
    by_cases z2 : x ≤ 9
    · rw [if_pos z2, if_pos (in_p z (nlt_le.mpr z2)), if_pos (gin (show d < 12 by omega) (by omega)), if_pos (gin (show d < 12 by omega) (by omega)), niCl (by omega), vlet_eq, vlet_eq]
      have hc : Ch (fun k j => k = 50 ∧ j = d) vc (rI vc 50 d x) := Ch.rf.I ⟨rfl, rfl⟩
      have hm : Ch (fun k j => k = 186 ∧ j = d) vm (rI vm 186 d x) := Ch.rf.I ⟨rfl, rfl⟩
      refine Agree.new h (hc.mono fun k j q => by unfold Sc; omega) (hm.mono fun k j q => by unfold Sm; omega) (h.tape.ch hc hm (by omega) (by omega) (by omega) (by omega)) (fun nd' hd' => ?_) (h.stains.ch hc hm (by omega) (by omega) (by omega) (by omega)) (fun p hp => ⟨p, hp.ch hc hm (by omega) (by omega)⟩)
      have e1 := hd.one
      have e2 := hd'.one
      have en : nd' = nd := by
        have := e1.1.symm.trans e2.1
        rw [niEq (by omega) (by omega)] at this
        exact this.symm
      subst en
      obtain ⟨r1, ⟨r2, r3⟩, r4, r5⟩ := hd
      refine ⟨r1.ch hm (by omega) (by omega), ⟨by rw [hc.1 _ _ (by omega)]; exact r2, fun d hd j hj => by rw [hc.1 _ _ (by omega), hm.1 _ _ (by omega)]; exact r3 d hd j hj⟩, fun e he => ?_, fun e h1 h2 => by rw [hc.1 _ _ (by omega)]; exact r5 e h1 h2⟩
      rw [rI_1, rI_1]
      by_cases ee : e = d
      · rw [if_pos ⟨rfl, ee⟩, if_pos ⟨rfl, ee⟩]
      · rw [if_neg (by omega), if_neg (by omega)]; exact r4 e he
    · rw [if_neg z2, if_neg (in_ff (Or.inr (Classical.byContradiction fun q => z2 (nlt_le.mp q))))]; exact Agree.same h
  · rw [if_neg y, if_neg y]; exact Agree.same h
theorem stain_go {tb : Nat} {vc vm : rV} (h : Rel tb vc vm) : Agree tb vc vm (f_X7_stain vc) (f_X8_stain vm) := by
  obtain ⟨n, n1, n2, n3, n4⟩ := h.stains
  unfold f_X7_stain f_X8_stain
  rw [n2, n3]
  by_cases z : n = 6
  · subst z
    rw [if_neg (show ¬ nI 6 < (6 : Int32) from by decide), if_pos (show nI 6 = (6 : Int32) from rfl)]
    exact Agree.same h
  · rw [if_pos (show nI n < (6 : Int32) from plt (b := 6) (by omega) (by omega)), if_neg (show ¬ nI n = (6 : Int32) from nne (b := 6) (by omega) (by omega) (by omega)), vlet_eq, vlet_eq, rI_at, rI_at, ad1]
    have hc : Ch (fun k j => k = 0 ∧ j = 14) vc (rI vc 0 14 (nI (n + 1))) := Ch.rf.I ⟨rfl, rfl⟩
    have hm : Ch (fun k j => k = 174 ∧ j = 41) vm (rI vm 174 41 (nI (n + 1))) := Ch.rf.I ⟨rfl, rfl⟩
    refine Agree.new h (hc.mono fun k j q => by unfold Sc; omega) (hm.mono fun k j q => by unfold Sm; omega) (h.tape.ch hc hm (by omega) (by omega) (by omega) (by omega)) (Rd.same hc hm (by omega) (by omega) (by omega) (by omega) (by omega)) ?_ (fun p hp => ⟨p, hp.ch hc hm (by omega) (by omega)⟩)
    exact ⟨n + 1, by omega, rI_at _ _ _ _, rI_at _ _ _ _, fun s hs c hc9 => by rw [rI_no (by omega), rI_no (by omega)]; exact n4 s hs c hc9⟩
/-- a grain set on both sides -/
theorem Rs.set {vc vm : rV} {s c : Nat} {x : Int32} (h : Rs vc vm) (hs : s < 6) (hc : c < 24) (h0 : 0 ≤ x.toInt) (h1 : x.toInt ≤ 24000) : Rs (rI vc (53 + s) c x) (rI vm 195 (24 * s + c) x) := by
  obtain ⟨n, n1, n2, n3, n4⟩ := h
  refine ⟨n, n1, by rw [rI_no (by omega)]; exact n2, by rw [rI_no (by omega)]; exact n3, fun t ht e he => ?_⟩
  rw [rI_1, rI_1]
  by_cases q : t = s ∧ e = c
  · rw [if_pos (by omega), if_pos (by omega)]; exact ⟨rfl, h0, h1⟩
  · rw [if_neg (by omega), if_neg (by omega)]; exact n4 t ht e he
def Gc : Nat → Nat → Prop := fun k j => 53 ≤ k ∧ k < 59 ∧ j < 24
def Gm : Nat → Nat → Prop := fun k j => k = 195 ∧ j < 144
/-- new stains alone -/
theorem Agree.stains {α : Type} {tb : Nat} {vc vm wc wm : rV} {r : α} (h : Rel tb vc vm) (hc : Ch Gc vc wc) (hm : Ch Gm vm wm) (c : Rs wc wm) : Agree tb vc vm (some (r, wc)) (some (r, wm)) := by
  have s : ∀ k j, ¬ (53 ≤ k ∧ k < 59 ∧ j < 24) → ¬ Gc k j := fun k j q z => q z
  have t : ∀ k j, ¬ (k = 195 ∧ j < 144) → ¬ Gm k j := fun k j q z => q z
  exact Agree.new h (hc.mono fun k j q => by unfold Gc at q; unfold Sc; omega) (hm.mono fun k j q => by unfold Gm at q; unfold Sm; omega) (h.tape.ch hc hm (s _ _ (by omega)) (fun j => s _ _ (by omega)) (t _ _ (by omega)) (fun j => t _ _ (by omega))) (Rd.same hc hm (s _ _ (by omega)) (fun k j _ _ _ => s _ _ (by omega)) (t _ _ (by omega)) (fun j => t _ _ (by omega)) (fun j _ => t _ _ (by omega))) c (fun p hp => ⟨p, hp.ch hc hm (s _ _ (by omega)) (t _ _ (by omega))⟩)
theorem ix195 {s c : Nat} : (24 : Int32) * nI s + nI c = nI (24 * s + c) := by rw [show (24 : Int32) * nI s = nI (24 * s) from niMul 24 s, niAdd]
theorem grain_go {tb : Nat} {vc vm : rV} (h : Rel tb vc vm) (a b x : Int32) : Agree tb vc vm (f_X7_grain vc a b x) (f_X8_grain vm a b x) := by
  unfold f_X7_grain f_X8_grain
  rw [isStain_c h.stains, isCell_c]
  by_cases y : f_X8_isStain vm a = true
  · obtain ⟨s, hs, rfl⟩ := isStain_s h.stains y
    rw [if_pos y, if_pos y]
    by_cases w : f_X8_isCell b = true
    · obtain ⟨c, hc, rfl⟩ := isCell_n w
      rw [if_pos w, if_pos w]
      by_cases z : x < 0
      · rw [if_pos z, if_neg (in_ff (Or.inl z))]; exact Agree.same h
      rw [if_neg z]
      by_cases z2 : x ≤ 9999
      · rw [if_pos z2, if_pos (in_p z (nlt_le.mpr z2)), ix195, if_pos (gin hs (by omega)), if_pos (gin hc (by omega)), if_pos (gin (show 24 * s + c < 144 by omega) (by omega)), niCl (by omega), niCl (by omega), niCl (by omega), vlet_eq, vlet_eq]
        rw [lt_toInt] at z
        rw [le_toInt] at z2
        have o1 : (0 : Int32).toInt = 0 := rfl
        have o2 : (9999 : Int32).toInt = 9999 := rfl
        exact Agree.stains h (Ch.rf.I ⟨by omega, by omega, hc⟩) (Ch.rf.I ⟨rfl, by omega⟩) (h.stains.set hs hc (by omega) (by omega))
      · rw [if_neg z2, if_neg (in_ff (Or.inr (Classical.byContradiction fun q => z2 (nlt_le.mp q))))]; exact Agree.same h
    · rw [if_neg w, if_neg w]; exact Agree.same h
  · rw [if_neg y, if_neg y]; exact Agree.same h
theorem jn_go {s u : Nat} (hs : s < 6) (hu : u < 6) : ∀ (d c n m : Nat) (x : Int32) (vc vm : rV), c + d = 24 → d < n → d < m → Rs vc vm → ∃ r wc wm, f_X7_join_28 n vc (nI s) (nI u) x (nI c) = some (r, wc) ∧ f_X8_join_28 m vm (nI s) (nI u) x (nI c) = some (r, wm) ∧ Rs wc wm ∧ Ch Gc vc wc ∧ Ch Gm vm wm := by
  intro d
  induction d with
  | zero =>
    intro c n m x vc vm e hn hm h
    obtain ⟨n, rfl⟩ : ∃ n', n = n' + 1 := ⟨n - 1, by omega⟩
    obtain ⟨m, rfl⟩ : ∃ m', m = m' + 1 := ⟨m - 1, by omega⟩
    have g : (24 : Int32) ≤ nI c := ple (a := 24) (by omega) (by omega)
    rw [f_X7_join_28, f_X8_join_28, if_pos g, if_pos g]
    exact ⟨_, _, _, rfl, rfl, h, Ch.rf, Ch.rf⟩
  | succ d ih =>
    intro c n m x vc vm e hn hm h
    obtain ⟨n, rfl⟩ : ∃ n', n = n' + 1 := ⟨n - 1, by omega⟩
    obtain ⟨m, rfl⟩ : ∃ m', m = m' + 1 := ⟨m - 1, by omega⟩
    have g : ¬ (24 : Int32) ≤ nI c := nle (a := 24) (by omega) (by omega)
    have hc : c < 24 := by omega
    obtain ⟨ns, n1, n2, n3, n4⟩ := h
    obtain ⟨a1, a2, a3⟩ := n4 s hs c hc
    obtain ⟨b1, b2, b3⟩ := n4 u hu c hc
    rw [f_X7_join_28, f_X8_join_28, if_neg g, if_neg g]
    simp only [vlet_eq]
    rw [ix195, ix195, if_pos (gin hs (by omega)), if_pos (gin hc (by omega)), if_pos (gin hu (by omega)), if_pos (gin (show 24 * s + c < 144 by omega) (by omega)), if_pos (gin (show 24 * u + c < 144 by omega) (by omega)), niCl (by omega), niCl (by omega), niCl (by omega), niCl (by omega), niCl (by omega)]
    simp only [vlet_eq, rI_at, ad1]
    rw [a1, b1]
    obtain ⟨y, ey⟩ : ∃ y, y = if vm.1 195 (24 * s + c) + vm.1 195 (24 * u + c) < (9999 : Int32) then vm.1 195 (24 * s + c) + vm.1 195 (24 * u + c) else (9999 : Int32) := ⟨_, rfl⟩
    have hy : 0 ≤ y.toInt ∧ y.toInt ≤ 24000 := by
      rw [ey]
      by_cases z : vm.1 195 (24 * s + c) + vm.1 195 (24 * u + c) < (9999 : Int32)
      · rw [if_pos z]
        rw [lt_toInt] at z
        have o2 : (9999 : Int32).toInt = 9999 := rfl
        have := add_toInt (a := vm.1 195 (24 * s + c)) (b := vm.1 195 (24 * u + c)) (by omega) (by omega)
        omega
      · rw [if_neg z]; exact ⟨by decide, by decide⟩
    rw [← ey]
    obtain ⟨r, wc, wm, e1, e2, e3, e4, e5⟩ := ih (c + 1) n m (x + y) _ _ (by omega) (by omega) (by omega) (Rs.set ⟨ns, n1, n2, n3, n4⟩ hs hc hy.1 hy.2)
    exact ⟨r, wc, wm, e1, e2, e3, (Ch.rf.I ⟨by omega, by omega, hc⟩).tr e4, (Ch.rf.I ⟨rfl, by omega⟩).tr e5⟩
theorem join_go {tb : Nat} {vc vm : rV} (h : Rel tb vc vm) (a b : Int32) : Agree tb vc vm (f_X7_join vc a b) (f_X8_join vm a b) := by
  unfold f_X7_join f_X8_join
  rw [isStain_c h.stains, isStain_c h.stains]
  by_cases y : f_X8_isStain vm a = true
  · obtain ⟨s, hs, rfl⟩ := isStain_s h.stains y
    rw [if_pos y, if_pos y]
    by_cases w : f_X8_isStain vm b = true
    · obtain ⟨u, hu, rfl⟩ := isStain_s h.stains w
      rw [if_pos w, if_pos w]
      by_cases z : nI s = nI u
      · rw [if_pos z, if_pos z]; exact Agree.same h
      · rw [if_neg z, if_neg z]
        obtain ⟨r, wc, wm, e1, e2, e3, e4, e5⟩ := jn_go hs hu 24 0 20000 20000 0 vc vm (by omega) (by omega) (by omega) h.stains
        rw [show f_X7_join_28 20000 vc (nI s) (nI u) 0 0 = _ from e1, show f_X8_join_28 20000 vm (nI s) (nI u) 0 0 = _ from e2]
        exact Agree.stains h e4 e5 e3
    · rw [if_neg w, if_neg w]; exact Agree.same h
  · rw [if_neg y, if_neg y]; exact Agree.same h
