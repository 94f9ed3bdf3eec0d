/-! A DROP TOLD -/
theorem drop_go {tb : Nat} {vc vm : rV} (h : Rel tb vc vm) (a b : Int32) : ∃ e r wc wm, f_L_drop vc a b = some (e, wc) ∧ f_X8_drop vm a b = some (r, wm) ∧ Rel tb wc wm ∧ Ch Cc vc wc ∧ Ch Cm vm wm ∧ f_X8_thrown wm = e ∧ (e = 0 → wc.2.1 197 0 = r.toInt64) := by
  obtain ⟨nd, hd⟩ := h.drops
  have hd12 := hd.1.1
  have hM : ∀ x, Ch (fun k j => k = 174 ∧ j = 0) vm (rI vm 174 0 x) := fun x => Ch.rf.I ⟨rfl, rfl⟩
  have hmR : ∀ x, Rel tb vc (rI vm 174 0 x) := fun x => h.new (Ch.rf) ((hM x).mono fun k j q => by unfold Sm; omega) (h.tape.ch Ch.no (hM x) (fun q => q) (fun _ q => q) (by omega) (by omega)) (Rd.same Ch.no (hM x) (fun q => q) (fun _ _ _ _ _ q => q) (by omega) (by omega) (by omega)) (h.stains.ch Ch.no (hM x) (fun q => q) (fun _ _ _ _ _ q => q) (by omega) (by omega)) (fun p hp => ⟨p, hp.ch Ch.no (hM x) (fun q => q) (by omega)⟩)
  have hmC : ∀ x, Ch Cm vm (rI vm 174 0 x) := fun x => (hM x).mono fun k j q => by unfold Cm; omega
  unfold f_L_drop f_X8_drop f_X8_drop_23
  rw [isDrop_c hd.1 hd.2.1]
  have bad : ∀ (p : Prop) [Decidable p] (x : Option (Int32 × rV)), ¬ p → ∃ e r wc wm, (if p then x else some (1, vc)) = some (e, wc) ∧ f_X8_drop_24 vm a b 1 = some (r, wm) ∧ Rel tb wc wm ∧ Ch Cc vc wc ∧ Ch Cm vm wm ∧ f_X8_thrown wm = e ∧ (e = 0 → wc.2.1 197 0 = r.toInt64) := fun p _ x hp => by
    rw [if_neg hp]
    unfold f_X8_drop_24
    rw [vlet_eq, if_pos (rI_at _ _ _ _)]
    exact ⟨_, _, _, _, rfl, rfl, hmR 1, Ch.rf, hmC 1, rI_at _ _ _ _, fun q => absurd q (by decide)⟩
  by_cases y : f_X8_isDrop vm a = true
  · by_cases q : f_X8_in b 0 11 = true
    · obtain ⟨k, hk, rfl⟩ := in_n (n := 11) (by omega) q
      obtain ⟨d, hdd, rfl⟩ := (isDrop_m hd.1).mp y
      rw [if_pos y, if_pos q, if_pos ⟨y, niGe (by omega), show ¬ (12 : Int32) ≤ nI k from nle (a := 12) (by omega) (by omega)⟩, if_pos (gin (show d < 12 by omega) (by omega)), niCl (by omega), niCl (by omega)]
      unfold f_X8_drop_24
      rw [vlet_eq, rI_at, if_neg (show ¬ (0 : Int32) = 1 by decide), show (12 : Int32) * nI d = nI (12 * d) from niMul 12 d, niAdd, if_pos (gin (show 12 * d + k < 156 by omega) (by omega)), niCl (by omega), rI_no (by omega)]
      have hc : Ch (fun k j => k = 197 ∧ j = 1000000) vc (rL vc 197 0 (vc.1 (38 + d) k).toInt64) := Ch.rf.L ⟨rfl, rfl⟩
      refine ⟨_, _, _, _, rfl, rfl, ?_, hc.mono fun k j q => by unfold Cc; omega, hmC 0, rI_at _ _ _ _, fun _ => ?_⟩
      · obtain ⟨nl, nw, nd', p, a1, b1, c1⟩ := hmR 0
        refine ⟨nl, nw, nd', p, a1.ch hc Ch.no (fun _ _ _ _ _ _ => by omega) (fun _ _ _ _ => by omega) (fun _ _ => by omega) (fun _ _ q => q) (fun _ _ _ _ q => q) (fun j => ⟨fun q => q, fun q => q, fun q => q, fun q => q⟩), b1.ch hc Ch.no (fun _ _ _ _ => by omega) (fun _ _ q => q) (fun q => q) (fun _ _ q => q), c1.ch hc Ch.no (by omega) (fun q => q) (fun q => q)⟩
      · show (if 197 = 197 ∧ 0 = 0 then (vc.1 (38 + d) k).toInt64 else vc.2.1 197 0) = _
        rw [if_pos ⟨rfl, rfl⟩, hd.2.1.2 d hdd k (by omega)]
    · rw [if_pos y, if_neg q]
      refine bad _ _ fun z => q (in_p z.2.1 ?_)
      have := z.2.2
      rw [lt_toInt]
      rw [le_toInt] at this
      have o1 : (12 : Int32).toInt = 12 := rfl
      have o2 : (11 : Int32).toInt = 11 := rfl
      omega
  · rw [if_neg y]
    exact bad _ _ fun z => y z.1
