/-! START AND TICK -/
theorem areDrops_go {vc vm : rV} {nd : Nat} {a : Int32} (hd : DR vm nd) (hC : DC vc vm nd) : f_X8_areDrops vm a = true ↔ a ≠ 0 ∧ f_X7_areDrops vc a = true := by
  have h12 := hd.1
  have o0 : (0 : Int32).toInt = 0 := rfl
  unfold f_X8_areDrops f_X7_areDrops
  rw [hd.2.1, hC.1]
  obtain ⟨h1, h2⟩ := sft (s := nd) (by omega)
  have hk : ∀ s, s < 13 → (nI s &&& 31) = nI s := by decide
  have h3 : (a >>> (nI nd &&& 31)).toBitVec = a.toBitVec.sshiftRight nd := by
    rw [hk nd (by omega)]
    show a.toBitVec.sshiftRight' ((nI nd).toBitVec.smod 32) = _
    rw [BitVec.sshiftRight', h1, BitVec.toNat_ofNat, Nat.mod_eq_of_lt (by omega)]
  have h4 : ((a.toUInt32 >>> ((nI nd).toUInt32 &&& Int32.toUInt32 31)).toInt32).toBitVec = a.toBitVec >>> nd := by
    show a.toBitVec >>> (((nI nd).toUInt32 &&& Int32.toUInt32 31).toBitVec % 32#32) = _
    rw [h2, BitVec.ushiftRight_eq', show BitVec.toNat (BitVec.ofNat 32 nd % 32#32) = nd by rw [BitVec.toNat_umod, BitVec.toNat_ofNat, BitVec.toNat_ofNat, Nat.mod_eq_of_lt (show nd < 2 ^ 32 by omega), show 32 % 2 ^ 32 = 32 from rfl]; omega]
  have hz : ∀ {x : Int32}, x = 0 ↔ x.toBitVec = 0#32 := fun {x} => ⟨fun h => by rw [h]; rfl, fun h => Int32.toBitVec_inj.mp h⟩
  have hmsb : a.toBitVec.msb = decide (a.toInt < 0) := by
    rw [show a.toInt = a.toBitVec.toInt from rfl, BitVec.msb_eq_toInt]
  by_cases p : a ≤ 0
  · rw [if_pos p]
    refine ⟨fun h => (by cases h), fun ⟨n0, h⟩ => ?_⟩
    exfalso
    by_cases q : ((a.toUInt32 >>> ((nI nd).toUInt32 &&& Int32.toUInt32 31)).toInt32) = 0
    · rw [hz, h4] at q
      have ha : a.toInt < 0 := by
        rw [le_toInt] at p
        by_cases z : a.toInt = 0
        · exact absurd (eq_toInt.mpr z) n0
        · omega
      have hb : (a.toBitVec >>> nd).getLsbD (31 - nd) = true := by
        rw [BitVec.getLsbD_ushiftRight, show nd + (31 - nd) = 31 by omega]
        have := BitVec.msb_eq_getLsbD_last a.toBitVec
        rw [hmsb, decide_eq_true ha] at this
        exact this.symm
      rw [q] at hb
      simp at hb
    · rw [if_neg q] at h; cases h
  · rw [if_neg p]
    have e : a.toBitVec.sshiftRight nd = a.toBitVec >>> nd := by
      rw [le_toInt] at p
      apply BitVec.eq_of_getLsbD_eq
      intro i hi
      rw [BitVec.getLsbD_ushiftRight, BitVec.getLsbD_sshiftRight, hmsb, decide_eq_false (show ¬ a.toInt < 0 by omega)]
      by_cases z : nd + i < 32
      · rw [if_pos z]; simp [show ¬ 32 ≤ i by omega]
      · rw [if_neg z, Bool.and_false, BitVec.getLsbD_of_ge _ _ (by omega)]
    have n0 : a ≠ 0 := fun z => p (by rw [z]; decide)
    by_cases q : (a >>> (nI nd &&& 31)) = 0
    · have q2 : ((a.toUInt32 >>> ((nI nd).toUInt32 &&& Int32.toUInt32 31)).toInt32) = 0 := by rw [hz, h4, ← e, ← h3, ← hz]; exact q
      rw [if_pos q, if_pos q2]
      exact ⟨fun _ => ⟨n0, rfl⟩, fun _ => rfl⟩
    · have q2 : ¬ ((a.toUInt32 >>> ((nI nd).toUInt32 &&& Int32.toUInt32 31)).toInt32) = 0 := by rw [hz, h4, ← e, ← h3, ← hz]; exact q
      rw [if_neg q, if_neg q2]
      exact ⟨fun h => (by cases h), fun h => (by cases h.2)⟩
theorem isLaw_m {vc vm : rV} {nl : Nat} {a : Int32} (h : Rl nl vc vm) : f_X8_isLaw vm a = true ↔ ∃ n, n < nl ∧ a = nI n := by
  unfold f_X8_isLaw
  rw [h.2.2.1]
  have := h.1
  exact lt_guard (by omega)
theorem canStart_go {nl nw nd p tb : Nat} {vc vm : rV} (h : Re nl nw nd p tb vc vm) (a b : Int32) : ∃ r : Bool, f_X7_canStart vc a b = some r ∧ (r = true ↔ f_X8_isLaw vm a = true ∧ f_X8_areDrops vm b = true ∧ DJ vm b nd) := by
  obtain ⟨-, hl, -, hd, -⟩ := h
  have l4 := hl.1
  have hlc : f_X4_has vc 9 a = f_X8_isLaw vm a := by
    rw [Bool.eq_iff_iff, isLaw_m hl]
    unfold f_X4_has
    rw [hl.2.1]
    constructor
    · intro h
      by_cases p : a < 0
      · rw [if_pos p] at h; cases h
      rw [if_neg p] at h
      by_cases q : nI nl ≤ a
      · rw [if_pos q] at h; cases h
      · exact (lt_guard (a := a) (n := nl) (by omega)).mp (in_p p (by rw [lt_suc (by omega) p]; exact q))
    · rintro ⟨d, hd, rfl⟩
      rw [if_neg (niGe (by omega)), if_neg (nle (by omega) (by omega)), if_neg (show ¬ (4 : Int32) ≤ nI d from nle (a := 4) (by omega) (by omega))]
  unfold f_X7_canStart
  rw [hlc]
  by_cases y : f_X8_isLaw vm a = true
  · rw [if_pos y]
    by_cases z : b = 0
    · rw [if_pos z]
      exact ⟨false, rfl, fun h => (by cases h), fun h => absurd z ((areDrops_go hd.1 hd.2.1).mp h.2.1).1⟩
    rw [if_neg z]
    by_cases w : f_X7_areDrops vc b = true
    · rw [if_pos w]
      obtain ⟨r, e1, e2⟩ := apart_eq (set := b) hd.1 hd.2.1
      rw [e1, Option.bind_some]
      have hw := (areDrops_go (a := b) hd.1 hd.2.1).mpr ⟨z, w⟩
      by_cases q : r = true
      · rw [if_pos q]; exact ⟨true, rfl, fun _ => ⟨y, hw, e2.mp q⟩, fun _ => rfl⟩
      · rw [if_neg q]; exact ⟨false, rfl, fun h => (by cases h), fun h => absurd (e2.mpr h.2.2) q⟩
    · rw [if_neg w]
      exact ⟨false, rfl, fun h => (by cases h), fun h => absurd ((areDrops_go hd.1 hd.2.1).mp h.2.1).2 w⟩
  · rw [if_neg y]
    exact ⟨false, rfl, fun h => (by cases h), fun h => absurd h.1 y⟩
theorem tad_no {k j : Nat} (h : Tad k j) : 190 ≤ k ∧ k ≤ 192 ∨ (k = 174 ∧ j = 34) := by unfold Tad at h; omega
/-- what gathering touches keeps all -/
theorem Rel.tad {nl nw nd p tb : Nat} {vc vm wm : rV} (h : Re nl nw nd p tb vc vm) (hm : Ch Tad vm wm) : Re nl nw nd p tb vc wm := by
  have t : ∀ k j, ¬ (190 ≤ k ∧ k ≤ 192 ∨ (k = 174 ∧ j = 34)) → ¬ Tad k j := fun k j q z => q (tad_no z)
  exact h.ch Ch.no hm (fun _ _ _ _ _ _ q => q) (fun _ _ _ _ q => q) (fun _ _ q => q) (fun j hj => t _ _ (by omega)) (fun k j _ _ => t _ _ (by omega)) (fun j => ⟨t _ _ (by omega), t _ _ (by omega), t _ _ (by omega), t _ _ (by omega)⟩)
theorem ST.tad {M B tb : Nat} {vc vm wm : rV} (h : ST M B tb vc vm) (hm : Ch Tad vm wm) : ST M B tb vc wm := by
  have t : ∀ k j, ¬ (190 ≤ k ∧ k ≤ 192 ∨ (k = 174 ∧ j = 34)) → ¬ Tad k j := fun k j q z => q (tad_no z)
  exact h.ext Ch.no (fun _ _ _ _ q => q) (fun j _ => hm.1 _ _ (t _ _ (by omega))) (hm.2.1 174 27 (t _ _ (by omega))) (fun j _ => hm.1 _ _ (t _ _ (by omega)))
theorem LPq.tad {B nl : Nat} {vc vm wm : rV} (h : LPq B nl 187 vc vm) (hm : Ch Tad vm wm) : LPq B nl 187 vc wm := by
  have t : ∀ k j, ¬ (190 ≤ k ∧ k ≤ 192 ∨ (k = 174 ∧ j = 34)) → ¬ Tad k j := fun k j q z => q (tad_no z)
  exact h.ch Ch.no hm (fun q => q) (t _ _ (by omega)) (t _ _ (by omega))
theorem blist_tv {vm wm : rV} {set : Int32} {m : Nat} (h : tv wm = tv vm) : blist wm set m = blist vm set m := by
  have e : pz wm = pz vm := by
    funext d
    unfold pz
    rw [h]
  unfold blist bl sel
  rw [e, h]
theorem DJ_tv {vm wm : rV} {set : Int32} {m : Nat} (h : tv wm = tv vm) (hJ : DJ vm set m) : DJ wm set m := by
  unfold DJ
  rw [h]
  exact hJ
theorem tad_tv {vm wm : rV} (h : Ch Tad vm wm) : tv wm = tv vm := by
  funext d j
  unfold tv
  rw [h.1 _ _ fun q => by have := tad_no q; omega]
theorem sall_no {B k j : Nat} (h : Sall B k j) : B ≤ k ∧ k ≤ B + 37 ∧ k ≠ B + 13 := by unfold Sall at h; omega
theorem tlb_no {k j : Nat} (h : Tlb k j) : k = 187 ∨ (k = 174 ∧ j = 1000027) := by unfold Tlb at h; omega
theorem sst_no {B kf k j : Nat} (h : Sst B kf k j) : B ≤ k ∧ k ≤ B + 37 ∨ k = kf + 2 := by unfold Sst at h; omega
theorem tst_no {k j : Nat} (h : Tst k j) : (k = 187 ∧ j ≠ 294 ∧ j ≠ 295 ∧ ¬ (192 ≤ j ∧ j < 240)) ∨ (k = 174 ∧ (j = 37 ∨ j = 38 ∨ j = 39 ∨ j = 1000027)) ∨ k = 183 ∨ k = 184 ∨ k = 194 ∨ k = 193 := by unfold Tst at h; omega
/-- the strip has begun anew -/
theorem Rel.begun {nl nw nd p tb n : Nat} {vc vm wc wm : rV} (h : Re nl nw nd p tb vc vm) (hS : ST nd 60 0 wc wm) (hn : n < nl) (hL : LSt 60 (11 + 3 * n) n wc wm) (h1 : wm.1 187 295 = 1) (hc : Ch (Sall 60) vc wc) (hm : Ch Tlb vm wm) : Rel tb wc wm := by
  have s : ∀ k j, ¬ (60 ≤ k ∧ k ≤ 60 + 37) → ¬ Sall 60 k j := fun k j q z => by have := sall_no z; omega
  have t : ∀ k j, ¬ (k = 187 ∨ (k = 174 ∧ j = 1000027)) → ¬ Tlb k j := fun k j q z => q (tlb_no z)
  exact ⟨nl, nw, nd, p, h.ch hc hm (fun k j _ _ _ _ => s _ _ (by omega)) (fun k j _ _ => s _ _ (by omega)) (fun i _ => s _ _ (by omega)) (fun j hj => t _ _ (by omega)) (fun k j _ _ => t _ _ (by omega)) (fun j => ⟨t _ _ (by omega), t _ _ (by omega), t _ _ (by omega), t _ _ (by omega)⟩), hS.mono (Nat.zero_le _) (Nat.le_refl _), Or.inr ⟨n, hn, hL.1, hL.2.2.2.2.1, h1⟩⟩
theorem start_go {tb : Nat} {vc vm : rV} (h : Rel tb vc vm) (a b : Int32) (x : Int64) : Agree tb vc vm (f_X7_start vc a b x) (f_X8_start vm a b x) := by
  obtain ⟨nl, nw, nd, p, hE, hS, hL⟩ := h
  have hR : Rel tb vc vm := ⟨nl, nw, nd, p, hE, hS, hL⟩
  obtain ⟨r, e1, e2⟩ := canStart_go hE a b
  unfold f_X7_start f_X8_start
  rw [e1, Option.bind_some]
  have no : ¬ r = true → Agree tb vc vm (if r = true then ((f_X7_startOn vc 60 a b x).bind fun p2 => some (p2.1 60 10, p2)) else (some ((-1 : Int32), vc))) (some ((-1 : Int32), vm)) := fun q => by
    rw [if_neg q]; exact Agree.same hR
  by_cases y : f_X8_isLaw vm a = true
  · rw [if_pos y]
    by_cases z : f_X8_areDrops vm b = true
    · rw [if_pos z]
      obtain ⟨g, vg, g1, g2, g3, g4⟩ := gather_go (set := b) hE.2.2.2.1.1
      rw [g1, Option.bind_some]
      have hE2 := Rel.tad hE g4
      have tcm : Ch Cm vm vg := g4.mono fun k j q => by have := tad_no q; unfold Cm; omega
      by_cases w : g = true
      · have hJ := g2.mp w
        rw [if_pos w, if_pos (e2.mpr ⟨y, z, hJ⟩)]
        obtain ⟨n, hn, rfl⟩ := (isLaw_m hE.2.1).mp y
        have hd := hE2.2.2.2.1
        have hl := hE2.2.1
        obtain ⟨ρ, hρ⟩ : ∃ ρ, RF 60 vc ρ := by
          obtain ⟨ρ, L, t, S0, S1, -, ⟨q, -⟩, -⟩ := hS
          exact ⟨ρ, q⟩
        have etv := tad_tv g4
        obtain ⟨wc, wm, s1, s2, s3, s4, s5, ⟨c, c1, c2⟩, s6, s7⟩ := startOn_go (B := 60) (x := x) (set := b) (by decide) hρ hd.1 hd.2.1 (DJ_tv etv hJ) (by rw [blist_tv etv]; exact g3) hn hl.1 hl.2.1 (hl.2.2.2 n hn)
        rw [s1, s2, Option.bind_some, Option.bind_some, c1, c2]
        exact ⟨_, _, _, rfl, rfl, Rel.begun hE2 s3 hn s4 s5 s6 s7, s6.mono fun k j q => by have := sall_no q; unfold Cc; omega, tcm.tr (s7.mono fun k j q => by have := tlb_no q; unfold Cm; omega)⟩
      · rw [if_neg w]
        have : ¬ r = true := fun q => w (g2.mpr (e2.mp q).2.2)
        rw [if_neg this]
        exact ⟨_, _, _, rfl, rfl, ⟨nl, nw, nd, p, hE2, hS.tad g4, hL.tad g4⟩, Ch.rf, tcm⟩
    · rw [if_neg z]
      exact no fun q => z (e2.mp q).2.1
  · rw [if_neg y]
    exact no fun q => y (e2.mp q).1
theorem ticks_c {a : Int32} : f_X7_areTicks a = f_X8_areTicks a := by
  unfold f_X7_areTicks f_X8_areTicks f_X8_in
  rfl
theorem tick_op {tb : Nat} {vc vm : rV} (h : Rel tb vc vm) (htb : tb + 60 < 1000000) (a : Int32) : Agree (tb + 60) vc vm (f_X7_tick vc a) (f_X8_tick vm a) := by
  obtain ⟨nl, nw, nd, p, hE, hS, hL⟩ := h
  have hR : Rel (tb + 60) vc vm := Rel.mono ⟨nl, nw, nd, p, hE, hS, hL⟩ (by omega)
  unfold f_X7_tick f_X8_tick
  rcases hL with ⟨l1, l2⟩ | ⟨n, hn, l1, l2, l3⟩
  · rw [l1, l2, if_neg (show ¬ (0 : Int32) = 1 by decide)]
    exact Agree.same hR
  · have l4 := hE.2.1.1
    have hl := LSt.of hE.2.1 hn (Nat.le_refl 60) l1 l2
    rw [l1, l3, if_pos rfl]
    simp only []
    rw [if_pos hl.2.1, ticks_c]
    unfold f_X8_areTicks
    by_cases q : f_X8_in a 1 60 = true
    · rw [if_pos q, if_pos q]
      obtain ⟨k, hk, rfl⟩ := in_n (n := 60) (a := a) (by omega) (by
        obtain ⟨q1, q2⟩ := in_t q
        refine in_p (fun z => q1 ?_) q2
        rw [lt_toInt] at z ⊢
        have o0 : (0 : Int32).toInt = 0 := rfl
        have o1 : (1 : Int32).toInt = 1 := rfl
        omega)
      obtain ⟨-, p2, p3⟩ := hE.2.2.2.2.2.1
      have p1 := hE.2.2.2.2.2.1.1
      obtain ⟨i, wc, wm, g1, g2, g3, g4, g5, g6, g7, -⟩ := goOn_go (a := k) (by decide) (by omega) (by omega) (by rw [p3, le_toInt, niInt (by omega)]; show (0 : Int) ≤ _; omega) hS hl
      rw [p2, ← p3, g1, g2, Option.bind_some, Option.bind_some]
      have s : ∀ k j, ¬ (60 ≤ k ∧ k ≤ 60 + 37 ∨ k = 11 + 3 * n + 2) → ¬ Sst 60 (11 + 3 * n) k j := fun k j q z => q (sst_no z)
      have t : ∀ k j, ¬ ((k = 187 ∧ j ≠ 294 ∧ j ≠ 295 ∧ ¬ (192 ≤ j ∧ j < 240)) ∨ (k = 174 ∧ (j = 37 ∨ j = 38 ∨ j = 39 ∨ j = 1000027)) ∨ k = 183 ∨ k = 184 ∨ k = 194 ∨ k = 193) → ¬ Tst k j := fun k j q z => q (tst_no z)
      refine ⟨_, _, _, rfl, rfl, ⟨nl, nw, nd, p, (hE.mono (show tb ≤ tb + 60 by omega)).ch g6 g7 (fun k j h1 h2 h3 h4 => s _ _ (fun z => ?_)) (fun k j _ _ => s _ _ (by omega)) (fun i _ => s _ _ (by omega)) (fun j hj => t _ _ (by omega)) (fun k j _ _ => t _ _ (by omega)) (fun j => ⟨t _ _ (by omega), t _ _ (by omega), t _ _ (by omega), t _ _ (by omega)⟩), g4.mono (by omega) (Nat.le_refl _), Or.inr ⟨n, hn, g5.1, g5.2.2.2.2.1, ?_⟩⟩, g6.mono fun k j q => by have := sst_no q; unfold Cc; omega, g7.mono fun k j q => by have := tst_no q; unfold Cm; omega⟩
      · rcases z with z | z
        · omega
        · exact h2 ⟨n, by omega, Or.inl (by omega)⟩
      · rw [g7.1 _ _ (t _ _ (by omega))]; exact l3
    · rw [if_neg q, if_neg q]
      exact Agree.same hR
