/-! TRIED -/
theorem tried_go {tb : Nat} {vc vm : rV} (h : Rel tb vc vm) (a b : Int32) (x : Int64) (c e : Int32) : Agree tb vc vm (f_X7_tried vc a b x c e) (f_X8_tried vm a b x c e) := by
  obtain ⟨nl, nw, nd, p, hE, hS, hL⟩ := h
  have hR : Rel tb vc vm := ⟨nl, nw, nd, p, hE, hS, hL⟩
  obtain ⟨r, e1, e2⟩ := canStart_go hE a b
  unfold f_X7_tried f_X8_tried
  rw [e1, Option.bind_some]
  by_cases y : f_X8_isLaw vm a = true
  rotate_left
  · rw [if_neg y, if_neg fun q => y (e2.mp q).1]; exact Agree.same hR
  rw [if_pos y]
  by_cases z : f_X8_areDrops vm b = true
  rotate_left
  · rw [if_neg z, if_neg fun q => z (e2.mp q).2.1]; exact Agree.same hR
  rw [if_pos z]
  obtain ⟨g, vg, g1, g2, g3, g4⟩ := gather_go (set := b) hE.2.2.2.1.1
  rw [g1, Option.bind_some]
  have hE2 := Rel.tad hE g4
  have tcm : Ch Cm vm vg := g4.mono fun k j q => by have := tad_no q; unfold Cm; omega
  have hRg : Rel tb vc vg := ⟨nl, nw, nd, p, hE2, hS.tad g4, hL.tad g4⟩
  have off : ∀ s : Int32, Agree tb vc vm (some (s, vc)) (some (s, vg)) := fun s => ⟨_, _, _, rfl, rfl, hRg, Ch.rf, tcm⟩
  by_cases w : g = true
  rotate_left
  · have : ¬ r = true := fun q => w (g2.mpr (e2.mp q).2.2)
    rw [if_neg w, if_neg this]
    exact off _
  have hJ := g2.mp w
  rw [if_pos w, if_pos (e2.mpr ⟨y, z, hJ⟩), ticks_c]
  unfold f_X8_areTicks
  by_cases t1 : f_X8_in c 1 60 = true
  rotate_left
  · rw [if_neg t1, if_neg t1]; exact off _
  rw [if_pos t1, if_pos t1]
  by_cases q0 : e < 0
  · rw [if_pos q0, if_neg (in_ff (Or.inl q0))]; exact off _
  rw [if_neg q0]
  have o32 : (32 : Int32).toInt = 32 := rfl
  have o33 : (33 : Int32).toInt = 33 := rfl
  by_cases q1 : e < 33
  rotate_left
  · rw [if_neg q1, if_neg (in_ff (Or.inr (by rw [lt_toInt] at q1 ⊢; omega)))]; exact off _
  have q2 : f_X8_in e 0 32 = true := in_p q0 (by rw [lt_toInt] at q1 ⊢; omega)
  rw [if_pos q1, if_pos q2]
  obtain ⟨n, hn, rfl⟩ := (isLaw_m hE.2.1).mp y
  obtain ⟨k, hk, rfl⟩ := in_n (n := 60) (a := c) (by omega) (by
    obtain ⟨q1, q2⟩ := in_t t1
    refine in_p (fun z => q1 ?_) q2
    rw [lt_toInt] at z ⊢
    have o0 : (0 : Int32).toInt = 0 := rfl
    have o1 : (1 : Int32).toInt = 1 := rfl
    omega)
  -- put aside
  obtain ⟨va, a1, a2, a3, a4⟩ := asd_go 416 0 20000 vg (by omega) (by omega)
  unfold f_X8_putAside
  rw [show f_X8_putAside_2 20000 vg 0 = _ from a1, Option.bind_some]
  obtain ⟨v1, ev1⟩ : ∃ v1, v1 = rL va 174 28 (va.2.1 174 27) := ⟨_, rfl⟩
  rw [← ev1]
  have m1 : Ch (fun k j => (k = 188 ∧ j < 416) ∨ (k = 174 ∧ j = 1000028)) vg v1 := by
    rw [ev1]
    exact (a4.mono fun k j q => by omega).L (by omega)
  have r188 : ∀ j, j < 416 → v1.1 188 j = vg.1 187 j := fun j hj => by rw [ev1]; exact a2 j (by omega) hj
  have l28 : v1.2.1 174 28 = vg.2.1 174 27 := by
    rw [ev1]
    show (if 174 = 174 ∧ 28 = 28 then va.2.1 174 27 else va.2.1 174 28) = _
    rw [if_pos ⟨rfl, rfl⟩]
    exact a4.2.1 _ _ (by omega)
  have hd := hE2.2.2.2.1
  have hl := hE2.2.1
  have l4 := hl.1
  obtain ⟨⟨τ, hτ⟩, ⟨σ, hσ⟩⟩ := hE2.2.2.2.2.2.2.2
  have etv : tv v1 = tv vm := by
    rw [← tad_tv g4]
    funext d j
    unfold tv
    rw [m1.1 _ _ (by omega)]
  have hP : PM v1 (blist v1 b nd) := by
    rw [blist_tv etv]
    obtain ⟨p1, p2, p3⟩ := g3
    exact ⟨by rw [m1.1 _ _ (by omega)]; exact p1, p2, fun k p hp => by rw [m1.1 _ _ (by omega), m1.1 _ _ (by omega), m1.1 _ _ (by omega)]; exact p3 k p hp⟩
  obtain ⟨w1, w2, s1, s2, s3, s4, s5, -, s6, s7⟩ := startOn_go (B := 98) (x := x) (set := b) (by decide) hτ (hd.1.ch m1 (by omega) (by omega)) ⟨hd.2.1.1, fun d hd9 j hj => by rw [m1.1 _ _ (by omega)]; exact hd.2.1.2 d hd9 j hj⟩ (DJ_tv etv hJ) hP hn hl.1 hl.2.1 ((hl.2.2.2 n hn).ch Ch.no m1 (fun _ q => q) (fun q => q) (fun _ _ _ _ _ => by omega) (by omega))
  have sA : ∀ k j, ¬ (98 ≤ k ∧ k ≤ 98 + 37) → ¬ Sall 98 k j := fun k j q z => by have := sall_no z; omega
  have tA : ∀ k j, ¬ (k = 187 ∨ (k = 174 ∧ j = 1000027)) → ¬ Tlb k j := fun k j q z => q (tlb_no z)
  obtain ⟨-, pp2, pp3⟩ := hE2.2.2.2.2.2.1
  have pp1 := hE2.2.2.2.2.2.1.1
  have pm : w2.1 174 23 = nI p := by rw [s7.1 _ _ (tA _ _ (by omega)), m1.1 _ _ (by omega)]; exact pp3
  have pcl : w1.1 0 15 = nI p := by rw [s6.1 _ _ (sA _ _ (by omega))]; exact pp2
  obtain ⟨i, x1, x2, f1, f2, f3, f4, f5, f6, f7, -⟩ := goOn_go (a := k) (by decide) (by omega) (by omega) (by rw [pm, le_toInt, niInt (by omega)]; show (0 : Int) ≤ _; omega) s3 s4
  unfold f_X8_tryOut
  rw [s1, s2, Option.bind_some, Option.bind_some, pcl, ← pm, f1, f2, Option.bind_some, Option.bind_some, Option.bind_some]
  -- told
  obtain ⟨r9, y1, y2⟩ : ∃ r9, (if (9 : Int32) ≤ e then ((f_X5_lyingAt x1 98 (e - (9 : Int32))).bind fun p5 => some (p5, x1)) else ((f_X5_tell x1 98 e).bind fun p6 => some (p6, x1))) = some (r9, x1) ∧ (if e ≤ (8 : Int32) then ((f_X8_about x2 e).bind fun p8 => f_X8_tried_82 x2 p8) else ((f_X8_laidIn x2 (e - (9 : Int32))).bind fun p10 => f_X8_tried_82 x2 p10)) = f_X8_tried_82 x2 r9 := by
    have o8 : (8 : Int32).toInt = 8 := rfl
    have o9 : (9 : Int32).toInt = 9 := rfl
    by_cases q : (9 : Int32) ≤ e
    · rw [if_pos q, if_neg (by rw [le_toInt] at q ⊢; omega)]
      obtain ⟨t, S0, S1, -, ⟨F, R8, R9, -⟩, -⟩ := f4.parts
      obtain ⟨r, hr⟩ := laid_some (vm := x2) (e - 9)
      rw [laid_eq ⟨R8, R9⟩, hr]
      exact ⟨r, by rw [Option.bind_some], by rw [Option.bind_some]⟩
    · rw [if_neg q, if_pos (by rw [le_toInt] at q ⊢; omega)]
      obtain ⟨r, h1, h2⟩ := tell_go f4 e
      rw [h1, h2]
      exact ⟨r, by rw [Option.bind_some], by rw [Option.bind_some]⟩
  rw [y1, y2]
  -- taken back
  unfold f_X8_tried_82 f_X8_takeBack
  obtain ⟨vb, b1, b2, b3, b4⟩ := tkb_go 416 0 20000 x2 (by omega) (by omega)
  rw [show f_X8_takeBack_2 20000 x2 0 = _ from b1, Option.bind_some]
  obtain ⟨v9, ev9⟩ : ∃ v9, v9 = rL vb 174 27 (vb.2.1 174 28) := ⟨_, rfl⟩
  rw [← ev9]
  have sT : ∀ k j, ¬ (98 ≤ k ∧ k ≤ 98 + 37 ∨ k = 11 + 3 * n + 2) → ¬ Sst 98 (11 + 3 * n) k j := fun k j q z => q (sst_no z)
  have tT : ∀ k j, ¬ ((k = 187 ∧ j ≠ 294 ∧ j ≠ 295 ∧ ¬ (192 ≤ j ∧ j < 240)) ∨ (k = 174 ∧ (j = 37 ∨ j = 38 ∨ j = 39 ∨ j = 1000027)) ∨ k = 183 ∨ k = 184 ∨ k = 194 ∨ k = 193) → ¬ Tst k j := fun k j q z => q (tst_no z)
  have m9 : Ch (fun k j => k = 187 ∨ (k = 174 ∧ j = 1000027)) x2 v9 := by
    rw [ev9]
    exact (b4.mono fun k j q => by omega).L (by omega)
  have hc : Ch (fun k j => (98 ≤ k ∧ k ≤ 98 + 37) ∨ k = 11 + 3 * n + 2) vc x1 := (s6.mono fun k j q => by have := sall_no q; omega).tr (f6.mono fun k j q => sst_no q)
  have hm : Ch (fun k j => k = 183 ∨ k = 184 ∨ k = 187 ∨ k = 188 ∨ k = 193 ∨ k = 194 ∨ (k = 174 ∧ (j = 37 ∨ j = 38 ∨ j = 39 ∨ j = 1000027 ∨ j = 1000028))) vg v9 := (((m1.mono fun k j q => by omega).tr (s7.mono fun k j q => by have := tlb_no q; omega)).tr (f7.mono fun k j q => by have := tst_no q; omega)).tr (m9.mono fun k j q => by omega)
  have n4 : n < 4 := by omega
  have hE9 : Re nl nw nd p tb x1 v9 := hE2.ch2 hc hm (fun k j h1 h2 h3 h4 z => by
    rcases z with z | z
    · omega
    · exact h2 ⟨n, n4, Or.inl (by omega)⟩) (fun k j h1 h2 => by omega) ⟨f4.rf, σ, hσ.ch hc fun i _ => by omega⟩ (fun j hj => by omega) (fun k j h1 h2 => by omega) (fun j => ⟨by omega, by omega, by omega, by omega⟩)
  have row : ∀ j, j < 416 → v9.1 187 j = vg.1 187 j := fun j hj => by
    rw [← r188 j hj, ev9]
    show vb.1 187 j = _
    rw [b2 j (by omega) hj, f7.1 _ _ (tT _ _ (by omega)), s7.1 _ _ (tA _ _ (by omega))]
  have lon : v9.2.1 174 27 = vg.2.1 174 27 := by
    rw [← l28, ev9]
    show (if 174 = 174 ∧ 27 = 27 then vb.2.1 174 28 else vb.2.1 174 27) = _
    rw [if_pos ⟨rfl, rfl⟩, b4.2.1 _ _ (by omega), f7.2.1 _ _ (tT _ _ (by omega)), s7.2.1 _ _ (tA _ _ (by omega))]
  have hS9 : ST nd 60 tb x1 v9 := (hS.tad g4).ext hc (fun k j h1 h2 => by omega) row lon (fun j _ => hm.1 _ _ (by omega))
  have hL9 : LPq 60 nl 187 x1 v9 := by
    have e13 : x1.2.2 60 13 = vc.2.2 60 13 := hc.2.2 _ _ (by omega)
    rcases hL.tad g4 with ⟨a1, a2⟩ | ⟨m, a1, a2, a3, a4⟩
    · exact Or.inl ⟨by rw [e13]; exact a1, by rw [row _ (by omega)]; exact a2⟩
    · exact Or.inr ⟨m, a1, by rw [e13]; exact a2, by rw [row _ (by omega)]; exact a3, by rw [row _ (by omega)]; exact a4⟩
  exact ⟨_, _, _, rfl, rfl, ⟨nl, nw, nd, p, hE9, hS9, hL9⟩, hc.mono fun k j q => by unfold Cc; omega, tcm.tr (hm.mono fun k j q => by unfold Cm; omega)⟩
