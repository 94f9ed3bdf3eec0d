/-! A DROP read; FAULT; TEXT -/
def DRX (d : Nat) (wc wm : rV) : Prop := (∀ j, j < 12 → wc.1 8 j = wm.1 185 (12 * d + j)) ∧ TD wm 185 (12 * d) ∧ tv wm d 0 + tv wm d 1 ≤ 24
theorem endd_go {q : Qy} {d a : Nat} {vc vm : rV} (hd : d < 13) (h : AD q d a vc vm) : ∃ (r : Int32) (wc wm : rV), f_X1_faultOfDrop_71 vc 1 = some (r, wc) ∧ f_X8_readDrop_84 vm (nI d) = some (r, wm) ∧ Ch Sdr vc wc ∧ Ch (Tdr d) vm wm ∧ (r = -1 → DRX d wc wm) := by
  obtain ⟨a1, uc, um, n1, n2, h1, ha, hb, s3, t3⟩ := nbd_go h
  have l1 := h1.2.1.2.2
  have n160 := h1.1.1
  have i0 : (12 : Int32) * nI d + 0 = nI (12 * d + 0) := ix185 (j := 0)
  have i1 : (12 : Int32) * nI d + 1 = nI (12 * d + 1) := ix185 (j := 1)
  unfold f_X1_faultOfDrop_71 f_X8_readDrop_84 f_X8_atEnd
  rw [if_neg (by decide), n1, h.2.2.1, if_pos rfl, n2, Option.bind_some, Option.bind_some]
  simp only []
  by_cases z : bt q a1 = -1
  · rw [if_pos z, if_pos z, h1.2.2.1, Option.bind_some]
    simp only []
    rw [if_pos trivial, i0, i1, if_pos (gin (show 12 * d + 0 < 156 by omega) (by omega)), if_pos (gin (show 12 * d + 1 < 156 by omega) (by omega)), niCl (show 12 * d + 0 < 2147483648 by omega), niCl (show 12 * d + 1 < 2147483648 by omega)]
    obtain ⟨e, -, w, -, y, zz⟩ := h1
    obtain ⟨t0, -, u0⟩ := tv_eq zz (j := 0) (by omega)
    obtain ⟨t1, -, u1⟩ := tv_eq zz (j := 1) (by omega)
    have h0 : tHi 0 = 23 := rfl
    have h1' : tHi 1 = 24 := rfl
    rw [y 0 (by omega), y 1 (by omega), t0, t1, niAdd]
    by_cases k : tv um d 0 + tv um d 1 ≤ 24
    · rw [if_pos (show nI (tv um d 0 + tv um d 1) ≤ (24 : Int32) from ple (b := 24) k (by omega)), if_pos (show nI (tv um d 0 + tv um d 1) ≤ (24 : Int32) from ple (b := 24) k (by omega)), w]
      exact ⟨-1, uc, um, rfl, rfl, sd3 s3, td3 t3, fun _ => ⟨y, zz, k⟩⟩
    · rw [if_neg (show ¬ nI (tv um d 0 + tv um d 1) ≤ (24 : Int32) from nle (b := 24) (by omega) (by omega)), if_neg (show ¬ nI (tv um d 0 + tv um d 1) ≤ (24 : Int32) from nle (b := 24) (by omega) (by omega)), vlet_eq, rI_at, e.2.1.1, e.2.1.2]
      refine ⟨nI q.n, uc, _, rfl, rfl, sd3 s3, (td3 t3).I (Or.inl ⟨rfl, by omega⟩), fun y => ?_⟩
      have := congrArg Int32.toInt y
      rw [niInt (by omega), show (-1 : Int32).toInt = -1 from rfl] at this
      omega
  · obtain ⟨b1, b2⟩ := badd_go h1
    have nz : ¬ nI a1 = (-1 : Int32) := fun y => by
      have := congrArg Int32.toInt y
      rw [niInt (by omega), show (-1 : Int32).toInt = -1 from rfl] at this
      omega
    rw [if_neg z, if_neg z, b1, Option.bind_some, Option.bind_some]
    simp only []
    rw [rI_at, if_neg nz, h1.2.1.1]
    exact ⟨nI a1, uc, _, rfl, rfl, sd3 s3, (td3 t3).tr b2, fun y => absurd y nz⟩
theorem endd_de {d w : Nat} {vc vm : rV} (hw : w ≤ 160) (e1 : vc.1 7 3 = nI w) (e2 : vm.1 174 4 = nI w) : f_X1_faultOfDrop_71 vc 0 = some (nI w, vc) ∧ (∀ g, f_X8_readDrop_49 (g + 1) vm (nI d) = some (nI w, vm)) ∧ nI w ≠ -1 := by
  have nz : ¬ nI w = (-1 : Int32) := fun y => by
    have := congrArg Int32.toInt y
    rw [niInt (by omega), show (-1 : Int32).toInt = -1 from rfl] at this
    omega
  refine ⟨?_, fun g => ?_, nz⟩
  · unfold f_X1_faultOfDrop_71
    rw [if_pos rfl, e1]
  · rw [f_X8_readDrop_49, e2, if_neg nz]
    unfold f_X8_readDrop_84 f_X8_atEnd
    rw [e2, if_neg nz, Option.bind_some]
    simp only []
    rw [if_neg nz, e2]
theorem drop_lp {q : Qy} {d : Nat} (hd : d < 13) : ∀ (e i f g a : Nat) (vc vm : rV), frc (vc.1 7 2) 12 ≤ e → i + e ≤ 11 → e + 1 < f → e + 1 < g → AD q d a vc vm → ∃ (r : Int32) (wc wm : rV), f_X1_faultOfDrop_31 f vc 1 (nI i) = some (r, wc) ∧ f_X8_readDrop_49 g vm (nI d) = some (r, wm) ∧ Ch Sdr vc wc ∧ Ch (Tdr d) vm wm ∧ (r = -1 → DRX d wc wm) := by
  intro e
  induction e with
  | zero =>
    intro i f g a vc vm hfr hi hf hg h
    obtain ⟨f, rfl⟩ : ∃ n', f = n' + 2 := ⟨f - 2, by omega⟩
    obtain ⟨g, rfl⟩ : ∃ n', g = n' + 2 := ⟨g - 2, by omega⟩
    obtain ⟨a1, uc, um, n1, n2, h1, ha, hb, s3, t3⟩ := nbd_go h
    have l1 := h1.2.1.2.2
    have ub : uc.1 7 2 = vc.1 7 2 := s3.1 _ _ (by unfold Sd3; omega)
    rw [show f + 2 = (f + 1) + 1 from rfl, show g + 2 = (g + 1) + 1 from rfl, f_X1_faultOfDrop_31, f_X8_readDrop_49, if_neg (show ¬ (12 : Int32) ≤ nI i from nle (a := 12) (by omega) (by omega)), if_neg (by decide), n1, h.2.2.1, if_pos rfl, n2, Option.bind_some, Option.bind_some]
    simp only []
    by_cases z : bt q a1 = 44
    · have han := bt_lt z (by decide)
      rw [if_pos z, if_pos z, vlet_eq, vlet_eq, h1.2.1.1, h1.2.1.2.1, ad1 a1]
      rcases item_go hd (h1.at (a' := a1 + 1) (by omega)) with ⟨wc, wm, a', k1, k2, k3, k4, k5, k6⟩ | ⟨wc, wm, w, k1, k2, k3, k4, k5, k6, k7⟩
      · rw [rI_no (by omega), ub] at k4
        omega
      · obtain ⟨d1, d2, d3⟩ := endd_de (d := d) k3 k4 k5
        rw [k1, k2, Option.bind_some, Option.bind_some, vlet_eq, vlet_eq, ad1]
        rw [show bI (false, wc).1 = (0 : Int32) from rfl, f_X1_faultOfDrop_31]
        refine ⟨nI w, wc, wm, ?_, d2 g, ((sd3 s3).tr (sd3 (Ch.rf.I ⟨rfl, rfl⟩))).tr k6, ((td3 t3).tr (td3 (Ch.rf.I ⟨rfl, rfl⟩))).tr k7, fun y => absurd y d3⟩
        rw [show (false, wc).2 = wc from rfl, d1, if_pos rfl]
        by_cases y : (12 : Int32) ≤ nI (i + 1)
        · rw [if_pos y]
        · rw [if_neg y]
    · rw [if_neg z, if_neg z]
      obtain ⟨r, wc, wm, x1, x2, x3, x4, x5⟩ := endd_go hd h1
      exact ⟨r, wc, wm, x1, x2, (sd3 s3).tr x3, (td3 t3).tr x4, x5⟩
  | succ e ih =>
    intro i f g a vc vm hfr hi hf hg h
    obtain ⟨f, rfl⟩ : ∃ n', f = n' + 2 := ⟨f - 2, by omega⟩
    obtain ⟨g, rfl⟩ : ∃ n', g = n' + 2 := ⟨g - 2, by omega⟩
    obtain ⟨a1, uc, um, n1, n2, h1, ha, hb, s3, t3⟩ := nbd_go h
    have l1 := h1.2.1.2.2
    have ub : uc.1 7 2 = vc.1 7 2 := s3.1 _ _ (by unfold Sd3; omega)
    rw [show f + 2 = (f + 1) + 1 from rfl, show g + 2 = (g + 1) + 1 from rfl, f_X1_faultOfDrop_31, f_X8_readDrop_49, if_neg (show ¬ (12 : Int32) ≤ nI i from nle (a := 12) (by omega) (by omega)), if_neg (by decide), n1, h.2.2.1, if_pos rfl, n2, Option.bind_some, Option.bind_some]
    simp only []
    by_cases z : bt q a1 = 44
    · have han := bt_lt z (by decide)
      rw [if_pos z, if_pos z, vlet_eq, vlet_eq, h1.2.1.1, h1.2.1.2.1, ad1 a1]
      have pc : Ch Sdr vc (rI uc 7 3 (nI (a1 + 1))) := (sd3 s3).tr (sd3 (Ch.rf.I ⟨rfl, rfl⟩))
      have pm : Ch (Tdr d) vm (rI um 174 3 (nI (a1 + 1))) := (td3 t3).tr (td3 (Ch.rf.I ⟨rfl, rfl⟩))
      rcases item_go hd (h1.at (a' := a1 + 1) (by omega)) with ⟨wc, wm, a', k1, k2, k3, k4, k5, k6⟩ | ⟨wc, wm, w, k1, k2, k3, k4, k5, k6, k7⟩
      · rw [rI_no (by omega), ub] at k4
        rw [k1, k2, Option.bind_some, Option.bind_some, vlet_eq, vlet_eq, ad1]
        rw [show bI (true, wc).1 = (1 : Int32) from rfl]
        obtain ⟨r, vc', vm', x1, x2, x3, x4, x5⟩ := ih (i + 1) (f + 1) (g + 1) a' wc wm (by omega) (by omega) (by omega) (by omega) k3
        exact ⟨r, vc', vm', x1, x2, (pc.tr k5).tr x3, (pm.tr k6).tr x4, x5⟩
      · obtain ⟨d1, d2, d3⟩ := endd_de (d := d) k3 k4 k5
        rw [k1, k2, Option.bind_some, Option.bind_some, vlet_eq, vlet_eq, ad1]
        rw [show bI (false, wc).1 = (0 : Int32) from rfl, f_X1_faultOfDrop_31]
        refine ⟨nI w, wc, wm, ?_, d2 g, pc.tr k6, pm.tr k7, fun y => absurd y d3⟩
        rw [show (false, wc).2 = wc from rfl, d1, if_pos rfl]
        by_cases y : (12 : Int32) ≤ nI (i + 1)
        · rw [if_pos y]
        · rw [if_neg y]
    · rw [if_neg z, if_neg z]
      obtain ⟨r, wc, wm, x1, x2, x3, x4, x5⟩ := endd_go hd h1
      exact ⟨r, wc, wm, x1, x2, (sd3 s3).tr x3, (td3 t3).tr x4, x5⟩
theorem us_lp {d : Nat} (hd : d < 13) : ∀ (e i f : Nat) (vm : rV), i + e = 12 → e < f → ∃ wm, f_X8_readDrop_17 f vm (nI d) (nI i) = ((f_X8_item wm (nI d)).bind fun p4 => f_X8_readDrop_49 20000 p4 (nI d)) ∧ (∀ j, i ≤ j → j < 12 → wm.1 185 (12 * d + j) = f_X8_usual (nI j)) ∧ (∀ j, j < i → wm.1 185 (12 * d + j) = vm.1 185 (12 * d + j)) ∧ Ch (fun k j => k = 185 ∧ 12 * d ≤ j ∧ j < 12 * d + 12) vm wm := by
  intro e
  induction e with
  | zero =>
    intro i f vm h hf
    obtain ⟨f, rfl⟩ : ∃ n', f = n' + 1 := ⟨f - 1, by omega⟩
    rw [f_X8_readDrop_17, if_pos (show (12 : Int32) ≤ nI i from ple (a := 12) (by omega) (by omega))]
    exact ⟨vm, rfl, fun j h1 h2 => by omega, fun j _ => rfl, Ch.rf⟩
  | succ e ih =>
    intro i f vm h hf
    obtain ⟨f, rfl⟩ : ∃ n', f = n' + 1 := ⟨f - 1, by omega⟩
    rw [f_X8_readDrop_17, if_neg (show ¬ (12 : Int32) ≤ nI i from nle (a := 12) (by omega) (by omega)), ix185, if_pos (gin (show 12 * d + i < 156 by omega) (by omega)), niCl (by omega), vlet_eq, vlet_eq, ad1]
    obtain ⟨wm, x1, x2, x3, x4⟩ := ih (i + 1) f (rI vm 185 (12 * d + i) (f_X8_usual (nI i))) (by omega) (by omega)
    refine ⟨wm, x1, fun j h1 h2 => ?_, fun j hj => by rw [x3 j (by omega), rI_no (by omega)], (show Ch (fun k j => k = 185 ∧ 12 * d ≤ j ∧ j < 12 * d + 12) vm _ from Ch.rf.I ⟨rfl, by omega, by omega⟩).tr x4⟩
    by_cases z : j = i
    · rw [z, x3 i (by omega), rI_at]
    · exact x2 j (by omega) h2
theorem rCt_at {v : rV} {k n a b : Nat} {F : Nat → Int32} : (rCt v k F 0 0 n).1 a b = if a = k ∧ b < n then F b else v.1 a b := by
  show (if a = k then va_cpy F (v.1 k) 0 0 n b else v.1 a b) = _
  by_cases h : a = k
  · subst h
    rw [if_pos rfl]
    unfold va_cpy
    by_cases q : b < n
    · rw [if_pos (by omega), if_pos ⟨rfl, q⟩, Nat.zero_add, Nat.sub_zero]
    · rw [if_neg (by omega), if_neg (fun z => q z.2)]
  · rw [if_neg h, if_neg (fun z => h z.1)]
theorem dropread_go {d : Nat} {vc vm : rV} (hd : d < 13) (hR : Rt vc vm) : ∃ (r : Int32) (wc wm : rV), f_X1_faultOfDrop vc = some (r, wc) ∧ f_X8_readDrop vm (nI d) = some (r, wm) ∧ Ch Sdr vc wc ∧ Ch (Tdr d) vm wm ∧ (r = -1 → DRX d wc wm) := by
  obtain ⟨n, n160, e1, e2, hb⟩ := hR
  obtain ⟨c0, ec0⟩ : ∃ w, w = rCt (rI (rI vc 7 3 0) 7 2 0) 8 (fun j => (rtb.getD 2 []).getD j 0) 0 0 12 := ⟨_, rfl⟩
  obtain ⟨m0, em0⟩ : ∃ w, w = rI (rI (rI vm 174 3 0) 174 4 (-1)) 174 22 0 := ⟨_, rfl⟩
  have cc : Ch Sdr vc c0 := by
    rw [ec0]
    refine ⟨fun k j q => ?_, fun k j q => rfl, fun k j q => rfl⟩
    rw [rCt_at, if_neg (fun z => q (Or.inr z)), rI_no (fun z => q (Or.inl ⟨z.1, by omega⟩)), rI_no (fun z => q (Or.inl ⟨z.1, by omega⟩))]
  have cm : Ch (Tdr d) vm m0 := by
    rw [em0]
    exact ((Ch.rf.I (Or.inl ⟨rfl, by omega⟩)).I (Or.inl ⟨rfl, by omega⟩)).I (Or.inl ⟨rfl, by omega⟩)
  obtain ⟨m1, x1, x2, -, x4⟩ := us_lp hd 12 0 20000 m0 (by omega) (by omega)
  have cm1 : Ch (Tdr d) vm m1 := cm.tr (x4.mono fun k j q => Or.inr q)
  obtain ⟨q, eq⟩ : ∃ q : Qy, q = (n, 0, 0, fun j => (vm.1 175 j).toInt.toNat) := ⟨_, rfl⟩
  have qn : q.n = n := by rw [eq]; rfl
  have qt : ∀ j, q.tp j = (vm.1 175 j).toInt.toNat := fun j => by rw [eq]; rfl
  have hT0 : TV q vc vm := by
    refine ⟨by rw [qn]; exact n160, ⟨by rw [qn]; exact e1, by rw [qn]; exact e2⟩, fun j hj => ?_⟩
    rw [qn] at hj
    obtain ⟨b, b1, b2, b3, b4⟩ := hb j hj
    have hv : (vm.1 175 j).toInt.toNat = b := by rw [b4, niInt (by omega)]; rfl
    rw [qt, hv]
    exact ⟨⟨b1, b2⟩, b3, b4⟩
  have bits0 : c0.1 7 2 = 0 := by rw [ec0, rCt_at, if_neg (by omega), rI_at]
  have hA : AD q d 0 c0 m1 := by
    refine ⟨hT0.ch cc cm1, ⟨?_, ?_, Nat.zero_le _⟩, ?_, ?_, fun j hj => ?_, fun j hj => ?_⟩
    · rw [ec0, rCt_at, if_neg (by omega), rI_no (by omega), rI_at]; rfl
    · rw [x4.1 _ _ (by omega), em0, rI_no (by omega), rI_no (by omega), rI_at]; rfl
    · rw [x4.1 _ _ (by omega), em0, rI_no (by omega), rI_at]
    · rw [bits0, x4.1 _ _ (by omega), em0, rI_at]
    · rw [ec0, rCt_at, if_pos ⟨rfl, hj⟩, x2 j (by omega) hj]
      exact (usual_t j hj).1
    · obtain ⟨-, u1, u2, u3, u4⟩ := usual_t j hj
      rw [x2 j (by omega) hj]
      exact ⟨_, u2, u3, u4⟩
  unfold f_X1_faultOfDrop f_X8_readDrop
  rw [vlet_eq, vlet_eq, vlet_eq, vlet_eq, vlet_eq, vlet_eq, ← ec0, ← em0, show f_X8_readDrop_17 20000 m0 (nI d) 0 = _ from x1]
  rcases item_go hd hA with ⟨wc, wm, a', k1, k2, k3, k4, k5, k6⟩ | ⟨wc, wm, w, k1, k2, k3, k4, k5, k6, k7⟩
  · rw [bits0, show frc 0 12 = 12 from by decide] at k4
    rw [k1, k2, Option.bind_some, Option.bind_some, vlet_eq]
    rw [show bI (true, wc).1 = (1 : Int32) from rfl]
    obtain ⟨r, vc', vm', y1, y2, y3, y4, y5⟩ := drop_lp hd 11 0 20000 20000 a' wc wm (by omega) (by omega) (by omega) (by omega) k3
    exact ⟨r, vc', vm', y1, y2, (cc.tr k5).tr y3, (cm1.tr k6).tr y4, y5⟩
  · obtain ⟨d1, d2, d3⟩ := endd_de (d := d) k3 k4 k5
    obtain ⟨f, hf⟩ : ∃ f, 20000 = f + 1 := ⟨19999, rfl⟩
    rw [k1, k2, Option.bind_some, Option.bind_some, vlet_eq]
    rw [show bI (false, wc).1 = (0 : Int32) from rfl]
    rw [hf, f_X1_faultOfDrop_31, if_neg (by decide), if_pos rfl]
    refine ⟨nI w, wc, wm, ?_, d2 f, cc.tr k6, cm1.tr k7, fun y => absurd y d3⟩
    rw [show (false, wc).2 = wc from rfl, d1]
