/-! TEXTS: a law, a want, from the tape -/
def Srd : Nat → Nat → Prop := fun k j => (k = 3 ∧ (j = 3 ∨ j = 2000002)) ∨ (k = 4 ∧ j = 2) ∨ (k = 5 ∧ j < 162)
def Trd (T : Nat) : Nat → Nat → Prop := fun k j => (k = 174 ∧ (j = 3 ∨ j = 4 ∨ j = 5 ∨ j = 15 ∨ j = 16)) ∨ ((k = 176 ∨ k = 177) ∧ 340 * T ≤ j ∧ j < 340 * T + 340) ∨ ((k = 178 ∨ k = 179) ∧ j = T) ∨ ((180 ≤ k ∧ k ≤ 182) ∧ 90 * T ≤ j ∧ j < 90 * T + 90)
theorem sps_srd {l : Nat} {v w : rV} (h : Ch (Sps l) v w) : Ch Srd v w := h.mono fun k j q => by unfold Sps at q; unfold Srd; omega
theorem tcl_trd {T c k : Nat} {v w : rV} (h : Ch (Tcl T c k) v w) : Ch (Trd T) v w := h.mono fun a j q => by unfold Tcl Tps at q; unfold Trd; omega
theorem end_al {q : Qy} {a l c : Nat} {vc vm : rV} (hA : AL q a l c 0 vc vm) (hc : c ≤ a) (hl : l ≤ 162) : ∃ (r : Int32) (wc wm : rV), ((f_X3_nextByte vc).bind fun p4 => if p4.1 = (-1 : Int32) then (some ((-1 : Int32), p4.2)) else (some (p4.2.1 3 3, p4.2))) = some (r, wc) ∧ f_X8_atEnd vm = some (r, wm) ∧ Ch S3 vc wc ∧ Ch T3 vm wm ∧ (r = -1 → ∃ a', AL q a' l c 0 wc wm) := by
  obtain ⟨a1, uc, um, n1, n2, hA1, ha1, hb1, s1, t1⟩ := nb_go hA
  unfold f_X8_atEnd
  rw [n1, hA.2.2.1, if_pos rfl, n2, Option.bind_some, Option.bind_some]
  simp only []
  by_cases z : bt q a1 = -1
  · rw [if_pos z, if_pos z, hA1.2.2.1]
    exact ⟨-1, uc, um, rfl, rfl, s1, t1, fun _ => ⟨a1, hA1⟩⟩
  · obtain ⟨b1, b2, b3⟩ := bad_go (F := 0) (e := 0) hA1 (by omega) hl
    have hl1 := hA1.l
    rw [if_neg z, if_neg z, b1, Option.bind_some, rI_at, hA1.2.1.1]
    refine ⟨nI a1, uc, _, rfl, rfl, s1, t1.tr b3, fun y => ?_⟩
    have := congrArg Int32.toInt y
    rw [niInt (by omega), show (-1 : Int32).toInt = -1 from rfl] at this
    omega
theorem end_de {q : Qy} {e F : Nat} {vc vm : rV} (h : DE q e F vc vm) : ∃ r, vc.1 3 3 = r ∧ f_X8_atEnd vm = some (r, vm) ∧ r ≠ -1 := by
  have hw := h.w
  obtain ⟨ev, ⟨w, w1, w2, w3⟩, -⟩ := h
  unfold f_X8_atEnd
  rw [if_neg hw]
  exact ⟨nI w, w2, by rw [w3], by rw [← w3]; exact hw⟩
def LWX (q : Qy) (wc wm : rV) : Prop := ∃ cs, LWs q wc wm cs 0 0 0 ∧ wc.1 4 2 = nI (tL cs) ∧ tL cs ≤ 160 ∧ wm.1 179 q.T = nI cs.length ∧ cs.length ≤ 60
theorem law_lp {q : Qy} : ∀ (d a f g i : Nat) (cs : List (List (Nat × Nat) × List (Nat × Nat))) (vc vm : rV), q.n - a ≤ d → d + 1 < f → d + 1 < g → 2 * i ≤ a → AL q a (tL cs) (tC cs) 0 vc vm → tL cs ≤ a → tC cs ≤ a → LWs q vc vm cs 0 0 0 → vm.1 179 q.T = nI cs.length → 3 * cs.length ≤ a →
    ∃ (r : Int32) (wc wm : rV), f_X3_faultOfLaw_13 f vc 1 (nI i) = some (r, wc) ∧ f_X8_readLaw_10 g vm = some (r, wm) ∧ Ch (Sps 0) vc wc ∧ Ch (Tcl q.T 0 0) vm wm ∧ (r = -1 → LWX q wc wm) := by
  have fin : ∀ (a f g i : Nat) (cs : List (List (Nat × Nat) × List (Nat × Nat))) (vc vm : rV), AL q a (tL cs) (tC cs) 0 vc vm → tL cs ≤ a → tC cs ≤ a → LWs q vc vm cs 0 0 0 → vm.1 179 q.T = nI cs.length → 3 * cs.length ≤ a → ∃ (r : Int32) (wc wm : rV), f_X3_faultOfLaw_44 vc 1 = some (r, wc) ∧ f_X8_readLaw_44 vm = some (r, wm) ∧ Ch (Sps 0) vc wc ∧ Ch (Tcl q.T 0 0) vm wm ∧ (r = -1 → LWX q wc wm) := by
    intro a f g i cs vc vm hA h1 h2 hW h179 h3
    have hl := hA.l
    obtain ⟨r, wc, wm, x1, x2, x3, x4, x5⟩ := end_al hA h2 (by omega)
    unfold f_X3_faultOfLaw_44 f_X8_readLaw_44
    rw [if_neg (by decide), x2, Option.bind_some]
    refine ⟨r, wc, wm, x1, rfl, s3_sps x3, tps_tcl (t3_tps x4), fun hr => ?_⟩
    obtain ⟨a', hA'⟩ := x5 hr
    exact ⟨cs, hW.ch (s3_sps (l := tL cs) x3) (tps_tcl (k := cs.length) (t3_tps (T := q.T) (c := tC cs) x4)) (by omega) (by omega) (by omega), hA'.2.2.2.2.1, by omega, by rw [x4.1 _ _ (by unfold T3; omega)]; exact h179, by omega⟩
  intro d
  induction d with
  | zero =>
    intro a f g i cs vc vm hd hf hg hi hA h1 h2 hW h179 h3
    obtain ⟨f, rfl⟩ : ∃ n', f = n' + 1 := ⟨f - 1, by omega⟩
    obtain ⟨g, rfl⟩ : ∃ n', g = n' + 1 := ⟨g - 1, by omega⟩
    obtain ⟨a1, uc, um, n1, n2, hA1, ha1, hb1, s1, t1⟩ := nb_go hA
    have hl1 := hA1.l
    have b1 : bt q a1 = -1 := bt_end (by omega)
    have nz : bt q a1 ≠ 59 := by rw [b1]; decide
    rw [f_X3_faultOfLaw_13, f_X8_readLaw_10, if_neg (show ¬ (160 : Int32) ≤ nI i from nle (a := 160) (by omega) (by omega)), if_neg (by decide), gw_eq (show f_X3_nextByte vc = f_X3_nextByte uc by rw [n1, nb_st hA1 hb1]), gw_n hA1 hb1 nz, hA.2.2.1, if_pos rfl, n2, Option.bind_some, Option.bind_some]
    simp only []
    rw [if_neg nz, if_neg (by decide)]
    obtain ⟨r, wc, wm, x1, x2, x3, x4, x5⟩ := fin a1 f g i cs uc um hA1 (by omega) (by omega) (hW.ch (s3_sps (l := tL cs) s1) (tps_tcl (k := cs.length) (t3_tps (T := q.T) (c := tC cs) t1)) (by omega) (by omega) (by omega)) (by rw [t1.1 _ _ (by unfold T3; omega)]; exact h179) (by omega)
    exact ⟨r, wc, wm, x1, x2, (s3_sps s1).tr x3, (tps_tcl (t3_tps t1)).tr x4, x5⟩
  | succ d ih =>
    intro a f g i cs vc vm hd hf hg hi hA h1 h2 hW h179 h3
    obtain ⟨f, rfl⟩ : ∃ n', f = n' + 1 := ⟨f - 1, by omega⟩
    obtain ⟨g, rfl⟩ : ∃ n', g = n' + 1 := ⟨g - 1, by omega⟩
    obtain ⟨a1, uc, um, n1, n2, hA1, ha1, hb1, s1, t1⟩ := nb_go hA
    have hl1 := hA1.l
    have hW1 := hW.ch (s3_sps (l := tL cs) s1) (tps_tcl (k := cs.length) (t3_tps (T := q.T) (c := tC cs) t1)) (by omega) (by omega) (by omega)
    have u179 : um.1 179 q.T = nI cs.length := by rw [t1.1 _ _ (by unfold T3; omega)]; exact h179
    rw [f_X3_faultOfLaw_13, f_X8_readLaw_10, if_neg (show ¬ (160 : Int32) ≤ nI i from nle (a := 160) (by omega) (by omega)), if_neg (by decide), gw_eq (show f_X3_nextByte vc = f_X3_nextByte uc by rw [n1, nb_st hA1 hb1]), hA.2.2.1, if_pos rfl, n2, Option.bind_some]
    simp only []
    by_cases z : bt q a1 = 59
    rotate_left
    · rw [gw_n hA1 hb1 z, if_neg z, Option.bind_some]
      simp only []
      rw [if_neg (by decide)]
      obtain ⟨r, wc, wm, x1, x2, x3, x4, x5⟩ := fin a1 f g i cs uc um hA1 (by omega) (by omega) hW1 u179 (by omega)
      exact ⟨r, wc, wm, x1, x2, (s3_sps s1).tr x3, (tps_tcl (t3_tps t1)).tr x4, x5⟩
    have han := bt_lt z (by decide)
    have hA2 := hA1.at (a' := a1 + 1) (by omega)
    have e2 : (rI um 174 3 (nI (a1 + 1))).1 179 q.T = nI cs.length := by rw [rI_no (by omega)]; exact u179
    have hW2 := hW1.ch (s3_sps (l := tL cs) (s3_up (v := uc) (a1 + 1))) (tps_tcl (k := cs.length) (t3_tps (T := q.T) (c := tC cs) (t3_up (v := um) (a1 + 1)))) (by omega) (by omega) (by omega)
    rw [gw_y hA1 hb1 z, if_pos z, Option.bind_some, vlet_eq, hA1.2.1.2.1, ad1 a1]
    simp only []
    rw [if_pos trivial]
    have pc : Ch (Sps 0) vc (rI uc 3 3 (nI (a1 + 1))) := (s3_sps s1).tr (s3_sps (s3_up (a1 + 1)))
    have pm : Ch (Tcl q.T 0 0) vm (rI um 174 3 (nI (a1 + 1))) := (tps_tcl (t3_tps t1)).tr (tps_tcl (t3_tps (t3_up (a1 + 1))))
    rcases clause_go hA2 (by omega) (by omega) (by omega) e2 with ⟨wc, wm, a', x, k1, k2, k3, k4, k5, k6, k7, k8, k9⟩ | ⟨wc, wm, k1, k2, k3, k4, k5⟩
    · have hl3 := k3.l
      rw [k1, k2, Option.bind_some, Option.bind_some, vlet_eq, vlet_eq, ad1]
      rw [show bI (true, wc).1 = (1 : Int32) from rfl]
      have hs : LWs q wc wm (cs ++ [x]) 0 0 0 := (hW2.ch k8 k9 (by omega) (by omega) (by omega)).snoc (by rw [Nat.zero_add, Nat.zero_add, Nat.zero_add]; exact k5)
      obtain ⟨r, vc', vm', j1, j2, j3, j4, j5⟩ := ih a' f g (i + 1) (cs ++ [x]) wc wm (by omega) (by omega) (by omega) (by omega) (by rw [tL_s, tC_s]; exact k3) (by rw [tL_s]; exact k7.1) (by rw [tC_s]; exact k7.2) hs (by rw [List.length_append, List.length_singleton]; exact k4) (by rw [List.length_append, List.length_singleton]; omega)
      exact ⟨r, vc', vm', j1, j2, pc.tr ((sps_mono k8 (Nat.zero_le _)).tr j3), pm.tr ((tcl_mono k9 (Nat.zero_le _) (Nat.zero_le _)).tr j4), j5⟩
    · obtain ⟨r, r1, r2, r3⟩ := end_de k3
      obtain ⟨f, rfl⟩ : ∃ n', f = n' + 1 := ⟨f - 1, by omega⟩
      obtain ⟨g, rfl⟩ : ∃ n', g = n' + 1 := ⟨g - 1, by omega⟩
      rw [k1, k2, Option.bind_some, Option.bind_some, vlet_eq, vlet_eq, ad1]
      rw [show bI (false, wc).1 = (0 : Int32) from rfl]
      rw [f_X3_faultOfLaw_13, f_X8_readLaw_10, if_neg (show ¬ (160 : Int32) ≤ nI (i + 1) from nle (a := 160) (by omega) (by omega)), if_pos rfl, if_neg k3.w]
      unfold f_X3_faultOfLaw_44 f_X8_readLaw_44
      rw [if_pos rfl, r2, Option.bind_some]
      exact ⟨r, wc, wm, by rw [show (false, wc).2 = wc from rfl, r1], rfl, pc.tr k4, pm.tr k5, fun y => absurd y r3⟩
/-- both readers are opened -/
theorem open_go {T W : Nat} {vc vm : rV} (hT : T < 9) (hW : W = 0 ∨ W = 1) (hR : Rt vc vm) : ∃ (q : Qy) (wc wm : rV), q.T = T ∧ q.W = W ∧ f_X3_open vc (1000010 + W) = some wc ∧ f_X8_open vm (nI T) (nI W) = some wm ∧ AL q 0 0 0 0 wc wm ∧ wm.1 179 T = nI 0 ∧ Ch Srd vc wc ∧ Ch (Trd T) vm wm := by
  obtain ⟨n, n160, e1, e2, hb⟩ := hR
  have nW : nI W = 0 ∨ nI W = 1 := by rcases hW with rfl | rfl <;> decide
  obtain ⟨wc, ewc⟩ : ∃ w, w = rI (rI (rR vc 3 2 (some (1000010 + W))) 3 3 0) 4 2 0 := ⟨_, rfl⟩
  obtain ⟨wm, ewm⟩ : ∃ w, w = rI (rI (rI (rI (rI (rI (rI vm 174 15 (nI T)) 174 16 (nI W)) 174 3 0) 174 4 (-1)) 174 5 0) 178 T 0) 179 T 0 := ⟨_, rfl⟩
  have cc : Ch Srd vc wc := by
    rw [ewc]
    exact ((Ch.rf.R (Or.inl ⟨rfl, Or.inr rfl⟩)).I (Or.inl ⟨rfl, Or.inl rfl⟩)).I (Or.inr (Or.inl ⟨rfl, rfl⟩))
  have cm : Ch (Trd T) vm wm := by
    rw [ewm]
    exact ((((((Ch.rf.I (Or.inl ⟨rfl, by omega⟩)).I (Or.inl ⟨rfl, by omega⟩)).I (Or.inl ⟨rfl, by omega⟩)).I (Or.inl ⟨rfl, by omega⟩)).I (Or.inl ⟨rfl, by omega⟩)).I (Or.inr (Or.inr (Or.inl ⟨by omega, rfl⟩)))).I (Or.inr (Or.inr (Or.inl ⟨by omega, rfl⟩)))
  refine ⟨(n, T, W, fun j => (vm.1 175 j).toInt.toNat), wc, wm, rfl, rfl, ?_, ?_, ⟨⟨⟨n160, hT, hW⟩, ⟨?_, ?_⟩, fun j hj => ?_, ?_, ?_, ?_⟩, ⟨?_, ?_, Nat.zero_le _⟩, ?_, ?_, ?_, ?_⟩, ?_, cc, cm⟩
  · unfold f_X3_open
    rw [vlet_eq, vlet_eq, vlet_eq, ewc]
  · unfold f_X8_open
    rw [vlet_eq, if_pos nW, vlet_eq, vlet_eq, vlet_eq, vlet_eq, if_pos (gin hT (by omega)), niCl (by omega), vlet_eq, vlet_eq, ewm]
  · show wc.1 1 1 = nI n
    rw [cc.1 _ _ (by unfold Srd; omega)]; exact e1
  · show wm.1 174 2 = nI n
    rw [cm.1 _ _ (by unfold Trd; omega)]; exact e2
  · obtain ⟨b, b1, b2, b3, b4⟩ := hb j hj
    have hv : (vm.1 175 j).toInt.toNat = b := by rw [b4, niInt (by omega)]; rfl
    show (1 ≤ (vm.1 175 j).toInt.toNat ∧ (vm.1 175 j).toInt.toNat ≤ 255) ∧ wc.1 2 j = nI (vm.1 175 j).toInt.toNat ∧ wm.1 175 j = nI (vm.1 175 j).toInt.toNat
    rw [hv, cc.1 _ _ (by unfold Srd; omega), cm.1 _ _ (by unfold Trd; omega)]
    exact ⟨⟨b1, b2⟩, b3, b4⟩
  · show wc.2.2 3 2 = some (1000010 + W)
    rw [ewc]
    show (if 3 = 3 ∧ 2 = 2 then some (1000010 + W) else vc.2.2 3 2) = _
    rw [if_pos ⟨rfl, rfl⟩]
  · show wm.1 174 15 = nI T
    rw [ewm, rI_no (by omega), rI_no (by omega), rI_no (by omega), rI_no (by omega), rI_no (by omega), rI_no (by omega), rI_at]
  · show wm.1 174 16 = nI W
    rw [ewm, rI_no (by omega), rI_no (by omega), rI_no (by omega), rI_no (by omega), rI_no (by omega), rI_at]
  · rw [ewc, rI_no (by omega), rI_at]; rfl
  · rw [ewm, rI_no (by omega), rI_no (by omega), rI_no (by omega), rI_no (by omega), rI_at]; rfl
  · rw [ewm, rI_no (by omega), rI_no (by omega), rI_no (by omega), rI_at]
  · rw [ewm, rI_no (by omega), rI_no (by omega), rI_at]; rfl
  · rw [ewc, rI_at]; rfl
  · show wm.1 178 T = nI 0
    rw [ewm, rI_no (by omega), rI_at]; rfl
  · rw [ewm, rI_at]; rfl
theorem law_go {T : Nat} {vc vm : rV} (hT : T < 9) (hR : Rt vc vm) : ∃ (q : Qy) (r : Int32) (wc wm : rV), q.T = T ∧ q.W = 0 ∧ f_X3_faultOfLaw vc = some (r, wc) ∧ f_X8_readLaw vm (nI T) = some (r, wm) ∧ Ch Srd vc wc ∧ Ch (Trd T) vm wm ∧ (r = -1 → LWX q wc wm) := by
  obtain ⟨q, uc, um, rfl, q2, o1, o2, hA, h179, cc, cm⟩ := open_go hT (Or.inl rfl) hR
  have hl := hA.l
  unfold f_X3_faultOfLaw f_X8_readLaw
  rw [show f_X3_open vc 1000010 = some uc from o1, show f_X8_open vm (nI q.T) 0 = some um from o2, Option.bind_some, Option.bind_some]
  rcases clause_go hA (by omega) (by omega) (by omega) h179 with ⟨wc, wm, a', x, k1, k2, k3, k4, k5, k6, k7, k8, k9⟩ | ⟨wc, wm, k1, k2, k3, k4, k5⟩
  · have hl3 := k3.l
    rw [k1, k2, Option.bind_some, Option.bind_some, vlet_eq]
    obtain ⟨r, vc', vm', j1, j2, j3, j4, j5⟩ := law_lp (q.n - a') a' 20000 20000 0 [x] wc wm (Nat.le_refl _) (by omega) (by omega) (by omega) (by simp only [tL, tC, Nat.add_zero]; rw [Nat.zero_add, Nat.zero_add] at k3; exact k3) (by simp only [tL]; omega) (by simp only [tC]; omega) ⟨k5, trivial⟩ k4 (by simp only [List.length_singleton]; omega)
    exact ⟨q, r, vc', vm', rfl, q2, j1, j2, cc.tr ((sps_srd k8).tr (sps_srd j3)), cm.tr ((tcl_trd k9).tr (tcl_trd j4)), j5⟩
  · obtain ⟨r, r1, r2, r3⟩ := end_de k3
    obtain ⟨f, hf⟩ : ∃ f, 20000 = f + 1 := ⟨19999, rfl⟩
    rw [k1, k2, Option.bind_some, Option.bind_some, vlet_eq]
    rw [show bI (false, wc).1 = (0 : Int32) from rfl]
    rw [hf, f_X3_faultOfLaw_13, f_X8_readLaw_10, if_neg (by decide), if_pos rfl, if_neg k3.w]
    unfold f_X3_faultOfLaw_44 f_X8_readLaw_44
    rw [if_pos rfl, r2, Option.bind_some]
    exact ⟨q, r, wc, wm, rfl, q2, by rw [show (false, wc).2 = wc from rfl, r1], rfl, cc.tr (sps_srd k4), cm.tr (tcl_trd k5), fun y => absurd y r3⟩
def WWX (q : Qy) (wc wm : rV) : Prop := ∃ t, SG q.T wc wm 0 0 t ∧ Ty q.w 19 [] [true] t ∧ wc.1 5 t.length = -12 ∧ wc.1 4 2 = nI (t.length + 1) ∧ wm.1 178 q.T = nI t.length ∧ t.length ≤ 160
theorem want_go {T : Nat} {vc vm : rV} (hT : T < 9) (hR : Rt vc vm) : ∃ (q : Qy) (r : Int32) (wc wm : rV), q.T = T ∧ q.W = 1 ∧ f_X3_faultOfWant vc = some (r, wc) ∧ f_X8_readWant vm (nI T) = some (r, wm) ∧ Ch Srd vc wc ∧ Ch (Trd T) vm wm ∧ (r = -1 → WWX q wc wm) := by
  obtain ⟨q, uc, um, rfl, q2, o1, o2, hA, h179, cc, cm⟩ := open_go hT (Or.inr rfl) hR
  have hl := hA.l
  unfold f_X3_faultOfWant f_X8_readWant
  rw [show f_X3_open vc 1000011 = some uc from o1, show f_X8_open vm (nI q.T) 1 = some um from o2, Option.bind_some, Option.bind_some]
  rcases (unit_cond 7 (by omega)).2 10 10 0 0 0 0 0 uc um (by omega) (by omega) (by omega) hA (by omega) (by omega) with ⟨wc, wm, a', s, k1, k2, k3, k4, k5, k6, k7, k8, k9, k10⟩ | ⟨wc, wm, k1, k2, k3, k4, k5⟩
  · have hl3 := k3.l
    have z1 : f_X3_readCondition 10 uc 0 0 = some (true, wc) := k1
    rw [z1, k2, Option.bind_some, Option.bind_some]
    simp only []
    rw [if_pos trivial]
    obtain ⟨y1, y2, y3, y4⟩ := k3.ad (by omega) (-12)
    rw [y1, Option.bind_some]
    obtain ⟨r, vc', vm', x1, x2, x3, x4, x5⟩ := end_al y2 (by omega) (by omega)
    rw [x1, x2, Option.bind_some]
    refine ⟨q, r, vc', vm', rfl, q2, rfl, rfl, cc.tr ((sps_srd k9).tr ((sps_srd y4).tr (sps_srd (s3_sps (l := 0) x3)))), cm.tr ((tcl_trd (k := 0) (tps_tcl k10)).tr (tcl_trd (k := 0) (tps_tcl (t3_tps (T := q.T) (c := 0) x4)))), fun hr => ?_⟩
    obtain ⟨a9, hA9⟩ := x5 hr
    refine ⟨s, ?_, k6, ?_, ?_, ?_, by omega⟩
    · exact (k5.ch y4 (c' := 0 + s.length) Ch.rf (Nat.le_refl _) (Nat.le_refl _)).ch (s3_sps (l := 0 + s.length) x3) (t3_tps (T := q.T) (c := 0 + s.length) x4) (Nat.le_refl _) (Nat.le_refl _)
    · rw [x3.1 _ _ (by unfold S3; omega)]
      rw [Nat.zero_add] at y3
      exact y3
    · have := hA9.2.2.2.2.1
      rw [Nat.zero_add] at this
      exact this
    · have := hA9.2.2.2.2.2
      rw [Nat.zero_add] at this
      exact this
  · obtain ⟨r, r1, r2, r3⟩ := end_de k3
    have z1 : f_X3_readCondition 10 uc 0 0 = some (false, wc) := k1
    rw [z1, k2, Option.bind_some, Option.bind_some, r2, Option.bind_some]
    simp only []
    rw [if_neg (by decide), r1]
    exact ⟨q, r, wc, wm, rfl, q2, rfl, rfl, cc.tr (sps_srd k4), cm.tr (tcl_trd (k := 0) (tps_tcl k5)), fun y => absurd y r3⟩
