/-! PRINTED, DOTS -/
def pc (k g d i : Nat) : Pz := (i * (k + g), k, 38 + d, i, d)
theorem pc_1 (k g d i : Nat) : (pc k g d i).1 = i * (k + g) := rfl
theorem pc_2 (k g d i : Nat) : (pc k g d i).2.1 = k := rfl
theorem pc_3 (k g d i : Nat) : (pc k g d i).2.2.1 = 38 + d := rfl
theorem pc_4 (k g d i : Nat) : (pc k g d i).2.2.2.1 = i := rfl
theorem pc_5 (k g d i : Nat) : (pc k g d i).2.2.2.2 = d := rfl
def pcs (k g d m : Nat) : List Pz := (List.range m).map (pc k g d)
theorem pcs_s (k g d m : Nat) : pcs k g d (m + 1) = pcs k g d m ++ [pc k g d m] := by
  unfold pcs
  rw [List.range_succ, List.map_append]
  rfl
theorem pcs_len (k g d m : Nat) : (pcs k g d m).length = m := by
  unfold pcs
  rw [List.length_map, List.length_range]
theorem pcs_mem {k g d m : Nat} {q : Pz} (h : q ∈ pcs k g d m) : ∃ i, i < m ∧ q = pc k g d i := by
  unfold pcs at h
  rw [List.mem_map] at h
  obtain ⟨i, hi, e⟩ := h
  exact ⟨i, List.mem_range.mp hi, e.symm⟩
theorem pcs_SP {k g d m : Nat} (hk : 2 ≤ k) (h : ∀ i, i < m → i * (k + g) + k ≤ 24) : SP (pcs k g d m) := by
  refine ⟨?_, fun q hq => ?_⟩
  · unfold pcs
    rw [List.pairwise_map]
    refine List.pairwise_lt_range.imp fun {i j} hij => ?_
    rw [pc_1, pc_2, pc_1]
    have h1 := Nat.mul_le_mul_right (k + g) (show i + 1 ≤ j by omega)
    rw [Nat.succ_mul] at h1
    omega
  · obtain ⟨i, hi, rfl⟩ := pcs_mem hq
    rw [pc_1, pc_2]
    exact ⟨hk, h i hi⟩
theorem cop_m {k g m : Nat} (hk : 2 ≤ k) (hk2 : k ≤ 24) (e : m = (24 + g) / (k + g)) : (∀ i, i < m → i * (k + g) + k ≤ 24) ∧ 24 < m * (k + g) + k ∧ m ≤ 12 := by
  have h1 : m * (k + g) ≤ 24 + g := by
    rw [e]
    exact Nat.div_mul_le_self _ _
  have h2 : 24 + g < (m + 1) * (k + g) := by
    have a := Nat.div_add_mod (24 + g) (k + g)
    have b := Nat.mod_lt (24 + g) (show k + g > 0 by omega)
    rw [← e, Nat.mul_comm] at a
    rw [Nat.succ_mul]
    omega
  refine ⟨fun i hi => ?_, ?_, ?_⟩
  · have := Nat.mul_le_mul_right (k + g) (show i + 1 ≤ m by omega)
    rw [Nat.succ_mul] at this
    omega
  · rw [Nat.succ_mul] at h2
    omega
  · rcases Nat.eq_zero_or_pos m with z | z
    · omega
    · have a1 : m * (k + g) = m * k + m * g := Nat.mul_add _ _ _
      have a2 := Nat.mul_le_mul_left m hk
      have a3 := Nat.mul_le_mul_right g z
      omega
theorem printC_lp {d g k m : Nat} {vm : rV} (hd : d < 12) (hk : 2 ≤ k) (hk2 : k ≤ 24) (hm : (∀ i, i < m → i * (k + g) + k ≤ 24) ∧ 24 < m * (k + g) + k ∧ m ≤ 12) (hg : g ≤ 9) (hT : TD vm 185 (12 * d)) (hw : vm.1 185 (12 * d + 1) = nI k) : ∀ (e i f : Nat) (vc : rV), i + e = m → e < f → (∀ j, j < 12 → vc.1 (38 + d) j = vm.1 185 (12 * d + j)) → CI 98 false vc vm (grp (pcs k g d i)) →
    ∃ wc, f_X7_layPrint_33 f vc (nI d) (nI g) (nI k) (nI i) (nI (i * (k + g))) = ((f_X5_begin wc 98).bind fun p => some (nI m, p)) ∧ CI 98 false wc vm (grp (pcs k g d m)) ∧ Ch (Spt 98) vc wc := by
  obtain ⟨hm1, hm2, hm3⟩ := hm
  intro e
  induction e with
  | zero =>
    intro i f vc h hf hr hC
    obtain ⟨f, rfl⟩ : ∃ n', f = n' + 1 := ⟨f - 1, by omega⟩
    have : i = m := by omega
    subst this
    have b : i * (k + g) ≤ 1000 := by
      have := Nat.mul_le_mul hm3 (show k + g ≤ 33 by omega)
      omega
    rw [f_X7_layPrint_33, niAdd, if_pos (show (24 : Int32) < nI (i * (k + g) + k) from plt (a := 24) hm2 (by omega)), f_X7_layPrint_82]
    exact ⟨vc, rfl, hC, Ch.rf⟩
  | succ e ih =>
    intro i f vc h hf hr hC
    obtain ⟨f, rfl⟩ : ∃ n', f = n' + 1 := ⟨f - 1, by omega⟩
    have hi := hm1 i (by omega)
    obtain ⟨g1, g2, -, -⟩ := grp_ok _ (pcs_SP (g := g) (d := d) hk (fun j hj => hm1 j (show j < m by omega)) : SP (pcs k g d i))
    have memk : ∀ z, z ∈ grp (pcs k g d i) → ∀ q, q ∈ z → ∃ j, j < i ∧ q = pc k g d j := fun z hz q hq => pcs_mem (by rw [← g1]; exact List.mem_flatten.mpr ⟨z, hz, hq⟩)
    obtain ⟨z, ez⟩ : ∃ z, z = pc k g d i := ⟨_, rfl⟩
    have z1 : z.1 = i * (k + g) := by rw [ez, pc_1]
    have z2 : z.2.1 = k := by rw [ez, pc_2]
    have z3 : z.2.2.1 = 38 + d := by rw [ez, pc_3]
    have z4 : z.2.2.2.1 = i := by rw [ez, pc_4]
    have z5 : z.2.2.2.2 = d := by rw [ez, pc_5]
    have hPD : PD 98 vc vm z := by
      unfold PD
      rw [z1, z2, z3, z4, z5]
      exact ⟨⟨by omega, hr⟩, hT, ⟨by omega, hk, hi, by omega⟩, hw⟩
    obtain ⟨u, j1, j2, j3⟩ := put_go (by decide) hC hPD (by rw [g1, pcs_len]; omega) (fun y hy => (run_ord y (g2 y hy).1 (g2 y hy).2 (fun q hq => by
      obtain ⟨j, hj, rfl⟩ := memk y hy q hq
      rw [pc_1, pc_2]
      exact ⟨hk, hm1 j (by omega)⟩)).2) (fun h => by cases h) (fun _ y hy => by
      obtain ⟨q, hq, e9⟩ := ow_mem y (g2 y hy).1 (fun q hq => by
        obtain ⟨j, hj, rfl⟩ := memk y hy q hq
        rw [pc_5]
        omega)
      obtain ⟨j, hj, rfl⟩ := memk y hy q hq
      rw [e9, pc_5, z5]) (fun y hy => ⟨(g2 y hy).1, fun q hq => by
      obtain ⟨j, hj, rfl⟩ := memk y hy q hq
      rw [pc_5]
      exact hT⟩)
    rw [z3, z4, z1] at j1
    rw [← grp_sn, ez, ← pcs_s] at j2
    have b : i * (k + g) ≤ 1000 := by omega
    rw [f_X7_layPrint_33, niAdd, if_neg (show ¬ (24 : Int32) < nI (i * (k + g) + k) from nlt (a := 24) hi (by omega)), if_neg (show ¬ (12 : Int32) ≤ nI i from nle (a := 12) (by omega) (by omega)), if_pos (gin hd (by omega)), niCl (by omega), j1, Option.bind_some]
    simp only [vlet_eq]
    rw [ad1, niAdd, niAdd, show i * (k + g) + (k + g) = (i + 1) * (k + g) from (Nat.succ_mul _ _).symm]
    obtain ⟨wc, k1, k2, k3⟩ := ih (i + 1) f u (by omega) (by omega) (fun j hj => by rw [j3.1 _ _ (by unfold Spt; omega)]; exact hr j hj) j2
    exact ⟨wc, k1, k2, j3.tr k3⟩
theorem copies_m {d g k : Nat} {vm : rV} (hd : d < 12) (hk : 2 ≤ k) (hk2 : k ≤ 24) (hg : g ≤ 9) (hw : vm.1 185 (12 * d + 1) = nI k) : f_X8_copies vm (nI d) (nI g) = some (nI ((24 + g) / (k + g))) := by
  unfold f_X8_copies
  rw [show (12 : Int32) * nI d + 1 = nI (12 * d + 1) from ix185 (j := 1), if_pos (gin (show 12 * d + 1 < 156 by omega) (by omega)), niCl (show 12 * d + 1 < 2147483648 by omega), hw, niAdd, if_neg (show ¬ nI (k + g) = 0 from nne (b := 0) (by omega) (by omega) (by omega)), show (24 : Int32) + nI g = nI (24 + g) from niAdd 24 g, niDiv (by omega) (by omega)]
theorem printM_lp {d g k m t : Nat} {a1 : Int32} {x : Int64} (hd : d < 12) (hk : 2 ≤ k) (hk2 : k ≤ 24) (em : m = (24 + g) / (k + g)) (hg : g ≤ 9) : ∀ (e i f : Nat) (vm : rV), i + e = m → e < f → vm.1 185 (12 * d + 1) = nI k → PM vm (pcs k g d i) →
    ∃ wm, f_X8_evenOf_8 f vm a1 (nI d) (nI g) x (nI t) (nI i) = ((f_X8_tryOut wm a1 x (nI t)).bind fun p3 => (f_X8_even p3).bind fun p4 => some (p4, p3)) ∧ PM wm (pcs k g d m) ∧ Ch Tad vm wm := by
  obtain ⟨hm1, hm2, hm3⟩ := cop_m hk hk2 em
  intro e
  induction e with
  | zero =>
    intro i f vm h hf hw hP
    obtain ⟨f, rfl⟩ : ∃ n', f = n' + 1 := ⟨f - 1, by omega⟩
    have : i = m := by omega
    subst this
    rw [f_X8_evenOf_8, copies_m hd hk hk2 hg hw, Option.bind_some, ← em, if_pos (ple (Nat.le_refl _) (by omega))]
    exact ⟨vm, rfl, hP, Ch.rf⟩
  | succ e ih =>
    intro i f vm h hf hw hP
    obtain ⟨f, rfl⟩ : ∃ n', f = n' + 1 := ⟨f - 1, by omega⟩
    have hi := hm1 i (by omega)
    obtain ⟨z, ez⟩ : ∃ z, z = pc k g d i := ⟨_, rfl⟩
    have z1 : z.1 = i * (k + g) := by rw [ez, pc_1]
    have z2 : z.2.1 = k := by rw [ez, pc_2]
    have z5 : z.2.2.2.2 = d := by rw [ez, pc_5]
    obtain ⟨u, j1, j2, j3⟩ := addPiece_go (p := z) (pre := pcs k g d i) (suf := []) (by rw [List.append_nil]; exact hP) (fun q hq => by
      obtain ⟨j, hj, rfl⟩ := pcs_mem hq
      rw [pc_1, z1]
      exact Nat.mul_le_mul_right _ (by omega)) (fun q hq => by cases hq) (by omega) (by rw [List.append_nil, pcs_len]; omega)
    rw [z1, z2, z5] at j1
    rw [ez, ← pcs_s] at j2
    rw [f_X8_evenOf_8, copies_m hd hk hk2 hg hw, Option.bind_some, ← em, if_neg (nle (by omega) (by omega)), show (12 : Int32) * nI d + 1 = nI (12 * d + 1) from ix185 (j := 1), if_pos (gin (show 12 * d + 1 < 156 by omega) (by omega)), niCl (show 12 * d + 1 < 2147483648 by omega), hw, niAdd, niMul, j1, Option.bind_some, vlet_eq, ad1]
    obtain ⟨wm, k1, k2, k3⟩ := ih (i + 1) f u (by omega) (by omega) (by rw [j3.1 _ _ (fun q => by have := tad_no q; omega)]; exact hw) j2
    exact ⟨wm, k1, k2, j3.tr k3⟩
theorem even_eq {M B tb : Nat} {vc vm : rV} (h : ST M B tb vc vm) : ∃ r, f_X5_even vc B = some r ∧ f_X8_even vm = some r := by
  obtain ⟨t, S0, S1, ⟨s0, s1, -⟩, -, ⟨hAA, -⟩, -, ⟨bt1, -⟩⟩ := h.parts
  obtain ⟨r, r1, r2⟩ := even_go h.rl bt1 (fun c hc => (la_nn s0 s1 hAA hc).1) 24 0 20000 20000 (-1) 0 (-1) 0 (by omega) (by omega) (by omega) (Or.inl ⟨rfl, rfl, rfl⟩)
  unfold f_X5_even f_X8_even
  exact ⟨r, r1, r2⟩
theorem printed_go {nl nw nd p tb n d g t : Nat} {x : Int64} {vc vm : rV} (h : Wk nl nw nd p tb vc vm) (hn : n < nl) (hd : d < nd) (hg : g ≤ 9) (ht : t ≤ 60) :
    ∃ (c r : Int32) (w1 wc wm : rV), f_X7_layPrint vc (nI n) (nI d) (nI g) x = some (c, w1) ∧ f_X8_copies vm (nI d) (nI g) = some c ∧ f_X7_evenInTheEnd w1 (nI t) = some (r, wc) ∧ f_X8_evenOf vm (nI n) (nI d) (nI g) x (nI t) = some (r, wm) ∧ (∃ ρ, RF 98 w1 ρ) ∧ Wk nl nw nd p tb wc wm ∧ Ch Swk vc w1 ∧ Ch Swk vc wc ∧ Ch Twk vm wm := by
  have hd12 := h.nd.1
  have hE := h.1
  have hD := hE.2.2.2.1.1
  have hC := hE.2.2.2.1.2.1
  have hT := (hD.2.2 d hd).1
  have hx := hD.x hd
  obtain ⟨l4, h91, -, hK⟩ := hE.2.1
  obtain ⟨k, ek⟩ : ∃ k, k = tv vm d 1 := ⟨_, rfl⟩
  have hw : vm.1 185 (12 * d + 1) = nI k := by rw [ek]; exact (tv_eq hT (j := 1) (by omega)).1
  have hk : 2 ≤ k := by rw [ek]; exact hx.2.1
  have hk2 : k ≤ 24 := by rw [ek]; omega
  obtain ⟨m, em⟩ : ∃ m, m = (24 + g) / (k + g) := ⟨_, rfl⟩
  have hm := cop_m hk hk2 em
  obtain ⟨ρ, hρ⟩ := hE.2.2.2.2.2.2.2.1
  -- the model's pieces
  obtain ⟨v0, ev0⟩ : ∃ v0, v0 = rI vm 174 34 0 := ⟨_, rfl⟩
  have m0 : Ch Tad vm v0 := by rw [ev0]; exact Ch.rf.I (Or.inr ⟨rfl, rfl⟩)
  obtain ⟨vg, g1, g2, g3⟩ := printM_lp (a1 := nI n) (x := x) (t := t) (d := d) (by omega) hk hk2 em hg m 0 20000 v0 (by omega) (by omega) (by rw [ev0, rI_no (by omega)]; exact hw) ⟨by rw [ev0, rI_at]; rfl, by rw [pcs_len]; omega, fun i q hq => by
    exfalso
    have := (List.getElem?_eq_some_iff.mp hq).1
    rw [pcs_len] at this
    omega⟩
  have hg4 : Ch Tad vm vg := m0.tr g3
  have hWg := h.ch Ch.rf (tad_twk hg4) hE.2.2.2.2.2.2.2.1
  have hDg := hWg.1.2.2.2.1.1
  have hCg := hWg.1.2.2.2.1.2.1
  have hKg := hWg.1.2.1.2.2.2 n hn
  have hTg := (hDg.2.2 d hd).1
  have hwg : vg.1 185 (12 * d + 1) = nI k := by rw [hg4.1 _ _ (fun q => by have := tad_no q; omega)]; exact hw
  -- the class clears and puts
  have fm : isForm (11 + 3 * n) = true := by
    have : ∀ n, n < 4 → isForm (11 + 3 * n) = true := by decide
    exact this n (by omega)
  have at1 : f_X4_at vc 9 (nI n) = some (11 + 3 * n) := by
    unfold f_X4_at f_X4_has
    rw [h91, if_neg (niGe (by omega)), if_neg (nle (by omega) (by omega)), if_neg (show ¬ (4 : Int32) ≤ nI n from nle (a := 4) (by omega) (by omega)), if_pos rfl, if_pos (gin (show n < 4 by omega) (by omega)), niCl (by omega)]
  obtain ⟨w, k1, c2, k3, k4, k5, k6⟩ := clear_go (B := 98) (kf := 11 + 3 * n) (x := x) vc
  have cl : CL0 98 (11 + 3 * n) x w := ⟨k3, fun j h1 h2 h3 h4 => k4 j (by omega) h2 h3 h4, k5, k6⟩
  have nS : ∀ k j, k < 98 → ¬ Scl 98 k j := fun k j hk q => by unfold Scl at q; omega
  have hI : CI 98 false w vg (grp (pcs k g d 0)) := ⟨ρ, hρ.ch c2 fun i _ => by unfold Scl; omega, by rw [k4 10 (by omega) (by omega) (by omega) (by omega)]; rfl, by simp [grp, pcs], fun i z h => by simp [grp, pcs] at h⟩
  have rw38 : ∀ j, j < 12 → w.1 (38 + d) j = vg.1 185 (12 * d + j) := fun j hj => by rw [c2.1 _ _ (nS _ _ (by omega))]; exact hCg.2 d hd j hj
  obtain ⟨u, j1, j2, j3⟩ := printC_lp (by omega) hk hk2 hm hg hTg hwg m 0 20000 w (by omega) (by omega) rw38 hI
  have hKu : LawK (11 + 3 * n) n u vg := (hKg.ch c2 (T := fun _ _ => False) Ch.rf (fun j => nS _ _ (by omega)) (nS _ _ (by omega)) (fun _ _ _ _ _ => id) (by omega)).ch j3 (T := fun _ _ => False) Ch.rf (fun j => by unfold Spt; omega) (by unfold Spt; omega) (fun _ _ _ _ _ => id) (by omega)
  obtain ⟨w1, w2, f1, f2, f3, f4, f5, f6, f7, f8, f9⟩ := lay_go (M := nd) (N := n) (x := x) (P := pcs k g d m) (by decide) j2 (pcs_SP hk hm.1) (by omega) (fun q hq => by
    obtain ⟨i, hi, rfl⟩ := pcs_mem hq
    rw [pc_5]
    exact ⟨hd, hTg⟩) g2 (cl.ch j3 (fun k i _ _ _ => by unfold Spt; omega) (fun j _ _ => by unfold Spt; omega) (by unfold Spt; omega) (by unfold Spt; omega)) ⟨fm, by omega⟩ (by omega) hKu
  have cw1 : Ch Sal vc w1 := ((c2.mono fun k j q => Or.inl (by unfold Scl at q; omega)).tr (j3.mono fun k j q => Or.inl (by unfold Spt at q; omega))).tr (f8.mono fun k j q => Or.inl (by unfold Sbg at q; omega))
  have cw2 : Ch Tal vg w2 := f9.mono fun k j q => by have := tlb_no q; unfold Tal; omega
  obtain ⟨q1, q2, q3⟩ := hWg.1.2.2.2.2.2.1
  have pm : w2.1 174 23 = nI p := by rw [cw2.1 _ _ (by unfold Tal; omega)]; exact q3
  have pcl : w1.1 0 15 = nI p := by rw [cw1.1 _ _ (sal_no (by omega) (by omega))]; exact q2
  obtain ⟨i, wc, wm, e1, e2, e3, e4, e5, e6, e7, -⟩ := goOn_go (a := t) (by decide) (by omega) (by omega) (by rw [pm, le_toInt, niInt (by omega)]; show (0 : Int) ≤ _; omega) f3 f4
  obtain ⟨r, r1, r2⟩ := even_eq e4
  have cS : Ch Sal w1 wc := e6.mono fun k j q => by
    rcases sst_no q with q | q
    · exact Or.inl ⟨by omega, by omega⟩
    · exact Or.inr ⟨n, by omega, by omega⟩
  have cT : Ch Tal w2 wm := e7.mono fun k j z => by have := tst_no z; unfold Tal; omega
  have hc : Ch Swk vc wc := (sal_swk cw1).tr (sal_swk cS)
  have hm' : Ch Twk vm wm := (tad_twk hg4).tr ((tal_twk cw2).tr (tal_twk cT))
  refine ⟨nI m, r, w1, wc, wm, ?_, by rw [em]; exact copies_m (by omega) hk hk2 hg hw, ?_, ?_, f3.rf, h.ch hc hm' e4.rf, sal_swk cw1, hc, hm'⟩
  · unfold f_X7_layPrint
    rw [if_pos (gin (show d < 12 by omega) (by omega)), niCl (by omega), hC.2 d hd 1 (by omega), hw, vlet_eq, at1, Option.bind_some, if_pos fm, k1, Option.bind_some]
    have e0 : (0 : Int32) = nI (0 * (k + g)) := by rw [Nat.zero_mul]; rfl
    rw [show f_X7_layPrint_33 20000 w (nI d) (nI g) (nI k) 0 0 = f_X7_layPrint_33 20000 w (nI d) (nI g) (nI k) (nI 0) (nI (0 * (k + g))) from by rw [Nat.zero_mul]; rfl, j1, f1, Option.bind_some]
  · unfold f_X7_evenInTheEnd
    rw [pcl, ← pm, e1, Option.bind_some]
    simp only []
    rw [r1, Option.bind_some]
  · unfold f_X8_evenOf
    rw [vlet_eq, ← ev0, show f_X8_evenOf_8 20000 v0 (nI n) (nI d) (nI g) x (nI t) 0 = _ from g1]
    unfold f_X8_tryOut
    rw [f2, Option.bind_some, e2, Option.bind_some, Option.bind_some]
    simp only []
    rw [r2, Option.bind_some]
theorem printed_op {tb : Nat} {vc vm : rV} (h : Rel tb vc vm) (a b c : Int32) (x : Int64) (e s : Int32) : Agree tb vc vm (f_X7_printed vc a b c x e s) (f_X8_printed vm a b c x e s) := by
  obtain ⟨nl, nw, nd, p, hE, hS, hL⟩ := h
  have hR : Rel tb vc vm := ⟨nl, nw, nd, p, hE, hS, hL⟩
  unfold f_X7_printed f_X8_printed
  rw [law_c hE.2.1, isDrop_c hE.2.2.2.1.1 hE.2.2.2.1.2.1, ticks_c]
  refine ag_if hR fun y1 => ag_if hR fun y2 => ?_
  obtain ⟨n, hn, rfl⟩ := (isLaw_m hE.2.1).mp y1
  obtain ⟨d, hd, rfl⟩ := (isDrop_m hE.2.2.2.1.1).mp y2
  have hM : ∀ F : Option (Int32 × rV), ¬ (f_X8_in c 0 9 = true ∧ f_X8_areTicks e = true ∧ f_X8_in s 0 1 = true) → (if (f_X8_in c 0 9) = true then (if (f_X8_areTicks e) = true then (if (f_X8_in s 0 1) = true then F else some ((-1 : Int32), vm)) else some ((-1 : Int32), vm)) else some ((-1 : Int32), vm)) = some ((-1 : Int32), vm) := fun F k => by
    by_cases z1 : f_X8_in c 0 9 = true
    · rw [if_pos z1]
      by_cases z2 : f_X8_areTicks e = true
      · rw [if_pos z2, if_neg (fun z3 => k ⟨z1, z2, z3⟩)]
      · rw [if_neg z2]
    · rw [if_neg z1]
  by_cases y3 : f_X8_areTicks e = true
  rotate_left
  · rw [if_neg y3, hM _ (fun k => y3 k.2.1)]; exact Agree.same hR
  rw [if_pos y3]
  by_cases z1 : s < 0
  · rw [if_pos z1, hM _ (fun k => (in_t k.2.2).1 z1)]; exact Agree.same hR
  rw [if_neg z1]
  by_cases z2 : s ≤ 1
  rotate_left
  · rw [if_neg z2, hM _ (fun k => (in_t k.2.2).2 (nle_lt z2))]; exact Agree.same hR
  rw [if_pos z2]
  by_cases z3 : c < 0
  · rw [if_pos z3, hM _ (fun k => (in_t k.1).1 z3)]; exact Agree.same hR
  rw [if_neg z3]
  by_cases z4 : c ≤ 9
  rotate_left
  · rw [if_neg z4, hM _ (fun k => (in_t k.1).2 (nle_lt z4))]; exact Agree.same hR
  rw [if_pos z4, if_pos (in_p z3 (le_nlt z4)), if_pos y3, if_pos (in_p z1 (le_nlt z2))]
  obtain ⟨g, hg, rfl⟩ := in_n (n := 9) (a := c) (by omega) (in_p z3 (le_nlt z4))
  obtain ⟨k, -, hk, rfl⟩ := ticks_n y3
  obtain ⟨va, s1, s2, s3⟩ := aside_go hE hS hL
  obtain ⟨ct, r, w1, wc, wm, e1, e2, e3, e4, e5, e6, e7, e8, e9⟩ := printed_go (x := x) s2 hn hd hg hk
  rw [e1, Option.bind_some]
  by_cases q : s = 1
  · have e2' : f_X8_copies vm (nI d) (nI g) = some ct := by
      have : f_X8_copies va (nI d) (nI g) = f_X8_copies vm (nI d) (nI g) := by
        unfold f_X8_copies
        rw [s3.1 185 _ (by omega)]
      rw [← this]; exact e2
    rw [if_pos q, if_pos q, e2', Option.bind_some]
    exact ⟨ct, w1, vm, rfl, rfl, hR.back e7 e5 Ch.rf (fun _ _ => rfl) rfl, swk_cc e7, Ch.rf⟩
  · rw [if_neg q, if_neg q]
    simp only []
    rw [e3, Option.bind_some, s1, Option.bind_some, e4, Option.bind_some]
    exact work_end e6 e8 ((aside_cm s3).tr (twk_cm e9))
theorem dots_lp {nl nw nd p tb n d t : Nat} {x : Int64} (hn : n < nl) (hd : d < nd) (ht : t ≤ 60) : ∀ (e i f g : Nat) (best least : Int32) (vc vm : rV), i + e = 10 → e < f → e < g → Wk nl nw nd p tb vc vm →
    ∃ (r : Int32) (wc wm : rV), f_X7_dots_38 f vc (nI n) (nI d) x (nI t) best least (nI i) = some (r, wc) ∧ f_X8_dots_39 g vm (nI n) (nI d) x (nI t) best least (nI i) = ((f_X8_takeBack wm).bind fun w => some (r, w)) ∧ Wk nl nw nd p tb wc wm ∧ Ch Swk vc wc ∧ Ch Twk vm wm := by
  intro e
  induction e with
  | zero =>
    intro i f g best least vc vm h hf hg hW
    obtain ⟨f, rfl⟩ : ∃ n', f = n' + 1 := ⟨f - 1, by omega⟩
    obtain ⟨g, rfl⟩ : ∃ n', g = n' + 1 := ⟨g - 1, by omega⟩
    have q : (9 : Int32) < nI i := plt (a := 9) (by omega) (by omega)
    rw [f_X7_dots_38, f_X8_dots_39, if_pos q, if_pos q]
    exact ⟨_, _, _, rfl, rfl, hW, Ch.rf, Ch.rf⟩
  | succ e ih =>
    intro i f g best least vc vm h hf hg hW
    obtain ⟨f, rfl⟩ : ∃ n', f = n' + 1 := ⟨f - 1, by omega⟩
    obtain ⟨g, rfl⟩ : ∃ n', g = n' + 1 := ⟨g - 1, by omega⟩
    have q : ¬ (9 : Int32) < nI i := nlt (a := 9) (by omega) (by omega)
    obtain ⟨ct, r, w1, wc, wm, e1, e2, e3, e4, e5, e6, e7, e8, e9⟩ := printed_go (x := x) (g := i) hW hn hd (by omega) ht
    rw [f_X7_dots_38, f_X8_dots_39, if_neg q, if_neg q, e1, Option.bind_some]
    simp only []
    rw [e3, e4, Option.bind_some, Option.bind_some]
    unfold f_X8_dots_72 f_X8_dots_80 f_X7_dots_76 f_X7_dots_84
    simp only [vlet_eq]
    rw [ad1]
    by_cases z : best = -1
    · rw [if_pos z, if_pos z]
      obtain ⟨s, wc', wm', j1, j2, j3, j4, j5⟩ := ih (i + 1) f g (nI i) r wc wm (by omega) (by omega) (by omega) e6
      exact ⟨s, wc', wm', j1, j2, j3, e8.tr j4, e9.tr j5⟩
    · rw [if_neg z, if_neg z]
      by_cases y : least ≤ r
      · rw [if_pos y, if_pos y]
        obtain ⟨s, wc', wm', j1, j2, j3, j4, j5⟩ := ih (i + 1) f g best least wc wm (by omega) (by omega) (by omega) e6
        exact ⟨s, wc', wm', j1, j2, j3, e8.tr j4, e9.tr j5⟩
      · rw [if_neg y, if_neg y]
        obtain ⟨s, wc', wm', j1, j2, j3, j4, j5⟩ := ih (i + 1) f g (nI i) r wc wm (by omega) (by omega) (by omega) e6
        exact ⟨s, wc', wm', j1, j2, j3, e8.tr j4, e9.tr j5⟩
theorem dots_op {tb : Nat} {vc vm : rV} (h : Rel tb vc vm) (a b : Int32) (x : Int64) (e : Int32) : Agree tb vc vm (f_X7_dots vc a b x e) (f_X8_dots vm a b x e) := by
  obtain ⟨nl, nw, nd, p, hE, hS, hL⟩ := h
  have hR : Rel tb vc vm := ⟨nl, nw, nd, p, hE, hS, hL⟩
  unfold f_X7_dots f_X8_dots
  rw [law_c hE.2.1, isDrop_c hE.2.2.2.1.1 hE.2.2.2.1.2.1, ticks_c]
  refine ag_if hR fun y1 => ag_if hR fun y2 => ag_if hR fun y3 => ?_
  obtain ⟨n, hn, rfl⟩ := (isLaw_m hE.2.1).mp y1
  obtain ⟨d, hd, rfl⟩ := (isDrop_m hE.2.2.2.1.1).mp y2
  obtain ⟨k, -, hk, rfl⟩ := ticks_n y3
  obtain ⟨va, s1, s2, s3⟩ := aside_go hE hS hL
  obtain ⟨r, wc, wm, e1, e2, e3, e4, e5⟩ := dots_lp (x := x) hn hd hk 10 0 20000 20000 (-1) 0 vc va (by omega) (by omega) (by omega) s2
  rw [show f_X7_dots_38 20000 vc (nI n) (nI d) x (nI k) (-1) 0 0 = _ from e1, s1, Option.bind_some, show f_X8_dots_39 20000 va (nI n) (nI d) x (nI k) (-1) 0 0 = _ from e2]
  exact work_end e3 e4 ((aside_cm s3).tr (twk_cm e5))
