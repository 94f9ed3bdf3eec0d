/-! DRY -/
theorem law_c {vc vm : rV} {nl : Nat} {a : Int32} (hl : Rl nl vc vm) : f_X4_has vc 9 a = f_X8_isLaw vm a := by
  have l4 := hl.1
  rw [Bool.eq_iff_iff, isLaw_m hl]
  unfold f_X4_has
  rw [hl.2.1]
  constructor
  · intro h
    by_cases p : a < 0
    · rw [if_pos p] at h; cases h
    rw [if_neg p] at h
    by_cases q : nI nl ≤ a
    · rw [if_pos q] at h; cases h
    · exact (lt_guard (a := a) (n := nl) (by omega)).mp (in_p p (by rw [lt_suc (by omega) p]; exact q))
  · rintro ⟨d, hd, rfl⟩
    rw [if_neg (niGe (by omega)), if_neg (nle (by omega) (by omega)), if_neg (show ¬ (4 : Int32) ≤ nI d from nle (a := 4) (by omega) (by omega))]
theorem ST.num {M B tb : Nat} {vc vm : rV} (h : ST M B tb vc vm) : vc.1 B 10 = vm.1 187 288 := by
  obtain ⟨ρ, L, t, S0, S1, -, -, ⟨n1, n2, -⟩, -⟩ := h
  rw [n1, n2]
theorem aside_cm {v w : rV} (h : Ch (fun k j => (k = 188 ∧ j < 416) ∨ (k = 174 ∧ j = 1000028)) v w) : Ch Cm v w := h.mono fun k j q => by unfold Cm; omega
theorem tad_twk {v w : rV} (h : Ch Tad v w) : Ch Twk v w := h.mono fun k j q => by have := tad_no q; unfold Twk; omega
theorem twk_cm {v w : rV} (h : Ch Twk v w) : Ch Cm v w := h.mono fun k j q => by unfold Twk at q; unfold Cm; omega
/-- a drop alone, put aside and gathered -/
theorem one_go {nl nw nd p tb n d a : Nat} {x : Int64} {vc vm : rV} (h : Wk nl nw nd p tb vc vm) (hn : n < nl) (hd : d < nd) (ha : a ≤ 200) :
    ∃ (b : Bool) (i : Nat) (vg w2 wc wm : rV), f_X7_tryAlone vc (nI n) (38 + d) x (nI a) = some wc ∧ f_X8_gather vm ((1 : Int32) <<< (nI d &&& 31)) = some (b, vg) ∧ f_X8_begin vg (nI n) x = some w2 ∧ f_X8_run w2 (nI a) = some (nI i, wm) ∧ i ≤ a ∧ ST nd 98 a wc wm ∧ wc.1 98 15 = nI i ∧ Wk nl nw nd p tb wc wm ∧ Ch Swk vc wc ∧ Ch Twk vm wm := by
  obtain ⟨hE, hI, hL⟩ := h
  obtain ⟨b, vg, g1, -, g3, g4⟩ := gather_go (set := (1 : Int32) <<< (nI d &&& 31)) hE.2.2.2.1.1
  rw [blist_1 hE.2.2.2.1.1 hd] at g3
  have hE2 := Rel.tad hE g4
  have hW2 : Wk nl nw nd p tb vc vg := Wk.ch ⟨hE, hI, hL⟩ Ch.rf (tad_twk g4) hE.2.2.2.2.2.2.2.1
  have hD := hE2.2.2.2.1.1
  have hC := hE2.2.2.2.1.2.1
  have hN := hD.1
  have hT := (hD.2.2 d hd).1
  have hx := hD.x hd
  have etv := tad_tv g4
  obtain ⟨ρ, hρ⟩ := hE2.2.2.2.2.2.2.2.1
  obtain ⟨z, h1, h2, h3, h4, h5⟩ : ∃ z : Pz, z.1 = tv vg d 0 ∧ z.2.1 = tv vg d 1 ∧ z.2.2.1 = 38 + d ∧ z.2.2.2.1 = 0 ∧ z.2.2.2.2 = d := ⟨(tv vg d 0, tv vg d 1, 38 + d, 0, d), rfl, rfl, rfl, rfl, rfl⟩
  have hPD : PD 98 vc vg z := by
    unfold PD
    rw [h1, h2, h3, h4, h5]
    exact ⟨⟨by omega, fun j hj => hC.2 d hd j hj⟩, hT, ⟨by omega, hx.2.1, hx.2.2, by omega⟩, (tv_eq hT (j := 1) (by omega)).1⟩
  have hX : vc.1 z.2.2.1 0 = nI z.1 := by
    rw [h3, h1, hC.2 d hd 0 (by omega)]
    exact (tv_eq hT (j := 0) (by omega)).1
  have hPM : PM vg [z] := by
    obtain ⟨p1, p2, p3⟩ := g3
    refine ⟨p1, by simp, fun k q hq => ?_⟩
    cases k with
    | zero =>
      simp only [List.getElem?_cons_zero, Option.some.injEq] at hq
      obtain ⟨y1, y2, y3⟩ := p3 0 (pz vm d) rfl
      rw [← hq, h1, h2, h5, etv]
      exact ⟨y1, y2, y3⟩
    | succ k => simp at hq
  obtain ⟨i, w1, w2, wc, wm, e1, e2, e3, -, -, e4, e5, e6, e7, e8⟩ := alone_go (M := nd) (x := x) (p := z) (a := a) hρ hPD h4 hX ⟨by omega, by omega⟩ hPM hn hE2.2.1 hE2.2.2.2.2.2.1 ha
  rw [h3] at e1
  exact ⟨b, i, vg, w2, wc, wm, e1, g1, e2, e3, e4, e5, e6, hW2.ch (sal_swk e7) (tal_twk e8) e5.rf, sal_swk e7, (tad_twk g4).tr (tal_twk e8)⟩
theorem dry_op {tb : Nat} {vc vm : rV} (h : Rel tb vc vm) (a b : Int32) (x : Int64) : Agree tb vc vm (f_X7_dry vc a b x) (f_X8_dry vm a b x) := by
  obtain ⟨nl, nw, nd, p, hE, hS, hL⟩ := h
  have hR : Rel tb vc vm := ⟨nl, nw, nd, p, hE, hS, hL⟩
  have hd12 := hE.2.2.2.1.1.1
  unfold f_X7_dry f_X8_dry
  rw [law_c hE.2.1, isDrop_c hE.2.2.2.1.1 hE.2.2.2.1.2.1]
  by_cases y : f_X8_isLaw vm a = true
  rotate_left
  · rw [if_neg y, if_neg y]; exact Agree.same hR
  rw [if_pos y, if_pos y]
  by_cases z : f_X8_isDrop vm b = true
  rotate_left
  · rw [if_neg z, if_neg z]; exact Agree.same hR
  rw [if_pos z, if_pos z]
  obtain ⟨n, hn, rfl⟩ := (isLaw_m hE.2.1).mp y
  obtain ⟨d, hd, rfl⟩ := (isDrop_m hE.2.2.2.1.1).mp z
  obtain ⟨va, s1, s2, s3⟩ := aside_go hE hS hL
  obtain ⟨q, i, vg, w2, wc, wm, e1, e2, e3, e4, e5, e6, e7, e8, e9, e10⟩ := one_go (x := x) s2 hn hd (Nat.le_refl 200)
  rw [if_pos (gin (show d < 12 by omega) (by omega)), niCl (by omega), s1, Option.bind_some, e2, Option.bind_some, show f_X7_tryAlone vc (nI n) (38 + d) x 200 = some wc from e1, Option.bind_some]
  simp only []
  rw [e3, Option.bind_some, show f_X8_run w2 200 = some (nI i, wm) from e4, Option.bind_some]
  unfold f_X8_dry_62
  simp only []
  rw [e6.num, e7]
  have hm : Ch Cm vm wm := (aside_cm s3).tr (twk_cm e10)
  by_cases w : wm.1 187 288 = 0
  · rw [if_pos w, if_pos w]; exact work_end e8 e9 hm
  · rw [if_neg w, if_neg w]; exact work_end e8 e9 hm
