/-! PARTS, NEXT, ALIKE -/
theorem ag_if {α : Type} {tb : Nat} {vc vm : rV} {b : Bool} {s : α} {F G : Option (α × rV)} (hR : Rel tb vc vm) (k : b = true → Agree tb vc vm F G) : Agree tb vc vm (if b = true then F else some (s, vc)) (if b = true then G else some (s, vm)) := by
  by_cases y : b = true
  · rw [if_pos y, if_pos y]; exact k y
  · rw [if_neg y, if_neg y]; exact Agree.same hR
theorem ticks_n {a : Int32} (h : f_X8_areTicks a = true) : ∃ k, 1 ≤ k ∧ k ≤ 60 ∧ a = nI k := by
  unfold f_X8_areTicks at h
  obtain ⟨q1, q2⟩ := in_t h
  have o0 : (0 : Int32).toInt = 0 := rfl
  have o1 : (1 : Int32).toInt = 1 := rfl
  have o60 : (60 : Int32).toInt = 60 := rfl
  rw [lt_toInt] at q1 q2
  exact ⟨a.toInt.toNat, by omega, by omega, niOf (by omega)⟩
theorem parts_op {tb : Nat} {vc vm : rV} (h : Rel tb vc vm) (a b c : Int32) (x : Int64) (e : Int32) : Agree tb vc vm (f_X7_parts vc a b c x e) (f_X8_parts vm a b c x e) := by
  obtain ⟨nl, nw, nd, p, hE, hS, hL⟩ := h
  have hR : Rel tb vc vm := ⟨nl, nw, nd, p, hE, hS, hL⟩
  unfold f_X7_parts f_X8_parts
  rw [law_c hE.2.1, law_c hE.2.1, isDrop_c hE.2.2.2.1.1 hE.2.2.2.1.2.1, ticks_c]
  refine ag_if hR fun y1 => ag_if hR fun y2 => ag_if hR fun y3 => ag_if hR fun y4 => ?_
  obtain ⟨n, hn, rfl⟩ := (isLaw_m hE.2.1).mp y1
  obtain ⟨m, hm, rfl⟩ := (isLaw_m hE.2.1).mp y2
  obtain ⟨d, hd, rfl⟩ := (isDrop_m hE.2.2.2.1.1).mp y3
  obtain ⟨k, -, hk, rfl⟩ := ticks_n y4
  obtain ⟨va, s1, s2, s3⟩ := aside_go hE hS hL
  obtain ⟨r, wc, wm, e1, e2, e3, e4, e5⟩ := partsBy_go (x := x) s2 hn hm hd hk
  rw [e1, Option.bind_some, s1, Option.bind_some, e2, Option.bind_some]
  exact work_end e3 e4 ((aside_cm s3).tr (twk_cm e5))
theorem Wk.nd {nl nw nd p tb : Nat} {vc vm : rV} (h : Wk nl nw nd p tb vc vm) : nd ≤ 12 ∧ vc.1 0 13 = nI nd ∧ vm.1 174 21 = nI nd := ⟨h.1.2.2.2.1.1.1, h.1.2.2.2.1.2.1.1, h.1.2.2.2.1.1.2.1⟩
theorem le_nlt {a b : Int32} (h : a ≤ b) : ¬ b < a := by rw [lt_toInt]; rw [le_toInt] at h; omega
theorem nle_lt {a b : Int32} (h : ¬ a ≤ b) : b < a := by rw [lt_toInt]; rw [le_toInt] at h; omega
theorem next_lp {nl nw nd p tb n m k : Nat} {x : Int64} {set : Int32} (hn : n < nl) (hm : m < nl) (hk : k ≤ 60) : ∀ (e i f g : Nat) (best most : Int32) (vc vm : rV), i + e = nd → e < f → e < g → -1 ≤ most.toInt → Wk nl nw nd p tb vc vm →
    ∃ (r : Int32) (wc wm : rV), f_X7_next_53 f vc (nI n) (nI m) set x (nI k) best most (nI i) = some (r, wc) ∧ f_X8_next_47 g vm (nI n) (nI m) set x (nI k) best most (nI i) = ((f_X8_takeBack wm).bind fun w => some (r, w)) ∧ Wk nl nw nd p tb wc wm ∧ Ch Swk vc wc ∧ Ch Twk vm wm := by
  have mo : (-1 : Int32).toInt = -1 := rfl
  intro e
  induction e with
  | zero =>
    intro i f g best most vc vm h hf hg hb hW
    obtain ⟨f, rfl⟩ : ∃ n', f = n' + 1 := ⟨f - 1, by omega⟩
    obtain ⟨g, rfl⟩ : ∃ n', g = n' + 1 := ⟨g - 1, by omega⟩
    obtain ⟨n1, n2, n3⟩ := hW.nd
    rw [f_X7_next_53, f_X8_next_47, n2, n3, if_pos (ple (by omega) (by omega)), if_pos (ple (by omega) (by omega))]
    exact ⟨_, _, _, rfl, rfl, hW, Ch.rf, Ch.rf⟩
  | succ e ih =>
    intro i f g best most vc vm h hf hg hb hW
    obtain ⟨f, rfl⟩ : ∃ n', f = n' + 1 := ⟨f - 1, by omega⟩
    obtain ⟨g, rfl⟩ : ∃ n', g = n' + 1 := ⟨g - 1, by omega⟩
    obtain ⟨n1, n2, n3⟩ := hW.nd
    rw [f_X7_next_53, f_X8_next_47, n2, n3, if_neg (nle (by omega) (by omega)), if_neg (nle (by omega) (by omega)), has_eq]
    by_cases q : f_X7_has set (nI i) = true
    · obtain ⟨r, uc, um, e1, e2, e3, e4, e5⟩ := partsBy_go (d := i) (x := x) hW hn hm (by omega) hk
      rw [if_pos q, if_pos q, e1, e2, Option.bind_some, Option.bind_some]
      unfold f_X8_next_81 f_X8_next_97
      simp only [vlet_eq]
      by_cases z : r ≤ most
      · rw [if_pos z, if_pos z, if_neg (le_nlt z)]
        unfold f_X7_next_100
        rw [vlet_eq, ad1]
        obtain ⟨s, wc, wm, j1, j2, j3, j4, j5⟩ := ih (i + 1) f g best most uc um (by omega) (by omega) (by omega) hb e3
        exact ⟨s, wc, wm, j1, j2, j3, e4.tr j4, e5.tr j5⟩
      · rw [if_neg z, if_neg z, if_pos (nle_lt z)]
        unfold f_X7_next_100
        rw [vlet_eq, ad1]
        obtain ⟨s, wc, wm, j1, j2, j3, j4, j5⟩ := ih (i + 1) f g (nI i) r uc um (by omega) (by omega) (by omega) (by have := nle_lt z; rw [lt_toInt] at this; omega) e3
        exact ⟨s, wc, wm, j1, j2, j3, e4.tr j4, e5.tr j5⟩
    · rw [if_neg q, if_neg q]
      have z : (-1 : Int32) ≤ most := by rw [le_toInt, mo]; exact hb
      unfold f_X8_next_81 f_X8_next_97 f_X7_next_100
      simp only [vlet_eq]
      rw [if_pos z, if_neg (le_nlt z), ad1]
      exact ih (i + 1) f g best most vc vm (by omega) (by omega) (by omega) hb hW
theorem next_op {tb : Nat} {vc vm : rV} (h : Rel tb vc vm) (a b c : Int32) (x : Int64) (e : Int32) : Agree tb vc vm (f_X7_next vc a b c x e) (f_X8_next vm a b c x e) := by
  obtain ⟨nl, nw, nd, p, hE, hS, hL⟩ := h
  have hR : Rel tb vc vm := ⟨nl, nw, nd, p, hE, hS, hL⟩
  unfold f_X7_next f_X8_next
  rw [law_c hE.2.1, law_c hE.2.1, ticks_c]
  refine ag_if hR fun y1 => ag_if hR fun y2 => ?_
  have ad := areDrops_go (a := c) hE.2.2.2.1.1 hE.2.2.2.1.2.1
  by_cases z : c = 0
  · rw [if_pos z, if_neg (fun q => (ad.mp q).1 z)]; exact Agree.same hR
  rw [if_neg z]
  by_cases y3 : f_X7_areDrops vc c = true
  rotate_left
  · rw [if_neg y3, if_neg (fun q => y3 (ad.mp q).2)]; exact Agree.same hR
  rw [if_pos y3, if_pos (ad.mpr ⟨z, y3⟩)]
  refine ag_if hR fun y4 => ?_
  obtain ⟨n, hn, rfl⟩ := (isLaw_m hE.2.1).mp y1
  obtain ⟨m, hm, rfl⟩ := (isLaw_m hE.2.1).mp y2
  obtain ⟨k, -, hk, rfl⟩ := ticks_n y4
  obtain ⟨va, s1, s2, s3⟩ := aside_go hE hS hL
  have hd12 := hE.2.2.2.1.1.1
  obtain ⟨r, wc, wm, e1, e2, e3, e4, e5⟩ := next_lp (x := x) (set := c) hn hm hk nd 0 20000 20000 (-1) (-1) vc va (by omega) (by omega) (by omega) (by decide) s2
  rw [show f_X7_next_53 20000 vc (nI n) (nI m) c x (nI k) (-1) (-1) 0 = _ from e1, s1, Option.bind_some, show f_X8_next_47 20000 va (nI n) (nI m) c x (nI k) (-1) (-1) 0 = _ from e2]
  exact work_end e3 e4 ((aside_cm s3).tr (twk_cm e5))
theorem wl_alike {a1 a2 a3 a6 : Int32} {a4 : Int64} : ∀ (d c n : Nat) (vm : rV), c + d = 24 → d < n → ∃ wm m, f_X8_alike_58 n vm a1 a2 a3 a4 a6 (nI c) = f_X8_alike_58 (m + 1) wm a1 a2 a3 a4 a6 24 ∧ Ch (fun k j => k = 196 ∧ j < 24) vm wm ∧ (∀ i, c ≤ i → i < 24 → wm.1 196 i = la vm i) ∧ (∀ i, i < c → wm.1 196 i = vm.1 196 i) := by
  intro d
  induction d with
  | zero =>
    intro c n vm e hn
    obtain ⟨n, rfl⟩ : ∃ n', n = n' + 1 := ⟨n - 1, by omega⟩
    have : c = 24 := by omega
    subst this
    exact ⟨vm, n, rfl, Ch.rf, fun i h1 h2 => by omega, fun i _ => rfl⟩
  | succ d ih =>
    intro c n vm e hn
    obtain ⟨n, rfl⟩ : ∃ n', n = n' + 1 := ⟨n - 1, by omega⟩
    have g : ¬ (24 : Int32) ≤ nI c := nle (a := 24) (by omega) (by omega)
    rw [f_X8_alike_58, if_neg g, laid_at (by omega), Option.bind_some, if_pos (gin (show c < 24 by omega) (by omega)), niCl (by omega), vlet_eq, vlet_eq, ad1]
    have hm : Ch (fun k j => k = 196 ∧ j < 24) vm (rI vm 196 c (la vm c)) := Ch.rf.I ⟨rfl, by omega⟩
    obtain ⟨wm, m, e1, e2, e3, e4⟩ := ih (c + 1) n (rI vm 196 c (la vm c)) (by omega) (by omega)
    rw [la_ch hm (fun j => by omega)] at e3
    refine ⟨wm, m, e1, hm.tr e2, fun i h1 h2 => ?_, fun i hi => by rw [e4 i (by omega), rI_no (by omega)]⟩
    by_cases q : i = c
    · rw [q, e4 c (by omega), rI_at]
    · exact e3 i (by omega) h2
theorem ix185 {d j : Nat} : (12 : Int32) * nI d + nI j = nI (12 * d + j) := by rw [show (12 : Int32) * nI d = nI (12 * d) from niMul 12 d, niAdd]
theorem alike_lp {d1 d2 x1 x2 w : Nat} {wc wm : rV} (h1 : d1 < 12) (h2 : d2 < 12) (hx1 : x1 < 24) (hx2 : x2 < 24) (hw : w ≤ 24) (c1 : wc.1 (38 + d1) 0 = nI x1) (c2 : wc.1 (38 + d2) 0 = nI x2) (mw : (if wm.1 185 (12 * d1 + 1) < wm.1 185 (12 * d2 + 1) then wm.1 185 (12 * d2 + 1) else wm.1 185 (12 * d1 + 1)) = nI w) (hr : ∀ i, i < 24 → wc.1 59 i = wm.1 196 i) (hRL : RLl 98 wc wm) :
    ∀ (e i f g : Nat) (cnt : Int32), i + e = w → e < f → e < g → ∃ r, f_X7_alike_105 f wc (nI d1) (nI d2) (nI w) cnt (nI i) = some (r, wc) ∧ f_X8_alike_133 g wm (nI d1) (nI d2) (nI x1) (nI x2) cnt (nI i) = ((f_X8_takeBack wm).bind fun p => some (r, p)) := by
  intro e
  induction e with
  | zero =>
    intro i f g cnt h hf hg
    obtain ⟨f, rfl⟩ : ∃ n', f = n' + 1 := ⟨f - 1, by omega⟩
    obtain ⟨g, rfl⟩ : ∃ n', g = n' + 1 := ⟨g - 1, by omega⟩
    rw [f_X7_alike_105, f_X8_alike_133, if_pos (ple (by omega) (by omega)), show (12 : Int32) * nI d1 + 1 = nI (12 * d1 + 1) from ix185 (j := 1), show (12 : Int32) * nI d2 + 1 = nI (12 * d2 + 1) from ix185 (j := 1), if_pos (gin (show 12 * d1 + 1 < 156 by omega) (by omega)), if_pos (gin (show 12 * d2 + 1 < 156 by omega) (by omega)), niCl (by omega), niCl (by omega), mw, if_pos (ple (by omega) (by omega))]
    exact ⟨_, rfl, rfl⟩
  | succ e ih =>
    intro i f g cnt h hf hg
    obtain ⟨f, rfl⟩ : ∃ n', f = n' + 1 := ⟨f - 1, by omega⟩
    obtain ⟨g, rfl⟩ : ∃ n', g = n' + 1 := ⟨g - 1, by omega⟩
    obtain ⟨p, ep⟩ := laid_some (vm := wm) (nI (x2 + i))
    have eb : (if (f_X7_isCell (nI (x2 + i))) = true then ((f_X5_lyingAt wc 98 (nI (x2 + i))).bind fun p20 => some p20) else some (0 : Int32)) = some p := by
      rw [isCell_c]
      by_cases q : f_X8_isCell (nI (x2 + i)) = true
      · rw [if_pos q, laid_eq hRL, ep, Option.bind_some]
      · rw [if_neg q, ← ep, laid_out q]
    obtain ⟨s, fin, ec, em⟩ : ∃ (s : Int32) (fin : Bool), f_X7_alike_105 (f + 1) wc (nI d1) (nI d2) (nI w) cnt (nI i) = f_X7_alike_157 (fun v a2 a3 a7 a8 a9 => f_X7_alike_105 f v a2 a3 a7 a8 a9) wc (nI d1) (nI d2) (nI w) cnt (nI i) (nI (x2 + i)) s ∧ f_X8_alike_133 (g + 1) wm (nI d1) (nI d2) (nI x1) (nI x2) cnt (nI i) = f_X8_alike_187 (fun v a2 a3 a7 a8 a9 a10 => f_X8_alike_133 g v a2 a3 a7 a8 a9 a10) wm (nI d1) (nI d2) (nI x1) (nI x2) cnt (nI i) s := by
      rw [f_X7_alike_105, f_X8_alike_133, if_neg (nle (by omega) (by omega)), show (12 : Int32) * nI d1 + 1 = nI (12 * d1 + 1) from ix185 (j := 1), show (12 : Int32) * nI d2 + 1 = nI (12 * d2 + 1) from ix185 (j := 1), if_pos (gin (show 12 * d1 + 1 < 156 by omega) (by omega)), if_pos (gin (show 12 * d2 + 1 < 156 by omega) (by omega)), niCl (show 12 * d1 + 1 < 2147483648 by omega), niCl (show 12 * d2 + 1 < 2147483648 by omega), mw, if_neg (nle (by omega) (by omega)), if_pos (gin (show d1 < 12 by omega) (by omega)), niCl (show d1 < 2147483648 by omega), c1, vlet_eq, if_pos (gin (show d2 < 12 by omega) (by omega)), niCl (show d2 < 2147483648 by omega), c2, vlet_eq, niAdd, niAdd]
      rw [isCell_c]
      by_cases q : x1 + i < 24
      · rw [if_pos (isCell_t q), if_pos (gin q (by omega)), if_neg (show ¬ (24 : Int32) ≤ nI (x1 + i) from nle (a := 24) (by omega) (by omega)), if_pos (gin q (by omega)), niCl (by omega), hr _ q]
        exact ⟨_, true, rfl, rfl⟩
      · rw [if_neg (fun z => by
          obtain ⟨c, hc, e⟩ := isCell_n z
          rw [niEq (by omega) (by omega)] at e
          omega), if_pos (show (24 : Int32) ≤ nI (x1 + i) from ple (a := 24) (by omega) (by omega))]
        exact ⟨_, true, rfl, rfl⟩
    rw [ec, em]
    unfold f_X7_alike_157 f_X7_alike_178 f_X7_alike_184 f_X8_alike_187 f_X8_alike_210
    rw [niAdd, ep, Option.bind_some]
    simp only [vlet_eq]
    rw [ad1]
    have key : ∀ F : Int32 → Option (Int32 × rV), (if (f_X7_isCell (nI (x2 + i))) = true then ((f_X5_lyingAt wc 98 (nI (x2 + i))).bind fun p20 => F p20) else F 0) = F p := by
      intro F
      by_cases q : (f_X7_isCell (nI (x2 + i))) = true
      · rw [if_pos q] at eb ⊢
        rw [laid_eq hRL, ep, Option.bind_some]
      · rw [if_neg q] at eb ⊢
        rw [Option.some.inj eb]
    rw [key fun p20 => if s = p20 then f_X7_alike_105 f wc (nI d1) (nI d2) (nI w) (cnt + 1) (nI (i + 1)) else f_X7_alike_105 f wc (nI d1) (nI d2) (nI w) cnt (nI (i + 1))]
    by_cases z : s = p
    · rw [if_pos z, if_pos z]
      exact ih (i + 1) f g _ (by omega) (by omega) (by omega)
    · rw [if_neg z, if_neg z, Int32.add_zero]
      exact ih (i + 1) f g _ (by omega) (by omega) (by omega)
theorem alike_op {tb : Nat} {vc vm : rV} (h : Rel tb vc vm) (a b c : Int32) (x : Int64) (e : Int32) : Agree tb vc vm (f_X7_alike vc a b c x e) (f_X8_alike vm a b c x e) := by
  obtain ⟨nl, nw, nd, p, hE, hS, hL⟩ := h
  have hR : Rel tb vc vm := ⟨nl, nw, nd, p, hE, hS, hL⟩
  have hd12 := hE.2.2.2.1.1.1
  unfold f_X7_alike f_X8_alike
  rw [law_c hE.2.1, isDrop_c hE.2.2.2.1.1 hE.2.2.2.1.2.1, isDrop_c hE.2.2.2.1.1 hE.2.2.2.1.2.1, ticks_c]
  refine ag_if hR fun y1 => ag_if hR fun y2 => ag_if hR fun y3 => ag_if hR fun y4 => ?_
  obtain ⟨n, hn, rfl⟩ := (isLaw_m hE.2.1).mp y1
  obtain ⟨d1, hd1, rfl⟩ := (isDrop_m hE.2.2.2.1.1).mp y2
  obtain ⟨d2, hd2, rfl⟩ := (isDrop_m hE.2.2.2.1.1).mp y3
  obtain ⟨k, -, hk, rfl⟩ := ticks_n y4
  obtain ⟨va, s1, s2, s3⟩ := aside_go hE hS hL
  obtain ⟨b1, vg, g1, g2, g3, g4⟩ := gath1 s2 hd1
  obtain ⟨i, w1, w2, uc, um, e1, e2, e3, -, -, -, e5, e6, e7, e8, e9⟩ := piece_go (x := x) (a := k) g3 g2 hn hd1 (by omega)
  obtain ⟨tc, t1, t2, t3, t4, t5⟩ := note_c e6 e5
  obtain ⟨tm, mm, u1, u2, u3, -⟩ := wl_alike (a1 := nI n) (a2 := nI d1) (a3 := nI d2) (a6 := nI k) (a4 := x) 24 0 20000 um (by omega) (by omega)
  have t6 := t2.m196 u2
  obtain ⟨b2, vh, h1, h2, h3, h4⟩ := gath1 t6 hd2
  obtain ⟨i', w1', w2', wc, wm, f1, f2, f3, -, -, -, f5, f6, f7, f8, f9⟩ := piece_go (x := x) (a := k) h3 h2 hn hd2 (by omega)
  have z59 : ∀ i, i < 24 → wc.1 59 i = wm.1 196 i := fun i hi => by
    rw [f9.1 _ _ (by unfold Tal; omega), h4.1 _ _ (fun q => by have := tad_no q; omega), u3 i (by omega) hi, ← t5 i hi]
    exact f8.1 _ _ (sal_no (by omega) (by omega))
  have hD := f6.1.2.2.2.1.1
  have hC := f6.1.2.2.2.1.2.1
  have tx : ∀ d, d < nd → ∀ j, j < 12 → wm.1 185 (12 * d + j) = nI (tv wm d j) := fun d hd j hj => (tv_eq (hD.2.2 d hd).1 hj).1
  have cx : ∀ d, d < nd → ∀ j, j < 12 → wc.1 (38 + d) j = nI (tv wm d j) := fun d hd j hj => by rw [hC.2 d hd j hj, tx d hd j hj]
  have hw1 := hD.x hd1
  have hw2 := hD.x hd2
  obtain ⟨w, ew, hw, ew2⟩ : ∃ w, (if wm.1 185 (12 * d1 + 1) < wm.1 185 (12 * d2 + 1) then wm.1 185 (12 * d2 + 1) else wm.1 185 (12 * d1 + 1)) = nI w ∧ w ≤ 24 ∧ (if wc.1 (38 + d1) 1 < wc.1 (38 + d2) 1 then wc.1 (38 + d2) 1 else wc.1 (38 + d1) 1) = nI w := by
    rw [tx d1 hd1 1 (by omega), tx d2 hd2 1 (by omega), cx d1 hd1 1 (by omega), cx d2 hd2 1 (by omega)]
    by_cases q : nI (tv wm d1 1) < nI (tv wm d2 1)
    · rw [if_pos q]; exact ⟨_, rfl, by omega, rfl⟩
    · rw [if_neg q]; exact ⟨_, rfl, by omega, rfl⟩
  obtain ⟨r, l1, l2⟩ := alike_lp (wc := wc) (wm := wm) (d1 := d1) (d2 := d2) (x1 := tv wm d1 0) (x2 := tv wm d2 0) (w := w) (by omega) (by omega) hw1.1 hw2.1 hw (cx d1 hd1 0 (by omega)) (cx d2 hd2 0 (by omega)) ew z59 f5.rl w 0 20000 20000 0 (by omega) (by omega) (by omega)
  rw [if_pos (gin (show d1 < 12 by omega) (by omega)), niCl (show d1 < 2147483648 by omega), e1, Option.bind_some, t1, Option.bind_some, if_pos (gin (show d2 < 12 by omega) (by omega)), niCl (show d2 < 2147483648 by omega), f1, Option.bind_some, ew2, vlet_eq]
  rw [show f_X7_alike_105 20000 wc (nI d1) (nI d2) (nI w) 0 0 = _ from l1, s1, Option.bind_some, g1, Option.bind_some]
  unfold f_X8_tryOut
  simp only []
  rw [e2, Option.bind_some, e3, Option.bind_some, Option.bind_some]
  rw [show f_X8_alike_58 20000 um (nI n) (nI d1) (nI d2) x (nI k) 0 = _ from u1, f_X8_alike_58, if_pos (show (24 : Int32) ≤ 24 by decide), h1, Option.bind_some]
  unfold f_X8_tryOut
  simp only []
  rw [f2, Option.bind_some, f3, Option.bind_some, Option.bind_some]
  simp only []
  rw [show (12 : Int32) * nI d1 + 0 = nI (12 * d1 + 0) from ix185 (j := 0), show (12 : Int32) * nI d2 + 0 = nI (12 * d2 + 0) from ix185 (j := 0), if_pos (gin (show 12 * d1 + 0 < 156 by omega) (by omega)), niCl (show 12 * d1 + 0 < 2147483648 by omega), vlet_eq, if_pos (gin (show 12 * d2 + 0 < 156 by omega) (by omega)), niCl (show 12 * d2 + 0 < 2147483648 by omega), vlet_eq, tx d1 hd1 0 (by omega), tx d2 hd2 0 (by omega)]
  rw [show f_X8_alike_133 20000 wm (nI d1) (nI d2) (nI (tv wm d1 0)) (nI (tv wm d2 0)) 0 0 = _ from l2]
  exact work_end f6 (((sal_swk e8).tr t4).tr (sal_swk f8)) ((aside_cm s3).tr (((twk_cm (tal_tad_twk g4 e9)).tr (u2.mono fun k j q => by unfold Cm; omega)).tr (twk_cm (tal_tad_twk h4 f9))))
