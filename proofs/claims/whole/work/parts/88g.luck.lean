/-! LUCK, READ, ODDS -/
theorem want_c {vc vm : rV} {nw : Nat} {a : Int32} (hW : Rwn nw vc vm) : f_X4_has vc 23 a = f_X8_in a 0 (vm.1 174 14 - 1) := by
  have w4 := hW.1
  rw [hW.2.2.1, Bool.eq_iff_iff, lt_guard (by omega)]
  unfold f_X4_has
  rw [hW.2.1]
  constructor
  · intro h
    by_cases p : a < 0
    · rw [if_pos p] at h; cases h
    rw [if_neg p] at h
    by_cases q : nI nw ≤ a
    · rw [if_pos q] at h; cases h
    · exact (lt_guard (a := a) (n := nw) (by omega)).mp (in_p p (by rw [lt_suc (by omega) p]; exact q))
  · rintro ⟨d, hd, rfl⟩
    rw [if_neg (niGe (by omega)), if_neg (nle (by omega) (by omega)), if_neg (show ¬ (4 : Int32) ≤ nI d from nle (a := 4) (by omega) (by omega))]
theorem want_n {vc vm : rV} {nw : Nat} {a : Int32} (hW : Rwn nw vc vm) (h : f_X8_in a 0 (vm.1 174 14 - 1) = true) : ∃ w, w < nw ∧ a = nI w := by
  have w4 := hW.1
  rw [hW.2.2.1] at h
  exact (lt_guard (by omega)).mp h
/-- a want at work -/
theorem wkMet_go {nl nw nd p tb b w : Nat} {vc vm : rV} (h : Wk nl nw nd p tb vc vm) (hS : ST nd 98 b vc vm) (hw : w < nw) :
    ∃ (r : Bool) (wc wm : rV), f_X7_isMetBy vc 98 (nI w) = some (r, wc) ∧ f_X8_isMet vm (nI w) = some (r, wm) ∧ ST nd 98 b wc wm ∧ Wk nl nw nd p tb wc wm ∧ Ch Swk vc wc ∧ Ch Tal vm wm := by
  have w4 := h.1.2.2.1.1
  obtain ⟨r, wc, wm, g1, g2, g3, g4, g5⟩ := isMet_go (by decide) hS h.1.2.2.1 hw
  have c : Ch Swk vc wc := g4.mono fun k j q => by
    rcases q with q | q
    · exact Or.inl ⟨by omega, by omega⟩
    · exact Or.inr (Or.inr (Or.inr ⟨w, by omega, Or.inr q.1⟩))
  have t : Ch Tal vm wm := g5.mono fun k j q => by unfold Tal; omega
  exact ⟨r, wc, wm, g1, g2, g3, h.ch c (tal_twk t) g3.rf, c, t⟩
theorem luck_lp {nl nw nd p tb n d w k s : Nat} {x : Int64} (hn : n < nl) (hd : d < nd) (hw : w < nw) (hk : k ≤ 60) (hs : s ≤ 20) : ∀ (e i f g : Nat) (cnt : Int32) (vc vm : rV), i + e = s → e < f → e < g → Wk nl nw nd p tb vc vm →
    ∃ (r : Int32) (wc wm : rV), f_X7_luck_61 f vc (nI n) (nI d) (nI w) x (nI s) (nI k) cnt (nI i) = some (r, wc) ∧ f_X8_luck_61 g vm (nI n) (nI d) (nI w) x (nI s) (nI k) cnt (nI i) = ((f_X8_takeBack wm).bind fun w => some (r, w)) ∧ Wk nl nw nd p tb wc wm ∧ Ch Swk vc wc ∧ Ch Twk vm wm := by
  intro e
  induction e with
  | zero =>
    intro i f g cnt vc vm h hf hg hW
    obtain ⟨f, rfl⟩ : ∃ n', f = n' + 1 := ⟨f - 1, by omega⟩
    obtain ⟨g, rfl⟩ : ∃ n', g = n' + 1 := ⟨g - 1, by omega⟩
    rw [f_X7_luck_61, f_X8_luck_61, if_pos (ple (by omega) (by omega)), if_pos (ple (by omega) (by omega))]
    exact ⟨_, _, _, rfl, rfl, hW, Ch.rf, Ch.rf⟩
  | succ e ih =>
    intro i f g cnt vc vm h hf hg hW
    obtain ⟨f, rfl⟩ : ∃ n', f = n' + 1 := ⟨f - 1, by omega⟩
    obtain ⟨g, rfl⟩ : ∃ n', g = n' + 1 := ⟨g - 1, by omega⟩
    have hd12 := hW.nd.1
    obtain ⟨b1, vg, g1, g2, g3, g4⟩ := gath1 hW hd
    obtain ⟨j, w1, w2, uc, um, e1, e2, e3, -, -, -, e5, e6, e7, e8, e9⟩ := piece_go (x := x + (nI i).toInt64) (a := k) g3 g2 hn hd (by omega)
    obtain ⟨r, tc, tm, t1, t2, t3, t4, t5, t6⟩ := wkMet_go e6 e5 hw
    have hc := (sal_swk e8).tr t5
    have hm := (tal_tad_twk g4 e9).tr (tal_twk t6)
    rw [f_X7_luck_61, f_X8_luck_61, if_neg (nle (by omega) (by omega)), if_neg (nle (by omega) (by omega)), if_pos (gin (show d < 12 by omega) (by omega)), niCl (by omega), e1, g1, Option.bind_some, Option.bind_some, t1, Option.bind_some]
    unfold f_X8_tryOut
    simp only []
    rw [e2, Option.bind_some, e3, Option.bind_some, Option.bind_some, t2, Option.bind_some]
    unfold f_X7_luck_102 f_X8_luck_104
    simp only [vlet_eq]
    rw [ad1]
    by_cases z : r = true
    · rw [if_pos z, if_pos z]
      obtain ⟨s, wc, wm, j1, j2, j3, j4, j5⟩ := ih (i + 1) f g (cnt + 1) tc tm (by omega) (by omega) (by omega) t4
      exact ⟨s, wc, wm, j1, j2, j3, hc.tr j4, hm.tr j5⟩
    · rw [if_neg z, if_neg z, Int32.add_zero]
      obtain ⟨s, wc, wm, j1, j2, j3, j4, j5⟩ := ih (i + 1) f g cnt tc tm (by omega) (by omega) (by omega) t4
      exact ⟨s, wc, wm, j1, j2, j3, hc.tr j4, hm.tr j5⟩
theorem luck_op {tb : Nat} {vc vm : rV} (h : Rel tb vc vm) (a b c : Int32) (x : Int64) (s e : Int32) : Agree tb vc vm (f_X7_luck vc a b c x s e) (f_X8_luck vm a b c x s e) := by
  obtain ⟨nl, nw, nd, p, hE, hS, hL⟩ := h
  have hR : Rel tb vc vm := ⟨nl, nw, nd, p, hE, hS, hL⟩
  have o1 : (1 : Int32).toInt = 1 := rfl
  have o20 : (20 : Int32).toInt = 20 := rfl
  unfold f_X7_luck f_X8_luck
  rw [law_c hE.2.1, isDrop_c hE.2.2.2.1.1 hE.2.2.2.1.2.1, want_c hE.2.2.1, ticks_c]
  refine ag_if hR fun y1 => ag_if hR fun y2 => ag_if hR fun y3 => ?_
  by_cases y4 : f_X8_areTicks e = true
  rotate_left
  · rw [if_neg y4, if_neg y4]
    by_cases z : f_X8_in s 1 20 = true
    · rw [if_pos z]; exact Agree.same hR
    · rw [if_neg z]; exact Agree.same hR
  rw [if_pos y4, if_pos y4]
  by_cases z1 : s < 1
  · rw [if_pos z1, if_neg (in_ff (Or.inl z1))]; exact Agree.same hR
  rw [if_neg z1]
  by_cases z2 : s ≤ 20
  rotate_left
  · rw [if_neg z2, if_neg (in_ff (Or.inr (nle_lt z2)))]; exact Agree.same hR
  rw [if_pos z2, if_pos (in_p z1 (le_nlt z2))]
  obtain ⟨n, hn, rfl⟩ := (isLaw_m hE.2.1).mp y1
  obtain ⟨d, hd, rfl⟩ := (isDrop_m hE.2.2.2.1.1).mp y2
  obtain ⟨w, hw, rfl⟩ := want_n hE.2.2.1 y3
  obtain ⟨k, -, hk, rfl⟩ := ticks_n y4
  obtain ⟨q, hq, rfl⟩ : ∃ q, q ≤ 20 ∧ s = nI q := by
    rw [lt_toInt] at z1
    rw [le_toInt] at z2
    exact ⟨s.toInt.toNat, by omega, niOf (by omega)⟩
  obtain ⟨va, s1, s2, s3⟩ := aside_go hE hS hL
  obtain ⟨r, wc, wm, e1, e2, e3, e4, e5⟩ := luck_lp (x := x) hn hd hw hk hq q 0 20000 20000 0 vc va (by omega) (by omega) (by omega) s2
  rw [show f_X7_luck_61 20000 vc (nI n) (nI d) (nI w) x (nI q) (nI k) 0 0 = _ from e1, s1, Option.bind_some, show f_X8_luck_61 20000 va (nI n) (nI d) (nI w) x (nI q) (nI k) 0 0 = _ from e2]
  exact work_end e3 e4 ((aside_cm s3).tr (twk_cm e5))
/-! READ -/
theorem far_c {B k : Nat} {vc vm : rV} (h : RLl B vc vm) (f : Nat → Int32) (hf : ∀ i, i < 24 → f i = ab (la vm i - vc.1 k i)) : ∀ (d c n : Nat) (x : Int32), c + d = 24 → d < n → ∃ r, f_X5_farthestFrom_4 vc n B k x (nI c) = some r ∧ (∀ y : Int32, r ≤ y ↔ x ≤ y ∧ ∀ i, c ≤ i → i < 24 → f i ≤ y) := by
  intro d
  induction d with
  | zero =>
    intro c n x e hn
    obtain ⟨n, rfl⟩ : ∃ n', n = n' + 1 := ⟨n - 1, by omega⟩
    rw [f_X5_farthestFrom_4, if_pos (show (24 : Int32) ≤ nI c from ple (a := 24) (by omega) (by omega))]
    exact ⟨x, rfl, fun y => ⟨fun h => ⟨h, fun i h1 h2 => by omega⟩, fun h => h.1⟩⟩
  | succ d ih =>
    intro c n x e hn
    obtain ⟨n, rfl⟩ : ∃ n', n = n' + 1 := ⟨n - 1, by omega⟩
    have g : ¬ (24 : Int32) ≤ nI c := nle (a := 24) (by omega) (by omega)
    rw [f_X5_farthestFrom_4, if_neg g, if_neg g, laid_eq h, laid_at (by omega), Option.bind_some, if_pos (gin (show c < 24 by omega) (by omega)), niCl (by omega), vlet_eq, vlet_eq, ad1]
    have e1 : (if 0 ≤ la vm c - vc.1 k c then la vm c - vc.1 k c else 0 - (la vm c - vc.1 k c)) = f c := (hf c (by omega)).symm
    rw [e1]
    obtain ⟨r, r1, r2⟩ := ih (c + 1) n (if x < f c then f c else x) (by omega) (by omega)
    refine ⟨r, r1, fun y => ?_⟩
    rw [r2]
    have m : (if x < f c then f c else x) ≤ y ↔ x ≤ y ∧ f c ≤ y := by
      by_cases q : x < f c
      · rw [if_pos q]
        rw [lt_toInt] at q
        rw [le_toInt, le_toInt]
        omega
      · rw [if_neg q]
        rw [lt_toInt] at q
        rw [le_toInt, le_toInt]
        omega
    rw [m]
    constructor
    · rintro ⟨⟨a, b⟩, c9⟩
      refine ⟨a, fun i h1 h2 => ?_⟩
      by_cases q : i = c
      · rw [q]; exact b
      · exact c9 i (by omega) h2
    · rintro ⟨a, b⟩
      exact ⟨⟨a, b c (by omega) (by omega)⟩, fun i h1 h2 => b i (by omega) h2⟩
theorem isRead_m {s : Nat} {by9 : Int32} {vm : rV} (hs : s < 6) (f : Nat → Int32) (hf : ∀ i, i < 24 → f i = ab (la vm i - vm.1 195 (24 * s + i))) : ∀ (d c n : Nat), c + d = 24 → d < n → ∃ r : Bool, f_X8_isRead_2 vm n (nI s) by9 (nI c) = some r ∧ (r = true ↔ ∀ i, c ≤ i → i < 24 → f i ≤ by9) := by
  intro d
  induction d with
  | zero =>
    intro c n e hn
    obtain ⟨n, rfl⟩ : ∃ n', n = n' + 1 := ⟨n - 1, by omega⟩
    rw [f_X8_isRead_2, if_pos (show (24 : Int32) ≤ nI c from ple (a := 24) (by omega) (by omega))]
    exact ⟨true, rfl, fun _ i h1 h2 => by omega, fun _ => rfl⟩
  | succ d ih =>
    intro c n e hn
    obtain ⟨n, rfl⟩ : ∃ n', n = n' + 1 := ⟨n - 1, by omega⟩
    have g : ¬ (24 : Int32) ≤ nI c := nle (a := 24) (by omega) (by omega)
    rw [f_X8_isRead_2, if_neg g, laid_at (by omega), Option.bind_some, ix195, if_pos (gin (show 24 * s + c < 144 by omega) (by omega)), niCl (by omega), vlet_eq, ad1]
    have e1 : (if 0 ≤ la vm c - vm.1 195 (24 * s + c) then la vm c - vm.1 195 (24 * s + c) else 0 - (la vm c - vm.1 195 (24 * s + c))) = f c := (hf c (by omega)).symm
    rw [e1]
    by_cases q : f c ≤ by9
    · rw [if_pos q]
      obtain ⟨r, r1, r2⟩ := ih (c + 1) n (by omega) (by omega)
      refine ⟨r, r1, r2.trans ⟨fun h i h1 h2 => ?_, fun h i h1 h2 => h i (by omega) h2⟩⟩
      by_cases z : i = c
      · rw [z]; exact q
      · exact h i (by omega) h2
    · rw [if_neg q]
      exact ⟨false, rfl, fun h => (by cases h), fun h => absurd (h c (by omega) (by omega)) q⟩
theorem read_lp {nl nw nd p tb n s k : Nat} {x : Int64} {set by9 : Int32} (hn : n < nl) (hs : s < 6) (hk : k ≤ 60) (hb : 0 ≤ by9) : ∀ (e i f g : Nat) (bits : Int32) (vc vm : rV), i + e = nd → e < f → e < g → Wk nl nw nd p tb vc vm →
    ∃ (r : Int32) (wc wm : rV), f_X7_read_55 f vc (nI s) (nI n) set x (nI k) by9 bits (nI i) = some (r, wc) ∧ f_X8_read_59 g vm (nI s) (nI n) set x (nI k) by9 bits (nI i) = ((f_X8_takeBack wm).bind fun w => some (r, w)) ∧ Wk nl nw nd p tb wc wm ∧ Ch Swk vc wc ∧ Ch Twk vm wm := by
  intro e
  induction e with
  | zero =>
    intro i f g cnt vc vm h hf hg hW
    obtain ⟨f, rfl⟩ : ∃ n', f = n' + 1 := ⟨f - 1, by omega⟩
    obtain ⟨g, rfl⟩ : ∃ n', g = n' + 1 := ⟨g - 1, by omega⟩
    obtain ⟨n1, n2, n3⟩ := hW.nd
    rw [f_X7_read_55, f_X8_read_59, n2, n3, if_pos (ple (by omega) (by omega)), if_pos (ple (by omega) (by omega))]
    exact ⟨_, _, _, rfl, rfl, hW, Ch.rf, Ch.rf⟩
  | succ e ih =>
    intro i f g cnt vc vm h hf hg hW
    obtain ⟨f, rfl⟩ : ∃ n', f = n' + 1 := ⟨f - 1, by omega⟩
    obtain ⟨g, rfl⟩ : ∃ n', g = n' + 1 := ⟨g - 1, by omega⟩
    obtain ⟨n1, n2, n3⟩ := hW.nd
    rw [f_X7_read_55, f_X8_read_59, n2, n3, if_neg (nle (by omega) (by omega)), if_neg (nle (by omega) (by omega)), has_eq]
    by_cases q : f_X7_has set (nI i) = true
    rotate_left
    · rw [if_neg q, if_neg q]
      unfold f_X8_read_118 f_X7_read_116
      simp only [vlet_eq]
      rw [ad1]
      exact ih (i + 1) f g cnt vc vm (by omega) (by omega) (by omega) hW
    obtain ⟨b1, vg, g1, g2, g3, g4⟩ := gath1 hW (show i < nd by omega)
    obtain ⟨j, w1, w2, uc, um, e1, e2, e3, -, -, -, e5, e6, e7, e8, e9⟩ := piece_go (x := x) (a := k) g3 g2 hn (show i < nd by omega) (by omega)
    have hc := sal_swk e8
    have hm := tal_tad_twk g4 e9
    obtain ⟨ns, -, -, -, hst⟩ := e6.1.2.2.2.2.1
    obtain ⟨F, hF⟩ : ∃ F : Nat → Int32, F = fun i => ab (la um i - um.1 195 (24 * s + i)) := ⟨_, rfl⟩
    obtain ⟨r1, c1, c2⟩ := far_c (k := 53 + s) e5.rl F (fun i hi => by rw [hF, (hst s hs i hi).1]) 24 0 20000 0 (by omega) (by omega)
    obtain ⟨r2, m1, m2⟩ := isRead_m (by9 := by9) hs F (fun i hi => by rw [hF]) 24 0 20000 (by omega) (by omega)
    rw [if_pos q, if_pos q, if_pos (gin (show i < 12 by omega) (by omega)), niCl (by omega), e1, g1, Option.bind_some, Option.bind_some, if_pos (gin hs (by omega)), niCl (by omega)]
    unfold f_X5_farthestFrom f_X8_tryOut f_X8_isRead
    simp only []
    rw [show f_X5_farthestFrom_4 uc 20000 98 (53 + s) 0 0 = _ from c1, e2, Option.bind_some, Option.bind_some, e3, Option.bind_some, Option.bind_some, show f_X8_isRead_2 um 20000 (nI s) by9 0 = _ from m1, Option.bind_some]
    unfold f_X8_read_115 f_X8_read_118 f_X7_read_116
    simp only [vlet_eq]
    rw [ad1]
    by_cases z : r1 ≤ by9
    · rw [if_neg (le_nlt z), if_pos (m2.mpr fun i h1 h2 => ((c2 by9).mp z).2 i h1 h2)]
      obtain ⟨s, wc, wm, j1, j2, j3, j4, j5⟩ := ih (i + 1) f g _ uc um (by omega) (by omega) (by omega) e6
      exact ⟨s, wc, wm, j1, j2, j3, hc.tr j4, hm.tr j5⟩
    · rw [if_pos (nle_lt z), if_neg (fun y => z ((c2 by9).mpr ⟨hb, fun i h1 h2 => m2.mp y i h1 h2⟩)), Int32.or_zero]
      obtain ⟨s, wc, wm, j1, j2, j3, j4, j5⟩ := ih (i + 1) f g _ uc um (by omega) (by omega) (by omega) e6
      exact ⟨s, wc, wm, j1, j2, j3, hc.tr j4, hm.tr j5⟩
theorem areDrops_0 {vc : rV} {nd : Nat} (h : vc.1 0 13 = nI nd) (hn : nd ≤ 12) : f_X7_areDrops vc 0 = true := by
  have k : ∀ n, n < 13 → ((Int32.toUInt32 0 >>> ((nI n).toUInt32 &&& Int32.toUInt32 31)).toInt32) = 0 := by decide
  unfold f_X7_areDrops
  rw [h, if_pos (k nd (by omega))]
theorem read_op {tb : Nat} {vc vm : rV} (h : Rel tb vc vm) (a b c : Int32) (x : Int64) (e s : Int32) : Agree tb vc vm (f_X7_read vc a b c x e s) (f_X8_read vm a b c x e s) := by
  obtain ⟨nl, nw, nd, p, hE, hS, hL⟩ := h
  have hR : Rel tb vc vm := ⟨nl, nw, nd, p, hE, hS, hL⟩
  unfold f_X7_read f_X8_read
  rw [isStain_c hE.2.2.2.2.1, law_c hE.2.1, ticks_c]
  refine ag_if hR fun y1 => ag_if hR fun y2 => ?_
  have ad := areDrops_go (a := c) hE.2.2.2.1.1 hE.2.2.2.1.2.1
  obtain ⟨F, hF1, hF2⟩ : ∃ F, F = f_X8_read_28 vm a b c x e s ∧ (if c = 0 then F else (if (f_X8_areDrops vm c) = true then F else some ((-1 : Int32), vm))) = (if f_X7_areDrops vc c = true then F else some ((-1 : Int32), vm)) := by
    refine ⟨_, rfl, ?_⟩
    by_cases z : c = 0
    · rw [if_pos z, z, if_pos (areDrops_0 hE.2.2.2.1.2.1.1 hE.2.2.2.1.1.1)]
    · rw [if_neg z]
      by_cases y : f_X7_areDrops vc c = true
      · rw [if_pos y, if_pos (ad.mpr ⟨z, y⟩)]
      · rw [if_neg y, if_neg (fun q => y (ad.mp q).2)]
  rw [← hF1, hF2, hF1]
  refine ag_if hR fun y3 => ?_
  unfold f_X8_read_28
  refine ag_if hR fun y4 => ?_
  have o0 : (0 : Int32).toInt = 0 := rfl
  by_cases z1 : s < 0
  · rw [if_pos z1, if_neg (in_ff (Or.inl z1))]; exact Agree.same hR
  rw [if_neg z1]
  by_cases z2 : s ≤ 99
  rotate_left
  · rw [if_neg z2, if_neg (in_ff (Or.inr (nle_lt z2)))]; exact Agree.same hR
  rw [if_pos z2, if_pos (in_p z1 (le_nlt z2))]
  obtain ⟨t, ht, rfl⟩ := isStain_s hE.2.2.2.2.1 y1
  obtain ⟨n, hn, rfl⟩ := (isLaw_m hE.2.1).mp y2
  obtain ⟨k, -, hk, rfl⟩ := ticks_n y4
  have hd12 := hE.2.2.2.1.1.1
  obtain ⟨va, s1, s2, s3⟩ := aside_go hE hS hL
  obtain ⟨r, wc, wm, e1, e2, e3, e4, e5⟩ := read_lp (x := x) (set := c) (by9 := s) hn ht hk (by rw [le_toInt]; rw [lt_toInt] at z1; omega) nd 0 20000 20000 0 vc va (by omega) (by omega) (by omega) s2
  rw [show f_X7_read_55 20000 vc (nI t) (nI n) c x (nI k) s 0 0 = _ from e1, s1, Option.bind_some, show f_X8_read_59 20000 va (nI t) (nI n) c x (nI k) s 0 0 = _ from e2]
  exact work_end e3 e4 ((aside_cm s3).tr (twk_cm e5))
theorem odds_lp {nd : Nat} {bits : Int32} {vc vm : rV} (hn : nd ≤ 12) (n2 : vc.1 0 13 = nI nd) (n3 : vm.1 174 21 = nI nd) (hw : ∀ d, d < nd → vc.1 50 d = vm.1 186 d) : ∀ (e i f g : Nat) (cnt : Int32), i + e = nd → e < f → e < g → ∃ r, f_X7_odds_29 f vc bits cnt (nI i) = some (r, vc) ∧ f_X8_odds_29 g vm bits cnt (nI i) = some (r, vm) := by
  intro e
  induction e with
  | zero =>
    intro i f g cnt h hf hg
    obtain ⟨f, rfl⟩ : ∃ n', f = n' + 1 := ⟨f - 1, by omega⟩
    obtain ⟨g, rfl⟩ : ∃ n', g = n' + 1 := ⟨g - 1, by omega⟩
    rw [f_X7_odds_29, f_X8_odds_29, n2, n3, if_pos (ple (by omega) (by omega)), if_pos (ple (by omega) (by omega))]
    exact ⟨_, rfl, rfl⟩
  | succ e ih =>
    intro i f g cnt h hf hg
    obtain ⟨f, rfl⟩ : ∃ n', f = n' + 1 := ⟨f - 1, by omega⟩
    obtain ⟨g, rfl⟩ : ∃ n', g = n' + 1 := ⟨g - 1, by omega⟩
    rw [f_X7_odds_29, f_X8_odds_29, n2, n3, if_neg (nle (by omega) (by omega)), if_neg (nle (by omega) (by omega)), has_eq]
    unfold f_X7_odds_60 f_X8_odds_61
    simp only [vlet_eq]
    rw [ad1]
    by_cases q : f_X7_has bits (nI i) = true
    · rw [if_pos q, if_pos q, if_pos (gin (show i < 12 by omega) (by omega)), if_pos (gin (show i < 12 by omega) (by omega)), niCl (by omega), hw i (by omega)]
      exact ih (i + 1) f g _ (by omega) (by omega) (by omega)
    · rw [if_neg q, if_neg q, Int32.add_zero]
      exact ih (i + 1) f g _ (by omega) (by omega) (by omega)
theorem odds_op {tb : Nat} {vc vm : rV} (h : Rel tb vc vm) (a b c : Int32) (x : Int64) (e s : Int32) : Agree tb vc vm (f_X7_odds vc a b c x e s) (f_X8_odds vm a b c x e s) := by
  obtain ⟨r, wc, wm, e1, e2, e3, e4, e5⟩ := read_op h a b c x e s
  unfold f_X7_odds f_X8_odds
  rw [e1, e2, Option.bind_some, Option.bind_some]
  simp only []
  by_cases z : r = -1
  · rw [if_pos z, if_pos z]
    exact ⟨_, _, _, rfl, rfl, e3, e4, e5⟩
  · rw [if_neg z, if_neg z]
    obtain ⟨nd, hd⟩ := e3.drops
    have hd12 := hd.1.1
    obtain ⟨r', l1, l2⟩ := odds_lp (bits := r) hd.1.1 hd.2.1.1 hd.1.2.1 hd.2.2.1 nd 0 20000 20000 0 (by omega) (by omega) (by omega)
    exact ⟨r', wc, wm, l1, l2, e3, e4, e5⟩
