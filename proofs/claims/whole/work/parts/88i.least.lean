/-! LEAST, LINE -/
/-- what a drop of changed letters wants of both heaps -/
def W0 (nl nw nd p : Nat) (vc vm : rV) : Prop := Rl nl vc vm ∧ Rwn nw vc vm ∧ Rp p vc vm ∧ DR vm nd ∧ ∃ ρ, RF 98 vc ρ
theorem swk_no {k j : Nat} (h1 : ¬ (98 ≤ k ∧ k ≤ 135)) (h2 : k ≠ 51) (h3 : k ≠ 59) (h4 : ∀ n, n < 4 → k ≠ 13 + 3 * n ∧ k ≠ 27 + 3 * n) : ¬ Swk k j := fun q => by
  rcases q with q | q | q | ⟨n, q1, q2⟩
  · exact h1 q
  · exact h2 q
  · exact h3 q
  · have := h4 n q1; omega
/-- .. all that it touches in the model, the told row aside -/
def Tl0 : Nat → Nat → Prop := fun k j => k = 183 ∨ k = 184 ∨ k = 187 ∨ k = 188 ∨ (190 ≤ k ∧ k ≤ 194) ∨ k = 196 ∨ (k = 174 ∧ (j = 34 ∨ j = 37 ∨ j = 38 ∨ j = 39 ∨ j = 43 ∨ j = 1000027 ∨ j = 1000028))
def Tl2 : Nat → Nat → Prop := fun k j => k = 183 ∨ k = 184 ∨ k = 187 ∨ (190 ≤ k ∧ k ≤ 194) ∨ k = 196 ∨ (k = 174 ∧ (j = 34 ∨ j = 37 ∨ j = 38 ∨ j = 39 ∨ j = 43 ∨ j = 1000027))
def Tl1 (q : Nat) : Nat → Nat → Prop := fun k j => Tl2 k j ∨ (k = 185 ∧ j = q)
theorem tl2_tl0 {k j : Nat} (h : Tl2 k j) : Tl0 k j := by unfold Tl2 at h; unfold Tl0; omega
theorem tl1_no {q k j : Nat} (h : Tl1 q k j) : Tl0 k j ∨ (k = 185 ∧ j = q) := by
  rcases h with h | h
  · exact Or.inl (tl2_tl0 h)
  · exact Or.inr h
theorem tal_tl1 {q : Nat} {v w : rV} (h : Ch Tal v w) : Ch (Tl1 q) v w := h.mono fun k j z => by unfold Tal at z; unfold Tl1 Tl2; omega
theorem tad_tl1 {q : Nat} {v w : rV} (h : Ch Tad v w) : Ch (Tl1 q) v w := h.mono fun k j z => by have := tad_no z; unfold Tl1 Tl2; omega
theorem Ch.fix {T : Nat → Nat → Prop} {v w : rV} {K J : Nat} (h : Ch (fun k j => T k j ∨ (k = K ∧ j = J)) v w) (hJ : J < 1000000) : Ch T v (rI w K J (v.1 K J)) := ⟨fun k j q => by
  rw [rI_1]
  by_cases z : k = K ∧ j = J
  · rw [if_pos z, z.1, z.2]
  · rw [if_neg z]
    exact h.1 k j fun y => by
      rcases y with y | y
      · exact q y
      · exact z y, fun k j q => h.2.1 k j fun y => by
    rcases y with y | y
    · exact q y
    · omega, fun k j q => h.2.2 k j fun y => by
    rcases y with y | y
    · exact q y
    · omega⟩
def Lt (l : Nat) : Prop := l = 3 ∨ l = 4 ∨ l = 5 ∨ l = 6 ∨ l = 7 ∨ l = 9
theorem Lt.b {l : Nat} (h : Lt l) : l < 12 ∧ l ≠ 0 ∧ l ≠ 1 ∧ tLo l = 0 ∧ 60 ≤ tHi l := by
  rcases h with rfl | rfl | rfl | rfl | rfl | rfl <;> decide
theorem let_c {a : Int32} : f_X7_isTriedLetter a = f_X8_isLetter a := by
  unfold f_X7_isTriedLetter f_X8_isLetter
  by_cases q : f_X8_in a 3 9 = true
  · rw [if_pos q]
    obtain ⟨q1, q2⟩ := in_t q
    rw [lt_toInt] at q1 q2
    have o3 : (3 : Int32).toInt = 3 := rfl
    have o9 : (9 : Int32).toInt = 9 := rfl
    have e : a = nI a.toInt.toNat := niOf (by omega)
    have hl : a.toInt.toNat < 10 := by omega
    generalize a.toInt.toNat = m at e hl
    subst e
    have k : ∀ m, m < 10 → 3 ≤ (nI m).toInt → (if nI m = (3 : Int32) then true else if nI m = (4 : Int32) then true else if nI m = (5 : Int32) then true else if nI m = (6 : Int32) then true else if nI m = (7 : Int32) then true else if nI m = (9 : Int32) then true else false) = (if nI m = (8 : Int32) then false else true) := by decide
    exact k m hl (by omega)
  · rw [if_neg q]
    have n : ∀ y : Int32, f_X8_in y 3 9 = true → a ≠ y := fun y hy e => q (by rw [e]; exact hy)
    rw [if_neg (n 3 (by decide)), if_neg (n 4 (by decide)), if_neg (n 5 (by decide)), if_neg (n 6 (by decide)), if_neg (n 7 (by decide)), if_neg (n 9 (by decide))]
theorem let_n {a : Int32} (h : f_X7_isTriedLetter a = true) : ∃ l, Lt l ∧ a = nI l := by
  unfold f_X7_isTriedLetter at h
  by_cases c3 : a = 3
  · exact ⟨3, Or.inl rfl, c3⟩
  rw [if_neg c3] at h
  by_cases c4 : a = 4
  · exact ⟨4, Or.inr (Or.inl rfl), c4⟩
  rw [if_neg c4] at h
  by_cases c5 : a = 5
  · exact ⟨5, Or.inr (Or.inr (Or.inl rfl)), c5⟩
  rw [if_neg c5] at h
  by_cases c6 : a = 6
  · exact ⟨6, Or.inr (Or.inr (Or.inr (Or.inl rfl))), c6⟩
  rw [if_neg c6] at h
  by_cases c7 : a = 7
  · exact ⟨7, Or.inr (Or.inr (Or.inr (Or.inr (Or.inl rfl)))), c7⟩
  rw [if_neg c7] at h
  by_cases c9 : a = 9
  · exact ⟨9, Or.inr (Or.inr (Or.inr (Or.inr (Or.inr rfl)))), c9⟩
  rw [if_neg c9] at h
  cases h
theorem Lt.t {l : Nat} (h : Lt l) : f_X8_in (nI l) 3 9 = true ∧ ¬ nI l = (8 : Int32) := by
  rcases h with rfl | rfl | rfl | rfl | rfl | rfl <;> decide
theorem DR.set {vm : rV} {nd d l v : Nat} (h : DR vm nd) (hd : d < nd) (hl : Lt l) (hv : v ≤ 60) : DR (rI vm 185 (12 * d + l) (nI v)) nd := by
  obtain ⟨a, b, c⟩ := h
  obtain ⟨l1, l2, l3, l4, l5⟩ := hl.b
  refine ⟨a, by rw [rI_no (by omega)]; exact b, fun e he => ⟨fun j hj => ?_, ?_⟩⟩
  · by_cases q : e = d ∧ j = l
    · rw [q.1, q.2, rI_at]
      exact ⟨v, rfl, by omega, by omega⟩
    · rw [rI_no (by omega)]
      exact (c e he).1 j hj
  · unfold tv
    rw [rI_no (by omega), rI_no (by omega)]
    exact (c e he).2
theorem W0.ch {S T : Nat → Nat → Prop} {nl nw nd p : Nat} {vc vm wc wm : rV} (h : W0 nl nw nd p vc vm) (hc : Ch S vc wc) (hm : Ch T vm wm) (hs : ∀ k j, S k j → Swk k j) (ht : ∀ k j, T k j → k = 185 ∨ Tl0 k j) (hD : DR wm nd) (hf : ∃ ρ, RF 98 wc ρ) : W0 nl nw nd p wc wm := by
  obtain ⟨a, b, c, -, -⟩ := h
  have s : ∀ k j, ¬ Swk k j → ¬ S k j := fun k j q z => q (hs k j z)
  have t : ∀ k j, k ≠ 185 → ¬ Tl0 k j → ¬ T k j := fun k j q q2 z => by
    rcases ht k j z with y | y
    · exact q y
    · exact q2 y
  have tz : ∀ k j, 175 ≤ k → k ≤ 182 → ¬ T k j := fun k j _ _ => t _ _ (by omega) (by unfold Tl0; omega)
  exact ⟨a.ch hc hm (s _ _ (swk_no (by omega) (by omega) (by omega) (fun n _ => by omega))) (fun n j hn => ⟨s _ _ (swk_no (by omega) (by omega) (by omega) (fun n _ => by omega)), s _ _ (swk_no (by omega) (by omega) (by omega) (fun n _ => by omega))⟩) (t _ _ (by omega) (by unfold Tl0; omega)) (fun k j h1 h2 _ => tz k j (by omega) h2), b.ch hc hm (s _ _ (swk_no (by omega) (by omega) (by omega) (fun n _ => by omega))) (fun n j hn => ⟨s _ _ (swk_no (by omega) (by omega) (by omega) (fun n _ => by omega)), s _ _ (swk_no (by omega) (by omega) (by omega) (fun n _ => by omega))⟩) (t _ _ (by omega) (by unfold Tl0; omega)) (fun k j h1 h2 _ => tz k j (by omega) h2), c.ch hc hm (s _ _ (swk_no (by omega) (by omega) (by omega) (fun n _ => by omega))) (t _ _ (by omega) (by unfold Tl0; omega)), hD, hf⟩
/-- the row of changed letters against the told row -/
def R51 (vc vm : rV) (d : Nat) (P : Nat → Prop) : Prop := ∀ j, j < 12 → ¬ P j → vc.1 51 j = vm.1 185 (12 * d + j)
/-- one try of a changed drop -/
theorem try51_go {nl nw nd p n d l w k v : Nat} {x : Int64} {vc vm : rV} (hW : W0 nl nw nd p vc vm) (hn : n < nl) (hd : d < nd) (hl : Lt l) (hw : w < nw) (hk : k ≤ 60) (hv : v ≤ 60) (hr : R51 vc vm d (fun j => j = l)) :
    ∃ (b : Bool) (g : Bool) (tc wc vg w2 um wm : rV) (i : Int32), f_X7_tryAlone (rI vc 51 l (nI v)) (nI n) 51 x (nI k) = some tc ∧ f_X7_isMetBy tc 98 (nI w) = some (b, wc) ∧ f_X8_gather (rI vm 185 (12 * d + l) (nI v)) ((1 : Int32) <<< (nI d &&& 31)) = some (g, vg) ∧ f_X8_begin vg (nI n) x = some w2 ∧ f_X8_run w2 (nI k) = some (i, um) ∧ f_X8_isMet um (nI w) = some (b, wm) ∧ W0 nl nw nd p wc wm ∧ R51 wc wm d (fun j => j = l) ∧ (∀ j, j ≠ l → wc.1 51 j = vc.1 51 j) ∧ Ch Swk vc wc ∧ Ch (Tl1 (12 * d + l)) vm wm := by
  obtain ⟨l1, l2, l3, l4, l5⟩ := hl.b
  obtain ⟨c1, ec1⟩ : ∃ c, c = rI vc 51 l (nI v) := ⟨_, rfl⟩
  obtain ⟨m1, em1⟩ : ∃ m, m = rI vm 185 (12 * d + l) (nI v) := ⟨_, rfl⟩
  rw [← ec1, ← em1]
  have cc : Ch Swk vc c1 := by rw [ec1]; exact Ch.rf.I (Or.inr (Or.inl rfl))
  have cm : Ch (Tl1 (12 * d + l)) vm m1 := by rw [em1]; exact Ch.rf.I (Or.inr ⟨rfl, rfl⟩)
  have hD1 : DR m1 nd := by rw [em1]; exact hW.2.2.2.1.set hd hl hv
  have hf1 : ∃ ρ, RF 98 c1 ρ := by
    obtain ⟨ρ, h⟩ := hW.2.2.2.2
    rw [ec1]
    exact ⟨ρ, h⟩
  have hW1 : W0 nl nw nd p c1 m1 := hW.ch cc cm (fun _ _ q => q) (fun k j q => by
    rcases tl1_no q with y | y
    · exact Or.inr y
    · exact Or.inl y.1) hD1 hf1
  have r1 : ∀ j, j < 12 → c1.1 51 j = m1.1 185 (12 * d + j) := fun j hj => by
    rw [ec1, em1]
    by_cases q : j = l
    · rw [q, rI_at, rI_at]
    · rw [rI_no (by omega), rI_no (by omega)]
      exact hr j hj q
  obtain ⟨g, vg, g1, -, g3, g4⟩ := gather_go (set := (1 : Int32) <<< (nI d &&& 31)) hD1
  rw [blist_1 hD1 hd] at g3
  have t4 : ∀ k j, ¬ (190 ≤ k ∧ k ≤ 192 ∨ (k = 174 ∧ j = 34)) → ¬ Tad k j := fun k j q z => q (tad_no z)
  have hDg : DR vg nd := hD1.ch g4 (t4 _ _ (by omega)) (fun j => t4 _ _ (by omega))
  have hWg : W0 nl nw nd p c1 vg := hW1.ch Ch.rf g4 (fun _ _ q => q) (fun k j q => by have := tad_no q; unfold Tl0; omega) hDg hf1
  have rg : ∀ j, j < 12 → c1.1 51 j = vg.1 185 (12 * d + j) := fun j hj => by rw [g4.1 _ _ (t4 _ _ (by omega))]; exact r1 j hj
  have etv := tad_tv g4
  have hT := (hDg.2.2 d hd).1
  have hx := hDg.x hd
  have hN := hDg.1
  obtain ⟨ρ, hρ⟩ := hf1
  obtain ⟨z, h1, h2, h3, h4, h5⟩ : ∃ z : Pz, z.1 = tv vg d 0 ∧ z.2.1 = tv vg d 1 ∧ z.2.2.1 = 51 ∧ z.2.2.2.1 = 0 ∧ z.2.2.2.2 = d := ⟨(tv vg d 0, tv vg d 1, 51, 0, d), rfl, rfl, rfl, rfl, rfl⟩
  have hPD : PD 98 c1 vg z := by
    unfold PD
    rw [h1, h2, h3, h4, h5]
    exact ⟨⟨by omega, fun j hj => rg j hj⟩, hT, ⟨by omega, hx.2.1, hx.2.2, by omega⟩, (tv_eq hT (j := 1) (by omega)).1⟩
  have hX : c1.1 z.2.2.1 0 = nI z.1 := by
    rw [h3, h1, rg 0 (by omega)]
    exact (tv_eq hT (j := 0) (by omega)).1
  have hPM : PM vg [z] := by
    obtain ⟨p1, p2, p3⟩ := g3
    refine ⟨p1, by simp, fun k q hq => ?_⟩
    cases k with
    | zero =>
      simp only [List.getElem?_cons_zero, Option.some.injEq] at hq
      obtain ⟨y1, y2, y3⟩ := p3 0 (pz m1 d) rfl
      rw [← hq, h1, h2, h5, etv]
      exact ⟨y1, y2, y3⟩
    | succ k => simp at hq
  obtain ⟨i, w1, w2, tc, um, e1, e2, e3, -, -, e4, e5, -, e7, e8⟩ := alone_go (M := nd) (x := x) (p := z) (a := k) hρ hPD h4 hX ⟨by omega, by omega⟩ hPM hn hWg.1 hWg.2.2.1 (by omega)
  rw [h3] at e1
  have hDu : DR um nd := hDg.ch e8 (by unfold Tal; omega) (fun j => by unfold Tal; omega)
  have hWu : W0 nl nw nd p tc um := hWg.ch e7 e8 (fun k j q => by
    rcases q with q | ⟨n, q1, q2⟩
    · exact Or.inl q
    · exact Or.inr (Or.inr (Or.inr ⟨n, q1, Or.inl q2⟩))) (fun k j q => by unfold Tal at q; unfold Tl0; omega) hDu e5.rf
  have w4 := hWu.2.1.1
  obtain ⟨b, wc, wm, f1, f2, f3, f4, f5⟩ := isMet_go (by decide) e5 hWu.2.1 hw
  have hDw : DR wm nd := hDu.ch f5 (by omega) (fun j => by omega)
  have hWw : W0 nl nw nd p wc wm := hWu.ch f4 f5 (fun k j q => by
    rcases q with q | q
    · exact Or.inl ⟨by omega, by omega⟩
    · exact Or.inr (Or.inr (Or.inr ⟨w, by omega, Or.inr q.1⟩))) (fun k j q => by unfold Tl0; omega) hDw f3.rf
  have c51 : ∀ j, wc.1 51 j = c1.1 51 j := fun j => by rw [f4.1 _ _ (by omega), e7.1 _ _ (sal_no (by omega) (by omega))]
  refine ⟨b, g, tc, wc, vg, w2, um, wm, nI i, e1, f1, g1, e2, e3, f2, hWw, fun j hj _ => ?_, fun j hj => ?_, (cc.tr (sal_swk e7)).tr (f4.mono fun k j q => by
    rcases q with q | q
    · exact Or.inl ⟨by omega, by omega⟩
    · exact Or.inr (Or.inr (Or.inr ⟨w, by omega, Or.inr q.1⟩))), ((cm.tr (tad_tl1 g4)).tr (tal_tl1 e8)).tr (f5.mono fun k j q => by unfold Tl1 Tl2; omega)⟩
  · rw [c51, f5.1 _ _ (by omega), e8.1 _ _ (by unfold Tal; omega)]
    exact rg j hj
  · rw [c51, ec1, rI_no (by omega)]
theorem least_lp {nl nw nd p n d l w k : Nat} {x : Int64} {was : Int32} (hn : n < nl) (hd : d < nd) (hl : Lt l) (hw : w < nw) (hk : k ≤ 60) : ∀ (e v f g : Nat) (vc vm : rV), v + e = 61 → e < f → e + 1 < g → W0 nl nw nd p vc vm → R51 vc vm d (fun j => j = l) →
    ∃ (r : Int32) (wc wm : rV), f_X7_leastOfChanged_3 f vc (nI n) (nI l) (nI w) x (nI k) (nI v) = some (r, wc) ∧ f_X8_least_80 g vm (nI n) (nI d) (nI l) (nI w) x (nI k) was (-1) (nI v) = f_X8_least_146 wm (nI d) (nI l) was r ∧ W0 nl nw nd p wc wm ∧ (∀ j, j ≠ l → wc.1 51 j = vc.1 51 j) ∧ Ch Swk vc wc ∧ Ch (Tl1 (12 * d + l)) vm wm := by
  obtain ⟨l1, l2, l3, l4, l5⟩ := hl.b
  intro e
  induction e with
  | zero =>
    intro v f g vc vm h hf hg hW hr
    obtain ⟨f, rfl⟩ : ∃ n', f = n' + 1 := ⟨f - 1, by omega⟩
    obtain ⟨g, rfl⟩ : ∃ n', g = n' + 1 := ⟨g - 1, by omega⟩
    have q : (60 : Int32) < nI v := plt (a := 60) (by omega) (by omega)
    rw [f_X7_leastOfChanged_3, f_X8_least_80, if_pos q, if_pos q]
    exact ⟨-1, vc, vm, rfl, rfl, hW, fun _ _ => rfl, Ch.rf, Ch.rf⟩
  | succ e ih =>
    intro v f g vc vm h hf hg hW hr
    obtain ⟨f, rfl⟩ : ∃ n', f = n' + 1 := ⟨f - 1, by omega⟩
    obtain ⟨g, rfl⟩ : ∃ n', g = n' + 2 := ⟨g - 2, by omega⟩
    have hd12 := hW.2.2.2.1.1
    obtain ⟨b, g0, tc, wc, vg, w2, um, wm, i, e1, e2, e3, e4, e5, e6, e7, e8, e9, e10, e11⟩ := try51_go (x := x) (v := v) hW hn hd hl hw hk (by omega) hr
    have q : ¬ (60 : Int32) < nI v := nlt (a := 60) (by omega) (by omega)
    rw [f_X7_leastOfChanged_3, show g + 2 = (g + 1) + 1 from rfl, f_X8_least_80, if_neg q, if_neg q, if_pos rfl, ix185, if_pos (gin (show l < 12 by omega) (by omega)), if_pos (gin (show 12 * d + l < 156 by omega) (by omega)), niCl (show l < 2147483648 by omega), niCl (show 12 * d + l < 2147483648 by omega), vlet_eq, vlet_eq, e1, Option.bind_some, e2, Option.bind_some, e3, Option.bind_some]
    unfold f_X8_tryOut
    simp only []
    rw [e4, Option.bind_some, e5, Option.bind_some, Option.bind_some, e6, Option.bind_some]
    unfold f_X8_least_138
    simp only [vlet_eq]
    rw [ad1]
    by_cases z : b = true
    · rw [if_pos z, if_pos z]
      refine ⟨nI v, wc, wm, rfl, ?_, e7, e9, e10, e11⟩
      rw [f_X8_least_80]
      by_cases y : (60 : Int32) < nI (v + 1)
      · rw [if_pos y]
      · rw [if_neg y, if_neg (fun q => by
          have := congrArg Int32.toInt q
          rw [niInt (by omega), show (-1 : Int32).toInt = -1 from rfl] at this
          omega)]
    · rw [if_neg z, if_neg z]
      obtain ⟨r, wc', wm', j1, j2, j3, j4, j5, j6⟩ := ih (v + 1) f (g + 1) wc wm (by omega) (by omega) (by omega) e7 e8
      exact ⟨r, wc', wm', j1, j2, j3, fun j hj => (j4 j hj).trans (e9 j hj), e10.tr j5, e11.tr j6⟩
/-- least of a letter, the told row the same again -/
theorem least_full {nl nw nd p n d l w k : Nat} {x : Int64} {vc vm : rV} (hn : n < nl) (hd : d < nd) (hl : Lt l) (hw : w < nw) (hk1 : 1 ≤ k) (hk : k ≤ 60) (hW : W0 nl nw nd p vc vm) (hr : R51 vc vm d (fun j => j = l)) :
    ∃ (r : Int32) (wc wm : rV), f_X7_leastOfChanged vc (nI n) (nI l) (nI w) x (nI k) = some (r, wc) ∧ f_X8_least vm (nI n) (nI d) (nI l) (nI w) x (nI k) = some (r, wm) ∧ W0 nl nw nd p wc wm ∧ (∀ j, j ≠ l → wc.1 51 j = vc.1 51 j) ∧ (∀ j, j < 416 → wm.1 187 j = vm.1 187 j) ∧ wm.2.1 174 27 = vm.2.1 174 27 ∧ Ch Swk vc wc ∧ Ch Tl0 vm wm := by
  obtain ⟨l1, l2, l3, l4, l5⟩ := hl.b
  have hd12 := hW.2.2.2.1.1
  have l4' := hW.1.1
  have w4 := hW.2.1.1
  obtain ⟨va, a1, a2, a3, a4⟩ := asd_go 416 0 20000 vm (by omega) (by omega)
  obtain ⟨v1, ev1⟩ : ∃ v1, v1 = rL va 174 28 (va.2.1 174 27) := ⟨_, rfl⟩
  have m1 : Ch (fun k j => (k = 188 ∧ j < 416) ∨ (k = 174 ∧ j = 1000028)) vm v1 := by
    rw [ev1]
    exact (a4.mono fun k j q => by omega).L (by omega)
  have r188 : ∀ j, j < 416 → v1.1 188 j = vm.1 187 j := fun j hj => by rw [ev1]; exact a2 j (by omega) hj
  have l28 : v1.2.1 174 28 = vm.2.1 174 27 := by
    rw [ev1]
    show (if 174 = 174 ∧ 28 = 28 then va.2.1 174 27 else va.2.1 174 28) = _
    rw [if_pos ⟨rfl, rfl⟩]
    exact a4.2.1 _ _ (by omega)
  have hD1 : DR v1 nd := hW.2.2.2.1.ch m1 (by omega) (fun j => by omega)
  have hW1 : W0 nl nw nd p vc v1 := hW.ch Ch.rf m1 (S := fun _ _ => False) (fun _ _ q => q.elim) (fun k j q => by unfold Tl0; omega) hD1 hW.2.2.2.2
  obtain ⟨r, wc, wm, j1, j2, j3, j4, j5, j6⟩ := least_lp (x := x) (was := vm.1 185 (12 * d + l)) hn hd hl hw hk 61 0 20000 20000 vc v1 (by omega) (by omega) (by omega) hW1 (fun j hj q => by rw [m1.1 _ _ (by omega)]; exact hr j hj q)
  obtain ⟨w2, ew2⟩ : ∃ w2, w2 = rI wm 185 (12 * d + l) (vm.1 185 (12 * d + l)) := ⟨_, rfl⟩
  have m2 : Ch Tl0 vm w2 := by
    rw [ew2]
    exact Ch.fix (((m1.mono fun k j q => Or.inl (by unfold Tl0; omega)).tr (j6.mono fun k j q => tl1_no q))) (by omega)
  obtain ⟨vb, b1, b2, b3, b4⟩ := tkb_go 416 0 20000 w2 (by omega) (by omega)
  obtain ⟨v9, ev9⟩ : ∃ v9, v9 = rL vb 174 27 (vb.2.1 174 28) := ⟨_, rfl⟩
  have m9 : Ch (fun k j => k = 187 ∨ (k = 174 ∧ j = 1000027)) w2 v9 := by
    rw [ev9]
    exact (b4.mono fun k j q => by omega).L (by omega)
  have hm : Ch Tl0 vm v9 := m2.tr (m9.mono fun k j q => by unfold Tl0; omega)
  refine ⟨r, wc, v9, j1, ?_, hW.ch j5 hm (fun _ _ q => q) (fun _ _ q => Or.inr q) (hW.2.2.2.1.ch hm (by unfold Tl0; omega) (fun j => by unfold Tl0; omega)) j3.2.2.2.2, j4, fun j hj => ?_, ?_, j5, hm⟩
  · have hg := hl.t
    unfold f_X8_least
    rw [if_pos ((isLaw_m hW.1).mpr ⟨n, hn, rfl⟩), if_pos ((isDrop_m hW.2.2.2.1).mpr ⟨d, hd, rfl⟩), if_pos hg.1, if_neg hg.2, if_pos (show f_X8_in (nI w) 0 (vm.1 174 14 - 1) = true from by rw [hW.2.1.2.2.1]; exact (lt_guard (by omega)).mpr ⟨w, hw, rfl⟩), if_pos (show f_X8_areTicks (nI k) = true from in_p (nlt (b := 1) hk1 (by omega)) (nlt (a := 60) hk (by omega))), ix185, if_pos (gin (show 12 * d + l < 156 by omega) (by omega)), niCl (show 12 * d + l < 2147483648 by omega), vlet_eq]
    unfold f_X8_putAside
    rw [show f_X8_putAside_2 20000 vm 0 = _ from a1, Option.bind_some, ← ev1]
    rw [show f_X8_least_80 20000 v1 (nI n) (nI d) (nI l) (nI w) x (nI k) (vm.1 185 (12 * d + l)) (-1) 0 = _ from j2]
    unfold f_X8_least_146 f_X8_takeBack
    rw [ix185, if_pos (gin (show 12 * d + l < 156 by omega) (by omega)), niCl (show 12 * d + l < 2147483648 by omega), vlet_eq, ← ew2, show f_X8_takeBack_2 20000 w2 0 = _ from b1, Option.bind_some, ← ev9]
  · rw [ev9]
    show vb.1 187 j = _
    rw [b2 j (by omega) hj, ew2, rI_no (by omega), j6.1 _ _ (by unfold Tl1 Tl2; omega), r188 j hj]
  · rw [ev9]
    show (if 174 = 174 ∧ 27 = 27 then vb.2.1 174 28 else vb.2.1 174 27) = _
    rw [if_pos ⟨rfl, rfl⟩, b4.2.1 _ _ (by omega), ew2]
    show wm.2.1 174 28 = _
    rw [j6.2.1 _ _ (by unfold Tl1 Tl2; omega), l28]
theorem Rel.back {tb : Nat} {vc vm wc wm : rV} (h : Rel tb vc vm) (hc : Ch Swk vc wc) (hf : ∃ ρ, RF 98 wc ρ) (hm : Ch Tl0 vm wm) (h1 : ∀ j, j < 416 → wm.1 187 j = vm.1 187 j) (h2 : wm.2.1 174 27 = vm.2.1 174 27) : Rel tb wc wm := by
  obtain ⟨nl, nw, nd, p, hE, hS, hL⟩ := h
  have s6 : ∀ k j, 60 ≤ k → ¬ (98 ≤ k ∧ k ≤ 135) → ¬ Swk k j := fun k j h1 h2 => swk_no h2 (by omega) (by omega) (fun n _ => by omega)
  have t : ∀ k j, ¬ (k = 183 ∨ k = 184 ∨ k = 187 ∨ k = 188 ∨ (190 ≤ k ∧ k ≤ 194) ∨ k = 196 ∨ (k = 174 ∧ (j = 34 ∨ j = 37 ∨ j = 38 ∨ j = 39 ∨ j = 43 ∨ j = 1000027 ∨ j = 1000028))) → ¬ Tl0 k j := fun k j q z => q z
  obtain ⟨σ, hσ⟩ := hE.2.2.2.2.2.2.2.2
  refine ⟨nl, nw, nd, p, hE.ch2 hc hm (fun k j h1 h2 h3 h4 z => ?_) (fun k j h1 h2 => s6 _ _ (by omega) (by omega)) ⟨hf, σ, hσ.ch hc fun i _ => s6 _ _ (by omega) (by omega)⟩ (fun j hj => t _ _ (by omega)) (fun k j h1 h2 => t _ _ (by omega)) (fun j => ⟨t _ _ (by omega), t _ _ (by omega), t _ _ (by omega), t _ _ (by omega)⟩), hS.ext hc (fun k j z1 z2 => s6 _ _ (by omega) (by omega)) h1 h2 (fun j _ => hm.1 _ _ (t _ _ (by omega))), ?_⟩
  · rcases z with z | z | z | z
    · omega
    · exact h3 z
    · exact h4 z
    · exact h2 z
  · rcases hL with ⟨a1, a2⟩ | ⟨m, a1, a2, a3, a4⟩
    · exact Or.inl ⟨by rw [hc.2.2 60 13 (s6 _ _ (by omega) (by omega))]; exact a1, by rw [h1 _ (by omega)]; exact a2⟩
    · exact Or.inr ⟨m, a1, by rw [hc.2.2 60 13 (s6 _ _ (by omega) (by omega))]; exact a2, by rw [h1 _ (by omega)]; exact a3, by rw [h1 _ (by omega)]; exact a4⟩
theorem swk_cc {v w : rV} (h : Ch Swk v w) : Ch Cc v w := h.mono fun k j q => by
  unfold Swk at q
  unfold Cc
  rcases q with q | q | q | ⟨n, q1, q2⟩ <;> omega
theorem tl0_cm {v w : rV} (h : Ch Tl0 v w) : Ch Cm v w := h.mono fun k j q => by unfold Tl0 at q; unfold Cm; omega
theorem change_go {nl nw nd p d : Nat} {vc vm : rV} (hW : W0 nl nw nd p vc vm) (hC : DC vc vm nd) (hd : d < nd) : ∃ wc, f_X7_change vc (nI d) = some wc ∧ W0 nl nw nd p wc vm ∧ (∀ j, j < 12 → wc.1 51 j = vm.1 185 (12 * d + j)) ∧ Ch Swk vc wc := by
  have hd12 := hW.2.2.2.1.1
  have c : Ch Swk vc (rCp vc 51 (38 + d) 0 0 12) := Ch.rf.C fun j _ => Or.inr (Or.inl rfl)
  have hf : ∃ ρ, RF 98 (rCp vc 51 (38 + d) 0 0 12) ρ := by
    obtain ⟨ρ, h⟩ := hW.2.2.2.2
    exact ⟨ρ, h⟩
  refine ⟨rCp vc 51 (38 + d) 0 0 12, ?_, hW.ch c (T := fun _ _ => False) Ch.rf (fun _ _ q => q) (fun _ _ q => q.elim) hW.2.2.2.1 hf, fun j hj => ?_, c⟩
  · unfold f_X7_change
    rw [if_pos (gin (show d < 12 by omega) (by omega)), niCl (by omega), vlet_eq]
  · rw [rCp_at, if_pos ⟨rfl, hj⟩]
    exact hC.2 d hd j hj
theorem Re.w0 {nl nw nd p tb : Nat} {vc vm : rV} (h : Re nl nw nd p tb vc vm) : W0 nl nw nd p vc vm := ⟨h.2.1, h.2.2.1, h.2.2.2.2.2.1, h.2.2.2.1.1, h.2.2.2.2.2.2.2.1⟩
theorem least_op {tb : Nat} {vc vm : rV} (h : Rel tb vc vm) (a b c s : Int32) (x : Int64) (e : Int32) : Agree tb vc vm (f_X7_least vc a b c s x e) (f_X8_least vm a b c s x e) := by
  obtain ⟨nl, nw, nd, p, hE, hS, hL⟩ := h
  have hR : Rel tb vc vm := ⟨nl, nw, nd, p, hE, hS, hL⟩
  by_cases all : f_X8_isLaw vm a = true ∧ f_X8_isDrop vm b = true ∧ f_X8_isLetter c = true ∧ f_X8_in s 0 (vm.1 174 14 - 1) = true ∧ f_X8_areTicks e = true
  · obtain ⟨y1, y2, y3, y4, y5⟩ := all
    obtain ⟨n, hn, rfl⟩ := (isLaw_m hE.2.1).mp y1
    obtain ⟨d, hd, rfl⟩ := (isDrop_m hE.2.2.2.1.1).mp y2
    rw [← let_c] at y3
    obtain ⟨l, hl, rfl⟩ := let_n y3
    obtain ⟨w, hw, rfl⟩ := want_n hE.2.2.1 y4
    obtain ⟨k, hk1, hk, rfl⟩ := ticks_n y5
    obtain ⟨tc, t1, t2, t3, t4⟩ := change_go hE.w0 hE.2.2.2.1.2.1 hd
    obtain ⟨r, wc, wm, e1, e2, e3, e4, e5, e6, e7, e8⟩ := least_full (x := x) hn hd hl hw hk1 hk t2 (fun j hj _ => t3 j hj)
    refine ⟨r, wc, wm, ?_, e2, hR.back (t4.tr e7) e3.2.2.2.2 e8 e5 e6, swk_cc (t4.tr e7), tl0_cm e8⟩
    unfold f_X7_least
    rw [law_c hE.2.1, isDrop_c hE.2.2.2.1.1 hE.2.2.2.1.2.1, want_c hE.2.2.1, ticks_c, if_pos y1, if_pos y2, if_pos y3, if_pos y4, if_pos y5, t1, Option.bind_some, e1, Option.bind_some]
  · have hC : f_X7_least vc a b c s x e = some (-1, vc) := by
      unfold f_X7_least
      rw [law_c hE.2.1, isDrop_c hE.2.2.2.1.1 hE.2.2.2.1.2.1, want_c hE.2.2.1, ticks_c, let_c]
      by_cases y1 : f_X8_isLaw vm a = true
      rotate_left
      · rw [if_neg y1]
      rw [if_pos y1]
      by_cases y2 : f_X8_isDrop vm b = true
      rotate_left
      · rw [if_neg y2]
      rw [if_pos y2]
      by_cases y3 : f_X8_isLetter c = true
      rotate_left
      · rw [if_neg y3]
      rw [if_pos y3]
      by_cases y4 : f_X8_in s 0 (vm.1 174 14 - 1) = true
      rotate_left
      · rw [if_neg y4]
      rw [if_pos y4, if_neg (fun y5 => all ⟨y1, y2, y3, y4, y5⟩)]
    have hM : f_X8_least vm a b c s x e = some (-1, vm) := by
      unfold f_X8_least
      by_cases y1 : f_X8_isLaw vm a = true
      rotate_left
      · rw [if_neg y1]
      rw [if_pos y1]
      by_cases y2 : f_X8_isDrop vm b = true
      rotate_left
      · rw [if_neg y2]
      rw [if_pos y2]
      by_cases y3 : f_X8_in c 3 9 = true
      rotate_left
      · rw [if_neg y3]
      rw [if_pos y3]
      by_cases y6 : c = 8
      · rw [if_pos y6]
      rw [if_neg y6]
      have y7 : f_X8_isLetter c = true := by
        unfold f_X8_isLetter
        rw [if_pos y3, if_neg y6]
      by_cases y4 : f_X8_in s 0 (vm.1 174 14 - 1) = true
      rotate_left
      · rw [if_neg y4]
      rw [if_pos y4, if_neg (fun y5 => all ⟨y1, y2, y7, y4, y5⟩)]
    rw [hC, hM]
    exact Agree.same hR
/-! LINE -/
theorem line_lp {nl nw nd p n d o1 o2 w k : Nat} {x : Int64} {was : Int32} (hn : n < nl) (hd : d < nd) (hl : Lt o1) (hl2 : Lt o2) (h12 : o1 ≠ o2) (hw : w < nw) (hk1 : 1 ≤ k) (hk : k ≤ 60) : ∀ (e i f g : Nat) (bits v9 : Int32) (vc vm : rV), i + e = 7 → e < f → e < g → W0 nl nw nd p vc vm → R51 vc vm d (fun j => j = o1 ∨ j = o2) →
    ∃ (r : Int32) (wc wm : rV), f_X7_line_116 f vc (nI n) (nI o1) (nI o2) (nI w) x (nI k) bits (nI i) = some (r, wc) ∧ f_X8_line_106 g vm (nI n) (nI d) (nI o1) (nI o2) (-1) (nI w) x (nI k) was bits v9 (nI (10 * i)) = some (r, wm) ∧ wm.1 185 (12 * d + o1) = was ∧ (∃ ρ, RF 98 wc ρ) ∧ (∀ j, j < 416 → wm.1 187 j = vm.1 187 j) ∧ wm.2.1 174 27 = vm.2.1 174 27 ∧ Ch Swk vc wc ∧ Ch (fun k j => Tl0 k j ∨ (k = 185 ∧ j = 12 * d + o1)) vm wm := by
  obtain ⟨l1, l2, l3, l4, l5⟩ := hl.b
  obtain ⟨l1', l2', l3', l4', l5'⟩ := hl2.b
  intro e
  induction e with
  | zero =>
    intro i f g bits v9 vc vm h hf hg hW hr
    have hd12 := hW.2.2.2.1.1
    obtain ⟨f, rfl⟩ : ∃ n', f = n' + 1 := ⟨f - 1, by omega⟩
    obtain ⟨g, rfl⟩ : ∃ n', g = n' + 1 := ⟨g - 1, by omega⟩
    rw [f_X7_line_116, f_X8_line_106, if_pos (show (7 : Int32) ≤ nI i from ple (a := 7) (by omega) (by omega)), if_pos rfl]
    unfold f_X8_line_121
    rw [if_pos (show (60 : Int32) < nI (10 * i) from plt (a := 60) (by omega) (by omega)), ix185, if_pos (gin (show 12 * d + o1 < 156 by omega) (by omega)), niCl (show 12 * d + o1 < 2147483648 by omega), vlet_eq, if_pos rfl]
    exact ⟨bits, vc, _, rfl, rfl, rI_at _ _ _ _, hW.2.2.2.2, fun j _ => rI_no (by omega), rfl, Ch.rf, Ch.rf.I (Or.inr ⟨rfl, rfl⟩)⟩
  | succ e ih =>
    intro i f g bits v9 vc vm h hf hg hW hr
    have hd12 := hW.2.2.2.1.1
    obtain ⟨f, rfl⟩ : ∃ n', f = n' + 1 := ⟨f - 1, by omega⟩
    obtain ⟨g, rfl⟩ : ∃ n', g = n' + 1 := ⟨g - 1, by omega⟩
    obtain ⟨c1, ec1⟩ : ∃ c, c = rI vc 51 o1 (nI (10 * i)) := ⟨_, rfl⟩
    obtain ⟨m1, em1⟩ : ∃ m, m = rI vm 185 (12 * d + o1) (nI (10 * i)) := ⟨_, rfl⟩
    have cc : Ch Swk vc c1 := by rw [ec1]; exact Ch.rf.I (Or.inr (Or.inl rfl))
    have cm : Ch (fun k j => Tl0 k j ∨ (k = 185 ∧ j = 12 * d + o1)) vm m1 := by rw [em1]; exact Ch.rf.I (Or.inr ⟨rfl, rfl⟩)
    have hD1 : DR m1 nd := by rw [em1]; exact hW.2.2.2.1.set hd hl (by omega)
    have hf1 : ∃ ρ, RF 98 c1 ρ := by
      obtain ⟨ρ, h⟩ := hW.2.2.2.2
      rw [ec1]
      exact ⟨ρ, h⟩
    have hW1 : W0 nl nw nd p c1 m1 := hW.ch cc cm (fun _ _ q => q) (fun k j q => by
      rcases q with q | q
      · exact Or.inr q
      · exact Or.inl q.1) hD1 hf1
    obtain ⟨r, uc, um, e1, e2, e3, e4, e5, e6, e7, e8⟩ := least_full (x := x) hn hd hl2 hw hk1 hk hW1 (fun j hj q => by
      rw [ec1, em1]
      by_cases z : j = o1
      · rw [z, rI_at, rI_at]
      · rw [rI_no (by omega), rI_no (by omega)]
        exact hr j hj (fun y => by
          rcases y with y | y
          · exact z y
          · exact q y))
    have hr' : R51 uc um d (fun j => j = o1 ∨ j = o2) := fun j hj q => by
      rw [e4 j (fun z => q (Or.inr z)), e8.1 _ _ (by unfold Tl0; omega), ec1, em1, rI_no (fun z => q (Or.inl z.2)), rI_no (fun z => q (Or.inl (by omega)))]
      exact hr j hj q
    have m187 : ∀ j, j < 416 → um.1 187 j = vm.1 187 j := fun j hj => by rw [e5 j hj, em1, rI_no (by omega)]
    have m27 : um.2.1 174 27 = vm.2.1 174 27 := by rw [e6, em1]; rfl
    have fin : ∀ b' v', ∃ (r : Int32) (wc wm : rV), f_X7_line_116 f uc (nI n) (nI o1) (nI o2) (nI w) x (nI k) b' (nI (i + 1)) = some (r, wc) ∧ f_X8_line_106 g um (nI n) (nI d) (nI o1) (nI o2) (-1) (nI w) x (nI k) was b' v' (nI (10 * (i + 1))) = some (r, wm) ∧ wm.1 185 (12 * d + o1) = was ∧ (∃ ρ, RF 98 wc ρ) ∧ (∀ j, j < 416 → wm.1 187 j = vm.1 187 j) ∧ wm.2.1 174 27 = vm.2.1 174 27 ∧ Ch Swk vc wc ∧ Ch (fun k j => Tl0 k j ∨ (k = 185 ∧ j = 12 * d + o1)) vm wm := fun b' v' => by
      obtain ⟨r9, wc, wm, j1, j2, j3, j4, j5, j6, j7, j8⟩ := ih (i + 1) f g b' v' uc um (by omega) (by omega) (by omega) e3 hr'
      exact ⟨r9, wc, wm, j1, j2, j3, j4, fun j hj => (j5 j hj).trans (m187 j hj), j6.trans m27, (cc.tr e7).tr j7, (cm.tr (e8.mono fun k j q => Or.inl q)).tr j8⟩
    rw [f_X7_line_116, f_X8_line_106, if_neg (show ¬ (7 : Int32) ≤ nI i from nle (a := 7) (by omega) (by omega)), if_pos rfl]
    unfold f_X8_line_121
    rw [if_neg (show ¬ (60 : Int32) < nI (10 * i) from nlt (a := 60) (by omega) (by omega)), ix185, if_pos (gin (show o1 < 12 by omega) (by omega)), if_pos (gin (show 12 * d + o1 < 156 by omega) (by omega)), niCl (show o1 < 2147483648 by omega), niCl (show 12 * d + o1 < 2147483648 by omega), show (10 : Int32) * nI i = nI (10 * i) from niMul 10 i, vlet_eq, vlet_eq, ← ec1, ← em1, e1, e2, Option.bind_some, Option.bind_some]
    unfold f_X7_line_160 f_X8_line_172
    simp only [vlet_eq]
    rw [ad1, show nI (10 * i) + 10 = nI (10 * (i + 1)) from niAdd (10 * i) 10, show nI (10 * i) / 10 = nI i from by rw [show (10 : Int32) = nI 10 from rfl, niDiv (by omega) (by omega), Nat.mul_div_cancel_left _ (by omega)]]
    by_cases z : r = -1
    · rw [if_pos z, if_pos z, Int32.or_zero]
      exact fin bits r
    · rw [if_neg z, if_neg z]
      exact fin _ r
theorem line_op {tb : Nat} {vc vm : rV} (h : Rel tb vc vm) (a b c s o q : Int32) (x : Int64) (e : Int32) : Agree tb vc vm (f_X7_line vc a b c s o q x e) (f_X8_line vm a b c s o q x e) := by
  obtain ⟨nl, nw, nd, p, hE, hS, hL⟩ := h
  have hR : Rel tb vc vm := ⟨nl, nw, nd, p, hE, hS, hL⟩
  have mo : (-1 : Int32).toInt = -1 := rfl
  have o60 : (60 : Int32).toInt = 60 := rfl
  by_cases all : f_X8_isLaw vm a = true ∧ f_X8_isDrop vm b = true ∧ f_X8_isLetter c = true ∧ f_X8_isLetter s = true ∧ c ≠ s ∧ (¬ o < -1 ∧ o ≤ 60) ∧ f_X8_in q 0 (vm.1 174 14 - 1) = true ∧ f_X8_areTicks e = true
  · obtain ⟨y1, y2, y3, y4, y5, ⟨y6, y7⟩, y8, y9⟩ := all
    have c3 := y3
    have c4 := y4
    rw [← let_c] at c3 c4
    have hG : f_X8_in o (-1) 60 = true := in_p y6 (le_nlt y7)
    obtain ⟨n, hn, rfl⟩ := (isLaw_m hE.2.1).mp y1
    obtain ⟨d, hd, rfl⟩ := (isDrop_m hE.2.2.2.1.1).mp y2
    obtain ⟨o1, hl, rfl⟩ := let_n c3
    obtain ⟨o2, hl2, rfl⟩ := let_n c4
    obtain ⟨w, hw, rfl⟩ := want_n hE.2.2.1 y8
    obtain ⟨k, hk1, hk, rfl⟩ := ticks_n y9
    have h12 : o1 ≠ o2 := fun z => y5 (by rw [z])
    obtain ⟨l1, l2, l3, l4, l5⟩ := hl.b
    have hd12 := hE.2.2.2.1.1.1
    obtain ⟨tc, t1, t2, t3, t4⟩ := change_go hE.w0 hE.2.2.2.1.2.1 hd
    unfold f_X7_line f_X8_line
    rw [law_c hE.2.1, isDrop_c hE.2.2.2.1.1 hE.2.2.2.1.2.1, want_c hE.2.2.1, ticks_c, if_pos y1, if_pos y2, if_pos y8, if_pos y9, if_pos c3, if_pos c4, if_neg y5, if_neg y6, if_pos y7, if_pos y2, if_pos y3, if_pos y4, if_neg y5, if_pos hG, if_pos y1, if_pos y8, if_pos y9, t1, Option.bind_some, ix185, if_pos (gin (show 12 * d + o1 < 156 by omega) (by omega)), niCl (show 12 * d + o1 < 2147483648 by omega), vlet_eq, vlet_eq]
    unfold f_X8_line_104
    by_cases z : o = -1
    · rw [if_pos z, if_pos z, z]
      obtain ⟨r, wc, wm, j1, j2, j3, j4, j5, j6, j7, j8⟩ := line_lp (x := x) (was := vm.1 185 (12 * d + o1)) hn hd hl hl2 h12 hw hk1 hk 7 0 20000 20000 0 (-1) tc vm (by omega) (by omega) (by omega) t2 (fun j hj _ => t3 j hj)
      have hm : Ch Tl0 vm wm := ⟨fun k' j' q' => by
        by_cases y : k' = 185 ∧ j' = 12 * d + o1
        · rw [y.1, y.2]; exact j3
        · exact j8.1 _ _ (fun z => by
            rcases z with z | z
            · exact q' z
            · exact y z), fun k' j' q' => j8.2.1 _ _ (fun z => by
            rcases z with z | z
            · exact q' z
            · omega), fun k' j' q' => j8.2.2 _ _ (fun z => by
            rcases z with z | z
            · exact q' z
            · omega)⟩
      exact ⟨r, wc, wm, j1, j2, hR.back (t4.tr j7) j4 hm j5 j6, swk_cc (t4.tr j7), tl0_cm hm⟩
    · rw [if_neg z, if_neg z]
      obtain ⟨u, hu, rfl⟩ : ∃ u, u ≤ 60 ∧ o = nI u := by
        rw [lt_toInt] at y6
        rw [le_toInt] at y7
        have : o.toInt ≠ -1 := fun y => z (by rw [eq_toInt]; exact y)
        exact ⟨o.toInt.toNat, by omega, niOf (by omega)⟩
      obtain ⟨c1, ec1⟩ : ∃ c, c = rI tc 51 o1 (nI u) := ⟨_, rfl⟩
      obtain ⟨m1, em1⟩ : ∃ m, m = rI vm 185 (12 * d + o1) (nI u) := ⟨_, rfl⟩
      have cc : Ch Swk tc c1 := by rw [ec1]; exact Ch.rf.I (Or.inr (Or.inl rfl))
      have cm : Ch (fun k j => Tl0 k j ∨ (k = 185 ∧ j = 12 * d + o1)) vm m1 := by rw [em1]; exact Ch.rf.I (Or.inr ⟨rfl, rfl⟩)
      have hD1 : DR m1 nd := by rw [em1]; exact t2.2.2.2.1.set hd hl hu
      have hf1 : ∃ ρ, RF 98 c1 ρ := by
        obtain ⟨ρ, h⟩ := t2.2.2.2.2
        rw [ec1]
        exact ⟨ρ, h⟩
      have hW1 : W0 nl nw nd p c1 m1 := t2.ch cc cm (fun _ _ q => q) (fun k j q => by
        rcases q with q | q
        · exact Or.inr q
        · exact Or.inl q.1) hD1 hf1
      obtain ⟨r, uc, um, e1, e2, e3, e4, e5, e6, e7, e8⟩ := least_full (x := x) hn hd hl2 hw hk1 hk hW1 (fun j hj q => by
        rw [ec1, em1]
        by_cases z : j = o1
        · rw [z, rI_at, rI_at]
        · rw [rI_no (by omega), rI_no (by omega)]
          exact t3 j hj)
      obtain ⟨w2, ew2⟩ : ∃ w2, w2 = rI um 185 (12 * d + o1) (vm.1 185 (12 * d + o1)) := ⟨_, rfl⟩
      have hm : Ch Tl0 vm w2 := by
        rw [ew2]
        exact Ch.fix (cm.tr (e8.mono fun k j q => Or.inl q)) (by omega)
      have hc : Ch Swk vc uc := (t4.tr cc).tr e7
      have fg : ∀ m F bits v9, f_X8_line_106 (m + 1) um (nI n) (nI d) (nI o1) (nI o2) (nI u) (nI w) x (nI k) (vm.1 185 (12 * d + o1)) bits v9 (nI (u + 10)) = F → some (v9, w2) = F := fun m F bits v9 hF => by
        rw [← hF, f_X8_line_106, if_neg z]
        unfold f_X8_line_121
        rw [if_pos (plt (by omega) (by omega)), ix185, if_pos (gin (show 12 * d + o1 < 156 by omega) (by omega)), niCl (show 12 * d + o1 < 2147483648 by omega), vlet_eq, if_neg z, ← ew2]
      obtain ⟨g, hg⟩ : ∃ g, 20000 = g + 2 := ⟨19998, rfl⟩
      refine ⟨r, uc, w2, ?_, ?_, hR.back hc e3.2.2.2.2 hm (fun j hj => by rw [ew2, rI_no (by omega), e5 j hj, em1, rI_no (by omega)]) (by rw [ew2]; show um.2.1 174 27 = _; rw [e6, em1]; rfl), swk_cc hc, tl0_cm hm⟩
      · rw [if_pos (gin (show o1 < 12 by omega) (by omega)), niCl (show o1 < 2147483648 by omega), ← ec1, e1, Option.bind_some]
      · rw [hg, show g + 2 = (g + 1) + 1 from rfl, f_X8_line_106, if_neg z]
        unfold f_X8_line_121
        rw [if_neg (nlt (Nat.le_refl _) (by omega)), ix185, if_pos (gin (show 12 * d + o1 < 156 by omega) (by omega)), niCl (show 12 * d + o1 < 2147483648 by omega), vlet_eq, ← em1, e2, Option.bind_some]
        unfold f_X8_line_172
        simp only [vlet_eq]
        rw [show nI u + 10 = nI (u + 10) from niAdd u 10]
        by_cases y : r = -1
        · rw [if_pos y]
          exact (fg g _ _ _ rfl).symm
        · rw [if_neg y]
          exact (fg g _ _ _ rfl).symm
  · have hC : f_X7_line vc a b c s o q x e = some (-1, vc) := by
      unfold f_X7_line
      rw [law_c hE.2.1, isDrop_c hE.2.2.2.1.1 hE.2.2.2.1.2.1, want_c hE.2.2.1, ticks_c, let_c, let_c]
      by_cases y1 : f_X8_isLaw vm a = true
      rotate_left
      · rw [if_neg y1]
      rw [if_pos y1]
      by_cases y2 : f_X8_isDrop vm b = true
      rotate_left
      · rw [if_neg y2]
      rw [if_pos y2]
      by_cases y8 : f_X8_in q 0 (vm.1 174 14 - 1) = true
      rotate_left
      · rw [if_neg y8]
      rw [if_pos y8]
      by_cases y9 : f_X8_areTicks e = true
      rotate_left
      · rw [if_neg y9]
      rw [if_pos y9]
      by_cases y3 : f_X8_isLetter c = true
      rotate_left
      · rw [if_neg y3]
      rw [if_pos y3]
      by_cases y4 : f_X8_isLetter s = true
      rotate_left
      · rw [if_neg y4]
      rw [if_pos y4]
      by_cases y5 : c = s
      · rw [if_pos y5]
      rw [if_neg y5]
      by_cases y6 : o < -1
      · rw [if_pos y6]
      rw [if_neg y6, if_neg (fun y7 => all ⟨y1, y2, y3, y4, y5, ⟨y6, y7⟩, y8, y9⟩)]
    have hM : f_X8_line vm a b c s o q x e = some (-1, vm) := by
      unfold f_X8_line
      by_cases y2 : f_X8_isDrop vm b = true
      rotate_left
      · rw [if_neg y2]
      rw [if_pos y2]
      by_cases y3 : f_X8_isLetter c = true
      rotate_left
      · rw [if_neg y3]
      rw [if_pos y3]
      by_cases y4 : f_X8_isLetter s = true
      rotate_left
      · rw [if_neg y4]
      rw [if_pos y4]
      by_cases y5 : c = s
      · rw [if_pos y5]
      rw [if_neg y5]
      by_cases y6 : f_X8_in o (-1) 60 = true
      rotate_left
      · rw [if_neg y6]
      rw [if_pos y6]
      by_cases y1 : f_X8_isLaw vm a = true
      rotate_left
      · rw [if_neg y1]
      rw [if_pos y1]
      by_cases y8 : f_X8_in q 0 (vm.1 174 14 - 1) = true
      rotate_left
      · rw [if_neg y8]
      rw [if_pos y8, if_neg (fun y9 => all ⟨y1, y2, y3, y4, y5, ⟨(in_t y6).1, by have := (in_t y6).2; rw [lt_toInt] at this; rw [le_toInt]; omega⟩, y8, y9⟩)]
    rw [hC, hM]
    exact Agree.same hR
