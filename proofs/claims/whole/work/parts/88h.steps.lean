/-! STEPS, SAVED -/
/-- a drop alone, laid -/
theorem laid_go {nl nw nd p tb n d : Nat} {x : Int64} {vc vm : rV} (h : Wk nl nw nd p tb vc vm) (hP : PM1 vm d) (hn : n < nl) (hd : d < nd) :
    ∃ (w1 w2 : rV), f_X7_lay vc (nI n) (38 + d) x = some w1 ∧ f_X8_begin vm (nI n) x = some w2 ∧ ST nd 98 0 w1 w2 ∧ LSt 98 (11 + 3 * n) n w1 w2 ∧ w1.1 98 10 = nI 1 ∧ Ch Sal vc w1 ∧ Ch Tal vm w2 := by
  have hE2 := h.1
  have hD := hE2.2.2.2.1.1
  have hC := hE2.2.2.2.1.2.1
  have hN := hD.1
  have hT := (hD.2.2 d hd).1
  have hx := hD.x hd
  obtain ⟨ρ, hρ⟩ := hE2.2.2.2.2.2.2.2.1
  obtain ⟨z, h1, h2, h3, h4, h5⟩ : ∃ z : Pz, z.1 = tv vm d 0 ∧ z.2.1 = tv vm d 1 ∧ z.2.2.1 = 38 + d ∧ z.2.2.2.1 = 0 ∧ z.2.2.2.2 = d := ⟨(tv vm d 0, tv vm d 1, 38 + d, 0, d), rfl, rfl, rfl, rfl, rfl⟩
  have hPD : PD 98 vc vm z := by
    unfold PD
    rw [h1, h2, h3, h4, h5]
    exact ⟨⟨by omega, fun j hj => hC.2 d hd j hj⟩, hT, ⟨by omega, hx.2.1, hx.2.2, by omega⟩, (tv_eq hT (j := 1) (by omega)).1⟩
  have hX : vc.1 z.2.2.1 0 = nI z.1 := by
    rw [h3, h1, hC.2 d hd 0 (by omega)]
    exact (tv_eq hT (j := 0) (by omega)).1
  have hPM : PM vm [z] := by
    obtain ⟨p1, p2, p3, p4⟩ := hP
    refine ⟨p1, by simp, fun k q hq => ?_⟩
    cases k with
    | zero =>
      simp only [List.getElem?_cons_zero, Option.some.injEq] at hq
      rw [← hq, h1, h2, h5]
      exact ⟨p2, p3, p4⟩
    | succ k => simp at hq
  obtain ⟨w1, w2, e1, e2, e3, e4, e5, e6, e7, e8⟩ := lay1_go (M := nd) (x := x) (p := z) hρ hPD h4 hX ⟨by omega, by omega⟩ hPM hn hE2.2.1
  rw [h3] at e1
  exact ⟨w1, w2, e1, e2, e3, e4, e8, e6.mono fun k j q => by have := sall_no q; exact Or.inl ⟨by omega, by omega⟩, e7.mono fun k j q => by have := tlb_no q; unfold Tal; omega⟩
theorem goOn_nx {B : Nat} {pc : Int32} : ∀ (d i n m a : Nat) (v w : rV) (r : Int32), i + d = a → a < 1000 → d < n → d + 1 < m → f_X5_goOn_2 n v B (nI a) pc (nI i) = some (r, w) → ∀ (q : Int32) (w' : rV), f_X5_goOn w B 1 pc = some (q, w') → ∃ r', f_X5_goOn_2 m v B (nI (a + 1)) pc (nI i) = some (r', w') := by
  intro d
  induction d with
  | zero =>
    intro i n m a v w r h ha hn hm e q w' e'
    obtain ⟨n, rfl⟩ : ∃ n', n = n' + 1 := ⟨n - 1, by omega⟩
    obtain ⟨m, rfl⟩ : ∃ m', m = m' + 2 := ⟨m - 2, by omega⟩
    have : i = a := by omega
    subst this
    rw [f_X5_goOn_2, if_pos (ple (by omega) (by omega))] at e
    have e2 : v = w := congrArg Prod.snd (Option.some.inj e)
    rw [← e2] at e'
    obtain ⟨f, hf⟩ : ∃ f, 20000 = f + 2 := ⟨19998, rfl⟩
    unfold f_X5_goOn at e'
    rw [hf, f_X5_goOn_2, if_neg (show ¬ (1 : Int32) ≤ 0 by decide)] at e'
    rw [show m + 2 = (m + 1) + 1 from rfl, f_X5_goOn_2, if_neg (nle (by omega) (by omega))]
    by_cases z : v.1 B 10 ≤ 0
    · rw [if_pos z] at e' ⊢
      have e3 : v = w' := congrArg Prod.snd (Option.some.inj e')
      exact ⟨_, by rw [e3]⟩
    · rw [if_neg z] at e' ⊢
      cases t : f_X5_oneTick v B pc with
      | none => rw [t] at e'; cases e'
      | some u =>
        rw [t, Option.bind_some, vlet_eq, f_X5_goOn_2, if_pos (show (1 : Int32) ≤ 0 + 1 by decide)] at e'
        have e3 : u = w' := congrArg Prod.snd (Option.some.inj e')
        rw [Option.bind_some, vlet_eq, ad1, f_X5_goOn_2, if_pos (ple (by omega) (by omega)), e3]
        exact ⟨_, rfl⟩
  | succ d ih =>
    intro i n m a v w r h ha hn hm e q w' e'
    obtain ⟨n, rfl⟩ : ∃ n', n = n' + 1 := ⟨n - 1, by omega⟩
    obtain ⟨m, rfl⟩ : ∃ m', m = m' + 1 := ⟨m - 1, by omega⟩
    rw [f_X5_goOn_2, if_neg (nle (by omega) (by omega))] at e
    rw [f_X5_goOn_2, if_neg (nle (by omega) (by omega))]
    by_cases z : v.1 B 10 ≤ 0
    · rw [if_pos z] at e ⊢
      have e2 : v = w := congrArg Prod.snd (Option.some.inj e)
      rw [← e2] at e'
      unfold f_X5_goOn at e'
      obtain ⟨f, hf⟩ : ∃ f, 20000 = f + 1 := ⟨19999, rfl⟩
      rw [hf, f_X5_goOn_2, if_neg (show ¬ (1 : Int32) ≤ 0 by decide), if_pos z] at e'
      have e3 : v = w' := congrArg Prod.snd (Option.some.inj e')
      exact ⟨_, by rw [e3]⟩
    · rw [if_neg z] at e ⊢
      cases t : f_X5_oneTick v B pc with
      | none => rw [t] at e; cases e
      | some u =>
        rw [t, Option.bind_some, vlet_eq, ad1] at e
        rw [Option.bind_some, vlet_eq, ad1]
        exact ih (i + 1) n m a u w r (by omega) ha (by omega) (by omega) e q w' e'
theorem goOn_next {B a : Nat} {pc r q : Int32} {v w w' : rV} (ha : a < 1000) (e : f_X5_goOn v B (nI a) pc = some (r, w)) (e' : f_X5_goOn w B 1 pc = some (q, w')) : ∃ r', f_X5_goOn v B (nI (a + 1)) pc = some (r', w') := goOn_nx a 0 20000 20000 a v w r (by omega) ha (by omega) (by omega) e q w' e'
/-- how much a strip of the class is off -/
def offC (u : rV) (st : Nat → Int32) : Int32 := sI (fun i => ab (u.1 106 i + u.1 107 i - st i)) 0 24
theorem offC_la {u m : rV} {st : Nat → Int32} (h : RLl 98 u m) : offC u st = sI (fun i => ab (la m i - st i)) 0 24 := sI_ext fun i _ hi => by
  unfold la
  rw [show u.1 106 i = _ from h.1 i (by omega), show u.1 107 i = _ from h.2 i (by omega)]
/-- the model's sum over the cells -/
theorem near_40 {s : Nat} {a6 a7 : Int32} {v : rV} {q21 : rV → Int32 → Int32 → Int32 → Option (Int32 × rV)} (hs : s < 6) : ∀ (d c n : Nat) (x : Int32), c + d = 24 → d < n → f_X8_nearestTick_40 q21 n v (nI s) a6 a7 x (nI c) = (if a6 = (-1 : Int32) then f_X8_nearestTick_95 q21 v (nI s) a7 (x + sI (fun i => ab (la v i - v.1 195 (24 * s + i))) c d) else (if (v.1 174 43) ≤ (x + sI (fun i => ab (la v i - v.1 195 (24 * s + i))) c d) then f_X8_nearestTick_105 q21 v (nI s) a6 a7 else f_X8_nearestTick_95 q21 v (nI s) a7 (x + sI (fun i => ab (la v i - v.1 195 (24 * s + i))) c d))) := by
  intro d
  induction d with
  | zero =>
    intro c n x e hn
    obtain ⟨n, rfl⟩ : ∃ n', n = n' + 1 := ⟨n - 1, by omega⟩
    rw [f_X8_nearestTick_40, if_pos (show (24 : Int32) ≤ nI c from ple (a := 24) (by omega) (by omega)), sI, Int32.add_zero]
  | succ d ih =>
    intro c n x e hn
    obtain ⟨n, rfl⟩ : ∃ n', n = n' + 1 := ⟨n - 1, by omega⟩
    have g : ¬ (24 : Int32) ≤ nI c := nle (a := 24) (by omega) (by omega)
    rw [f_X8_nearestTick_40, if_neg g, laid_at (by omega), Option.bind_some, ix195, if_pos (gin (show 24 * s + c < 144 by omega) (by omega)), niCl (by omega), vlet_eq, vlet_eq, ad1, ih (c + 1) n _ (by omega) (by omega)]
    have e9 : x + sI (fun i => ab (la v i - v.1 195 (24 * s + i))) c (d + 1) = (x + (if 0 ≤ la v c - v.1 195 (24 * s + c) then la v c - v.1 195 (24 * s + c) else 0 - (la v c - v.1 195 (24 * s + c)))) + sI (fun i => ab (la v i - v.1 195 (24 * s + i))) (c + 1) d := by
      simp only [sI]
      rw [← Int32.add_assoc]
      rfl
    rw [e9]
def offM (v : rV) (s : Nat) : Int32 := sI (fun i => ab (la v i - v.1 195 (24 * s + i))) 0 24
theorem near_st {s m : Nat} {a6 : Int32} {v : rV} {k : Nat} {r : Int32} {v' : rV} (hs : s < 6) (hk : k ≤ 60) (hr : f_X8_run v 1 = some (r, v')) : f_X8_nearestTick_21 (m + 1) v (nI s) a6 (nI k) = (if a6 = (-1 : Int32) then f_X8_nearestTick_21 m (rI v' 174 43 (offM v' s)) (nI s) (nI k) (nI (k + 1)) else (if (v'.1 174 43) ≤ offM v' s then f_X8_nearestTick_21 m v' (nI s) a6 (nI (k + 1)) else f_X8_nearestTick_21 m (rI v' 174 43 (offM v' s)) (nI s) (nI k) (nI (k + 1)))) := by
  rw [f_X8_nearestTick_21, if_neg (show ¬ (60 : Int32) < nI k from nlt (a := 60) (by omega) (by omega)), hr, Option.bind_some]
  have := near_40 (v := v') (a6 := a6) (a7 := nI k) (q21 := fun v a1 a6 a7 => f_X8_nearestTick_21 m v a1 a6 a7) hs 24 0 20000 0 (by omega) (by omega)
  rw [show f_X8_nearestTick_40 (fun v a1 a6 a7 => f_X8_nearestTick_21 m v a1 a6 a7) 20000 (r, v').2 (nI s) a6 (nI k) 0 0 = _ from this, Int32.zero_add]
  unfold f_X8_nearestTick_95 f_X8_nearestTick_105 offM
  simp only [vlet_eq]
  rw [ad1]
/-- with no drop left the model goes on and finds nothing better -/
theorem near_idle {s b : Nat} {v : rV} (hs : s < 6) (hb : b ≤ 60) (h0 : v.1 187 288 ≤ 0) (hl : v.1 174 43 ≤ offM v s) : ∀ (e k m : Nat), k + e = 61 → e < m → f_X8_nearestTick_21 m v (nI s) (nI b) (nI k) = some (nI b, v) := by
  intro e
  induction e with
  | zero =>
    intro k m h hm
    obtain ⟨m, rfl⟩ : ∃ m', m = m' + 1 := ⟨m - 1, by omega⟩
    rw [f_X8_nearestTick_21, if_pos (show (60 : Int32) < nI k from plt (a := 60) (by omega) (by omega))]
  | succ e ih =>
    intro k m h hm
    obtain ⟨m, rfl⟩ : ∃ m', m = m' + 1 := ⟨m - 1, by omega⟩
    have hr : f_X8_run v 1 = some (0, v) := by
      unfold f_X8_run
      obtain ⟨f, hf⟩ : ∃ f, 20000 = f + 1 := ⟨19999, rfl⟩
      rw [hf, f_X8_run_2, if_neg (show ¬ (1 : Int32) ≤ 0 by decide), if_pos h0]
    have nb : ¬ nI b = (-1 : Int32) := fun q => by
      have := congrArg Int32.toInt q
      rw [niInt (by omega), show (-1 : Int32).toInt = -1 from rfl] at this
      omega
    rw [near_st hs (by omega) hr, if_neg nb, if_pos hl]
    exact ih (k + 1) m (by omega) (by omega)
def Tnr : Nat → Nat → Prop := fun k j => Tal k j ∨ (k = 174 ∧ j = 43)
theorem tnr_twk {v w : rV} (h : Ch Tnr v w) : Ch Twk v w := h.mono fun k j q => by unfold Tnr Tal at q; unfold Twk; omega
theorem near_lp {M kf N s q : Nat} {w1 : rV} {st : Nat → Int32} (hs : s < 6) (hq : q ≤ 99) (hkf : 13 ≤ kf + 2 ∧ kf + 2 ≤ 22 ∧ ∃ n, n < 4 ∧ kf + 2 = 13 + 3 * n) : ∀ (e k f g : Nat) (bc bm lc : Int32) (uc um : rV), k + e = 61 → 1 ≤ k → e < f → e < g →
    ST M 98 (k - 1) uc um → LSt 98 kf N uc um → uc.1 0 15 = nI q → um.1 174 23 = nI q → (∀ i, i < 24 → uc.1 (53 + s) i = st i ∧ um.1 195 (24 * s + i) = st i) →
    (∃ r, f_X5_goOn w1 98 (nI (k - 1)) (nI q) = some (r, uc)) →
    ((k = 1 ∧ bc = 0 ∧ bm = -1 ∧ uc.1 98 10 = nI 1) ∨ (∃ b, 1 ≤ b ∧ b < k ∧ bc = nI b ∧ bm = nI b ∧ um.1 174 43 = lc ∧ lc ≤ offM um s ∧ ∃ r ub, f_X5_goOn w1 98 (nI b) (nI q) = some (r, ub) ∧ offC ub st = lc)) →
    ∃ (b : Nat) (wc wm : rV), f_X7_nearestTick_22 f uc (nI s) bc lc (nI k) = some (nI b, wc) ∧ f_X8_nearestTick_21 g um (nI s) bm (nI k) = some (nI b, wm) ∧ 1 ≤ b ∧ b ≤ 60 ∧ (∃ r ub, f_X5_goOn w1 98 (nI b) (nI q) = some (r, ub) ∧ offC ub st = wm.1 174 43) ∧ (∃ t, ST M 98 t wc wm) ∧ Ch Sal uc wc ∧ Ch Tnr um wm := by
  intro e
  induction e with
  | zero =>
    intro k f g bc bm lc uc um hk h1 hf hg hS hL hp hp2 hst hgo hb
    obtain ⟨f, rfl⟩ : ∃ n', f = n' + 1 := ⟨f - 1, by omega⟩
    obtain ⟨g, rfl⟩ : ∃ n', g = n' + 1 := ⟨g - 1, by omega⟩
    have l : (60 : Int32) < nI k := plt (a := 60) (by omega) (by omega)
    rw [f_X7_nearestTick_22, f_X8_nearestTick_21, if_pos l, if_pos l]
    rcases hb with hb | ⟨b, b1, b2, b3, b4, b5, b6, r, ub, b7, b8⟩
    · omega
    · exact ⟨b, uc, um, by rw [b3], by rw [b4], b1, by omega, ⟨r, ub, b7, by rw [b8, b5]⟩, ⟨_, hS⟩, Ch.rf, Ch.rf⟩
  | succ e ih =>
    intro k f g bc bm lc uc um hk h1 hf hg hS hL hp hp2 hst hgo hb
    obtain ⟨f, rfl⟩ : ∃ n', f = n' + 1 := ⟨f - 1, by omega⟩
    obtain ⟨g, rfl⟩ : ∃ n', g = n' + 1 := ⟨g - 1, by omega⟩
    have l : ¬ (60 : Int32) < nI k := nlt (a := 60) (by omega) (by omega)
    rw [f_X7_nearestTick_22, if_neg l]
    by_cases z : uc.1 98 10 ≤ 0
    · rw [if_pos z]
      rcases hb with ⟨-, -, -, hb⟩ | ⟨b, b1, b2, b3, b4, b5, b6, r, ub, b7, b8⟩
      · rw [hb] at z
        exact absurd z (by decide)
      · exact ⟨b, uc, um, by rw [b3], by rw [b4]; exact near_idle hs (by omega) (by rw [← hS.num]; exact z) (by rw [b5]; exact b6) (e + 1) k (g + 1) hk (by omega), b1, by omega, ⟨r, ub, b7, by rw [b8, b5]⟩, ⟨_, hS⟩, Ch.rf, Ch.rf⟩
    · rw [if_neg z]
      obtain ⟨i, vc, vm, g1, g2, g3, g4, g5, g6, g7, -⟩ := goOn_go (a := 1) (by decide) (by omega) (by omega) (by rw [hp2, le_toInt, niInt (by omega)]; show (0 : Int) ≤ _; omega) hS hL
      have sN : ∀ k j, ¬ (98 ≤ k ∧ k ≤ 135 ∨ k = kf + 2) → ¬ Sst 98 kf k j := fun k j q z => by have := sst_no z; omega
      have tN : ∀ k j, ¬ ((k = 187 ∧ j ≠ 294 ∧ j ≠ 295 ∧ ¬ (192 ≤ j ∧ j < 240)) ∨ (k = 174 ∧ (j = 37 ∨ j = 38 ∨ j = 39 ∨ j = 1000027)) ∨ k = 183 ∨ k = 184 ∨ k = 194 ∨ k = 193) → ¬ Tst k j := fun k j q z => q (tst_no z)
      have cS : Ch Sal uc vc := g6.mono fun k j q => by
        rcases sst_no q with q | q
        · exact Or.inl ⟨by omega, by omega⟩
        · obtain ⟨n, hn, e⟩ := hkf.2.2
          exact Or.inr ⟨n, hn, by omega⟩
      have cT : Ch Tal um vm := g7.mono fun k j z => by have := tst_no z; unfold Tal; omega
      rw [hp2] at g1
      have g1' : f_X5_goOn uc 98 1 (nI q) = some (nI i, vc) := g1
      obtain ⟨r0, hr0⟩ := hgo
      obtain ⟨r1, hr1⟩ := goOn_next (by omega) hr0 g1'
      rw [show k - 1 + 1 = k by omega] at hr1
      have stc : ∀ i, i < 24 → vc.1 (53 + s) i = st i ∧ vm.1 195 (24 * s + i) = st i := fun i hi => by
        rw [cS.1 _ _ (sal_no (by omega) (by omega)), cT.1 _ _ (by unfold Tal; omega)]
        exact hst i hi
      have hp' : vc.1 0 15 = nI q := by rw [cS.1 _ _ (sal_no (by omega) (by omega))]; exact hp
      have hp2' : vm.1 174 23 = nI q := by rw [cT.1 _ _ (by unfold Tal; omega)]; exact hp2
      have oC : offC vc st = offM vm s := by
        rw [offC_la g4.rl]
        exact sI_ext fun i _ hi => by rw [(stc i (by omega)).2]
      have oF : f_X5_offFrom vc 98 (53 + s) = some (offM vm s) := by
        rw [off_eq g4.rl]
        exact congrArg some (sI_ext fun i _ hi => by rw [(stc i (by omega)).1, (stc i (by omega)).2])
      have k43 : vm.1 174 43 = um.1 174 43 := cT.1 _ _ (by unfold Tal; omega)
      rw [hp, g1', Option.bind_some, if_pos (gin hs (by omega)), niCl (by omega)]
      simp only []
      rw [oF, Option.bind_some, near_st hs (by omega) g2]
      unfold f_X7_nearestTick_79 f_X7_nearestTick_87
      simp only [vlet_eq]
      rw [ad1]
      -- a better one
      have take : ∃ (b : Nat) (wc wm : rV), f_X7_nearestTick_22 f vc (nI s) (nI k) (offM vm s) (nI (k + 1)) = some (nI b, wc) ∧ f_X8_nearestTick_21 g (rI vm 174 43 (offM vm s)) (nI s) (nI k) (nI (k + 1)) = some (nI b, wm) ∧ 1 ≤ b ∧ b ≤ 60 ∧ (∃ r ub, f_X5_goOn w1 98 (nI b) (nI q) = some (r, ub) ∧ offC ub st = wm.1 174 43) ∧ (∃ t, ST M 98 t wc wm) ∧ Ch Sal uc wc ∧ Ch Tnr um wm := by
        have c43 : Ch (fun k j => k = 174 ∧ j = 43) vm (rI vm 174 43 (offM vm s)) := Ch.rf.I ⟨rfl, rfl⟩
        have o43 : offM (rI vm 174 43 (offM vm s)) s = offM vm s := by
          refine sI_ext fun i _ hi => ?_
          rw [la_ch c43 (fun j => by omega), rI_no (by omega)]
        obtain ⟨b, wc, wm, j1, j2, j3, j4, j5, j6, j7, j8⟩ := ih (k + 1) f g (nI k) (nI k) (offM vm s) vc (rI vm 174 43 (offM vm s)) (by omega) (by omega) (by omega) (by omega) (by
          rw [show k + 1 - 1 = k - 1 + 1 by omega]
          exact g4.ext (S := fun _ _ => False) Ch.rf (fun _ _ _ _ q => q) (fun j _ => rI_no (by omega)) rfl (fun j _ => rI_no (by omega))) (g5.ch (S := fun _ _ => False) Ch.rf c43 id (fun _ => id) id (by omega) (fun k j _ _ _ => by omega)) hp' (by rw [rI_no (by omega)]; exact hp2') (fun i hi => by rw [rI_no (by omega)]; exact stc i hi) ⟨r1, by rw [show k + 1 - 1 = k by omega]; exact hr1⟩ (Or.inr ⟨k, h1, by omega, rfl, rfl, rI_at _ _ _ _, by rw [o43, le_toInt]; exact Int.le_refl _, r1, vc, hr1, oC⟩)
        exact ⟨b, wc, wm, j1, j2, j3, j4, j5, j6, cS.tr j7, (cT.mono fun k j q => Or.inl q).tr ((c43.mono fun k j q => Or.inr q).tr j8)⟩
      rcases hb with ⟨b0, b1, b2, b3⟩ | ⟨b, b1, b2, b3, b4, b5, b6, r, ub, b7, b8⟩
      · rw [if_pos b1, if_pos b2]
        exact take
      · have nb : ¬ bc = 0 := fun q => by
          rw [b3] at q
          have := congrArg Int32.toInt q
          rw [niInt (by omega), show (0 : Int32).toInt = 0 from rfl] at this
          omega
        have nb2 : ¬ bm = -1 := fun q => by
          rw [b4] at q
          have := congrArg Int32.toInt q
          rw [niInt (by omega), show (-1 : Int32).toInt = -1 from rfl] at this
          omega
        rw [if_neg nb, if_neg nb2, k43, b5]
        by_cases y : lc ≤ offM vm s
        · rw [if_pos y, if_pos y]
          obtain ⟨b', wc, wm, j1, j2, j3, j4, j5, j6, j7, j8⟩ := ih (k + 1) f g bc bm lc vc vm (by omega) (by omega) (by omega) (by omega) (by
            rw [show k + 1 - 1 = k - 1 + 1 by omega]
            exact g4) g5 hp' hp2' stc ⟨r1, by rw [show k + 1 - 1 = k by omega]; exact hr1⟩ (Or.inr ⟨b, b1, by omega, b3, b4, by rw [k43]; exact b5, y, r, ub, b7, b8⟩)
          exact ⟨b', wc, wm, j1, j2, j3, j4, j5, j6, cS.tr j7, (cT.mono fun k j q => Or.inl q).tr j8⟩
        · rw [if_neg y, if_neg y]
          exact take
/-- the nearest tick, and what is off behind it -/
theorem near_go {nl nw nd p tb n d s : Nat} {x : Int64} {vc vm : rV} (h : Wk nl nw nd p tb vc vm) (hn : n < nl) (hd : d < nd) (hs : s < 6) :
    ∃ (b : Nat) (wc wm uc : rV), f_X7_nearestTick vc (nI s) (nI n) (nI d) x = some (nI b, wc) ∧ f_X8_nearestTick vm (nI s) (nI n) (nI d) x = some (nI b, wm) ∧ f_X7_offBehind wc (nI s) (nI n) (nI d) x (nI b) = some (wm.1 174 43, uc) ∧ Wk nl nw nd p tb wc wm ∧ Wk nl nw nd p tb uc wm ∧ Ch Swk vc wc ∧ Ch Swk vc uc ∧ Ch Twk vm wm := by
  have hd12 := h.nd.1
  have l4 := h.1.2.1.1
  obtain ⟨bb, vg, g1, g2, g3, g4⟩ := gath1 h hd
  obtain ⟨w1, w2, e1, e2, e3, e4, e5, e6, e7⟩ := laid_go (x := x) g3 g2 hn hd
  obtain ⟨q1, q2, q3⟩ := g3.1.2.2.2.2.2.1
  obtain ⟨ns, -, -, -, hst⟩ := g3.1.2.2.2.2.1
  obtain ⟨st, est⟩ : ∃ st : Nat → Int32, st = fun i => vg.1 195 (24 * s + i) := ⟨_, rfl⟩
  have st1 : ∀ i, i < 24 → w1.1 (53 + s) i = st i ∧ w2.1 195 (24 * s + i) = st i := fun i hi => by
    rw [e6.1 _ _ (sal_no (by omega) (by omega)), e7.1 _ _ (by unfold Tal; omega), est]
    exact ⟨(hst s hs i hi).1, rfl⟩
  have pc1 : w1.1 0 15 = nI p := by rw [e6.1 _ _ (sal_no (by omega) (by omega))]; exact q2
  obtain ⟨b, wc, wm, j1, j2, j3, j4, ⟨r, ub, j5, j6⟩, ⟨t, jS⟩, j7, j8⟩ := near_lp (w1 := w1) (st := st) (kf := 11 + 3 * n) (N := n) hs q1 ⟨by omega, by omega, n, by omega, by omega⟩ 60 1 20000 20000 0 (-1) 0 w1 w2 (by omega) (by omega) (by omega) (by omega) e3 e4 pc1 (by rw [e7.1 _ _ (by unfold Tal; omega)]; exact q3) st1 ⟨0, by
    unfold f_X5_goOn
    obtain ⟨f, hf⟩ : ∃ f, 20000 = f + 1 := ⟨19999, rfl⟩
    rw [hf, f_X5_goOn_2, if_pos (show nI (1 - 1) ≤ 0 by decide)]⟩ (Or.inl ⟨rfl, rfl, rfl, e5⟩)
  have hc : Ch Swk vc wc := (sal_swk e6).tr (sal_swk j7)
  have hm : Ch Twk vm wm := (tal_tad_twk g4 e7).tr (tnr_twk j8)
  have hW := h.ch hc hm jS.rf
  have hWg : Wk nl nw nd p tb wc vg := g3.ch hc Ch.rf jS.rf
  -- from the first heap, so many ticks in one go
  obtain ⟨i1, y1, y2, yc, ym, -, y3, y4, y5, y6, -, y7, -, -, -, -⟩ := piece_go (x := x) (a := b) g3 g2 hn hd (by omega)
  rw [e1] at y5
  have ey1 : w1 = y1 := Option.some.inj y5
  rw [← ey1, pc1, j5] at y6
  have eyc : ub = yc := congrArg Prod.snd (Option.some.inj y6)
  -- from the last one
  obtain ⟨i2, z1, z2, zc, zm, za, z3, z4, -, -, -, z7, z8, -, z10, -⟩ := piece_go (x := x) (a := b) hWg g2 hn hd (by omega)
  rw [y3] at z3
  have ez2 : y2 = z2 := Option.some.inj z3
  rw [← ez2, y4] at z4
  have ezm : ym = zm := congrArg Prod.snd (Option.some.inj z4)
  have stz : ∀ i, i < 24 → zc.1 (53 + s) i = st i := fun i hi => by
    rw [z10.1 _ _ (sal_no (by omega) (by omega)), j7.1 _ _ (sal_no (by omega) (by omega))]
    exact (st1 i hi).1
  have hcu : Ch Swk vc zc := hc.tr (sal_swk z10)
  refine ⟨b, wc, wm, zc, ?_, ?_, ?_, hW, h.ch hcu hm z7.rf, hc, hcu, hm⟩
  · unfold f_X7_nearestTick
    rw [if_pos (gin (show d < 12 by omega) (by omega)), niCl (by omega), e1, Option.bind_some]
    exact j1
  · unfold f_X8_nearestTick
    rw [g1, Option.bind_some]
    simp only []
    rw [e2, Option.bind_some]
    exact j2
  · unfold f_X7_offBehind
    rw [if_pos (gin (show d < 12 by omega) (by omega)), niCl (by omega), za, Option.bind_some, if_pos (gin hs (by omega)), niCl (by omega), off_eq z7.rl, Option.bind_some, ← j6, offC_la (m := ym) (by rw [eyc]; exact y7.rl), ezm]
    refine congrArg (fun r => some (r, zc)) (sI_ext fun i _ hi => ?_)
    rw [stz i (by omega)]
theorem steps_op {tb : Nat} {vc vm : rV} (h : Rel tb vc vm) (a b c : Int32) (x : Int64) (e : Int32) : Agree tb vc vm (f_X7_steps vc a b c x e) (f_X8_steps vm a b c x e) := by
  obtain ⟨nl, nw, nd, p, hE, hS, hL⟩ := h
  have hR : Rel tb vc vm := ⟨nl, nw, nd, p, hE, hS, hL⟩
  unfold f_X7_steps f_X8_steps
  rw [isStain_c hE.2.2.2.2.1, law_c hE.2.1, isDrop_c hE.2.2.2.1.1 hE.2.2.2.1.2.1]
  refine ag_if hR fun y1 => ag_if hR fun y2 => ag_if hR fun y3 => ?_
  by_cases z1 : e < 0
  · rw [if_pos z1, if_neg (in_ff (Or.inl z1))]; exact Agree.same hR
  rw [if_neg z1]
  by_cases z2 : e ≤ 1
  rotate_left
  · rw [if_neg z2, if_neg (in_ff (Or.inr (nle_lt z2)))]; exact Agree.same hR
  rw [if_pos z2, if_pos (in_p z1 (le_nlt z2))]
  obtain ⟨s, hs, rfl⟩ := isStain_s hE.2.2.2.2.1 y1
  obtain ⟨n, hn, rfl⟩ := (isLaw_m hE.2.1).mp y2
  obtain ⟨d, hd, rfl⟩ := (isDrop_m hE.2.2.2.1.1).mp y3
  obtain ⟨va, s1, s2, s3⟩ := aside_go hE hS hL
  obtain ⟨t, wc, wm, uc, e1, e2, e3, e4, e5, e6, e7, e8⟩ := near_go (x := x) s2 hn hd hs
  obtain ⟨zm, t1, t2, t3⟩ := taken_go e4
  have hm := (aside_cm s3).tr (twk_cm e8)
  rw [e1, Option.bind_some, s1, Option.bind_some, e2, Option.bind_some]
  simp only []
  by_cases q : e = 0
  · have w := work_end (r := nI t) e4 e6 hm
    simp only [if_pos q]
    exact w
  · have w := work_end (r := wm.1 174 43) e5 e7 hm
    obtain ⟨zm, t1, t2, t3⟩ := taken_go e5
    rw [t1, Option.bind_some] at w
    simp only [if_neg q]
    rw [e3, Option.bind_some, t1, Option.bind_some, t3.1 _ _ (by omega)]
    exact w
theorem saved_lp {nl nw nd p tb n s : Nat} {x : Int64} {set : Int32} (hn : n < nl) (hs : s < 6) : ∀ (e i f g : Nat) (best least : Int32) (vc vm : rV), i + e = nd → e < f → e < g → Wk nl nw nd p tb vc vm →
    ∃ (r : Int32) (wc wm : rV), f_X7_saved_42 f vc (nI s) (nI n) set x best least (nI i) = some (r, wc) ∧ f_X8_saved_39 g vm (nI s) (nI n) set x best least (nI i) = ((f_X8_takeBack wm).bind fun w => some (r, w)) ∧ Wk nl nw nd p tb wc wm ∧ Ch Swk vc wc ∧ Ch Twk vm wm := by
  intro e
  induction e with
  | zero =>
    intro i f g best least vc vm h hf hg hW
    obtain ⟨f, rfl⟩ : ∃ n', f = n' + 1 := ⟨f - 1, by omega⟩
    obtain ⟨g, rfl⟩ : ∃ n', g = n' + 1 := ⟨g - 1, by omega⟩
    obtain ⟨n1, n2, n3⟩ := hW.nd
    rw [f_X7_saved_42, f_X8_saved_39, n2, n3, if_pos (ple (by omega) (by omega)), if_pos (ple (by omega) (by omega))]
    exact ⟨_, _, _, rfl, rfl, hW, Ch.rf, Ch.rf⟩
  | succ e ih =>
    intro i f g best least vc vm h hf hg hW
    obtain ⟨f, rfl⟩ : ∃ n', f = n' + 1 := ⟨f - 1, by omega⟩
    obtain ⟨g, rfl⟩ : ∃ n', g = n' + 1 := ⟨g - 1, by omega⟩
    obtain ⟨n1, n2, n3⟩ := hW.nd
    rw [f_X7_saved_42, f_X8_saved_39, n2, n3, if_neg (nle (by omega) (by omega)), if_neg (nle (by omega) (by omega)), has_eq]
    by_cases q : f_X7_has set (nI i) = true
    rotate_left
    · rw [if_neg q, if_neg q]
      unfold f_X8_saved_93 f_X7_saved_103
      simp only [vlet_eq]
      rw [ad1]
      exact ih (i + 1) f g best least vc vm (by omega) (by omega) (by omega) hW
    obtain ⟨t, wc, wm, uc, e1, e2, e3, e4, e5, e6, e7, e8⟩ := near_go (x := x) hW hn (show i < nd by omega) hs
    rw [if_pos q, if_pos q, e1, e2, Option.bind_some, Option.bind_some]
    simp only []
    rw [e3, Option.bind_some]
    unfold f_X8_saved_83 f_X8_saved_93 f_X7_saved_95 f_X7_saved_103
    simp only [vlet_eq]
    rw [ad1]
    by_cases z : best = -1
    · rw [if_pos z, if_pos z]
      obtain ⟨s, wc', wm', j1, j2, j3, j4, j5⟩ := ih (i + 1) f g (nI i) (wm.1 174 43) uc wm (by omega) (by omega) (by omega) e5
      exact ⟨s, wc', wm', j1, j2, j3, e7.tr j4, e8.tr j5⟩
    · rw [if_neg z, if_neg z]
      by_cases y : least ≤ wm.1 174 43
      · rw [if_pos y, if_pos y]
        obtain ⟨s, wc', wm', j1, j2, j3, j4, j5⟩ := ih (i + 1) f g best least uc wm (by omega) (by omega) (by omega) e5
        exact ⟨s, wc', wm', j1, j2, j3, e7.tr j4, e8.tr j5⟩
      · rw [if_neg y, if_neg y]
        obtain ⟨s, wc', wm', j1, j2, j3, j4, j5⟩ := ih (i + 1) f g (nI i) (wm.1 174 43) uc wm (by omega) (by omega) (by omega) e5
        exact ⟨s, wc', wm', j1, j2, j3, e7.tr j4, e8.tr j5⟩
theorem saved_op {tb : Nat} {vc vm : rV} (h : Rel tb vc vm) (a b c : Int32) (x : Int64) : Agree tb vc vm (f_X7_saved vc a b c x) (f_X8_saved vm a b c x) := by
  obtain ⟨nl, nw, nd, p, hE, hS, hL⟩ := h
  have hR : Rel tb vc vm := ⟨nl, nw, nd, p, hE, hS, hL⟩
  unfold f_X7_saved f_X8_saved
  rw [isStain_c hE.2.2.2.2.1, law_c hE.2.1]
  refine ag_if hR fun y1 => ag_if hR fun y2 => ?_
  have ad := areDrops_go (a := c) hE.2.2.2.1.1 hE.2.2.2.1.2.1
  by_cases z : c = 0
  · rw [if_pos z, if_neg (fun q => (ad.mp q).1 z)]; exact Agree.same hR
  rw [if_neg z]
  by_cases y3 : f_X7_areDrops vc c = true
  rotate_left
  · rw [if_neg y3, if_neg (fun q => y3 (ad.mp q).2)]; exact Agree.same hR
  rw [if_pos y3, if_pos (ad.mpr ⟨z, y3⟩)]
  obtain ⟨s, hs, rfl⟩ := isStain_s hE.2.2.2.2.1 y1
  obtain ⟨n, hn, rfl⟩ := (isLaw_m hE.2.1).mp y2
  have hd12 := hE.2.2.2.1.1.1
  obtain ⟨va, s1, s2, s3⟩ := aside_go hE hS hL
  obtain ⟨r, wc, wm, e1, e2, e3, e4, e5⟩ := saved_lp (x := x) (set := c) hn hs nd 0 20000 20000 (-1) 0 vc va (by omega) (by omega) (by omega) s2
  rw [show f_X7_saved_42 20000 vc (nI s) (nI n) c x (-1) 0 0 = _ from e1, s1, Option.bind_some, show f_X8_saved_39 20000 va (nI s) (nI n) c x (-1) 0 0 = _ from e2]
  exact work_end e3 e4 ((aside_cm s3).tr (twk_cm e5))
