/-! TEXTS: units and conditions, one within another -/
theorem AL.dp0 {q : Qy} {a l c dp : Nat} {vc vm : rV} (h : AL q a l c (dp + 1) vc vm) : AL q a l c dp vc (rI vm 174 5 (vm.1 174 5 - 1)) := by
  rw [h.2.2.2.1, show nI (dp + 1) - 1 = nI dp from niSub (a := dp + 1) (b := 1) (by omega)]
  exact h.dp
theorem unit_of {q : Qy} {h dp nf mf a1 k e a l c F : Nat} {vc vm : rV} (hd : dp + h = 7) (hh : 1 ≤ h) (ek : a1 + k = dp) (hF : h < F)
    (hUn : dp < 6 → ∀ F e a l c vc vm, h - 1 < F → AL q a l c (dp + 1) vc vm → l + e ≤ a → c + e ≤ a → ∃ (g : Bool) (wc0 : rV), f_X3_readUnit_2 (f_X3_readCondition nf) F vc (nI a1) 0 (nI (k + 1)) = some (g, nadd (k + 1) wc0) ∧ PK q (h - 1) e a 1 l c (dp + 1) (2 * (h - 1) + 3) [] [true] nT kT vc vm (some (g, wc0)) (f_X8_unit mf vm))
    (hCo : dp < 6 → ∀ e a l c vc vm, AL q a l c (dp + 1) vc vm → l + e ≤ a → c + e ≤ a → PK q (h - 1) e a 1 l c (dp + 1) (2 * (h - 1) + 5) [] [true] nT kT vc vm (f_X3_readCondition nf vc (nI (dp + 1)) 0) (f_X8_condition (f_X8_unit mf) vm))
    (hA : AL q a l c dp vc vm) (h1 : l + e ≤ a) (h2 : c + e ≤ a) : ∃ (g : Bool) (wc0 : rV), f_X3_readUnit_2 (f_X3_readCondition nf) F vc (nI a1) 0 (nI k) = some (g, nadd k wc0) ∧ PK q h e a 1 l c dp (2 * h + 3) [] [true] nT kT vc vm (some (g, wc0)) (f_X8_unit (mf + 1) vm) := by
  obtain ⟨F, rfl⟩ : ∃ n', F = n' + 1 := ⟨F - 1, by omega⟩
  obtain ⟨b1, uc, um, n1, n2, hA1, ha, hb, s3, t3⟩ := nb_go hA
  have hl := hA1.l
  have e0 : f_X3_nextByte vc = f_X3_nextByte uc := by rw [n1, nb_st hA1 hb]
  suffices hs : ∃ (g : Bool) (wc0 : rV), f_X3_readUnit_2 (f_X3_readCondition nf) (F + 1) vc (nI a1) 0 (nI k) = some (g, nadd k wc0) ∧ PK q h e b1 1 l c dp (2 * h + 3) [] [true] nT kT uc um (some (g, wc0)) (f_X8_unit (mf + 1) vm) by
    obtain ⟨g, wc0, x1, x2⟩ := hs
    exact ⟨g, wc0, x1, PK.from x2 (s3_sps s3) (t3_tps t3) (by omega) (Nat.le_refl _)⟩
  rw [f_X3_readUnit_2, if_pos rfl, niAdd, f_X8_unit]
  unfold f_X8_unit_B
  rw [n2, Option.bind_some]
  simp only []
  -- what the class does behind the nots
  have c85 : ∀ w, f_X3_nextByte w = f_X3_nextByte uc → f_X3_readUnit_85 (f_X3_readCondition nf) w 0 (nI k) (nI dp) = ((f_X3_readSum 10 uc (nI dp)).bind fun p => if p.1 = true then f_X3_readComparison p.2 (nI dp) else some (false, p.2)).bind fun p => if p.1 = true then f_X3_readUnit_117 (f_X3_readCondition nf) 20000 p.2 (nI k) 1 0 else f_X3_readUnit_117 (f_X3_readCondition nf) 20000 p.2 (nI k) 0 0 := fun w hw => by
    refine Eq.trans ?_ (bind_two (R := f_X3_readCondition nf) (k := nI k) (f_X3_readSum 10 uc (nI dp)) (fun v => f_X3_readComparison v (nI dp)))
    unfold f_X3_readUnit_85 f_X3_readUnit_98 f_X3_readUnit_112 f_X3_readUnit_111 f_X3_readUnit_112 f_X3_readUnit_114
    rw [if_pos rfl, show (10 : Nat) = 9 + 1 from rfl, readSum_eq hw]
  by_cases z33 : bt q b1 = 33
  · have han := bt_lt z33 (by decide)
    rw [if_pos z33]
    by_cases z6 : dp < 6
    · obtain ⟨wm, o1, o2, o3⟩ := opens_go hA1 z6 han
      rw [if_neg (show ¬ (6 : Int32) ≤ nI (k + a1) from nle (a := 6) (by omega) (by omega)), gw_eq e0, gw_y hA1 hb z33, Option.bind_some, o1, Option.bind_some, o2.2.2.1, if_pos rfl, if_pos rfl, vlet_eq, ad1]
      obtain ⟨g, wc0, x1, x2⟩ := hUn z6 F (e + 1) (b1 + 1) l c _ _ (by omega) o2 (by omega) (by omega)
      refine ⟨g, ad5 wc0 (-10), x1, ?_⟩
      rcases x2 with ⟨wc, wm', a', s, k1, k2, k3, k4, k5, k6, k7, k8, k9, k10⟩ | ⟨wc, wm', k1, k2, k3, k4, k5⟩
      · have hl3 := k3.l
        obtain ⟨rfl, rfl⟩ : g = true ∧ wc0 = wc := by
          have := Option.some.inj k1
          exact ⟨congrArg Prod.fst this, congrArg Prod.snd this⟩
        obtain ⟨y1, y2, y3, y4, y5, y6⟩ := cod_go k3 (by omega) (by omega) (9, 0)
        rw [k2, Option.bind_some]
        rw [show f_X8_put wm' 9 0 = _ from y2, Option.bind_some, vlet_eq]
        have t5 : Ch T3 (ptv wm' q.T (c + s.length) (nI 9) (nI 0)) (rI (ptv wm' q.T (c + s.length) (nI 9) (nI 0)) 174 5 ((ptv wm' q.T (c + s.length) (nI 9) (nI 0)).1 174 5 - 1)) := Ch.rf.I ⟨rfl, by omega⟩
        refine Or.inl ⟨_, _, a', s ++ [(9, 0)], rfl, rfl, ?_, trivial, ?_, (k6.mono (show 2 * (h - 1) + 3 ≤ 2 * h + 3 by omega)).seq ty_not, by omega, ?_, (s3_sps (s3_up (b1 + 1))).tr (k9.tr (sps_mono y5 (Nat.le_add_right _ _))), (t3_tps o3).tr ((k10.tr (tps_mono y6 (Nat.le_add_right _ _))).tr (t3_tps t5))⟩
        · rw [List.length_append]
          exact y3.dp0
        · exact SG.app (k5.ch y5 (y6.tr (t3_tps t5)) (Nat.le_refl _) (Nat.le_refl _)) (y4.ch (l' := l + s.length + 1) (c' := c + s.length + 1) Ch.rf (t3_tps t5) (by simp) (by simp))
        · rw [List.length_append, List.length_singleton]
          omega
      · obtain ⟨rfl, rfl⟩ : g = false ∧ wc0 = wc := by
          have := Option.some.inj k1
          exact ⟨congrArg Prod.fst this, congrArg Prod.snd this⟩
        obtain ⟨tm, t1, t2, t3⟩ := k3.puts (by omega) 9 0
        obtain ⟨d1, d2, d3⟩ := t2.ad (-10)
        rw [k2, Option.bind_some, t1, Option.bind_some, vlet_eq]
        have t5 : Ch T3 tm (rI tm 174 5 (tm.1 174 5 - 1)) := Ch.rf.I ⟨rfl, by omega⟩
        refine PK.dead rfl rfl ?_ ((s3_sps (s3_up (b1 + 1))).tr (k4.tr d3)) ((t3_tps o3).tr ((k5.tr t3).tr (t3_tps t5)))
        obtain ⟨ev, ⟨w, w1, w2, w3⟩, hl', ⟨a9, c9, x1, x2, x3, x4⟩⟩ := d2
        exact ⟨ev.ch (l := 0) (c := 0) Ch.rf (t3_tps t5), ⟨w, w1, w2, by rw [rI_no (by omega)]; exact w3⟩, hl', ⟨a9, c9, by rw [rI_no (by omega)]; exact x1, by rw [rI_no (by omega)]; exact x2, x3, by omega⟩⟩
    · obtain ⟨wm, o1, o2, o3⟩ := opens_no (F := h) (e := e) hA1 (by omega) han (show c + e ≤ b1 by omega) (by omega)
      rw [if_pos (show (6 : Int32) ≤ nI (k + a1) from ple (a := 6) (by omega) (by omega)), o1, Option.bind_some, if_neg o2.w]
      obtain ⟨g, wc0, y1, y2⟩ := fin_nots (R := f_X3_readCondition nf) (k := k) (X := some (false, uc)) (g := some wm) (h := h) (e := e) (a := b1) (δ := 1) (l := l) (c := c) (dp := dp) (m := 2 * h + 3) (p := []) (r := [true]) (vc := uc) (vm := um) (q := q) (by omega) (PK.dead rfl rfl o2 Ch.rf (t3_tps o3))
      refine ⟨g, wc0, ?_, y2⟩
      unfold f_X3_readUnit_29
      rw [vlet_eq, if_pos rfl, niAdd, ek, if_pos (show (6 : Int32) ≤ nI dp from ple (a := 6) (by omega) (by omega)), c85 vc e0, show (10 : Nat) = 9 + 1 from rfl, sum_bad hA1 (Or.inl z33)]
      exact y1
  · rw [if_neg z33]
    by_cases z40 : bt q b1 = 40
    · have han := bt_lt z40 (by decide)
      rw [if_pos z40]
      by_cases z6 : dp < 6
      · obtain ⟨wm, o1, o2, o3⟩ := opens_go hA1 z6 han
        rw [if_neg (show ¬ (6 : Int32) ≤ nI (k + a1) from nle (a := 6) (by omega) (by omega)), gw_eq e0, gw_n hA1 hb z33, Option.bind_some, o1, Option.bind_some, o2.2.2.1, if_pos rfl]
        simp only []
        rw [if_neg (by decide)]
        have kx : PK q h e b1 1 l c dp (2 * h + 3) [] [true] nT kT uc um ((f_X3_readCondition nf (rI uc 3 3 (nI (b1 + 1))) (nI (dp + 1)) 0).bind fun p => if p.1 = true then f_X3_goesOnWith p.2 41 else some (false, p.2)) ((f_X8_condition (f_X8_unit mf) wm).bind fun p => f_X8_closes p 41) := by
          refine PK.from (a1 := b1 + 1) (δ := 1) (δ' := 1 + 1) ?_ (s3_sps (s3_up (b1 + 1))) (t3_tps o3) (by omega) (Nat.le_refl _)
          refine PK.bind (e1 := e) (mid := [true]) (((hCo z6 e (b1 + 1) l c _ _ o2 (by omega) (by omega)).ty fun s t => t.mono (show 2 * (h - 1) + 5 ≤ 2 * h + 3 by omega)).cls fun w => f_X3_goesOnWith w 41) (fun wc wm a' l' c' k1 _ k2 k3 k4 k5 k6 => ?_) (fun wc wm k => ?_)
          · have := closes_go (F := h - 1) (e := e) (m := 2 * h + 3) (p := [true]) (x := 41) (by decide) k1 k5 k6
            rw [show h - 1 + 1 = h by omega] at this
            exact this
          · obtain ⟨um, d1, d2, d3⟩ := closes_de (x := 41) k (by omega)
            rw [show h - 1 + 1 = h by omega] at d2
            exact ⟨um, d1, d2, d3⟩
        obtain ⟨g, wc0, y1, y2⟩ := fin_nots (R := f_X3_readCondition nf) (k := k) (by omega) kx
        refine ⟨g, wc0, ?_, ?_⟩
        · rw [← y1]
          refine Eq.trans ?_ (bind_two (R := f_X3_readCondition nf) (k := nI k) (f_X3_readCondition nf (rI uc 3 3 (nI (b1 + 1))) (nI (dp + 1)) 0) (fun v => f_X3_goesOnWith v 41))
          unfold f_X3_readUnit_29 f_X3_readUnit_80 f_X3_readUnit_79 f_X3_readUnit_80 f_X3_readUnit_114
          rw [vlet_eq, if_pos rfl, niAdd, ek, if_neg (show ¬ (6 : Int32) ≤ nI dp from nle (a := 6) (by omega) (by omega)), gw_y hA1 hb z40, Option.bind_some, if_pos rfl, ad1]
        · have e9 : ((f_X8_condition (f_X8_unit mf) wm).bind fun p6 => (f_X8_closes p6 41).bind fun p7 => some p7) = ((f_X8_condition (f_X8_unit mf) wm).bind fun p => f_X8_closes p 41) := by
            congr 1
            funext p
            exact bnd_id _
          rw [e9]
          exact y2
      · obtain ⟨wm, o1, o2, o3⟩ := opens_no (F := h) (e := e) hA1 (by omega) han (show c + e ≤ b1 by omega) (by omega)
        rw [if_pos (show (6 : Int32) ≤ nI (k + a1) from ple (a := 6) (by omega) (by omega)), o1, Option.bind_some, if_neg o2.w]
        obtain ⟨g, wc0, y1, y2⟩ := fin_nots (R := f_X3_readCondition nf) (k := k) (X := some (false, uc)) (g := some wm) (h := h) (e := e) (a := b1) (δ := 1) (l := l) (c := c) (dp := dp) (m := 2 * h + 3) (p := []) (r := [true]) (vc := uc) (vm := um) (q := q) (by omega) (PK.dead rfl rfl o2 Ch.rf (t3_tps o3))
        refine ⟨g, wc0, ?_, y2⟩
        unfold f_X3_readUnit_29
        rw [vlet_eq, if_pos rfl, niAdd, ek, if_pos (show (6 : Int32) ≤ nI dp from ple (a := 6) (by omega) (by omega)), c85 vc e0, show (10 : Nat) = 9 + 1 from rfl, sum_bad hA1 (Or.inr z40)]
        exact y1
    · rw [if_neg z40]
      have kx : PK q h e b1 (1 + 1) l c dp (2 * h + 3) [] [true] nT kT uc um ((f_X3_readSum 10 uc (nI dp)).bind fun p => if p.1 = true then f_X3_readComparison p.2 (nI dp) else some (false, p.2)) ((f_X8_sum 10 um).bind fun p2 => if (p2.1 174 4) = (-1 : Int32) then ((f_X8_compare p2).bind fun p3 => some p3) else (some p2)) := by
        refine PK.bind (e1 := e) (mid := [false]) (((sum_go h hh 10 10 dp e b1 l c _ _ hd (by omega) (by omega) hA1 (by omega) (by omega)).ty fun s t => t.mono (show 2 * h + 2 ≤ 2 * h + 3 by omega)).cls fun w => f_X3_readComparison w (nI dp)) (fun wc wm a' l' c' k1 _ k2 k3 k4 k5 k6 => ?_) (fun wc wm k => ?_)
        · rw [k1.2.2.1, if_pos rfl, bnd_id]
          exact compare_go hh hd k1 k5 k6
        · rw [if_neg k.w]
          exact ⟨wm, rfl, k, Ch.rf⟩
      obtain ⟨g, wc0, y1, y2⟩ := fin_nots (R := f_X3_readCondition nf) (k := k) (by omega) kx
      refine ⟨g, wc0, ?_, PK.from y2 (l := l) (c := c) Ch.rf Ch.rf (by omega) (Nat.le_refl _)⟩
      by_cases z6 : dp < 6
      · rw [if_neg (show ¬ (6 : Int32) ≤ nI (k + a1) from nle (a := 6) (by omega) (by omega)), gw_eq e0, gw_n hA1 hb z33, Option.bind_some]
        simp only []
        rw [if_neg (by decide)]
        unfold f_X3_readUnit_29
        rw [vlet_eq, if_pos rfl, niAdd, ek, if_neg (show ¬ (6 : Int32) ≤ nI dp from nle (a := 6) (by omega) (by omega)), gw_n hA1 hb z40, Option.bind_some]
        simp only []
        rw [if_neg (by decide), c85 uc rfl]
        exact y1
      · rw [if_pos (show (6 : Int32) ≤ nI (k + a1) from ple (a := 6) (by omega) (by omega))]
        unfold f_X3_readUnit_29
        rw [vlet_eq, if_pos rfl, niAdd, ek, if_pos (show (6 : Int32) ≤ nI dp from ple (a := 6) (by omega) (by omega)), c85 vc e0]
        exact y1
/-- units and conditions at every depth -/
theorem unit_cond {q : Qy} : ∀ (h : Nat), 1 ≤ h →
    (∀ nf mf a1 k dp F e a l c vc vm, dp + h = 7 → a1 + k = dp → h ≤ nf + 1 → h ≤ mf → h < F → AL q a l c dp vc vm → l + e ≤ a → c + e ≤ a → ∃ (g : Bool) (wc0 : rV), f_X3_readUnit_2 (f_X3_readCondition nf) F vc (nI a1) 0 (nI k) = some (g, nadd k wc0) ∧ PK q h e a 1 l c dp (2 * h + 3) [] [true] nT kT vc vm (some (g, wc0)) (f_X8_unit mf vm)) ∧
    (∀ nf mf dp e a l c vc vm, dp + h = 7 → h ≤ nf → h ≤ mf → AL q a l c dp vc vm → l + e ≤ a → c + e ≤ a → PK q h e a 1 l c dp (2 * h + 5) [] [true] nT kT vc vm (f_X3_readCondition nf vc (nI dp) 0) (f_X8_condition (f_X8_unit mf) vm)) := by
  intro h
  induction h with
  | zero => intro h1; omega
  | succ h ih =>
    intro _
    have U : ∀ nf mf a1 k dp F e a l c vc vm, dp + (h + 1) = 7 → a1 + k = dp → h + 1 ≤ nf + 1 → h + 1 ≤ mf → h + 1 < F → AL q a l c dp vc vm → l + e ≤ a → c + e ≤ a → ∃ (g : Bool) (wc0 : rV), f_X3_readUnit_2 (f_X3_readCondition nf) F vc (nI a1) 0 (nI k) = some (g, nadd k wc0) ∧ PK q (h + 1) e a 1 l c dp (2 * (h + 1) + 3) [] [true] nT kT vc vm (some (g, wc0)) (f_X8_unit mf vm) := fun nf mf a1 k dp F e a l c vc vm hd ek hn hm hF hA h1 h2 => by
      obtain ⟨mf, rfl⟩ : ∃ n', mf = n' + 1 := ⟨mf - 1, by omega⟩
      refine unit_of (nf := nf) hd (by omega) ek hF (fun z6 F e a l c vc vm r1 r2 r3 r4 => ?_) (fun z6 e a l c vc vm r2 r3 r4 => ?_) hA h1 h2
      · rw [show h + 1 - 1 = h by omega] at r1 ⊢
        exact (ih (by omega)).1 nf mf a1 (k + 1) (dp + 1) F e a l c vc vm (by omega) (by omega) (by omega) (by omega) r1 r2 r3 r4
      · rw [show h + 1 - 1 = h by omega]
        exact (ih (by omega)).2 nf mf (dp + 1) e a l c vc vm (by omega) (by omega) (by omega) r2 r3 r4
    refine ⟨U, fun nf mf dp e a l c vc vm hd hn hm hA h1 h2 => ?_⟩
    obtain ⟨nf, rfl⟩ : ∃ n', nf = n' + 1 := ⟨nf - 1, by omega⟩
    have hU : ∀ e a l c vc vm, AL q a l c dp vc vm → l + e ≤ a → c + e ≤ a → PK q (h + 1) e a 1 l c dp (2 * (h + 1) + 3) [] [true] nT kT vc vm (f_X3_readUnit (f_X3_readCondition nf) vc (nI dp) 0) (f_X8_unit mf vm) := fun e a l c vc vm k1 k2 k3 => by
      obtain ⟨g, wc0, x1, x2⟩ := U nf mf dp 0 dp 20000 e a l c vc vm hd (by omega) (by omega) hm (by omega) k1 k2 k3
      unfold f_X3_readUnit
      rw [show f_X3_readUnit_2 (f_X3_readCondition nf) 20000 vc (nI dp) 0 0 = _ from x1]
      exact x2
    exact cond_of (by omega) hU hA h1 h2
theorem unit_U {q : Qy} {nf mf dp h : Nat} (hh : 1 ≤ h) (hd : dp + h = 7) (hn : h ≤ nf + 1) (hm : h ≤ mf) : ∀ e a l c vc vm, AL q a l c dp vc vm → l + e ≤ a → c + e ≤ a → PK q h e a 1 l c dp (2 * h + 3) [] [true] nT kT vc vm (f_X3_readUnit (f_X3_readCondition nf) vc (nI dp) 0) (f_X8_unit mf vm) := fun e a l c vc vm k1 k2 k3 => by
  obtain ⟨g, wc0, x1, x2⟩ := (unit_cond h hh).1 nf mf dp 0 dp 20000 e a l c vc vm hd (by omega) hn hm (by omega) k1 k2 k3
  unfold f_X3_readUnit
  rw [show f_X3_readUnit_2 (f_X3_readCondition nf) 20000 vc (nI dp) 0 0 = _ from x1]
  exact x2
