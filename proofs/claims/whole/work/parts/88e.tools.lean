/-! ALONE, AGAIN: gathered once, laid many times -/
def PM1 (vm : rV) (d : Nat) : Prop := vm.1 174 34 = nI 1 ∧ vm.1 190 0 = nI (tv vm d 0) ∧ vm.1 191 0 = nI (tv vm d 1) ∧ vm.1 192 0 = nI d
theorem PM1.ch {T : Nat → Nat → Prop} {vm wm : rV} {d : Nat} (h : PM1 vm d) (hm : Ch T vm wm) (t1 : ¬ T 174 34) (t2 : ∀ k, 190 ≤ k → k ≤ 192 → ¬ T k 0) (t3 : ∀ j, ¬ T 185 j) : PM1 wm d := by
  obtain ⟨a, b, c, e⟩ := h
  unfold PM1 tv
  rw [hm.1 _ _ t1, hm.1 _ _ (t2 190 (by omega) (by omega)), hm.1 _ _ (t2 191 (by omega) (by omega)), hm.1 _ _ (t2 192 (by omega) (by omega)), hm.1 _ _ (t3 _), hm.1 _ _ (t3 _)]
  exact ⟨a, b, c, e⟩
theorem gath1 {nl nw nd p tb d : Nat} {vc vm : rV} (h : Wk nl nw nd p tb vc vm) (hd : d < nd) : ∃ (b : Bool) (vg : rV), f_X8_gather vm ((1 : Int32) <<< (nI d &&& 31)) = some (b, vg) ∧ PM1 vg d ∧ Wk nl nw nd p tb vc vg ∧ Ch Tad vm vg := by
  obtain ⟨hE, hI, hL⟩ := h
  obtain ⟨b, vg, g1, -, g3, g4⟩ := gather_go (set := (1 : Int32) <<< (nI d &&& 31)) hE.2.2.2.1.1
  rw [blist_1 hE.2.2.2.1.1 hd] at g3
  have hW2 : Wk nl nw nd p tb vc vg := Wk.ch ⟨hE, hI, hL⟩ Ch.rf (tad_twk g4) hE.2.2.2.2.2.2.2.1
  have etv := tad_tv g4
  obtain ⟨p1, p2, p3⟩ := g3
  obtain ⟨y1, y2, y3⟩ := p3 0 (pz vm d) rfl
  refine ⟨b, vg, g1, ⟨p1, ?_, ?_, y3⟩, hW2, g4⟩
  · rw [etv]; exact y1
  · rw [etv]; exact y2
theorem piece_go {nl nw nd p tb n d a : Nat} {x : Int64} {vc vm : rV} (h : Wk nl nw nd p tb vc vm) (hP : PM1 vm d) (hn : n < nl) (hd : d < nd) (ha : a ≤ 200) :
    ∃ (i : Nat) (w1 w2 wc wm : rV), f_X7_tryAlone vc (nI n) (38 + d) x (nI a) = some wc ∧ f_X8_begin vm (nI n) x = some w2 ∧ f_X8_run w2 (nI a) = some (nI i, wm) ∧ f_X7_lay vc (nI n) (38 + d) x = some w1 ∧ f_X5_goOn w1 98 (nI a) (w1.1 0 15) = some (nI i, wc) ∧ i ≤ a ∧ ST nd 98 a wc wm ∧ Wk nl nw nd p tb wc wm ∧ PM1 wm d ∧ Ch Sal vc wc ∧ Ch Tal vm wm := by
  have hE2 := h.1
  have hD := hE2.2.2.2.1.1
  have hC := hE2.2.2.2.1.2.1
  have hN := hD.1
  have hT := (hD.2.2 d hd).1
  have hx := hD.x hd
  obtain ⟨ρ, hρ⟩ := hE2.2.2.2.2.2.2.2.1
  obtain ⟨z, h1, h2, h3, h4, h5⟩ : ∃ z : Pz, z.1 = tv vm d 0 ∧ z.2.1 = tv vm d 1 ∧ z.2.2.1 = 38 + d ∧ z.2.2.2.1 = 0 ∧ z.2.2.2.2 = d := ⟨(tv vm d 0, tv vm d 1, 38 + d, 0, d), rfl, rfl, rfl, rfl, rfl⟩
  have hPD : PD 98 vc vm z := by
    unfold PD
    rw [h1, h2, h3, h4, h5]
    exact ⟨⟨by omega, fun j hj => hC.2 d hd j hj⟩, hT, ⟨by omega, hx.2.1, hx.2.2, by omega⟩, (tv_eq hT (j := 1) (by omega)).1⟩
  have hX : vc.1 z.2.2.1 0 = nI z.1 := by
    rw [h3, h1, hC.2 d hd 0 (by omega)]
    exact (tv_eq hT (j := 0) (by omega)).1
  have hPM : PM vm [z] := by
    obtain ⟨p1, p2, p3, p4⟩ := hP
    refine ⟨p1, by simp, fun k q hq => ?_⟩
    cases k with
    | zero =>
      simp only [List.getElem?_cons_zero, Option.some.injEq] at hq
      rw [← hq, h1, h2, h5]
      exact ⟨p2, p3, p4⟩
    | succ k => simp at hq
  obtain ⟨i, w1, w2, wc, wm, e1, e2, e3, e9, e10, e4, e5, e6, e7, e8⟩ := alone_go (M := nd) (x := x) (p := z) (a := a) hρ hPD h4 hX ⟨by omega, by omega⟩ hPM hn hE2.2.1 hE2.2.2.2.2.2.1 ha
  rw [h3] at e1 e9
  exact ⟨i, w1, w2, wc, wm, e1, e2, e3, e9, e10, e4, e5, h.ch (sal_swk e7) (tal_twk e8) e5.rf, hP.ch e8 (by unfold Tal; omega) (fun k h1 h2 => by unfold Tal; omega) (fun j => by unfold Tal; omega), e7, e8⟩
theorem tal_tad_twk {u v w : rV} (h : Ch Tad u v) (g : Ch Tal v w) : Ch Twk u w := (tad_twk h).tr (tal_twk g)
/-- how far off -/
def ab (y : Int32) : Int32 := if 0 ≤ y then y else 0 - y
theorem ab_sw {a b : Int32} (h1 : 0 ≤ a.toInt ∧ a.toInt ≤ 100000) (h2 : 0 ≤ b.toInt ∧ b.toInt ≤ 100000) : ab (a - b) = ab (b - a) := by
  have e1 : (a - b).toInt = a.toInt - b.toInt := sub_toInt (by omega) (by omega)
  have e2 : (b - a).toInt = b.toInt - a.toInt := sub_toInt (by omega) (by omega)
  have o0 : (0 : Int32).toInt = 0 := rfl
  unfold ab
  by_cases p : 0 ≤ a - b
  · rw [if_pos p]
    rw [le_toInt, e1] at p
    by_cases q : 0 ≤ b - a
    · rw [if_pos q]
      rw [le_toInt, e2] at q
      rw [eq_toInt, e1, e2]
      omega
    · rw [if_neg q]
      have e3 : (0 - (b - a)).toInt = (0 : Int32).toInt - (b - a).toInt := sub_toInt (by omega) (by omega)
      rw [eq_toInt, e1, e3, e2]
      omega
  · rw [if_neg p]
    rw [le_toInt, e1] at p
    have e3 : (0 - (a - b)).toInt = (0 : Int32).toInt - (a - b).toInt := sub_toInt (by omega) (by omega)
    rw [if_pos (show 0 ≤ b - a by rw [le_toInt, e2]; omega), eq_toInt, e3, e1, e2]
    omega
theorem off_c {B k : Nat} {vc vm : rV} (h : RLl B vc vm) : ∀ (d c n : Nat) (x : Int32), c + d = 24 → d < n → f_X5_offFrom_4 vc n B k x (nI c) = some (x + sI (fun i => ab (la vm i - vc.1 k i)) c d) := by
  intro d
  induction d with
  | zero =>
    intro c n x e hn
    obtain ⟨n, rfl⟩ : ∃ n', n = n' + 1 := ⟨n - 1, by omega⟩
    rw [f_X5_offFrom_4, if_pos (show (24 : Int32) ≤ nI c from ple (a := 24) (by omega) (by omega)), sI, Int32.add_zero]
  | succ d ih =>
    intro c n x e hn
    obtain ⟨n, rfl⟩ : ∃ n', n = n' + 1 := ⟨n - 1, by omega⟩
    have g : ¬ (24 : Int32) ≤ nI c := nle (a := 24) (by omega) (by omega)
    rw [f_X5_offFrom_4, if_neg g, if_neg g, laid_eq h, laid_at (by omega), Option.bind_some, if_pos (gin (show c < 24 by omega) (by omega)), niCl (by omega), vlet_eq, vlet_eq, ad1, ih (c + 1) n _ (by omega) (by omega)]
    simp only [sI]
    rw [← Int32.add_assoc]
    rfl
theorem off_eq {B k : Nat} {vc vm : rV} (h : RLl B vc vm) : f_X5_offFrom vc B k = some (sI (fun i => ab (la vm i - vc.1 k i)) 0 24) := by
  unfold f_X5_offFrom
  have := off_c (k := k) h 24 0 20000 0 (by omega) (by omega)
  rw [Int32.zero_add] at this
  exact this
/-- the model notes what lies in its row 196 -/
theorem la_ch {S : Nat → Nat → Prop} {v w : rV} (h : Ch S v w) (q : ∀ j, ¬ S 187 j) : la w = la v := by
  funext i
  unfold la
  rw [h.1 _ _ (q _), h.1 _ _ (q _)]
theorem ST.rl {M B tb : Nat} {vc vm : rV} (h : ST M B tb vc vm) : RLl B vc vm := by
  obtain ⟨t, S0, S1, -, ⟨F, R8, R9, -⟩, -⟩ := h.parts
  exact ⟨R8, R9⟩
theorem ST.la {M B tb : Nat} {vc vm : rV} (h : ST M B tb vc vm) : ∀ c, c < 24 → 0 ≤ (la vm c).toInt ∧ (la vm c).toInt ≤ 24000 := by
  obtain ⟨t, S0, S1, ⟨s0, s1, -⟩, -, ⟨hAA, -⟩, -⟩ := h.parts
  exact fun c hc => la_nn s0 s1 hAA hc
theorem wl_m {a2 a6 : Int32} {a4 : Int64} : ∀ (d c n : Nat) (vm : rV), c + d = 24 → d < n → ∃ wm, f_X8_partsOf_20 n vm a2 a4 a6 (nI c) = ((f_X8_tryOut wm a2 a4 a6).bind fun p3 => f_X8_partsOf_61 20000 p3 0 0) ∧ Ch (fun k j => k = 196 ∧ j < 24) vm wm ∧ (∀ i, c ≤ i → i < 24 → wm.1 196 i = la vm i) ∧ (∀ i, i < c → wm.1 196 i = vm.1 196 i) := by
  intro d
  induction d with
  | zero =>
    intro c n vm e hn
    obtain ⟨n, rfl⟩ : ∃ n', n = n' + 1 := ⟨n - 1, by omega⟩
    rw [f_X8_partsOf_20, if_pos (show (24 : Int32) ≤ nI c from ple (a := 24) (by omega) (by omega))]
    exact ⟨vm, rfl, Ch.rf, fun i h1 h2 => by omega, fun i _ => rfl⟩
  | succ d ih =>
    intro c n vm e hn
    obtain ⟨n, rfl⟩ : ∃ n', n = n' + 1 := ⟨n - 1, by omega⟩
    have g : ¬ (24 : Int32) ≤ nI c := nle (a := 24) (by omega) (by omega)
    rw [f_X8_partsOf_20, if_neg g, laid_at (by omega), Option.bind_some, if_pos (gin (show c < 24 by omega) (by omega)), niCl (by omega), vlet_eq, vlet_eq, ad1]
    have hm : Ch (fun k j => k = 196 ∧ j < 24) vm (rI vm 196 c (la vm c)) := Ch.rf.I ⟨rfl, by omega⟩
    obtain ⟨wm, e1, e2, e3, e4⟩ := ih (c + 1) n (rI vm 196 c (la vm c)) (by omega) (by omega)
    rw [la_ch hm (fun j => by omega)] at e3
    refine ⟨wm, e1, hm.tr e2, fun i h1 h2 => ?_, fun i hi => by rw [e4 i (by omega), rI_no (by omega)]⟩
    by_cases q : i = c
    · rw [q, e4 c (by omega), rI_at]
    · exact e3 i (by omega) h2
theorem off_m {vm : rV} : ∀ (d c n : Nat) (x : Int32), c + d = 24 → d < n → f_X8_partsOf_61 n vm x (nI c) = some (x + sI (fun i => ab (vm.1 196 i - la vm i)) c d, vm) := by
  intro d
  induction d with
  | zero =>
    intro c n x e hn
    obtain ⟨n, rfl⟩ : ∃ n', n = n' + 1 := ⟨n - 1, by omega⟩
    rw [f_X8_partsOf_61, if_pos (show (24 : Int32) ≤ nI c from ple (a := 24) (by omega) (by omega)), sI, Int32.add_zero]
  | succ d ih =>
    intro c n x e hn
    obtain ⟨n, rfl⟩ : ∃ n', n = n' + 1 := ⟨n - 1, by omega⟩
    have g : ¬ (24 : Int32) ≤ nI c := nle (a := 24) (by omega) (by omega)
    rw [f_X8_partsOf_61, if_neg g, if_pos (gin (show c < 24 by omega) (by omega)), laid_at (by omega), Option.bind_some, niCl (by omega), vlet_eq, vlet_eq, ad1, ih (c + 1) n _ (by omega) (by omega)]
    simp only [sI]
    rw [← Int32.add_assoc]
    rfl
/-- the class notes it in its row 59, the model in its row 196 -/
theorem note_c {nl nw nd p tb b : Nat} {vc vm : rV} (h : Wk nl nw nd p tb vc vm) (hS : ST nd 98 b vc vm) : ∃ wc, f_X5_writeLying vc 98 59 = some wc ∧ Wk nl nw nd p tb wc vm ∧ ST nd 98 b wc vm ∧ Ch Swk vc wc ∧ (∀ i, i < 24 → wc.1 59 i = la vm i) := by
  obtain ⟨wc, a1, a2, a3, a4⟩ := wl_c (k := 59) (by omega) 24 0 20000 vc vm (by omega) (by omega) hS
  have c : Ch Swk vc wc := a2.mono fun k j q => Or.inr (Or.inr (Or.inl q.1))
  have hS2 : ST nd 98 b wc vm := hS.ext a2 (fun k j h1 h2 q => by omega) (fun _ _ => rfl) rfl (fun _ _ => rfl)
  exact ⟨wc, a1, h.ch c Ch.rf hS2.rf, hS2, c, fun i hi => a3 i (by omega) hi⟩
theorem Wk.m196 {nl nw nd p tb : Nat} {vc vm wm : rV} (h : Wk nl nw nd p tb vc vm) (hm : Ch (fun k j => k = 196 ∧ j < 24) vm wm) : Wk nl nw nd p tb vc wm := h.ch Ch.rf (hm.mono fun k j q => by unfold Twk; omega) h.1.2.2.2.2.2.2.2.1
theorem partsBy_go {nl nw nd p tb n m d k : Nat} {x : Int64} {vc vm : rV} (h : Wk nl nw nd p tb vc vm) (hn : n < nl) (hm : m < nl) (hd : d < nd) (hk : k ≤ 60) :
    ∃ (r : Int32) (wc wm : rV), f_X7_partsBy vc (nI n) (nI m) (nI d) x (nI k) = some (r, wc) ∧ f_X8_partsOf vm (nI n) (nI m) (nI d) x (nI k) = some (r, wm) ∧ Wk nl nw nd p tb wc wm ∧ Ch Swk vc wc ∧ Ch Twk vm wm := by
  have hd12 := h.1.2.2.2.1.1.1
  obtain ⟨b, vg, g1, g2, g3, g4⟩ := gath1 h hd
  obtain ⟨i, w1, w2, uc, um, e1, e2, e3, -, -, -, e5, e6, e7, e8, e9⟩ := piece_go (x := x) (a := k) g3 g2 hn hd (by omega)
  obtain ⟨tc, t1, t2, t3, t4, t5⟩ := note_c e6 e5
  obtain ⟨tm, s1, s2, s3, -⟩ := wl_m (a2 := nI m) (a6 := nI k) (a4 := x) 24 0 20000 um (by omega) (by omega)
  have t6 := t2.m196 s2
  obtain ⟨i', w1', w2', wc, wm, f1, f2, f3, -, -, -, f5, f6, f7, f8, f9⟩ := piece_go (x := x) (a := k) (n := m) t6 (e7.ch s2 (by omega) (fun k _ _ => by omega) (fun j => by omega)) hm hd (by omega)
  have z59 : ∀ i, i < 24 → wc.1 59 i = wm.1 196 i := fun i hi => by
    rw [f9.1 _ _ (by unfold Tal; omega), s3 i (by omega) hi, ← t5 i hi]
    exact f8.1 _ _ (sal_no (by omega) (by omega))
  refine ⟨sI (fun i => ab (la wm i - wc.1 59 i)) 0 24, wc, wm, ?_, ?_, f6, ((sal_swk e8).tr t4).tr (sal_swk f8), ((tal_tad_twk g4 e9).tr (s2.mono fun k j q => by unfold Twk; omega)).tr (tal_twk f9)⟩
  · unfold f_X7_partsBy
    rw [if_pos (gin (show d < 12 by omega) (by omega)), niCl (by omega), e1, Option.bind_some, t1, Option.bind_some, f1, Option.bind_some, off_eq f5.rl, Option.bind_some]
  · unfold f_X8_partsOf f_X8_tryOut
    rw [g1, Option.bind_some]
    simp only []
    rw [e2, Option.bind_some, e3, Option.bind_some, Option.bind_some]
    rw [show f_X8_partsOf_20 20000 um (nI m) x (nI k) 0 = _ from s1]
    unfold f_X8_tryOut
    rw [f2, Option.bind_some, f3, Option.bind_some, Option.bind_some]
    have := off_m (vm := wm) 24 0 20000 0 (by omega) (by omega)
    rw [Int32.zero_add] at this
    rw [show f_X8_partsOf_61 20000 wm 0 0 = _ from this]
    refine congrArg (fun r => some (r, wm)) (sI_ext fun i _ hi => ?_)
    have h1 := t3.la i (by omega)
    rw [z59 i (by omega)]
    refine (ab_sw ?_ ?_).symm
    · have := f5.la i (by omega); omega
    · rw [f9.1 _ _ (by unfold Tal; omega), s3 i (by omega) (by omega)]
      have := e5.la i (by omega); omega
