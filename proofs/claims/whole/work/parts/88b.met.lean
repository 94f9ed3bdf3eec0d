/-! MET -/
theorem ST.ext3 {S : Nat → Nat → Prop} {M B tb : Nat} {vc vm wc wm : rV} (h : ST M B tb vc vm) (hc : Ch S vc wc) (s1 : ∀ k j, B ≤ k → k ≤ B + 37 → k ≠ B + 3 → ¬ S k j) (m1 : ∀ j, j < 416 → wm.1 187 j = vm.1 187 j) (m2 : wm.2.1 174 27 = vm.2.1 174 27) (m3 : ∀ j, j < 12 * M → wm.1 185 j = vm.1 185 j) : ST M B tb wc wm := by
  obtain ⟨ρ, L, t, S0, S1, a, ⟨hR, hl, hρ, hC, hA, hO⟩, ⟨n1, n2, hM⟩, ⟨F, R8, R9, R10, R11, R1⟩, ⟨hAA, hrow⟩, ⟨u1, u2, u3, u4, u5, u6, u7⟩, ⟨b1, b2, b3⟩⟩ := h
  have rr : ∀ (k o n : Nat), k ≤ 37 ∧ k ≠ 3 → o + n ≤ 416 → Rw vc (B + k) vm 187 o n → Rw wc (B + k) wm 187 o n := fun k o n hk ho r c hc9 => by
    rw [hc.1 _ _ (s1 _ _ (by omega) (by omega) (by omega)), m1 _ (by omega)]
    exact r c hc9
  have bt : ∀ j o, o + 24 ≤ 416 → BT (vc.1 B j) vm o → BT (wc.1 B j) wm o := fun j o ho r c hc9 => by rw [hc.1 _ _ (s1 _ _ (Nat.le_refl _) (by omega) (by omega)), m1 _ (by omega)]; exact r c hc9
  refine ⟨ρ, L, t, S0, S1, a, ⟨hR.ch hc fun i _ => s1 _ _ (by omega) (by omega) (by omega), hl, hρ, fun e he => ?_, hA, hO⟩, ⟨by rw [hc.1 _ _ (s1 _ _ (Nat.le_refl _) (by omega) (by omega))]; exact n1, by rw [m1 _ (by omega)]; exact n2, fun s e he => ?_⟩, ⟨⟨rr 5 24 24 (by omega) (by omega) F.1, rr 6 48 24 (by omega) (by omega) F.2⟩, rr 8 72 24 (by omega) (by omega) R8, rr 9 96 24 (by omega) (by omega) R9, rr 10 144 24 (by omega) (by omega) R10, rr 11 168 24 (by omega) (by omega) R11, rr 1 0 24 (by omega) (by omega) R1⟩, ⟨?_, fun c hc9 => by rw [m1 (120 + c) (by omega), m1 (144 + c) (by omega), m1 (72 + c) (by omega), m1 (96 + c) (by omega)]; exact hrow c hc9⟩, ⟨?_, ?_, ?_, ?_, ?_, ?_, ?_⟩, ⟨bt 11 216 (by omega) b1, bt 12 192 (by omega) b2, fun s z1 z2 => by rw [hc.1 _ _ (s1 _ _ (by omega) (by omega) (by omega)), m1 _ (by omega)]; exact b3 s z1 z2⟩⟩
  · obtain ⟨⟨x1, x2⟩, ⟨o1, o2, o3, q, o4, o5⟩, hm, htd, har, hA9⟩ := hC e he
    have hO9 := hO e he
    refine ⟨⟨by rw [hc.1 _ _ (s1 _ _ (by omega) (by omega) (by omega))]; exact x1, by rw [hc.1 _ _ (s1 _ _ (by omega) (by omega) (by omega))]; exact x2⟩, ⟨o1, o2, o3, q, o4, o5⟩, fun j z1 z2 => by rw [hc.1 _ _ (s1 _ _ (by omega) (by omega) (by omega)), m3 _ (by omega)]; exact hm j z1 z2, fun j hj => by rw [m3 _ (by omega)]; exact htd j hj, har.eq fun c z1 z2 => m1 _ (by omega), hA9⟩
  · have hs : s < 12 := by have := (List.getElem?_eq_some_iff.mp he).1; omega
    obtain ⟨o1, o2, o3, q, o4, o5⟩ := (hC e (List.mem_of_getElem? he)).2.1
    obtain ⟨y1, y2, y3, y4⟩ := hM s e he
    exact ⟨by rw [m1 _ (by omega)]; exact y1, by rw [m1 _ (by omega)]; exact y2, by rw [m1 _ (by omega)]; exact y3, by rw [hc.1 _ _ (s1 _ _ (by omega) (by omega) (by omega)), m1 _ (by omega)]; exact y4⟩
  · obtain ⟨T0, U0, T1, U1, a0, u0, a1, u1, t0, t1⟩ := hAA
    exact ⟨T0, U0, T1, U1, a0.eq fun c _ => m1 _ (by omega), u0.eq fun c _ => m1 _ (by omega), a1.eq fun c _ => m1 _ (by omega), u1.eq fun c _ => m1 _ (by omega), t0, t1⟩
  · rw [hc.1 _ _ (s1 _ _ (Nat.le_refl _) (by omega) (by omega))]; exact u1
  · rw [m1 _ (by omega)]; exact u2
  · rw [hc.1 _ _ (s1 _ _ (Nat.le_refl _) (by omega) (by omega)), m1 _ (by omega)]; exact u3
  · rw [hc.1 _ _ (s1 _ _ (Nat.le_refl _) (by omega) (by omega)), m1 _ (by omega)]; exact u4
  · rw [hc.1 _ _ (s1 _ _ (Nat.le_refl _) (by omega) (by omega)), m1 _ (by omega)]; exact u5
  · rw [hc.1 _ _ (s1 _ _ (Nat.le_refl _) (by omega) (by omega)), m1 _ (by omega)]; exact u6
  · rw [hc.2.1 _ _ (s1 _ _ (Nat.le_refl _) (by omega) (by omega)), m2]; exact u7
theorem wants_go {M B tb : Nat} (hB : isStrip B = true) : ∀ (d i n m : Nat) (vc vm : rV) (a1 : Int32), i + d = 6 → d < n → d < m → ST M B tb vc vm → (∀ j, j < i → vc.1 (B + 3) j = vm.1 183 j) →
    ∃ wc wm, f_X5_tellWants_2 n vc B (nI i) = some wc ∧ f_X8_isMet_2 m vm a1 (nI i) = f_X8_isMet_2 (m - d) wm a1 6 ∧ ST M B tb wc wm ∧ (∀ j, j < 6 → wc.1 (B + 3) j = wm.1 183 j) ∧ Ch (fun k j => k = B + 3 ∧ j < 7) vc wc ∧ Ch (fun k j => k = 183 ∧ j < 7) vm wm := by
  intro d
  induction d with
  | zero =>
    intro i n m vc vm a1 e hn hm hS hr
    obtain ⟨n, rfl⟩ : ∃ n', n = n' + 1 := ⟨n - 1, by omega⟩
    have : i = 6 := by omega
    subst this
    rw [f_X5_tellWants_2, if_pos (show (6 : Int32) ≤ nI 6 from ple (a := 6) (by omega) (by omega))]
    exact ⟨vc, vm, rfl, rfl, hS, hr, Ch.rf, Ch.rf⟩
  | succ d ih =>
    intro i n m vc vm a1 e hn hm hS hr
    obtain ⟨n, rfl⟩ : ∃ n', n = n' + 1 := ⟨n - 1, by omega⟩
    obtain ⟨m, rfl⟩ : ∃ m', m = m' + 1 := ⟨m - 1, by omega⟩
    have g : ¬ (6 : Int32) ≤ nI i := nle (a := 6) (by omega) (by omega)
    obtain ⟨r, t1, t2⟩ := tell_go hS (nI i)
    rw [f_X5_tellWants_2, f_X8_isMet_2, if_neg g, if_neg g, if_neg (show ¬ (7 : Int32) ≤ nI i from nle (a := 7) (by omega) (by omega)), t1, t2, Option.bind_some, Option.bind_some, if_pos (gin (show i < 7 by omega) (by omega)), if_pos (gin (show i < 7 by omega) (by omega)), niCl (by omega)]
    rw [vlet_eq, vlet_eq, vlet_eq, vlet_eq, ad1]
    have hc : Ch (fun k j => k = B + 3 ∧ j < 7) vc (rI vc (B + 3) i r) := Ch.rf.I ⟨rfl, by omega⟩
    have hm' : Ch (fun k j => k = 183 ∧ j < 7) vm (rI vm 183 i r) := Ch.rf.I ⟨rfl, by omega⟩
    obtain ⟨wc, wm, g1, g2, g3, g4, g5, g6⟩ := ih (i + 1) n m (rI vc (B + 3) i r) (rI vm 183 i r) a1 (by omega) (by omega) (by omega) (hS.ext3 hc (fun k j h1 h2 h3 q => h3 q.1) (fun j _ => hm'.1 _ _ (by omega)) (hm'.2.1 _ _ (by omega)) (fun j _ => hm'.1 _ _ (by omega))) (fun j hj => by
      rw [rI_1, rI_1]
      by_cases q : j = i
      · rw [if_pos ⟨rfl, q⟩, if_pos ⟨rfl, q⟩]
      · rw [if_neg (fun z => q z.2), if_neg (fun z => q z.2)]
        exact hr j (by omega))
    exact ⟨wc, wm, g1, by rw [g2, show m + 1 - (d + 1) = m - d by omega], g3, g4, hc.tr g5, hm'.tr g6⟩
theorem isMet_go {M B tb nw w : Nat} {vc vm : rV} (hB : isStrip B = true) (hS : ST M B tb vc vm) (hW : Rwn nw vc vm) (hw : w < nw) :
    ∃ (b : Bool) (wc wm : rV), f_X7_isMetBy vc B (nI w) = some (b, wc) ∧ f_X8_isMet vm (nI w) = some (b, wm) ∧ ST M B tb wc wm ∧ Ch (fun k j => (k = B + 3 ∧ j < 7) ∨ (k = 27 + 3 * w ∧ j < 1000)) vc wc ∧ Ch (fun k j => (k = 183 ∧ j < 7) ∨ (k = 184 ∧ j < 1000)) vm wm := by
  have hB60 := is_mem (p := fun k => k = 60 ∨ k = 98 ∨ k = 136) hB (by decide)
  have w4 := hW.1
  obtain ⟨wc, wm, g1, g2, g3, g4, g5, g6⟩ := wants_go hB 6 0 20000 20000 vc vm (nI w) (by omega) (by omega) (by omega) hS (fun j hj => by omega)
  have hW' := hW.ch g5 g6 (by omega) (fun n j hn => ⟨by omega, by omega⟩) (by omega) (fun k j h1 h2 h3 => by omega)
  obtain ⟨r, uc, um, k1, k2, k3, k4⟩ := hW'.2.2.2 w hw wc wm (B + 3) (fun _ => rfl) rfl (fun _ _ _ => ⟨rfl, rfl⟩) rfl g4 (by omega)
  have fm : ∀ n, n < 4 → isForm (25 + 3 * n) = true := by decide
  have at1 : f_X4_at wc 23 (nI w) = some (25 + 3 * w) := by
    unfold f_X4_at f_X4_has
    rw [hW'.2.1, if_neg (niGe (by omega)), if_neg (nle (by omega) (by omega)), if_neg (show ¬ (4 : Int32) ≤ nI w from nle (a := 4) (by omega) (by omega)), if_pos rfl, if_pos (gin (show w < 4 by omega) (by omega)), niCl (by omega)]
  obtain ⟨m, em⟩ : ∃ m, 20000 - 6 = m + 1 := ⟨20000 - 7, rfl⟩
  unfold f_X7_isMetBy f_X5_tellWants f_X8_isMet
  rw [show f_X5_tellWants_2 20000 vc B 0 = _ from g1, Option.bind_some, at1, Option.bind_some, if_pos (fm w (by omega)), k1, Option.bind_some, show f_X8_isMet_2 20000 vm (nI w) 0 = _ from g2, em, f_X8_isMet_2, if_pos (show (6 : Int32) ≤ 6 by decide), show (4 : Int32) + nI w = nI (4 + w) from niAdd 4 w, vlet_eq, if_pos (gin (show 4 + w < 9 by omega) (by omega)), niCl (show 4 + w < 2147483648 by omega), k2, Option.bind_some]
  have hc : Ch (fun k j => (k = B + 3 ∧ j < 7) ∨ (k = 27 + 3 * w ∧ j < 1000)) vc uc := (g5.mono fun k j q => Or.inl q).tr (k3.mono fun k j q => Or.inr (by omega))
  have hm : Ch (fun k j => (k = 183 ∧ j < 7) ∨ (k = 184 ∧ j < 1000)) vm um := (g6.mono fun k j q => Or.inl q).tr (k4.mono fun k j q => Or.inr q)
  have hS' : ST M B tb uc um := g3.ext3 k3 (fun k j h1 h2 h3 q => by omega) (fun j _ => k4.1 _ _ (by omega)) (k4.2.1 _ _ (by omega)) (fun j _ => k4.1 _ _ (by omega))
  by_cases z : r = 0
  · simp only [if_pos z]
    exact ⟨_, _, _, rfl, rfl, hS', hc, hm⟩
  · simp only [if_neg z]
    exact ⟨_, _, _, rfl, rfl, hS', hc, hm⟩
theorem met_go {tb : Nat} {vc vm : rV} (h : Rel tb vc vm) (a : Int32) : Agree tb vc vm (f_X7_met vc a) (f_X8_met vm a) := by
  obtain ⟨nl, nw, nd, p, hE, hS, hL⟩ := h
  have hR : Rel tb vc vm := ⟨nl, nw, nd, p, hE, hS, hL⟩
  have hW := hE.2.2.1
  have w4 := hW.1
  unfold f_X7_met f_X8_met
  rw [hW.2.2.1]
  by_cases y : f_X8_in a 0 (nI nw - 1) = true
  · obtain ⟨w, hw, rfl⟩ := (lt_guard (by omega)).mp y
    have hh : f_X4_has vc 23 (nI w) = true := by
      unfold f_X4_has
      rw [hW.2.1, if_neg (niGe (by omega)), if_neg (nle (by omega) (by omega)), if_neg (show ¬ (4 : Int32) ≤ nI w from nle (a := 4) (by omega) (by omega))]
    obtain ⟨b, wc, wm, g1, g2, g3, g4, g5⟩ := isMet_go (by decide) hS hW hw
    rw [if_pos y, if_pos hh, g1, g2, Option.bind_some, Option.bind_some]
    have w4' : w < 4 := by omega
    have hE' : Re nl nw nd p tb wc wm := hE.ch g4 g5 (fun k j h1 h2 h3 h4 z => by
      rcases z with z | z
      · omega
      · exact h2 ⟨w, w4', Or.inr z.1⟩) (fun k j h1 h2 => by omega) (fun i _ => by omega) (fun j hj => by omega) (fun k j _ _ => by omega) (fun j => ⟨by omega, by omega, by omega, by omega⟩)
    have hL' : LPq 60 nl 187 wc wm := hL.ch g4 g5 (by omega) (by omega) (by omega)
    have fin : ∀ s : Int32, Agree tb vc vm (some (s, wc)) (some (s, wm)) := fun s => ⟨_, _, _, rfl, rfl, ⟨nl, nw, nd, p, hE', g3, hL'⟩, g4.mono fun k j q => by unfold Cc; omega, g5.mono fun k j q => by unfold Cm; omega⟩
    cases b with
    | true => exact fin 1
    | false => exact fin 0
  · rw [if_neg y]
    have hh : ¬ f_X4_has vc 23 a = true := fun q => y (by
      unfold f_X4_has at q
      rw [hW.2.1] at q
      by_cases p : a < 0
      · rw [if_pos p] at q; cases q
      rw [if_neg p] at q
      by_cases z : nI nw ≤ a
      · rw [if_pos z] at q; cases q
      · exact in_p p (by rw [lt_suc (by omega) p]; exact z))
    rw [if_neg hh]
    exact Agree.same hR
