/-! A BODY'S TURN -/
def Sbd (B kd f l : Nat) : Nat → Nat → Prop := fun k j => (k = B + 1 ∧ f ≤ j ∧ j ≤ l) ∨ k = B + 2 ∨ k = B + 3 ∨ (B + 5 ≤ k ∧ k ≤ B + 11) ∨ (k = B ∧ (j = 3 ∨ j = 16 ∨ j = 17 ∨ j = 1000014)) ∨ (k = kd ∧ 2 ≤ j ∧ j ≤ 4)
def Tbd (b f l : Nat) : Nat → Nat → Prop := fun k j => (k = 187 ∧ ((f ≤ j ∧ j ≤ l) ∨ (24 ≤ j ∧ j < 120) ∨ (168 ≤ j ∧ j < 192) ∨ j = 290 ∨ j = 293 ∨ j = 240 + b ∨ j = 252 + b ∨ j = 276 + b)) ∨ (k = 174 ∧ (j = 37 ∨ j = 38 ∨ j = 39 ∨ j = 1000027)) ∨ k = 183 ∨ k = 184 ∨ k = 194 ∨ (k = 193 ∧ ((f ≤ j ∧ j ≤ l) ∨ (24 + f ≤ j ∧ j ≤ 24 + l)))
theorem bd_m1 {B kd f l : Nat} : ∀ k j, Srs B f l k j → Sbd B kd f l k j := fun k j q => by
  unfold Srs at q; unfold Sbd
  rcases q with q | q | q | q
  · exact Or.inl q
  · exact Or.inr (Or.inl q.1)
  · exact Or.inr (Or.inr (Or.inr (Or.inl (by omega))))
  · exact Or.inr (Or.inr (Or.inr (Or.inr (Or.inl (by omega)))))
theorem bd_m2 {B kd f l : Nat} : ∀ k j, (k = B + 5 ∨ k = B + 6 ∨ (k = B ∧ j = 1000014)) → Sbd B kd f l k j := fun k j q => by
  unfold Sbd
  rcases q with q | q | q
  · exact Or.inr (Or.inr (Or.inr (Or.inl (by omega))))
  · exact Or.inr (Or.inr (Or.inr (Or.inl (by omega))))
  · exact Or.inr (Or.inr (Or.inr (Or.inr (Or.inl (by omega)))))
theorem bd_m3 {B kd f l : Nat} : ∀ k j, Sby B f l k j → Sbd B kd f l k j := fun k j q => by
  unfold Sby at q; unfold Sbd
  rcases q with q | q
  · exact Or.inr (Or.inr (Or.inr (Or.inl (by omega))))
  · exact Or.inr (Or.inr (Or.inr (Or.inr (Or.inl (by omega)))))
theorem bd_t1 {b f l : Nat} (hl : l < 24) : ∀ k j, Trs f l k j → Tbd b f l k j := fun k j q => by
  unfold Trs at q; unfold Tbd
  rcases q with q | ⟨q, z | z | z⟩
  · exact Or.inr (Or.inr (Or.inr (Or.inr (Or.inl q.1))))
  · exact Or.inl ⟨q, Or.inl z⟩
  · exact Or.inl ⟨q, Or.inr (Or.inr (Or.inl (by omega)))⟩
  · exact Or.inl ⟨q, Or.inr (Or.inr (Or.inr (Or.inr (Or.inl z))))⟩
theorem bd_t2 {b f l : Nat} : ∀ k j, ((k = 187 ∧ 24 ≤ j ∧ j < 72) ∨ (k = 174 ∧ j = 1000027)) → Tbd b f l k j := fun k j q => by
  unfold Tbd
  rcases q with q | q
  · exact Or.inl ⟨q.1, Or.inr (Or.inl (by omega))⟩
  · exact Or.inr (Or.inl ⟨q.1, by omega⟩)
theorem bd_t3 {b f l : Nat} (hl : l < 24) : ∀ k j, Tby f l k j → Tbd b f l k j := fun k j q => by
  unfold Tby at q; unfold Tbd
  rcases q with q | q
  · exact Or.inl ⟨q.1, Or.inr (Or.inl (by omega))⟩
  · exact Or.inr (Or.inr (Or.inr (Or.inr (Or.inr q))))
theorem bd_t4 {b f l : Nat} : ∀ k j, (k = 187 ∧ (j = 240 + b ∨ j = 252 + b)) → Tbd b f l k j := fun k j q => by
  unfold Tbd
  exact Or.inl ⟨q.1, by omega⟩
/-- what the class and the model share of the strip while bodies take their turns -/
def PP (B : Nat) (pc : Int32) (S0 S1 : Int) (vc vm : rV) : Prop := GG B pc S0 S1 vc vm ∧ Rw vc (B + 1) vm 187 0 24 ∧ Rw vc (B + 11) vm 187 168 24 ∧ vc.1 B 16 = vm.1 187 290 ∧ vc.1 B 17 = vm.1 187 293 ∧ vc.1 B 15 = vm.1 187 289 ∧ vc.2.1 B 14 = vm.2.1 174 27
theorem GG.fr {S T : Nat → Nat → Prop} {B : Nat} {pc : Int32} {S0 S1 T0 U0 T1 U1 : Int} {vc vm wc wm : rV} (h1 : Rw vc (B + 8) vm 187 72 24) (h2 : Rw vc (B + 9) vm 187 96 24) (h3 : HH B pc vc vm) (a0 : Am vm 72 U0) (a1 : Am vm 96 U1) (t0 : T0 + U0 = S0) (t1 : T1 + U1 = S1) (hc : Ch S vc wc) (hm : Ch T vm wm) (s1 : ∀ k c, c < 24 → 8 ≤ k → k ≤ 10 → ¬ S (B + k) c) (s2 : ¬ S B 3) (t1' : ∀ j, 72 ≤ j → j < 168 → ¬ T 187 j) (t2 : ∀ c, c < 48 → ¬ T 193 c) (f : FF B wc wm) (b0 : Am wm 24 T0) (b1 : Am wm 48 T1) : GG B pc S0 S1 wc wm :=
  ⟨f, h1.ch hc hm (fun c h9 => s1 8 c h9 (by omega) (by omega)) (fun c h9 => t1' _ (by omega) (by omega)), h2.ch hc hm (fun c h9 => s1 9 c h9 (by omega) (by omega)) (fun c h9 => t1' _ (by omega) (by omega)),
   h3.ch hc hm (fun c h9 => s1 10 c h9 (by omega) (by omega)) s2 t1' t2, T0, U0, T1, U1, b0, a0.ch hm fun c _ => t1' _ (by omega) (by omega), b1, a1.ch hm fun c _ => t1' _ (by omega) (by omega), t0, t1⟩
theorem tail_go {B kd own f l A b : Nat} {pc : Int32} {S0 S1 : Int} {vc vm : rV} (h0 : S0 ≤ 12000) (h1 : S1 ≤ 12000) (hA : A ≤ 12000) (hpc : 0 ≤ pc) (hbb : b < 12) (hb : BD B kd own f l vc vm) (hP : PP B pc S0 S1 vc vm) (hAr : Ar vm f l A) (hz : ∀ i, f ≤ i → i ≤ l → vm.1 193 i = 0 ∧ vm.1 193 (24 + i) = 0) :
    ∃ v1 v2 v3 v4 v5 vm', f_X5_reshape vc B kd = some v1 ∧ f_X5_carryAll v1 B kd = some v2 ∧ f_X5_stir v2 B kd = some v3 ∧ f_X5_wander v3 B kd = some v4 ∧ f_X5_layDown v4 B kd pc = some v5 ∧ f_X8_goes_109 vm (nI b) (nI A) = some (decide (0 < A), vm') ∧ PP B pc S0 S1 v5 vm' ∧ Ar vm' f l A ∧ v5.1 kd 2 = nI f ∧ v5.1 kd 3 = nI l ∧ vm'.1 187 (240 + b) = nI f ∧ vm'.1 187 (252 + b) = nI l ∧ v5.1 kd 4 = vc.1 kd 4 ∧ vm'.1 187 (276 + b) = vm.1 187 (276 + b) ∧ Ch (Sbd B kd f l) vc v5 ∧ Ch (Tbd b f l) vm vm' := by
  have hb0 := hb
  obtain ⟨⟨x1, x2⟩, ⟨b1, b2, b3⟩, ⟨c0, hfl, hl, hkd⟩, hmade, htd⟩ := hb
  obtain ⟨hG, hW, hFl, hgo, hsp, htk, hsd⟩ := hP
  -- reshape
  obtain ⟨v1, m1, g1, g2, g3, g4, g5, g6, g7, g8, g9, g10⟩ := reshape_go hA hb0 hW hFl hsp hAr
  have bd1 : BD B kd own f l v1 m1 := hb0.ch g9 g10 (by unfold Srs; omega) (by unfold Srs; omega) (fun j _ _ => by unfold Srs; omega) (fun j _ _ => by unfold Trs; omega) (fun j => by unfold Trs; omega)
  have G1 : GG B pc S0 S1 v1 m1 := hG.ch g9 g10 (fun k c h9 h5 h6 => by unfold Srs; omega) (by unfold Srs; omega) (fun j z1 z2 => by unfold Trs; omega) (fun c _ => by unfold Trs; omega)
  obtain ⟨F1, L0, L1, H1, T0, U0, T1, U1, a0, u0, a1, u1, t0, t1⟩ := G1
  have n0 := u0.nn
  have n1 := u1.nn
  obtain ⟨p, ep, -, hp⟩ := bd1.2.2.2.2 7 (by omega)
  have hp2 : p ≤ 100 := hp
  -- carry
  obtain ⟨v2, m2, k1, k2, k3, k4, k5, k6, k7⟩ := carry_go (p := p) (T0 := T0) (T1 := T1) (by omega) (by omega) hp2 (l - f) f 20000 20000 v1 m1 (by omega) (by omega) (by omega) (by omega) bd1 F1 a0 a1 (fun i z1 z2 => ⟨(g7 i z1 z2).1, (g7 i z1 z2).2.1, by have := (g7 i z1 z2).2.2; omega⟩) g4 (fun i z1 z2 => by have := g8 i z1 z2; omega) ep
  have bd2 : BD B kd own f l v2 m2 := bd1.ch k6 k7 (by unfold Sf; omega) (by unfold Sf; omega) (fun j _ _ => by unfold Sf; omega) (fun j _ _ => by unfold Tf; omega) (fun j => by unfold Tf; omega)
  have e2 : f_X5_carryAll v1 B kd = some v2 := by
    unfold f_X5_carryAll
    rw [vlet_eq, vlet_eq, bd1.2.2.2.1 7 (by omega) (by omega), ep, bd1.1.1, show (100 : Int32) - nI p = nI (100 - p) from niSub (a := 100) hp2]
    exact k1
  have e2m : f_X8_carry m1 = some m2 := by
    unfold f_X8_carry
    rw [vlet_eq, bd1.2.1.1]
    exact k2
  -- stir
  obtain ⟨M, eM, -, hM⟩ := bd2.2.2.2.2 5 (by omega)
  have hM2 : M ≤ 99 := hM
  have st : ∃ v3 m3, f_X5_stir v2 B kd = some v3 ∧ ((M < 50 ∧ m3 = m2) ∨ (50 ≤ M ∧ f_X8_stir m2 = some m3)) ∧ FF B v3 m3 ∧ Am m3 24 T0 ∧ Am m3 48 T1 ∧ Ch (Sf B) v2 v3 ∧ Ch Tf m2 m3 := by
    unfold f_X5_stir
    rw [bd2.2.2.2.1 5 (by omega) (by omega), eM]
    by_cases q : 50 ≤ M
    · rw [if_pos (show (50 : Int32) ≤ nI M from ple (a := 50) q (by omega)), vlet_eq, bd2.1.1]
      obtain ⟨v3, m3, j1, j2, j3, j4, j5, j6, j7⟩ := stir_go (B := B) (kd := kd) (l := l) (T0 := T0) (T1 := T1) (by omega) (by omega) (by omega) hl (l - f) f 20000 20000 v2 m2 (by omega) (by omega) (by omega) bd2.1.2 bd2.2.1.2.1 k3 k4 k5
      refine ⟨v3, m3, j1, Or.inr ⟨q, ?_⟩, j3, j4, j5, j6, j7⟩
      unfold f_X8_stir
      rw [vlet_eq, bd2.2.1.1]
      exact j2
    · rw [if_neg (show ¬ (50 : Int32) ≤ nI M from nle (a := 50) (by omega) (by omega))]
      exact ⟨v2, m2, rfl, Or.inl ⟨by omega, rfl⟩, k3, k4, k5, Ch.rf, Ch.rf⟩
  obtain ⟨v3, m3, e3, e3m, f3, a3, a3', c3, d3⟩ := st
  have bd3 : BD B kd own f l v3 m3 := bd2.ch c3 d3 (by unfold Sf; omega) (by unfold Sf; omega) (fun j _ _ => by unfold Sf; omega) (fun j _ _ => by unfold Tf; omega) (fun j => by unfold Tf; omega)
  have sd3 : v3.2.1 B 14 = m3.2.1 174 27 := by
    rw [c3.2.1 _ _ (by unfold Sf; omega), k6.2.1 _ _ (by unfold Sf; omega), g9.2.1 _ _ (by unfold Srs; omega), d3.2.1 _ _ (by unfold Tf; omega), k7.2.1 _ _ (by unfold Tf; omega), g10.2.1 _ _ (by unfold Trs; omega)]
    exact hsd
  -- wander
  obtain ⟨v4, m4, w1, w2, w3, w4, w5, w6, w7, w8⟩ := wander_go (T0 := T0) (T1 := T1) (by omega) (l + 1 - f) f 20000 20000 v3 m3 (by omega) (by omega) (by omega) (by omega) bd3 f3 a3 a3' sd3
  have bd4 : BD B kd own f l v4 m4 := bd3.ch w7 w8 (by unfold Swn; omega) (by unfold Swn; omega) (fun j _ _ => by unfold Swn; omega) (fun j _ _ => by unfold Twn; omega) (fun j => by unfold Twn; omega)
  have e4 : f_X5_wander v3 B kd = some v4 := by
    unfold f_X5_wander
    rw [vlet_eq, bd3.1.1]
    exact w1
  have e4m : f_X8_wander m3 = some m4 := by
    unfold f_X8_wander
    rw [vlet_eq, bd3.2.1.1]
    exact w2
  -- all free things together
  have S14 : Ch (fun k j => k = B + 5 ∨ k = B + 6 ∨ (k = B ∧ j = 1000014)) v1 v4 := ((k6.mono fun k j q => by unfold Sf at q; omega).tr (c3.mono fun k j q => by unfold Sf at q; omega)).tr (w7.mono fun k j q => by unfold Swn at q; omega)
  have T14 : Ch (fun k j => (k = 187 ∧ 24 ≤ j ∧ j < 72) ∨ (k = 174 ∧ j = 1000027)) m1 m4 := ((k7.mono fun k j q => by unfold Tf at q; omega).tr (d3.mono fun k j q => by unfold Tf at q; omega)).tr (w8.mono fun k j q => by unfold Twn at q; omega)
  have G4 : GG B pc S0 S1 v4 m4 := GG.fr L0 L1 H1 u0 u1 t0 t1 S14 T14 (fun k c h9 h5 h6 => by omega) (by omega) (fun j z1 z2 => by omega) (fun c _ => by omega) w3 w4 w5
  have W4 : Rw v4 (B + 1) m4 187 0 24 := g3.ch S14 T14 (fun c _ => by omega) (fun c _ => by omega)
  have Ar4 : Ar m4 f l A := g6.eq fun c z1 z2 => T14.1 _ _ (by omega)
  have z4 : ∀ i, f ≤ i → i ≤ l → m4.1 193 i = 0 ∧ m4.1 193 (24 + i) = 0 := fun i z1 z2 => by
    rw [T14.1 _ _ (by omega), T14.1 _ _ (by omega), g10.1 _ _ (by unfold Trs; omega), g10.1 _ _ (by unfold Trs; omega)]
    exact hz i z1 z2
  -- bear
  obtain ⟨v5, m5, y1, y2, y3, y4, y5⟩ := bear_go h0 h1 hpc (l + 1 - f) f 20000 20000 v4 m4 (by omega) (by omega) (by omega) (by omega) bd4 G4 W4 (fun i z1 z2 => by have := Ar4.one z1 z2; omega) z4
  have bd5 : BD B kd own f l v5 m5 := bd4.ch y4 y5 (by unfold Sby; omega) (by unfold Sby; omega) (fun j _ _ => by unfold Sby; omega) (fun j _ _ => by unfold Tby; omega) (fun j => by unfold Tby; omega)
  have e5 : f_X5_layDown v4 B kd pc = some v5 := by
    unfold f_X5_layDown
    rw [vlet_eq, bd4.1.1]
    exact y1
  have e5m : f_X8_bear m4 = some m5 := by
    unfold f_X8_bear
    rw [vlet_eq, bd4.2.1.1]
    exact y2
  obtain ⟨m6, em6⟩ : ∃ w, w = rI m5 187 (240 + b) (nI f) := ⟨_, rfl⟩
  obtain ⟨m7, em7⟩ : ∃ w, w = rI m6 187 (252 + b) (nI l) := ⟨_, rfl⟩
  have T57 : Ch (fun k j => k = 187 ∧ (j = 240 + b ∨ j = 252 + b)) m5 m7 := by
    rw [em7, em6]
    exact (Ch.rf.I ⟨rfl, Or.inl rfl⟩).I ⟨rfl, Or.inr rfl⟩
  have c05 : Ch (Sbd B kd f l) vc v5 := ((g9.mono bd_m1).tr (S14.mono bd_m2)).tr (y4.mono bd_m3)
  have c07 : Ch (Tbd b f l) vm m7 := (((g10.mono (bd_t1 hl)).tr (T14.mono bd_t2)).tr (y5.mono (bd_t3 hl))).tr (T57.mono bd_t4)
  refine ⟨v1, v2, v3, v4, v5, m7, g1, e2, e3, e4, e5, ?_, ⟨y3.ch (S := fun _ _ => False) Ch.rf T57 (fun _ _ _ _ _ => id) id (fun j z1 z2 => by omega) (fun c _ => by omega), ?_, ?_, ?_, ?_, ?_, ?_⟩, ?_, bd5.1.1, bd5.1.2, ?_, ?_, ?_, ?_, c05, c07⟩
  · have w132 : ∀ mm, mm = m3 → f_X8_goes_132 mm (nI b) (nI A) = some (decide (0 < A), m7) := fun mm emm => by
      unfold f_X8_goes_132
      rw [emm, e4m, Option.bind_some, e5m, Option.bind_some, show (240 : Int32) + nI b = nI (240 + b) from niAdd 240 b, show (252 : Int32) + nI b = nI (252 + b) from niAdd 252 b, if_pos (gin (show 240 + b < 416 by omega) (by omega)), niCl (show 240 + b < 2147483648 by omega), bd5.2.1.1, ← em6, vlet_eq, if_pos (gin (show 252 + b < 416 by omega) (by omega)), niCl (show 252 + b < 2147483648 by omega), show m6.1 174 38 = nI l by rw [em6, rI_no (by omega)]; exact bd5.2.1.2.1, ← em7, vlet_eq]
      by_cases q : 0 < A
      · rw [if_neg (show ¬ nI A ≤ 0 from nle (b := 0) q (by omega)), decide_eq_true q]
      · rw [if_pos (show nI A ≤ 0 from ple (b := 0) (by omega) (by omega)), decide_eq_false q]
    unfold f_X8_goes_109
    rw [g2, Option.bind_some, e2m, Option.bind_some, show (5 : Int32) = nI 5 from rfl, bd2.of (by omega), Option.bind_some, eM]
    rcases e3m with ⟨q, e⟩ | ⟨q, e⟩
    · rw [if_pos (show nI M < 50 from plt (b := 50) q (by omega))]
      exact w132 m2 e.symm
    · rw [if_neg (show ¬ nI M < 50 from nlt (b := 50) q (by omega)), e, Option.bind_some]
      exact w132 m3 rfl
  · exact (W4.ch y4 y5 (fun c _ => by unfold Sby; omega) (fun c _ => by unfold Tby; omega)).ch (S := fun _ _ => False) Ch.rf T57 (fun _ _ => id) (fun c _ => by omega)
  · exact ((g4.ch S14 T14 (fun c _ => by omega) (fun c _ => by omega)).ch y4 y5 (fun c _ => by unfold Sby; omega) (fun c _ => by unfold Tby; omega)).ch (S := fun _ _ => False) Ch.rf T57 (fun _ _ => id) (fun c _ => by omega)
  · have e : v5.1 B 16 = vc.1 B 16 := by rw [y4.1 _ _ (by unfold Sby; omega), S14.1 _ _ (by omega), g9.1 _ _ (by unfold Srs; omega)]
    have e' : m7.1 187 290 = vm.1 187 290 := by rw [T57.1 _ _ (by omega), y5.1 _ _ (by unfold Tby; omega), T14.1 _ _ (by omega), g10.1 _ _ (by unfold Trs; omega)]
    rw [e, e']; exact hgo
  · rw [y4.1 _ _ (by unfold Sby; omega), S14.1 _ _ (by omega), T57.1 _ _ (by omega), y5.1 _ _ (by unfold Tby; omega), T14.1 _ _ (by omega)]; exact g5
  · rw [c05.1 _ _ (by unfold Sbd; omega), c07.1 _ _ (by unfold Tbd; omega)]; exact htk
  · rw [y4.2.1 _ _ (by unfold Sby; omega), T57.2.1 _ _ (by omega), y5.2.1 _ _ (by unfold Tby; omega)]; exact w6
  · exact Ar4.eq fun c z1 z2 => by rw [T57.1 _ _ (by omega), y5.1 _ _ (by unfold Tby; omega)]
  · rw [em7, rI_no (by omega), em6, rI_at]
  · rw [em7, rI_at]
  · rw [y4.1 _ _ (by unfold Sby; omega), S14.1 _ _ (by omega), g9.1 _ _ (by unfold Srs; omega)]
  · rw [T57.1 _ _ (by omega), y5.1 _ _ (by unfold Tby; omega), T14.1 _ _ (by omega), g10.1 _ _ (by unfold Trs; omega)]
