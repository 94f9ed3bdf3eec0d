/-! A BODY'S TURN, all of it -/
def Sgo2 (B kd kf f l : Nat) : Nat → Nat → Prop := fun k j => Sbd B kd f l k j ∨ k = kf + 2
theorem g2_m1 {B kd kf f l : Nat} : ∀ k j, Sev B kf f l k j → Sgo2 B kd kf f l k j := fun k j q => by
  unfold Sev at q; unfold Sgo2 Sbd
  rcases q with q | q | q | q
  · exact Or.inl (Or.inl q)
  · exact Or.inl (Or.inr (Or.inr (Or.inl q.1)))
  · exact Or.inl (Or.inr (Or.inr (Or.inr (Or.inr (Or.inl ⟨q.1, Or.inr (Or.inl q.2)⟩)))))
  · exact Or.inr q.1
theorem g2_m2 {B kd kf f l : Nat} : ∀ k j, Sgo B kd f l k j → Sgo2 B kd kf f l k j := fun k j q => by
  unfold Sgo at q; unfold Sgo2 Sbd
  rcases q with ⟨q, z⟩ | q | q
  · rcases q with q | q | q | q | q | q
    · exact Or.inl (Or.inl ⟨q, z⟩)
    all_goals exact Or.inl (Or.inr (Or.inr (Or.inr (Or.inl (by omega)))))
  · exact Or.inl (Or.inr (Or.inr (Or.inr (Or.inr (Or.inl ⟨q.1, Or.inl q.2⟩)))))
  · exact Or.inl (Or.inr (Or.inr (Or.inr (Or.inr (Or.inr ⟨q.1, by omega, by omega⟩)))))
theorem g2_m3 {B kd kf f l f' l' : Nat} (h1 : f ≤ f') (h2 : l' ≤ l) : ∀ k j, Sbd B kd f' l' k j → Sgo2 B kd kf f l k j := fun k j q => by
  unfold Sbd at q; unfold Sgo2 Sbd
  rcases q with q | q
  · exact Or.inl (Or.inl (by omega))
  · exact Or.inl (Or.inr q)
theorem g2_t1 {b f l : Nat} : ∀ k j, Tev f l k j → Tbd b f l k j := fun k j q => by
  unfold Tev at q; unfold Tbd
  rcases q with ⟨q, z | z⟩ | q | q
  · exact Or.inl ⟨q, Or.inl z⟩
  · exact Or.inl ⟨q, Or.inr (Or.inr (Or.inr (Or.inl z)))⟩
  · exact Or.inr (Or.inr (Or.inl q.1))
  · exact Or.inr (Or.inr (Or.inr (Or.inl q.1)))
theorem g2_t2 {b f l : Nat} (hl : l < 24) : ∀ k j, Tgo f l k j → Tbd b f l k j := fun k j q => by
  unfold Tgo at q; unfold Tbd
  rcases q with ⟨q, z⟩ | q | q
  · rcases z with z | z
    · exact Or.inl ⟨q, Or.inl z⟩
    · exact Or.inl ⟨q, Or.inr (Or.inl (by omega))⟩
  · exact Or.inr (Or.inr (Or.inr (Or.inr (Or.inr q))))
  · exact Or.inr (Or.inl ⟨q.1, by omega⟩)
theorem g2_t3 {b f l f' l' : Nat} (h1 : f ≤ f') (h2 : l' ≤ l) : ∀ k j, Tbd b f' l' k j → Tbd b f l k j := fun k j q => by
  unfold Tbd at q ⊢
  rcases q with ⟨q, z⟩ | q | q | q | q | q
  · rcases z with z | z
    · exact Or.inl ⟨q, Or.inl (by omega)⟩
    · exact Or.inl ⟨q, Or.inr z⟩
  · exact Or.inr (Or.inl q)
  · exact Or.inr (Or.inr (Or.inl q))
  · exact Or.inr (Or.inr (Or.inr (Or.inl q)))
  · exact Or.inr (Or.inr (Or.inr (Or.inr (Or.inl q))))
  · exact Or.inr (Or.inr (Or.inr (Or.inr (Or.inr ⟨q.1, by omega⟩))))
theorem g2_t4 {b f l : Nat} : ∀ k j, (k = 174 ∧ (j = 37 ∨ j = 38 ∨ j = 39)) → Tbd b f l k j := fun k j q => Or.inr (Or.inl ⟨q.1, by omega⟩)
theorem g2_t5 {b f l : Nat} : ∀ k j, (k = 187 ∧ j = 276 + b) → Tbd b f l k j := fun k j q => Or.inl ⟨q.1, by omega⟩
theorem PP.ch {S T : Nat → Nat → Prop} {B : Nat} {pc : Int32} {S0 S1 : Int} {vc vm wc wm : rV} (h : PP B pc S0 S1 vc vm) (hc : Ch S vc wc) (hm : Ch T vm wm) (s1 : ∀ k c, c < 24 → 1 ≤ k → k ≤ 11 → ¬ S (B + k) c) (s2 : ∀ j, j < 20 → ¬ S B j) (s3 : ¬ S B 1000014) (t1 : ∀ j, j < 192 → ¬ T 187 j) (t2 : ∀ j, 288 < j → j < 294 → ¬ T 187 j) (t3 : ∀ c, c < 48 → ¬ T 193 c) (t4 : ¬ T 174 1000027) : PP B pc S0 S1 wc wm := by
  obtain ⟨a, b, c, d, e, f, g⟩ := h
  refine ⟨a.ch hc hm (fun k c h9 h5 h6 => s1 k c h9 (by omega) (by omega)) (s2 3 (by omega)) (fun j _ h9 => t1 j (by omega)) t3, b.ch hc hm (fun c h9 => s1 1 c h9 (by omega) (by omega)) (fun c h9 => t1 _ (by omega)), c.ch hc hm (fun c h9 => s1 11 c h9 (by omega) (by omega)) (fun c h9 => t1 _ (by omega)), ?_, ?_, ?_, ?_⟩
  · rw [hc.1 _ _ (s2 16 (by omega)), hm.1 _ _ (t2 290 (by omega) (by omega))]; exact d
  · rw [hc.1 _ _ (s2 17 (by omega)), hm.1 _ _ (t2 293 (by omega) (by omega))]; exact e
  · rw [hc.1 _ _ (s2 15 (by omega)), hm.1 _ _ (t2 289 (by omega) (by omega))]; exact f
  · rw [hc.2.1 B 14 s3, hm.2.1 174 27 t4]; exact g
theorem goes_go {B kd own kf N f l b : Nat} {pc : Int32} {S0 S1 A0 : Int} {vc vm : rV} (h0 : S0 ≤ 12000) (h1 : S1 ≤ 12000) (hA0 : A0 ≤ 12000) (hpc : 0 ≤ pc) (hbb : b < 12) (x1 : vc.1 kd 2 = nI f) (x2 : vc.1 kd 3 = nI l) (y1 : vm.1 187 (240 + b) = nI f) (y2 : vm.1 187 (252 + b) = nI l) (y3 : vm.1 187 (264 + b) = nI own) (y4 : vc.1 kd 4 = vm.1 187 (276 + b)) (c0 : own < 13 ∧ f ≤ l ∧ l < 24 ∧ B + 13 < kd) (hmade : ∀ j, 5 ≤ j → j < 12 → vc.1 (kd + 1) j = vm.1 185 (12 * own + j)) (htd : TD vm 185 (12 * own)) (hL : LSt B kf N vc vm) (hP : PP B pc S0 S1 vc vm) (hAr : Ar vm f l A0) (hz : ∀ i, f ≤ i → i ≤ l → vm.1 193 i = 0 ∧ vm.1 193 (24 + i) = 0) :
    ∃ v1 v2 v3 v4 v5 v6 v7 vm' A f' l', f_X5_evaporate vc B kd = some v1 ∧ f_X5_letGo v1 B kd pc = some v2 ∧ f_X5_reshape v2 B kd = some v3 ∧ f_X5_carryAll v3 B kd = some v4 ∧ f_X5_stir v4 B kd = some v5 ∧ f_X5_wander v5 B kd = some v6 ∧ f_X5_layDown v6 B kd pc = some v7 ∧ f_X8_goes vm (nI b) = some (decide (0 < A), vm') ∧
      PP B pc S0 S1 v7 vm' ∧ Ar vm' f' l' (A : Nat) ∧ (A : Int) ≤ A0 ∧ f ≤ f' ∧ f' ≤ l' ∧ l' ≤ l ∧ v7.1 kd 2 = nI f' ∧ v7.1 kd 3 = nI l' ∧ vm'.1 187 (240 + b) = nI f' ∧ vm'.1 187 (252 + b) = nI l' ∧ v7.1 kd 4 = vm'.1 187 (276 + b) ∧ Ch (Sgo2 B kd kf f l) vc v7 ∧ Ch (Tbd b f l) vm vm' := by
  -- the model takes the body up
  obtain ⟨m1, em1⟩ : ∃ w, w = rI vm 174 37 (nI f) := ⟨_, rfl⟩
  obtain ⟨m2, em2⟩ : ∃ w, w = rI m1 174 38 (nI l) := ⟨_, rfl⟩
  obtain ⟨m3, em3⟩ : ∃ w, w = rI m2 174 39 (nI own) := ⟨_, rfl⟩
  have q3 : Ch (fun k j => k = 174 ∧ (j = 37 ∨ j = 38 ∨ j = 39)) vm m3 := by
    rw [em3, em2, em1]
    exact ((Ch.rf.I ⟨rfl, Or.inl rfl⟩).I ⟨rfl, Or.inr (Or.inl rfl)⟩).I ⟨rfl, Or.inr (Or.inr rfl)⟩
  have bd0 : BD B kd own f l vc m3 := ⟨⟨x1, x2⟩, ⟨by rw [em3, rI_no (by omega), em2, rI_no (by omega), em1, rI_at], by rw [em3, rI_no (by omega), em2, rI_at], by rw [em3, rI_at]⟩, c0, fun j z1 z2 => by rw [q3.1 185 _ (by omega)]; exact hmade j z1 z2, htd.ch q3 fun j _ => by omega⟩
  have P0 : PP B pc S0 S1 vc m3 := hP.ch (S := fun _ _ => False) Ch.rf q3 (fun _ _ _ _ _ => id) (fun _ _ => id) id (fun j _ => by omega) (fun j _ _ => by omega) (fun c _ => by omega) (by omega)
  have L0 : LSt B kf N vc m3 := hL.ch (S := fun _ _ => False) Ch.rf q3 id (fun _ => id) id (by omega) (fun k j _ _ _ => by omega)
  have Ar0 : Ar m3 f l A0 := hAr.eq fun c _ _ => q3.1 _ _ (by omega)
  obtain ⟨ofl, hfl, hl, hkd⟩ := c0
  have kfB := L0.2.2.1
  -- the class's letters
  obtain ⟨c1, ec1⟩ : ∃ w, w = rI vc (B + 3) 3 (vm.1 187 289) := ⟨_, rfl⟩
  obtain ⟨c2, ec2⟩ : ∃ w, w = rI c1 (B + 3) 4 (vm.1 185 (12 * own + 5)) := ⟨_, rfl⟩
  obtain ⟨c3, ec3⟩ : ∃ w, w = rI c2 (B + 3) 5 (vm.1 185 (12 * own + 6)) := ⟨_, rfl⟩
  obtain ⟨c4, ec4⟩ : ∃ w, w = rI c3 (B + 3) 6 (nI (l - f + 1)) := ⟨_, rfl⟩
  have r4 : Ch (fun k j => k = B + 3 ∧ j < 7) vc c4 := by
    rw [ec4, ec3, ec2, ec1]
    exact (((Ch.rf.I ⟨rfl, by omega⟩).I ⟨rfl, by omega⟩).I ⟨rfl, by omega⟩).I ⟨rfl, by omega⟩
  have bd1 : BD B kd own f l c4 m3 := bd0.ch r4 (T := fun _ _ => False) Ch.rf (by omega) (by omega) (fun j _ _ => by omega) (fun _ _ _ => id) (fun _ => id)
  have L1 : LSt B kf N c4 m3 := L0.ch r4 (T := fun _ _ => False) Ch.rf (by omega) (fun j => by omega) (by omega) id (fun _ _ _ _ _ => id)
  obtain ⟨⟨⟨F0, F1⟩, -⟩, W0, -, go0, -, tk0, -⟩ := P0
  obtain ⟨A, v1, m4, g1, g2, g3, g4, g5, g6, g7, g8⟩ := lose_go (A0 := A0) hA0 (l + 1 - f) f 20000 20000 0 c4 m3 (by omega) (by omega) (by omega) (by omega) bd1 L1 (W0.ch r4 (T := fun _ _ => False) Ch.rf (fun c _ => by omega) (fun _ _ => id)) (fun i z1 z2 => Ar0.1 i z1 z2) (by rw [Nat.sub_self]; rfl) (by rw [Ar0.2]; exact Int.le_refl _) ⟨F0.ch r4 (T := fun _ _ => False) Ch.rf (fun c _ => by omega) (fun _ _ => id), F1.ch r4 (T := fun _ _ => False) Ch.rf (fun c _ => by omega) (fun _ _ => id)⟩ (by rw [r4.1 _ _ (by omega)]; exact go0)
    ⟨by rw [ec4, rI_no (by omega), ec3, rI_no (by omega), ec2, rI_no (by omega), ec1, rI_at, q3.1 187 _ (by omega)], by rw [ec4, rI_no (by omega), ec3, rI_no (by omega), ec2, rI_at, q3.1 185 _ (by omega)], by rw [ec4, rI_no (by omega), ec3, rI_at, q3.1 185 _ (by omega)], by rw [ec4, rI_at]⟩
  have P0 : PP B pc S0 S1 vc m3 := hP.ch (S := fun _ _ => False) Ch.rf q3 (fun _ _ _ _ _ => id) (fun _ _ => id) id (fun j _ => by omega) (fun j _ _ => by omega) (fun c _ => by omega) (by omega)
  have e1 : f_X5_evaporate vc B kd = some v1 := by
    unfold f_X5_evaporate
    rw [hL.1]
    dsimp only
    have t5 : vc.1 B 15 = vm.1 187 289 := hP.2.2.2.2.2.1
    rw [if_pos hL.2.1, t5, ← ec1, vlet_eq, show c1.1 (kd + 1) 5 = vm.1 185 (12 * own + 5) by rw [ec1, rI_no (by omega)]; exact hmade 5 (by omega) (by omega), ← ec2, vlet_eq, show c2.1 (kd + 1) 6 = vm.1 185 (12 * own + 6) by rw [ec2, rI_no (by omega), ec1, rI_no (by omega)]; exact hmade 6 (by omega) (by omega), ← ec3, vlet_eq]
    have w1 : f_X0_width c3 kd = nI (l - f + 1) := by
      unfold f_X0_width
      rw [show c3.1 kd 3 = nI l by rw [ec3, rI_no (by omega), ec2, rI_no (by omega), ec1, rI_no (by omega)]; exact x2, show c3.1 kd 2 = nI f by rw [ec3, rI_no (by omega), ec2, rI_no (by omega), ec1, rI_no (by omega)]; exact x1, niSub hfl, ad1]
    rw [w1, ← ec4, vlet_eq, vlet_eq, bd1.1.1]
    exact g1
  have e1m : f_X8_lose m3 = some (nI A, m4) := by
    unfold f_X8_lose
    rw [vlet_eq, bd1.2.1.1]
    exact g2
  -- what stands then
  have r5 : Ch (Sgo2 B kd kf f l) vc v1 := (r4.mono fun k j q => Or.inl (Or.inr (Or.inr (Or.inl q.1)))).tr (g7.mono g2_m1)
  have q4 : Ch (Tbd b f l) vm m4 := (q3.mono g2_t4).tr (g8.mono g2_t1)
  have bd2 : BD B kd own f l v1 m4 := bd1.ch g7 g8 (by unfold Sev; omega) (by unfold Sev; omega) (fun j _ _ => by unfold Sev; omega) (fun j _ _ => by unfold Tev; omega) (fun j => by unfold Tev; omega)
  have r45 : Ch (fun k j => (k = B + 1 ∧ f ≤ j ∧ j ≤ l) ∨ k = B + 3 ∨ (k = B ∧ j = 16) ∨ k = kf + 2) vc v1 := (r4.mono fun k j q => Or.inr (Or.inl q.1)).tr (g7.mono fun k j q => by
    unfold Sev at q
    rcases q with q | q | q | q
    · exact Or.inl q
    · exact Or.inr (Or.inl q.1)
    · exact Or.inr (Or.inr (Or.inl q))
    · exact Or.inr (Or.inr (Or.inr q.1)))
  have P1 : PP B pc S0 S1 v1 m4 := by
    obtain ⟨p1, p2, p3, p4, p5, p6, p7⟩ := P0
    refine ⟨p1.ch r45 g8 (fun k c _ _ _ => by omega) (by omega) (fun j _ _ => by unfold Tev; omega) (fun c _ => by unfold Tev; omega), g5, p3.ch r45 g8 (fun c _ => by omega) (fun c _ => by unfold Tev; omega), g6, ?_, ?_, ?_⟩
    · rw [r45.1 _ _ (by omega), g8.1 _ _ (by unfold Tev; omega)]; exact p5
    · rw [r45.1 _ _ (by omega), g8.1 _ _ (by unfold Tev; omega)]; exact p6
    · rw [r45.2.1 _ _ (by omega), g8.2.1 _ _ (by unfold Tev; omega)]; exact p7
  have z1' : ∀ i, f ≤ i → i ≤ l → m4.1 193 i = 0 ∧ m4.1 193 (24 + i) = 0 := fun i z1 z2 => by
    rw [g8.1 _ _ (by unfold Tev; omega), g8.1 _ _ (by unfold Tev; omega), q3.1 _ _ (by omega), q3.1 _ _ (by omega)]
    exact hz i z1 z2
  have b40 : m4.1 187 (276 + b) = vm.1 187 (276 + b) := by rw [g8.1 _ _ (by unfold Tev; omega), q3.1 _ _ (by omega)]
  have k40 : v1.1 kd 4 = vc.1 kd 4 := r45.1 _ _ (by omega)
  obtain ⟨E, eE, -, hE⟩ := bd2.2.2.2.2 9 (by omega)
  have hE2 : E ≤ 99 := hE
  obtain ⟨J, eJ, hJ1, hJ⟩ := bd2.2.2.2.2 10 (by omega)
  have hJ2 : J ≤ 9 := hJ
  have hEw : E * (l - f + 1) ≤ 99 * 24 := Nat.mul_le_mul hE2 (by omega)
  have wid : f_X0_width v1 kd = nI (l - f + 1) := by
    unfold f_X0_width
    rw [bd2.1.1, bd2.1.2, niSub hfl, ad1]
  have wat : f_X5_waterOf v1 B kd = some (nI A) := waterOf_go hl hfl bd2.1.1 bd2.1.2 g5 (by omega) g4
  have goesM : ∀ r, (f_X8_of m4 10).bind (fun p22 => if nI (l - f + 1) ≤ 2 * p22 + 1 then f_X8_goes_109 m4 (nI b) (nI A) else (f_X8_of m4 10).bind fun p23 => (f_X8_letGo m4 p23).bind fun p24 => vlet (276 + nI b) fun x25 => if ¬ x25 < 0 ∧ x25.toNatClampNeg < 416 then vlet (rI p24 187 x25.toNatClampNeg (p24.1 187 x25.toNatClampNeg + 1)) fun v27 => f_X8_goes_109 v27 (nI b) (nI A) else none) = r → (if nI E * nI (l - f + 1) ≤ nI A then f_X8_goes_109 m4 (nI b) (nI A) else r) = f_X8_goes vm (nI b) := fun r er => by
    unfold f_X8_goes
    rw [show (240 : Int32) + nI b = nI (240 + b) from niAdd 240 b, show (252 : Int32) + nI b = nI (252 + b) from niAdd 252 b, show (264 : Int32) + nI b = nI (264 + b) from niAdd 264 b, if_pos (gin (show 240 + b < 416 by omega) (by omega)), niCl (show 240 + b < 2147483648 by omega), y1, ← em1, vlet_eq, if_pos (gin (show 252 + b < 416 by omega) (by omega)), niCl (show 252 + b < 2147483648 by omega), show m1.1 187 (252 + b) = nI l by rw [em1, rI_no (by omega)]; exact y2, ← em2, vlet_eq, if_pos (gin (show 264 + b < 416 by omega) (by omega)), niCl (show 264 + b < 2147483648 by omega), show m2.1 187 (264 + b) = nI own by rw [em2, rI_no (by omega), em1, rI_no (by omega)]; exact y3, ← em3, vlet_eq, e1m, Option.bind_some, bd2.2.1.1, bd2.2.1.2.1, niSub hfl, ad1, vlet_eq, show (9 : Int32) = nI 9 from rfl, bd2.of (by omega), eE, Option.bind_some, ← er]
  rw [show (10 : Int32) = nI 10 from rfl, bd2.of (j := 10) (by omega), eJ] at goesM
  simp only [Option.bind_some] at goesM
  by_cases p1 : E * (l - f + 1) ≤ A
  · -- no letting go: water enough
    obtain ⟨v3, v4, v5, v6, v7, vm', k1, k2, k3, k4, k5, k6, k7, k8, k9, k10, k11, k12, k13, k14, k15, k16⟩ := tail_go (b := b) h0 h1 (by omega) hpc hbb bd2 P1 g4 z1'
    refine ⟨v1, v1, v3, v4, v5, v6, v7, vm', A, f, l, e1, ?_, k1, k2, k3, k4, k5, ?_, k7, k8, g3, Nat.le_refl _, hfl, Nat.le_refl _, k9, k10, k11, k12, by rw [k13, k14, k40, b40]; exact y4, r5.tr (k15.mono (g2_m3 (Nat.le_refl _) (Nat.le_refl _))), q4.tr k16⟩
    · unfold f_X5_letGo
      rw [vlet_eq, wat, Option.bind_some, bd2.2.2.2.1 9 (by omega) (by omega), eE, wid, niMul, if_pos (ple p1 (by omega))]
    · rw [← goesM _ rfl, niMul, if_pos (ple p1 (by omega))]
      exact k6
  · by_cases p2 : l - f + 1 ≤ 2 * J + 1
    · obtain ⟨v3, v4, v5, v6, v7, vm', k1, k2, k3, k4, k5, k6, k7, k8, k9, k10, k11, k12, k13, k14, k15, k16⟩ := tail_go (b := b) h0 h1 (by omega) hpc hbb bd2 P1 g4 z1'
      refine ⟨v1, v1, v3, v4, v5, v6, v7, vm', A, f, l, e1, ?_, k1, k2, k3, k4, k5, ?_, k7, k8, g3, Nat.le_refl _, hfl, Nat.le_refl _, k9, k10, k11, k12, by rw [k13, k14, k40, b40]; exact y4, r5.tr (k15.mono (g2_m3 (Nat.le_refl _) (Nat.le_refl _))), q4.tr k16⟩
      · unfold f_X5_letGo
        rw [vlet_eq, wat, Option.bind_some, bd2.2.2.2.1 9 (by omega) (by omega), eE, wid, niMul, if_neg (nle (by omega) (by omega)), bd2.2.2.2.1 10 (by omega) (by omega), eJ, show (2 : Int32) = nI 2 from rfl, niMul, ad1, if_neg (nlt (by omega) (by omega))]
      · rw [← goesM _ rfl, niMul, if_neg (nle (by omega) (by omega)), show (2 : Int32) = nI 2 from rfl, niMul, ad1, if_pos (ple (by omega) (by omega))]
        exact k6
    · obtain ⟨v2, m5, j1, j2, j3, j4, j5, j6, j7, j8, j9, j10⟩ := go_all (J := J) (A := A) h0 h1 (by omega) hpc hJ2 J 0 20000 20000 f l v1 m4 (by omega) (by omega) (by omega) (by omega) bd2 P1.1 g5 g4 z1'
      obtain ⟨m6, em6⟩ : ∃ w, w = rI m5 187 (276 + b) (m5.1 187 (276 + b) + 1) := ⟨_, rfl⟩
      have q6 : Ch (fun k j => k = 187 ∧ j = 276 + b) m5 m6 := by rw [em6]; exact Ch.rf.I ⟨rfl, rfl⟩
      have bd3 : BD B kd own (f + J) (l - J) v2 m6 := j3.ch (S := fun _ _ => False) Ch.rf q6 id id (fun _ _ _ => id) (fun j _ _ => by omega) (fun j => by omega)
      have P3 : PP B pc S0 S1 v2 m6 := by
        obtain ⟨s1, s2, s3, s4, s5, s6, s7⟩ := P1
        refine ⟨j4.ch (S := fun _ _ => False) Ch.rf q6 (fun _ _ _ _ _ => id) id (fun j _ _ => by omega) (fun c _ => by omega), j5.ch (S := fun _ _ => False) Ch.rf q6 (fun _ _ => id) (fun c _ => by omega), (s3.ch j7 j8 (fun c _ => by unfold Sgo; omega) (fun c _ => by unfold Tgo; omega)).ch (S := fun _ _ => False) Ch.rf q6 (fun _ _ => id) (fun c _ => by omega), ?_, ?_, ?_, ?_⟩
        · rw [j7.1 _ _ (by unfold Sgo; omega), q6.1 _ _ (by omega), j8.1 _ _ (by unfold Tgo; omega)]; exact s4
        · rw [j7.1 _ _ (by unfold Sgo; omega), q6.1 _ _ (by omega), j8.1 _ _ (by unfold Tgo; omega)]; exact s5
        · rw [j7.1 _ _ (by unfold Sgo; omega), q6.1 _ _ (by omega), j8.1 _ _ (by unfold Tgo; omega)]; exact s6
        · rw [j7.2.1 _ _ (by unfold Sgo; omega), q6.2.1 _ _ (by omega), j8.2.1 _ _ (by unfold Tgo; omega)]; exact s7
      have Ar3 : Ar m6 (f + J) (l - J) A := j6.eq fun c _ _ => q6.1 _ _ (by omega)
      obtain ⟨v3, v4, v5, v6, v7, vm', k1, k2, k3, k4, k5, k6, k7, k8, k9, k10, k11, k12, k13, k14, k15, k16⟩ := tail_go (b := b) h0 h1 (by omega) hpc hbb bd3 P3 Ar3 (fun i z1 z2 => by rw [q6.1 _ _ (by omega), q6.1 _ _ (by omega)]; exact j10 i z1 z2)
      have b50 : m5.1 187 (276 + b) = vm.1 187 (276 + b) := by rw [j8.1 _ _ (by unfold Tgo; omega)]; exact b40
      refine ⟨v1, v2, v3, v4, v5, v6, v7, vm', A, f + J, l - J, e1, ?_, k1, k2, k3, k4, k5, ?_, k7, k8, g3, by omega, by omega, by omega, k9, k10, k11, k12, by rw [k13, k14, j9, em6, rI_at, k40, b50, y4], (r5.tr (j7.mono g2_m2)).tr (k15.mono (g2_m3 (by omega) (by omega))), ((q4.tr (j8.mono (g2_t2 hl))).tr (q6.mono g2_t5)).tr (k16.mono (g2_t3 (by omega) (by omega)))⟩
      · unfold f_X5_letGo
        rw [vlet_eq, wat, Option.bind_some, bd2.2.2.2.1 9 (by omega) (by omega), eE, wid, niMul, if_neg (nle (by omega) (by omega)), bd2.2.2.2.1 10 (by omega) (by omega), eJ, show (2 : Int32) = nI 2 from rfl, niMul, ad1, if_pos (plt (by omega) (by omega))]
        exact j1
      · rw [← goesM _ rfl, niMul, if_neg (nle (by omega) (by omega)), show (2 : Int32) = nI 2 from rfl, niMul, ad1, if_neg (nle (by omega) (by omega))]
        unfold f_X8_letGo
        rw [show f_X8_letGo_2 20000 m4 (nI J) 0 = some m5 from j2, Option.bind_some, vlet_eq, show (276 : Int32) + nI b = nI (276 + b) from niAdd 276 b, if_pos (gin (show 276 + b < 416 by omega) (by omega)), niCl (show 276 + b < 2147483648 by omega), ← em6, vlet_eq]
        exact k6
