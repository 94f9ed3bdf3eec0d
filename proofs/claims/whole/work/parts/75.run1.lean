/-! ONE RUN, class against model -/
theorem run1 {B r nb a0 to : Nat} {A : Bool} {a : Int32} {q2 : rV → Nat → Int32 → Option rV} {vc vm : rV} {z : List Pz} {T0 T1 : Int} (hr : B + 13 < r) (hb : BI A vc vm r z) (hfl : fs z ≤ ls z) (hl : ls z < 24) (ho : ow z < 13) (htd : TD vm 185 (12 * ow z)) (hz : ∀ (i : Nat) p, z[i]? = some p → vm.1 192 (a0 + i) = nI p.2.2.2.2 ∧ p.2.2.2.2 < 13 ∧ TD vm 185 (12 * p.2.2.2.2)) (hto : a0 + z.length = to) (hto2 : to ≤ 12) (e1 : vm.1 190 a0 = nI (fs z)) (e2 : vm.1 190 (to - 1) + vm.1 191 (to - 1) - 1 = nI (ls z)) (s2 : sW vm 2 z ≤ 12000) (hnb : nb < 12) (hN : vm.1 187 288 = nI nb)
    (hW : Rw vc (B + 1) vm 187 0 24) (hF : FF B vc vm) (a24 : Am vm 24 T0) (a48 : Am vm 48 T1) (ht0 : T0 + (sW vm 3 z : Nat) ≤ 12000) (ht1 : T1 + (sW vm 4 z : Nat) ≤ 12000) (hzero : ∀ i, fs z ≤ i → i ≤ ls z → vm.1 187 (24 + i) = 0 ∧ vm.1 187 (48 + i) = 0) (b1 : BT (vc.1 B 11) vm 216) (b2 : BT (vc.1 B 12) vm 192) :
    ∃ vc' vm', f_X5_begin_22 q2 20000 vc B a r (nI (fs z)) = q2 vc' B (a + 1) ∧ f_X8_land vm (nI a0) (nI to) = some vm' ∧ Rw vc' (B + 1) vm' 187 0 24 ∧ FF B vc' vm' ∧ Am vm' 24 (T0 + (sW vm 3 z : Nat)) ∧ Am vm' 48 (T1 + (sW vm 4 z : Nat)) ∧ Ar vm' (fs z) (ls z) (sW vm 2 z : Nat) ∧ BT (vc'.1 B 11) vm' 216 ∧ BT (vc'.1 B 12) vm' 192 ∧ vm'.1 187 288 = nI (nb + 1) ∧ (vm'.1 187 (240 + nb) = nI (fs z) ∧ vm'.1 187 (252 + nb) = nI (ls z) ∧ vm'.1 187 (264 + nb) = nI (ow z)) ∧ Ch (Srn B (fs z) (ls z)) vc vc' ∧ Ch (Trn nb (fs z) (ls z)) vm vm' := by
  obtain ⟨hne, -, ⟨x2, x3, x4⟩, hm, w2, w3, w4⟩ := hb
  obtain ⟨f, ef⟩ : ∃ f, f = fs z := ⟨_, rfl⟩
  obtain ⟨l, el⟩ : ∃ l, l = ls z := ⟨_, rfl⟩
  obtain ⟨o, eo⟩ : ∃ o, o = ow z := ⟨_, rfl⟩
  obtain ⟨Wt, eW⟩ : ∃ w, w = sW vm 2 z := ⟨_, rfl⟩
  obtain ⟨Gt, eG⟩ : ∃ w, w = sW vm 3 z := ⟨_, rfl⟩
  obtain ⟨Lt, eL⟩ : ∃ w, w = sW vm 4 z := ⟨_, rfl⟩
  have hzl : 0 < z.length := List.length_pos_iff.mpr hne
  obtain ⟨p0, hp0⟩ : ∃ p, z[0]? = some p := ⟨z[0]'hzl, List.getElem?_eq_getElem hzl⟩
  have hop : min p0.2.2.2.2 (ow z) = ow z := by
    cases z with
    | nil => exact absurd rfl hne
    | cons p z =>
      simp only [List.getElem?_cons_zero, Option.some.injEq] at hp0
      rw [← hp0]
      simp only [ow]
      omega
  -- the model: sums, slots, cells
  have hs := land_s (vm := vm) (f := f) (l := l) (nb := nb) (by omega) (by omega) hnb hN z a0 20000 p0.2.2.2.2 0 0 0 to hz hto hto2 (by omega) (by have := (hz 0 p0 hp0).2.1; omega)
  rw [hop, ← eo, Nat.zero_add, Nat.zero_add, Nat.zero_add, ← eW, ← eG, ← eL] at hs
  have cE : Ch (fun k j => k = 187 ∧ (j = 288 ∨ j = 240 + nb ∨ j = 252 + nb ∨ j = 264 + nb ∨ j = 192 + f ∨ j = 192 + l)) vm (mE vm nb f l o) := by
    unfold mE
    exact (((((Ch.rf.I ⟨rfl, by omega⟩).I ⟨rfl, by omega⟩).I ⟨rfl, by omega⟩).I ⟨rfl, by omega⟩).I ⟨rfl, by omega⟩).I ⟨rfl, by omega⟩
  obtain ⟨m1, k1, k2, k3, k4⟩ := wet_go (f := f) (l := l) (o := o) (w := Wt) (g := Gt) (h := Lt) (by omega) (by omega) (by omega) (l + 1 - f) f 20000 (mE vm nb f l o) (Nat.le_refl _) (by omega) (by omega)
  have c1 : Ch (fun k j => k = 187 ∧ (j = 288 ∨ j = 240 + nb ∨ j = 252 + nb ∨ j = 264 + nb ∨ j = 192 + f ∨ j = 192 + l ∨ (216 + f ≤ j ∧ j ≤ 216 + l))) vm m1 := (cE.mono fun k j q => by omega).tr (k2.mono fun k j q => by omega)
  have nT0 := a24.nn
  have nT1 := a48.nn
  -- the class: bits
  obtain ⟨v1, j1, j2, j3, j4⟩ := bits_go (q2 := q2) (B := B) (r := r) (f := f) (l := l) (a := a) (by omega) (by omega) (by omega) (l + 1 - f) f 20000 vc (Nat.le_refl _) (by omega) (by omega) (by rw [ef]; exact x2) (by rw [el]; exact x3)
  -- water
  obtain ⟨s, es, -, hs9⟩ := htd 11 (by omega)
  have hs92 : s ≤ 9 := hs9
  rw [← eo] at es
  obtain ⟨v2, m2, g1, g2, g3, g4, g5, g6⟩ := shape_go (vc := v1) (vm := m1) (B := B) (kd := r) (f := f) (l := l) (s := s) (A := Wt) (by omega) (by omega) hs92 (by omega) (by omega) (by rw [j2.1 _ _ (by omega), ef]; exact x2) (by rw [j2.1 _ _ (by omega), el]; exact x3) (by rw [j2.1 _ _ (by omega), hm 11 (by omega) (by omega), ← eo]; exact es) (hW.ch j2 c1 (fun c _ => by omega) (fun c _ => by omega))
  -- grains
  have v22 : v2.1 r 2 = nI f := by rw [g4.1 _ _ (by unfold Sw; omega), j2.1 _ _ (by omega), ef]; exact x2
  have v23 : v2.1 r 3 = nI l := by rw [g4.1 _ _ (by unfold Sw; omega), j2.1 _ _ (by omega), el]; exact x3
  obtain ⟨v3, y1, y2, y3⟩ := layOut_go (B := B) (r := r) (s := 0) (G := Gt) (vc := v2) (by omega) (by omega : l < 24) (by omega : f ≤ l) (by omega) (by omega) v22 v23
  obtain ⟨v4, u1, u2, u3⟩ := layOut_go (B := B) (r := r) (s := 1) (G := Lt) (vc := v3) (by omega) (by omega : l < 24) (by omega : f ≤ l) (by omega) (by omega) (by rw [y2.1 _ _ (by omega)]; exact v22) (by rw [y2.1 _ _ (by omega)]; exact v23)
  have A2 : Am m2 24 T0 := (a24.ch c1 fun c _ => by omega).ch g5 fun c _ => by unfold Tw; omega
  have A3 : Am m2 48 T1 := (a48.ch c1 fun c _ => by omega).ch g5 fun c _ => by unfold Tw; omega
  have hw0 : 0 < l + 1 - f := by omega
  obtain ⟨m3, p1, p2, p3, p4⟩ := laM (o := 24) (f := f) (l := l) (Or.inl rfl) (by omega) (by omega) (G := Gt) (by omega) (F := fun n v a => f_X8_land_276 n v (nI f) (nI l) (nI Gt) (nI Lt) a) (K := fun v => f_X8_land_315 20000 v (nI f) (nI l) (nI Lt) 0) (fun n v a => h276 n v a) Gt 0 20000 m2 T0 (by omega) (by omega) A2 (by omega) (fun i hi => by
    rw [cn_0 hw0, g5.1 _ _ (by unfold Tw; omega), c1.1 _ _ (by omega)]
    exact (hzero (f + i) (by omega) (by omega)).1)
  have A3' : Am m3 48 T1 := A3.ch p4 fun c _ => by omega
  obtain ⟨m4, n1, n2, n3, n4⟩ := laM (o := 48) (f := f) (l := l) (Or.inr rfl) (by omega) (by omega) (G := Lt) (by omega) (F := fun n v a => f_X8_land_315 n v (nI f) (nI l) (nI Lt) a) (K := fun v => some v) (fun n v a => h315 n v a) Lt 0 20000 m3 T1 (by omega) (by omega) A3' (by omega) (fun i hi => by
    rw [cn_0 hw0, p4.1 _ _ (by omega), g5.1 _ _ (by unfold Tw; omega), c1.1 _ _ (by omega)]
    exact (hzero (f + i) (by omega) (by omega)).2)
  -- what has changed
  have S14 : Ch (Srn B f l) vc v4 := (((j2.mono (T := Srn B f l) fun k j q => Or.inl q).tr (g4.mono (T := Srn B f l) fun k j q => Or.inr ⟨Or.inl q.1, q.2⟩)).tr (y2.mono (T := Srn B f l) fun k j q => Or.inr ⟨Or.inr (Or.inl q.1), q.2⟩)).tr (u2.mono (T := Srn B f l) fun k j q => Or.inr ⟨Or.inr (Or.inr q.1), q.2⟩)
  have T14 : Ch (Trn nb f l) vm m4 := (((c1.mono fun k j q => by
    obtain ⟨q, z⟩ := q
    refine ⟨q, ?_⟩
    rcases z with z | z | z | z | z | z | z
    · exact Or.inr (Or.inr (Or.inr (Or.inr (Or.inr (Or.inr (Or.inl z))))))
    · exact Or.inr (Or.inr (Or.inr (Or.inl z)))
    · exact Or.inr (Or.inr (Or.inr (Or.inr (Or.inl z))))
    · exact Or.inr (Or.inr (Or.inr (Or.inr (Or.inr (Or.inl z)))))
    · exact Or.inr (Or.inr (Or.inr (Or.inr (Or.inr (Or.inr (Or.inr (Or.inl z)))))))
    · exact Or.inr (Or.inr (Or.inr (Or.inr (Or.inr (Or.inr (Or.inr (Or.inr (Or.inl z))))))))
    · exact Or.inr (Or.inr (Or.inr (Or.inr (Or.inr (Or.inr (Or.inr (Or.inr (Or.inr z))))))))).tr (g5.mono fun k j q => ⟨q.1, Or.inl q.2⟩)).tr (p4.mono fun k j q => ⟨q.1, Or.inr (Or.inl q.2)⟩)).tr (n4.mono fun k j q => ⟨q.1, Or.inr (Or.inr (Or.inl q.2))⟩)
  have c24 : Ch (fun k j => k = 187 ∧ ((f ≤ j ∧ j ≤ l) ∨ (24 + f ≤ j ∧ j ≤ 24 + l) ∨ (48 + f ≤ j ∧ j ≤ 48 + l))) m1 m4 := ((g5.mono fun k j q => ⟨q.1, Or.inl q.2⟩).tr (p4.mono fun k j q => ⟨q.1, Or.inr (Or.inl q.2)⟩)).tr (n4.mono fun k j q => ⟨q.1, Or.inr (Or.inr q.2)⟩)
  have slot : ∀ j, j = 288 ∨ j = 240 + nb ∨ j = 252 + nb ∨ j = 264 + nb ∨ j = 192 + f ∨ j = 192 + l → m4.1 187 j = (mE vm nb f l o).1 187 j := fun j hj => by rw [c24.1 _ _ (by omega), k2.1 _ _ (by omega)]
  rw [← ef, ← el, ← eo, ← eW, ← eG, ← eL]
  refine ⟨v4, m4, ?_, ?_, ?_, ⟨fun c hc => ?_, fun c hc => ?_⟩, ?_, ?_, ?_, fun e he => ?_, fun e he => ?_, ?_, ⟨?_, ?_, ?_⟩, S14, T14⟩
  · rw [j1]
    unfold bgT
    rw [j2.1 _ _ (by omega), w2, ← eW, g1, Option.bind_some, show v2.1 (r + 1) 3 = nI Gt by rw [g4.1 _ _ (by unfold Sw; omega), j2.1 _ _ (by omega), w3, eG], show f_X5_layOut v2 B r 0 (nI Gt) = some v3 from y1, Option.bind_some, show v3.1 (r + 1) 4 = nI Lt by rw [y2.1 _ _ (by omega), g4.1 _ _ (by unfold Sw; omega), j2.1 _ _ (by omega), w4, eL], show f_X5_layOut v3 B r 1 (nI Lt) = some v4 from u1, Option.bind_some]
  · unfold f_X8_land
    rw [if_pos (gin (show a0 < 12 by omega) (by omega)), niCl (show a0 < 2147483648 by omega), e1, vlet_eq, show nI to - 1 = nI (to - 1) from niSub (a := to) (b := 1) (by omega), if_pos (gin (show to - 1 < 12 by omega) (by omega)), niCl (show to - 1 < 2147483648 by omega), e2, vlet_eq, vlet_eq, ← ef, ← el]
    have hz0 := (hz 0 p0 hp0).1
    rw [Nat.add_zero] at hz0
    rw [hz0]
    refine (show f_X8_land_48 20000 vm (nI to) (nI f) (nI l) (nI p0.2.2.2.2) 0 0 0 (nI a0) = _ from hs).trans ?_
    rw [k1, c1.1 185 _ (by omega), es, g2, Option.bind_some]
    refine (show f_X8_land_276 20000 m2 (nI f) (nI l) (nI Gt) (nI Lt) 0 = _ from p1).trans ?_
    exact n1
  · exact ((g3.ch y2 p4 (fun c _ => by omega) (fun c _ => by omega)).ch u2 n4 (fun c _ => by omega) (fun c _ => by omega))
  · by_cases q : f ≤ c ∧ c ≤ l
    · rw [u2.1 _ _ (by omega), show v3.1 (B + 5) c = _ from y3 c q.1 q.2, n4.1 _ _ (by omega), show 24 + c = 24 + (f + (c - f)) by omega, p3 (c - f) (by omega)]
    · rw [S14.1 _ _ (by unfold Srn; omega), c24.1 _ _ (by omega), c1.1 _ _ (by omega)]; exact hF.1 c hc
  · by_cases q : f ≤ c ∧ c ≤ l
    · rw [show v4.1 (B + 6) c = _ from u3 c q.1 q.2, show 48 + c = 48 + (f + (c - f)) by omega, n3 (c - f) (by omega)]
    · rw [S14.1 _ _ (by unfold Srn; omega), c24.1 _ _ (by omega), c1.1 _ _ (by omega)]; exact hF.2 c hc
  · exact p2.ch n4 fun c _ => by omega
  · exact n2
  · exact g6.eq fun c _ _ => by rw [n4.1 _ _ (by omega), p4.1 _ _ (by omega)]
  · rw [u2.1 B 11 (by omega), y2.1 B 11 (by omega), g4.1 B 11 (by unfold Sw; omega), j3 e he, c24.1 _ _ (by omega)]
    by_cases q : f ≤ e ∧ e ≤ l
    · rw [k3 e q.1 q.2, decide_eq_true q, Bool.or_true, if_pos rfl]
    · rw [k2.1 _ _ (by omega), cE.1 _ _ (by omega), decide_eq_false q, Bool.or_false]; exact b1 e he
  · rw [u2.1 B 12 (by omega), y2.1 B 12 (by omega), g4.1 B 12 (by unfold Sw; omega), j4 e he]
    by_cases q : e = f ∨ e = l
    · have : (decide (e = f) || decide (e = l)) = true := by
        rcases q with q | q
        · rw [decide_eq_true q, Bool.true_or]
        · rw [decide_eq_true q, Bool.or_true]
      rw [this, Bool.or_true, if_pos rfl, slot (192 + e) (by omega)]
      unfold mE
      by_cases z2 : e = l
      · rw [z2, rI_at]
      · rw [rI_no (by omega), show e = f by omega, rI_at]
    · have : (decide (e = f) || decide (e = l)) = false := by rw [decide_eq_false (by omega), decide_eq_false (by omega), Bool.or_false]
      rw [this, Bool.or_false, c24.1 _ _ (by omega), c1.1 _ _ (by omega)]; exact b2 e he
  · rw [slot 288 (by omega)]
    unfold mE
    rw [rI_no (by omega), rI_no (by omega), rI_no (by omega), rI_no (by omega), rI_no (by omega), rI_at]
  · rw [slot (240 + nb) (by omega)]
    unfold mE
    rw [rI_no (by omega), rI_no (by omega), rI_no (by omega), rI_no (by omega), rI_at]
  · rw [slot (252 + nb) (by omega)]
    unfold mE
    rw [rI_no (by omega), rI_no (by omega), rI_no (by omega), rI_at]
  · rw [slot (264 + nb) (by omega)]
    unfold mE
    rw [rI_no (by omega), rI_no (by omega), rI_at]
