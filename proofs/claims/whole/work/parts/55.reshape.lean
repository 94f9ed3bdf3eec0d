/-! RESHAPE against FLOWS -/
def rTail (vc : rV) (B kd : Nat) : Option rV := (f_X5_waterOf vc B kd).bind fun p2 => (f_X5_shape vc B kd p2).bind fun p3 => f_X5_reshape_48 20000 p3 B kd 0 (p3.1 kd 2)
def fTail (vm : rV) (a1 : Int32) : Option rV := (f_X8_of vm 11).bind fun p2 => (f_X8_shape vm (vm.1 174 37) (vm.1 174 38) a1 p2).bind fun p3 => f_X8_flows_59 20000 p3 0 (p3.1 174 37)
def Sbf (B f l : Nat) : Nat → Nat → Prop := fun k j => k = B + 2 ∧ f ≤ j ∧ j ≤ l
def Tbf (f l : Nat) : Nat → Nat → Prop := fun k j => k = 194 ∧ f ≤ j ∧ j ≤ l
theorem copy_go {B kd f l : Nat} {a : Int32} (hl : l < 24) (hkd : B + 13 < kd) : ∀ (d c n m : Nat) (vc vm : rV), f ≤ c → c + d = l + 1 → d < n → d < m → vc.1 kd 3 = nI l → vm.1 174 38 = nI l → Rw vc (B + 1) vm 187 0 24 → (∀ i, f ≤ i → i < c → vc.1 (B + 2) i = vm.1 194 i ∧ vm.1 194 i = vm.1 187 (0 + i)) →
    ∃ wc wm, f_X5_reshape_5 n vc B kd (nI c) = rTail wc B kd ∧ f_X8_flows_5 m vm a (nI c) = fTail wm a ∧ Ch (Sbf B f l) vc wc ∧ Ch (Tbf f l) vm wm ∧ (∀ i, f ≤ i → i ≤ l → wc.1 (B + 2) i = wm.1 194 i ∧ wm.1 194 i = vm.1 187 (0 + i)) := by
  intro d
  induction d with
  | zero =>
    intro c n m vc vm h1 h2 hn hm a2 b2 hW hH
    obtain ⟨n, rfl⟩ : ∃ n', n = n' + 1 := ⟨n - 1, by omega⟩
    obtain ⟨m, rfl⟩ : ∃ m', m = m' + 1 := ⟨m - 1, by omega⟩
    refine ⟨vc, vm, ?_, ?_, Ch.rf, Ch.rf, fun i q1 q2 => hH i q1 (by omega)⟩
    · rw [f_X5_reshape_5, a2, if_pos (plt (by omega) (by omega))]
      simp only [vlet_eq]
      rfl
    · rw [f_X8_flows_5, b2, if_pos (plt (by omega) (by omega))]
      simp only [vlet_eq]
      unfold fTail
      rw [b2]
  | succ d ih =>
    intro c n m vc vm h1 h2 hn hm a2 b2 hW hH
    obtain ⟨n, rfl⟩ : ∃ n', n = n' + 1 := ⟨n - 1, by omega⟩
    obtain ⟨m, rfl⟩ : ∃ m', m = m' + 1 := ⟨m - 1, by omega⟩
    rw [f_X5_reshape_5, a2, if_neg (nlt (by omega) (by omega)), if_pos (gin (show c < 24 by omega) (by omega)), f_X8_flows_5, b2, if_neg (nlt (by omega) (by omega)), show (0 : Int32) + nI c = nI (0 + c) from niAdd 0 c, if_pos (gin (show 0 + c < 416 by omega) (by omega)), if_pos (gin (show c < 24 by omega) (by omega))]
    simp only [vlet_eq]
    rw [niCl (show c < 2147483648 by omega), niCl (show 0 + c < 2147483648 by omega), ad1, hW c (by omega)]
    obtain ⟨wc, wm, g1, g2, g3, g4, g5⟩ := ih (c + 1) n m (rI vc (B + 2) c (vm.1 187 (0 + c))) (rI vm 194 c (vm.1 187 (0 + c))) (by omega) (by omega) (by omega) (by omega) (by rw [rI_no (by omega)]; exact a2) (by rw [rI_no (by omega)]; exact b2) (hW.off (by omega) (by omega)) (fun i q1 q2 => by
      by_cases q : i = c
      · rw [q, rI_at, rI_at, rI_no (by omega)]; exact ⟨rfl, rfl⟩
      · rw [rI_no (by omega), rI_no (by omega), rI_no (by omega)]; exact hH i q1 (by omega))
    refine ⟨wc, wm, g1, g2, (Ch.rf.I ⟨rfl, by omega, by omega⟩).tr g3, (Ch.rf.I ⟨rfl, by omega, by omega⟩).tr g4, fun i q1 q2 => ?_⟩
    have := g5 i q1 q2
    rwa [rI_no (by omega)] at this
def Srs (B f l : Nat) : Nat → Nat → Prop := fun k j => (k = B + 1 ∧ f ≤ j ∧ j ≤ l) ∨ (k = B + 2 ∧ f ≤ j ∧ j ≤ l) ∨ (k = B + 11 ∧ f ≤ j ∧ j < l) ∨ (k = B ∧ j = 17)
def Trs (f l : Nat) : Nat → Nat → Prop := fun k j => (k = 194 ∧ f ≤ j ∧ j ≤ l) ∨ (k = 187 ∧ ((f ≤ j ∧ j ≤ l) ∨ (168 + f ≤ j ∧ j < 168 + l) ∨ j = 293))
theorem reshape_go {B kd own f l A : Nat} {vc vm : rV} (hA : A ≤ 12000) (hb : BD B kd own f l vc vm) (hW : Rw vc (B + 1) vm 187 0 24) (hF : Rw vc (B + 11) vm 187 168 24) (hS : vc.1 B 17 = vm.1 187 293) (hAr : Ar vm f l A) :
    ∃ vc' vm', f_X5_reshape vc B kd = some vc' ∧ f_X8_flows vm (nI A) = some vm' ∧ Rw vc' (B + 1) vm' 187 0 24 ∧ Rw vc' (B + 11) vm' 187 168 24 ∧ vc'.1 B 17 = vm'.1 187 293 ∧ Ar vm' f l A ∧
      (∀ i, f ≤ i → i ≤ l → vc'.1 (B + 2) i = vm'.1 194 i ∧ 0 ≤ (vm'.1 194 i).toInt ∧ (vm'.1 194 i).toInt ≤ A) ∧ (∀ i, f ≤ i → i < l → -(A : Int) ≤ (vm'.1 187 (168 + i)).toInt ∧ (vm'.1 187 (168 + i)).toInt ≤ A) ∧ Ch (Srs B f l) vc vc' ∧ Ch (Trs f l) vm vm' := by
  have hb0 := hb
  obtain ⟨⟨a1, a2⟩, ⟨b1, b2, b3⟩, ⟨c0, hfl, hl, hkd⟩, hmade, htd⟩ := hb
  unfold f_X5_reshape f_X8_flows
  simp only [vlet_eq]
  rw [a1, b1]
  obtain ⟨wc, wm, g1, g2, g3, g4, g5⟩ := copy_go (f := f) (a := nI A) hl hkd (l + 1 - f) f 20000 20000 vc vm (by omega) (by omega) (by omega) (by omega) a2 b2 hW (fun i q1 q2 => by omega)
  rw [g1, g2]
  have hb1 : BD B kd own f l wc wm := hb0.ch g3 g4 (by unfold Sbf; omega) (by unfold Sbf; omega) (fun j _ _ => by unfold Sbf; omega) (fun j _ _ => by unfold Tbf; omega) (fun j => by unfold Tbf; omega)
  have hW1 : Rw wc (B + 1) wm 187 0 24 := hW.ch g3 g4 (fun i _ => by unfold Sbf; omega) (fun i _ => by unfold Tbf; omega)
  have hF1 : Rw wc (B + 11) wm 187 168 24 := hF.ch g3 g4 (fun i _ => by unfold Sbf; omega) (fun i _ => by unfold Tbf; omega)
  have hS1 : wc.1 B 17 = wm.1 187 293 := by rw [g3.1 _ _ (by unfold Sbf; omega), g4.1 _ _ (by unfold Tbf; omega)]; exact hS
  have ew : ∀ i, am wm 0 i = am vm 0 i := fun i => by
    show (wm.1 187 (0 + i)).toInt = _
    rw [g4.1 _ _ (by unfold Tbf; omega)]
    rfl
  have hAr1 : Ar wm f l A := ⟨fun i q1 q2 => by rw [ew]; exact hAr.1 i q1 q2, by rw [sm_ext (fun i _ _ => ew i)]; exact hAr.2⟩
  have hb9 := hb1
  obtain ⟨⟨k1, k2⟩, ⟨m1, m2, m3⟩, -, hmade1, htd1⟩ := hb1
  obtain ⟨s, es, -, hs⟩ := htd1 11 (by omega)
  unfold rTail fTail
  rw [waterOf_go hl hfl k1 k2 hW1 hA hAr1, show (11 : Int32) = nI 11 from rfl, hb9.of (j := 11) (by omega), m1, m2, es]
  simp only [Option.bind_some]
  obtain ⟨vc2, vm2, h1, h2, h3, h4, h5, h6⟩ := shape_go (A := A) hl hfl hs hA (by omega) k1 k2 (by rw [hmade1 11 (by omega) (by omega)]; exact es) hW1
  rw [h1, h2]
  simp only [Option.bind_some]
  have hb2 : BD B kd own f l vc2 vm2 := hb9.ch h4 h5 (by unfold Sw; omega) (by unfold Sw; omega) (fun j _ _ => by unfold Sw; omega) (fun j _ _ => by unfold Tw; omega) (fun j => by unfold Tw; omega)
  have hF2 : Rw vc2 (B + 11) vm2 187 168 24 := hF1.ch h4 h5 (fun i _ => by unfold Sw; omega) (fun i _ => by unfold Tw; omega)
  have hS2 : vc2.1 B 17 = vm2.1 187 293 := by rw [h4.1 _ _ (by unfold Sw; omega), h5.1 _ _ (by unfold Tw; omega)]; exact hS1
  have hb2' : ∀ i, f ≤ i → i ≤ l → vc2.1 (B + 2) i = vm2.1 194 i ∧ vm2.1 194 i = vm.1 187 (0 + i) := fun i q1 q2 => by
    rw [h4.1 _ _ (by unfold Sw; omega), h5.1 _ _ (by unfold Tw; omega)]
    exact g5 i q1 q2
  obtain ⟨⟨n1, n2⟩, ⟨o1, o2, o3⟩, -, -, -⟩ := hb2
  rw [n1, o1]
  have hbd : ∀ i, f ≤ i → i ≤ l → 0 ≤ am vm 0 i ∧ am vm 0 i ≤ A := fun i q1 q2 => by
    have := sm_one (g := am vm 0) (a := f) (n := l + 1 - f) (c := i) (fun c z1 z2 => hAr.1 c z1 (by omega)) q1 (by omega)
    rw [hAr.2] at this
    exact ⟨hAr.1 i q1 q2, this⟩
  obtain ⟨vc3, vm3, p1, p2, p3, p4, p5, p6, p7, -⟩ := flow_go (f := f) (A := A) (hd := am vm 0) (wt := am vm2 0) hl hkd hA (fun i q1 q2 => ⟨hAr.1 i q1 q2, h6.1 i q1 q2⟩) hAr.2 h6.2 (l - f) f 20000 20000 vc2 vm2 0 (by omega) (by omega) (by omega) (by omega) n1 n2 o1 o2 h3 (fun i q1 q2 => ⟨(hb2' i q1 q2).1, by rw [(hb2' i q1 q2).2]; rfl, rfl⟩) (by rw [show f - f = 0 by omega]; rfl) hF2 hS2
  have e3 : ∀ i, i < 24 → am vm3 0 i = am vm2 0 i := fun i hi => by
    show (vm3.1 187 (0 + i)).toInt = _
    rw [p7.1 _ _ (by unfold Tfl; omega)]
    rfl
  refine ⟨vc3, vm3, p1, p2, h3.ch p6 p7 (fun i _ => by unfold Sfl; omega) (fun i _ => by unfold Tfl; omega), p3, p4, ⟨fun i q1 q2 => by rw [e3 i (by omega)]; exact h6.1 i q1 q2, by rw [sm_ext (fun i _ _ => e3 i (by omega))]; exact h6.2⟩, fun i q1 q2 => ?_, p5, ?_, ?_⟩
  · rw [p6.1 _ _ (by unfold Sfl; omega), p7.1 _ _ (by unfold Tfl; omega)]
    refine ⟨(hb2' i q1 q2).1, ?_⟩
    rw [(hb2' i q1 q2).2]
    exact hbd i q1 q2
  · exact ((g3.mono fun k j q => by unfold Sbf at q; unfold Srs; omega).tr (h4.mono fun k j q => by unfold Sw at q; unfold Srs; omega)).tr (p6.mono fun k j q => by unfold Sfl at q; unfold Srs; omega)
  · exact ((g4.mono fun k j q => by unfold Tbf at q; unfold Trs; omega).tr (h5.mono fun k j q => by unfold Tw at q; unfold Trs; omega)).tr (p7.mono fun k j q => by unfold Tfl at q; unfold Trs; omega)
