/-! FLOW: what a body's cells give on when water takes its shape -/
/-- bounds of the told numbers -/
def tLo : Nat → Nat := fun j => ([0, 2, 1, 0, 0, 0, 0, 0, 1, 0, 1, 0] : List Nat).getD j 0
def tHi : Nat → Nat := fun j => ([23, 24, 999, 999, 999, 99, 99, 100, 99, 99, 9, 9] : List Nat).getD j 0
/-- a row of told numbers within its bounds -/
def TD (v : rV) (k o : Nat) : Prop := ∀ j, j < 12 → ∃ x, v.1 k (o + j) = nI x ∧ tLo j ≤ x ∧ x ≤ tHi j
theorem TD.ch {S : Nat → Nat → Prop} {v w : rV} {k o : Nat} (h : TD v k o) (g : Ch S v w) (q : ∀ j, j < 12 → ¬ S k (o + j)) : TD w k o := fun j hj => by
  rw [g.1 k (o + j) (q j hj)]
  exact h j hj
/-- a body as the class and the model hold it while its turn lasts -/
def BD (B kd own f l : Nat) (vc vm : rV) : Prop := (vc.1 kd 2 = nI f ∧ vc.1 kd 3 = nI l) ∧ (vm.1 174 37 = nI f ∧ vm.1 174 38 = nI l ∧ vm.1 174 39 = nI own) ∧ (own < 13 ∧ f ≤ l ∧ l < 24 ∧ B + 13 < kd) ∧ (∀ j, 5 ≤ j → j < 12 → vc.1 (kd + 1) j = vm.1 185 (12 * own + j)) ∧ TD vm 185 (12 * own)
theorem BD.ch {S T : Nat → Nat → Prop} {B kd own f l : Nat} {vc vm wc wm : rV} (h : BD B kd own f l vc vm) (hc : Ch S vc wc) (hm : Ch T vm wm) (s2 : ¬ S kd 2) (s3 : ¬ S kd 3) (sm : ∀ j, 5 ≤ j → j < 12 → ¬ S (kd + 1) j) (t1 : ∀ j, 37 ≤ j → j ≤ 39 → ¬ T 174 j) (t2 : ∀ j, ¬ T 185 j) : BD B kd own f l wc wm := by
  obtain ⟨⟨a1, a2⟩, ⟨b1, b2, b3⟩, c, d, e⟩ := h
  refine ⟨⟨by rw [hc.1 _ _ s2, a1], by rw [hc.1 _ _ s3, a2]⟩, ⟨by rw [hm.1 _ _ (t1 37 (by omega) (by omega)), b1], by rw [hm.1 _ _ (t1 38 (by omega) (by omega)), b2], by rw [hm.1 _ _ (t1 39 (by omega) (by omega)), b3]⟩, c, fun j h1 h2 => by rw [hc.1 _ _ (sm j h1 h2), hm.1 _ _ (t2 _)]; exact d j h1 h2, e.ch hm fun j _ => t2 _⟩
theorem BD.of {B kd own f l : Nat} {vc vm : rV} (h : BD B kd own f l vc vm) {j : Nat} (hj : j < 12) : f_X8_of vm (nI j) = some (vm.1 185 (12 * own + j)) := by
  obtain ⟨-, ⟨-, -, b3⟩, c, -, -⟩ := h
  unfold f_X8_of
  rw [b3, show (12 : Int32) = nI 12 from rfl, niMul, niAdd, if_pos (gin (show 12 * own + j < 156 by omega) (by omega)), niCl (by omega)]
/-- a body's water, told together -/
theorem waterOf_7 {vc vm : rV} {B kd l A : Nat} (hl : l < 24) (e3 : vc.1 kd 3 = nI l) (hR : Rw vc (B + 1) vm 187 0 24) (hA : A ≤ 12000) : ∀ (d c n P : Nat), c + d = l + 1 → d < n → (∀ i, c ≤ i → i ≤ l → 0 ≤ am vm 0 i) → (P : Int) + sm (am vm 0) c d = A → f_X5_waterOf_7 vc n B kd (nI P) (nI c) = some (nI A) := by
  intro d
  induction d with
  | zero =>
    intro c n P h1 hn h0 h2
    obtain ⟨n, rfl⟩ : ∃ n', n = n' + 1 := ⟨n - 1, by omega⟩
    simp only [sm] at h2
    rw [f_X5_waterOf_7, e3, if_pos (plt (by omega) (by omega)), show P = A by omega]
  | succ d ih =>
    intro c n P h1 hn h0 h2
    obtain ⟨n, rfl⟩ : ∃ n', n = n' + 1 := ⟨n - 1, by omega⟩
    simp only [sm] at h2
    have h3 : 0 ≤ (vm.1 187 (0 + c)).toInt := h0 c (by omega) (by omega)
    have h4 : 0 ≤ sm (am vm 0) (c + 1) d := sm_nn fun i q1 q2 => h0 i (by omega) (by omega)
    have e : am vm 0 c = (vm.1 187 (0 + c)).toInt := rfl
    rw [f_X5_waterOf_7, e3, if_neg (nlt (by omega) (by omega)), if_pos (gin (show c < 24 by omega) (by omega))]
    simp only [vlet_eq]
    rw [niCl (by omega), hR c (by omega), niOf h3, niAdd, ad1]
    exact ih (c + 1) n _ (by omega) (by omega) (fun i q1 q2 => h0 i (by omega) q2) (by omega)
theorem waterOf_go {vc vm : rV} {B kd f l A : Nat} (hl : l < 24) (hfl : f ≤ l) (e2 : vc.1 kd 2 = nI f) (e3 : vc.1 kd 3 = nI l) (hR : Rw vc (B + 1) vm 187 0 24) (hA : A ≤ 12000) (h : Ar vm f l A) : f_X5_waterOf vc B kd = some (nI A) := by
  unfold f_X5_waterOf
  simp only [vlet_eq]
  rw [e2]
  exact waterOf_7 hl e3 hR hA (l + 1 - f) f 20000 0 (by omega) (by omega) h.1 (by have := h.2; omega)
def Sfl (B f l : Nat) : Nat → Nat → Prop := fun k j => (k = B + 11 ∧ f ≤ j ∧ j < l) ∨ (k = B ∧ j = 17)
def Tfl (f l : Nat) : Nat → Nat → Prop := fun k j => k = 187 ∧ ((168 + f ≤ j ∧ j < 168 + l) ∨ j = 293)
theorem flow_step {vc vm : rV} {B kd f l c n m : Nat} {x : Int32} (hl : l < 24) (hfc : f ≤ c) (hcl : c < l) (hkd : B + 13 < kd) (a1 : vc.1 kd 2 = nI f) (a2 : vc.1 kd 3 = nI l) (b1 : vm.1 174 37 = nI f) (b2 : vm.1 174 38 = nI l) (hW : vc.1 (B + 1) c = vm.1 187 (0 + c)) (hB : vc.1 (B + 2) c = vm.1 194 c) (hs : vc.1 B 17 = vm.1 187 293) :
    ∃ (wc wm : rV) (y : Int32), y = x + (vm.1 194 c - vm.1 187 (0 + c)) ∧ f_X5_reshape_48 (n + 1) vc B kd x (nI c) = f_X5_reshape_48 n wc B kd y (nI (c + 1)) ∧ f_X8_flows_59 (m + 1) vm x (nI c) = f_X8_flows_59 m wm y (nI (c + 1)) ∧
      wc.1 B 17 = wm.1 187 293 ∧ (wc = rI vc (B + 11) c y ∨ ∃ t, wc = rI (rI vc (B + 11) c y) B 17 t) ∧ (∃ t, wm = rI (rI vm 187 (168 + c) y) 187 293 t) := by
  obtain ⟨y, ey⟩ : ∃ y, y = x + (vm.1 194 c - vm.1 187 (0 + c)) := ⟨_, rfl⟩
  have k1 : (rI vc (B + 11) c y).1 kd 2 = nI f := by rw [rI_no (by omega)]; exact a1
  have k2 : (rI vc (B + 11) c y).1 kd 3 = nI l := by rw [rI_no (by omega)]; exact a2
  have k3 : (rI vm 187 (168 + c) y).1 174 37 = nI f := by rw [rI_no (by omega)]; exact b1
  have k4 : (rI vm 187 (168 + c) y).1 174 38 = nI l := by rw [rI_no (by omega)]; exact b2
  have k5 : (rI vc (B + 11) c y).1 B 17 = (rI vm 187 (168 + c) y).1 187 293 := by rw [rI_no (by omega), rI_no (by omega)]; exact hs
  have u1 : nI l - nI c - 1 = nI (l - c - 1) := by rw [niSub (by omega)]; exact niSub (a := l - c) (b := 1) (by omega)
  rw [f_X5_reshape_48, a2, if_neg (nle (by omega) (by omega)), if_pos (gin (show c < 24 by omega) (by omega)), f_X8_flows_59, b2, if_neg (nle (by omega) (by omega)), if_pos (gin (show c < 24 by omega) (by omega))]
  simp only [vlet_eq]
  rw [show (0 : Int32) + nI c = nI (0 + c) from niAdd 0 c, if_pos (gin (show 0 + c < 416 by omega) (by omega)), show (168 : Int32) + nI c = nI (168 + c) from niAdd 168 c, if_pos (gin (show 168 + c < 416 by omega) (by omega)), niCl (show c < 2147483648 by omega), niCl (show 0 + c < 2147483648 by omega), niCl (show 168 + c < 2147483648 by omega), hW, hB, ← ey, k1, k2, k3, k4, niSub hfc, niSub (show c ≤ l by omega), niAdd, show (2 : Int32) = nI 2 from rfl, niMul]
  unfold f_X8_flows_116
  rw [k3, k4, u1, ad1, niSub (show f ≤ c + 1 by omega)]
  have fin : ∀ (t : Int32), f_X8_flows_181 (fun v a2 a3 => f_X8_flows_59 m v a2 a3) (rI vm 187 (168 + c) y) y (nI c) t ((rI vm 187 (168 + c) y).1 187 293) 293 = f_X8_flows_59 m (rI (rI vm 187 (168 + c) y) 187 293 ((rI vm 187 (168 + c) y).1 187 293 + t)) y (nI (c + 1)) := fun t => by
    unfold f_X8_flows_181
    rw [if_pos (show ¬ (293 : Int32) < 0 ∧ (293 : Int32).toNatClampNeg < 416 by decide)]
    simp only [vlet_eq]
    rw [ad1]
    rfl
  have fin0 : ∀ q, f_X8_flows_180 q (rI vm 187 (168 + c) y) y (nI c) ((rI vm 187 (168 + c) y).1 187 293) 293 = f_X8_flows_181 q (rI vm 187 (168 + c) y) y (nI c) 0 ((rI vm 187 (168 + c) y).1 187 293) 293 := fun q => rfl
  by_cases p : y ≤ 0
  · by_cases z : 0 ≤ y
    · refine ⟨rI vc (B + 11) c y, rI (rI vm 187 (168 + c) y) 187 293 ((rI vm 187 (168 + c) y).1 187 293 + 0), y, rfl, ?_, ?_, ?_, Or.inl rfl, _, rfl⟩
      · rw [if_pos p]
        unfold f_X5_reshape_111 f_X5_reshape_142
        rw [if_pos z]
        simp only [vlet_eq]
        rw [ad1]
      · unfold f_X8_flows_142 f_X8_flows_166
        simp only [if_pos p, if_pos z, fin0, fin, ite_self]
      · rw [rI_at, Int32.add_zero]; exact k5
    · by_cases g : 2 * (c + 1) ≤ f + l
      · refine ⟨rI (rI vc (B + 11) c y) B 17 ((rI vc (B + 11) c y).1 B 17 - y), rI (rI vm 187 (168 + c) y) 187 293 ((rI vm 187 (168 + c) y).1 187 293 + -y), y, rfl, ?_, ?_, ?_, Or.inr ⟨_, rfl⟩, _, rfl⟩
        · rw [if_pos p]
          unfold f_X5_reshape_111 f_X5_reshape_142
          rw [if_neg z, k1, k2, niAdd, show (2 : Int32) = nI 2 from rfl, ad1, niMul, if_neg (nlt (by omega) (by omega))]
          simp only [vlet_eq]
        · have g2 : ¬ nI (l - c - 1) < nI (c + 1 - f) := nlt (by omega) (by omega)
          unfold f_X8_flows_142 f_X8_flows_166
          simp only [if_pos p, if_neg z, if_neg g2, fin, ite_self, if_neg (show ¬ (1 : Int32) = 0 from by decide)]
        · rw [rI_at, rI_at, k5, Int32.sub_eq_add_neg]
      · refine ⟨rI vc (B + 11) c y, rI (rI vm 187 (168 + c) y) 187 293 ((rI vm 187 (168 + c) y).1 187 293 + 0), y, rfl, ?_, ?_, ?_, Or.inl rfl, _, rfl⟩
        · rw [if_pos p]
          unfold f_X5_reshape_111 f_X5_reshape_142
          rw [if_neg z, k1, k2, niAdd, show (2 : Int32) = nI 2 from rfl, ad1, niMul, if_pos (plt (by omega) (by omega))]
          simp only [vlet_eq]
        · have g2 : nI (l - c - 1) < nI (c + 1 - f) := plt (by omega) (by omega)
          unfold f_X8_flows_142 f_X8_flows_166
          simp only [if_pos p, if_pos g2, fin0, fin, ite_self, if_true]
        · rw [rI_at, Int32.add_zero]; exact k5
  · have z : 0 ≤ y := by
      rw [le_toInt] at p ⊢
      simp only [Int32.reduceToInt, show (0 : Int32).toInt = 0 from rfl] at p ⊢
      omega
    by_cases g : f + l ≤ 2 * c
    · refine ⟨rI (rI vc (B + 11) c y) B 17 ((rI vc (B + 11) c y).1 B 17 + y), rI (rI vm 187 (168 + c) y) 187 293 ((rI vm 187 (168 + c) y).1 187 293 + y), y, rfl, ?_, ?_, ?_, Or.inr ⟨_, rfl⟩, _, rfl⟩
      · rw [if_neg p, if_neg (nlt (by omega) (by omega))]
        unfold f_X5_reshape_142
        simp only [vlet_eq]
        rw [ad1]
      · have g2 : ¬ nI (c - f) < nI (l - c) := nlt (by omega) (by omega)
        unfold f_X8_flows_142 f_X8_flows_166
        simp only [if_neg p, if_neg g2, fin, ite_self, if_neg (show ¬ (1 : Int32) = 0 from by decide)]
      · rw [rI_at, rI_at, k5]
    · refine ⟨rI vc (B + 11) c y, rI (rI vm 187 (168 + c) y) 187 293 ((rI vm 187 (168 + c) y).1 187 293 + 0), y, rfl, ?_, ?_, ?_, Or.inl rfl, _, rfl⟩
      · rw [if_neg p, if_pos (plt (by omega) (by omega))]
        unfold f_X5_reshape_111 f_X5_reshape_142
        rw [if_pos z]
        simp only [vlet_eq]
        rw [ad1]
      · have g2 : nI (c - f) < nI (l - c) := plt (by omega) (by omega)
        unfold f_X8_flows_142 f_X8_flows_166
        simp only [if_pos z, if_pos g2, fin0, fin, ite_self, if_true]
      · rw [rI_at, Int32.add_zero]; exact k5

theorem ab_add {a b : Int} {x y : Int} (h1 : 0 ≤ x) (h2 : x ≤ a) (h3 : 0 ≤ y) (h4 : y ≤ a) : -a ≤ x - y ∧ x - y ≤ a := by omega
/-- the flow of all cells but the last -/
theorem flow_go {B kd f l A : Nat} {hd wt : Nat → Int} (hl : l < 24) (hkd : B + 13 < kd) (hA : A ≤ 12000) (hn1 : ∀ i, f ≤ i → i ≤ l → 0 ≤ hd i ∧ 0 ≤ wt i) (hs1 : sm hd f (l + 1 - f) = A) (hs2 : sm wt f (l + 1 - f) = A) : ∀ (d c n m : Nat) (vc vm : rV) (x : Int32), f ≤ c → c + d = l → d < n → d < m →
    vc.1 kd 2 = nI f → vc.1 kd 3 = nI l → vm.1 174 37 = nI f → vm.1 174 38 = nI l → Rw vc (B + 1) vm 187 0 24 → (∀ i, f ≤ i → i ≤ l → vc.1 (B + 2) i = vm.1 194 i ∧ (vm.1 194 i).toInt = hd i ∧ (vm.1 187 (0 + i)).toInt = wt i) → x.toInt = sm hd f (c - f) - sm wt f (c - f) → Rw vc (B + 11) vm 187 168 24 → vc.1 B 17 = vm.1 187 293 →
    ∃ vc' vm', f_X5_reshape_48 n vc B kd x (nI c) = some vc' ∧ f_X8_flows_59 m vm x (nI c) = some vm' ∧ Rw vc' (B + 11) vm' 187 168 24 ∧ vc'.1 B 17 = vm'.1 187 293 ∧ (∀ i, c ≤ i → i < l → -(A : Int) ≤ (vm'.1 187 (168 + i)).toInt ∧ (vm'.1 187 (168 + i)).toInt ≤ A) ∧ Ch (Sfl B f l) vc vc' ∧ Ch (Tfl f l) vm vm' ∧ (∀ i, i < c → vm'.1 187 (168 + i) = vm.1 187 (168 + i)) := by
  intro d
  induction d with
  | zero =>
    intro c n m vc vm x h1 h2 hn hm a1 a2 b1 b2 hW hH hx hF hS
    obtain ⟨n, rfl⟩ : ∃ n', n = n' + 1 := ⟨n - 1, by omega⟩
    obtain ⟨m, rfl⟩ : ∃ m', m = m' + 1 := ⟨m - 1, by omega⟩
    refine ⟨vc, vm, ?_, ?_, hF, hS, fun i q1 q2 => by omega, Ch.rf, Ch.rf, fun _ _ => rfl⟩
    · rw [f_X5_reshape_48, a2, if_pos (ple (by omega) (by omega))]
    · rw [f_X8_flows_59, b2, if_pos (ple (by omega) (by omega))]
  | succ d ih =>
    intro c n m vc vm x h1 h2 hn hm a1 a2 b1 b2 hW hH hx hF hS
    obtain ⟨n, rfl⟩ : ∃ n', n = n' + 1 := ⟨n - 1, by omega⟩
    obtain ⟨m, rfl⟩ : ∃ m', m = m' + 1 := ⟨m - 1, by omega⟩
    obtain ⟨wc, wm, y, ey, g1, g2, g3, g4, g5⟩ := flow_step (n := n) (m := m) (x := x) hl h1 (show c < l by omega) hkd a1 a2 b1 b2 (hW c (by omega)) (hH c h1 (by omega)).1 hS
    rw [g1, g2]
    have c1 : Ch (Sfl B f l) vc wc := by
      rcases g4 with e | ⟨t, e⟩ <;> rw [e]
      · exact Ch.rf.I (Or.inl ⟨rfl, by omega, by omega⟩)
      · exact (Ch.rf.I (Or.inl ⟨rfl, by omega, by omega⟩)).I (Or.inr ⟨rfl, rfl⟩)
    have c2 : Ch (Tfl f l) vm wm := by
      obtain ⟨t, e⟩ := g5
      rw [e]
      exact (Ch.rf.I ⟨rfl, Or.inl ⟨by omega, by omega⟩⟩).I ⟨rfl, Or.inr rfl⟩
    have w1 : wc.1 (B + 11) c = y := by
      rcases g4 with e | ⟨t, e⟩ <;> rw [e]
      · rw [rI_at]
      · rw [rI_no (by omega), rI_at]
    have w2 : wm.1 187 (168 + c) = y := by
      obtain ⟨t, e⟩ := g5
      rw [e, rI_no (by omega), rI_at]
    have w3 : ∀ i, i ≠ c → wc.1 (B + 11) i = vc.1 (B + 11) i := fun i hi => by
      rcases g4 with e | ⟨t, e⟩ <;> rw [e]
      · rw [rI_no (by omega)]
      · rw [rI_no (by omega), rI_no (by omega)]
    have w4 : ∀ i, i ≠ c → i < 24 → wm.1 187 (168 + i) = vm.1 187 (168 + i) := fun i hi h9 => by
      obtain ⟨t, e⟩ := g5
      rw [e, rI_no (by omega), rI_no (by omega)]
    have hF' : Rw wc (B + 11) wm 187 168 24 := fun i hi => by
      by_cases q : i = c
      · rw [q, w1, w2]
      · rw [w3 i q, w4 i q hi]
        exact hF i hi
    have p1 := sm_last hd f (c - f)
    have p2 := sm_last wt f (c - f)
    rw [show f + (c - f) = c by omega] at p1 p2
    obtain ⟨-, t1, t2⟩ := hH c h1 (by omega)
    have q1 : 0 ≤ sm hd f (c - f + 1) := sm_nn fun i z1 z2 => (hn1 i (by omega) (by omega)).1
    have q2 : 0 ≤ sm wt f (c - f + 1) := sm_nn fun i z1 z2 => (hn1 i (by omega) (by omega)).2
    have q3 : sm hd f (c - f + 1) ≤ sm hd f (l + 1 - f) := sm_part (fun i z1 z2 => (hn1 i (by omega) (by omega)).1) (Nat.le_refl _) (by omega)
    have q4 : sm wt f (c - f + 1) ≤ sm wt f (l + 1 - f) := sm_part (fun i z1 z2 => (hn1 i (by omega) (by omega)).2) (Nat.le_refl _) (by omega)
    have q5 : 0 ≤ sm hd f (c - f) := sm_nn fun i z1 z2 => (hn1 i (by omega) (by omega)).1
    have q6 : 0 ≤ sm wt f (c - f) := sm_nn fun i z1 z2 => (hn1 i (by omega) (by omega)).2
    have q7 := hn1 c h1 (by omega)
    have d1 : (vm.1 194 c - vm.1 187 (0 + c)).toInt = hd c - wt c := by rw [sub_toInt (by omega) (by omega), t1, t2]
    have hy : y.toInt = sm hd f (c + 1 - f) - sm wt f (c + 1 - f) := by
      rw [ey, add_toInt (by omega) (by omega), d1, hx, show c + 1 - f = c - f + 1 by omega, p1, p2]
      omega
    obtain ⟨vc', vm', k1, k2, k3, k4, k5, k6, k7, k8⟩ := ih (c + 1) n m wc wm y (by omega) (by omega) (by omega) (by omega)
      (by rw [c1.1 _ _ (by unfold Sfl; omega)]; exact a1) (by rw [c1.1 _ _ (by unfold Sfl; omega)]; exact a2) (by rw [c2.1 _ _ (by unfold Tfl; omega)]; exact b1) (by rw [c2.1 _ _ (by unfold Tfl; omega)]; exact b2)
      (hW.ch c1 c2 (fun i hi => by unfold Sfl; omega) (fun i hi => by unfold Tfl; omega))
      (fun i z1 z2 => by
        rw [c1.1 _ _ (by unfold Sfl; omega), c2.1 194 _ (by unfold Tfl; omega), c2.1 187 (0 + i) (by unfold Tfl; omega)]
        exact hH i z1 z2) hy hF' g3
    refine ⟨vc', vm', k1, k2, k3, k4, fun i z1 z2 => ?_, c1.tr k6, c2.tr k7, fun i z1 => by rw [k8 i (by omega), w4 i (by omega) (by omega)]⟩
    by_cases q : i = c
    · rw [q, k8 c (by omega), w2, hy, show c + 1 - f = c - f + 1 by omega]
      omega
    · exact k5 i (by omega) z2
