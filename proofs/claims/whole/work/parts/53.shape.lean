/-! SHAPE: water takes its shape, class against model -/
def wN (f l s c : Nat) : Nat := (c - f + 1) * (l - c + 1) * (10 + s * (c - f))
theorem wN_pos {f l s c : Nat} : 0 < wN f l s c := Nat.mul_pos (Nat.mul_pos (by omega) (by omega)) (by omega)
theorem wN_le {f l s c : Nat} (hl : l < 24) (hc : c ≤ l) (hs : s ≤ 9) : wN f l s c ≤ 124992 := by
  have h1 : (c - f + 1) * (l - c + 1) ≤ 24 * 24 := Nat.mul_le_mul (by omega) (by omega)
  have h2 : s * (c - f) ≤ 9 * 23 := Nat.mul_le_mul hs (by omega)
  exact Nat.mul_le_mul h1 (show 10 + s * (c - f) ≤ 217 by omega)
theorem wC {vc : rV} {kd f l s c : Nat} (e2 : vc.1 kd 2 = nI f) (e3 : vc.1 kd 3 = nI l) (e11 : vc.1 (kd + 1) 11 = nI s) (h1 : f ≤ c) (h2 : c ≤ l) : f_X0_weightOf vc kd (nI c) = nI (wN f l s c) := by
  unfold f_X0_weightOf
  simp only [vlet_eq]
  rw [e2, e3, e11, niSub h1, niSub h2, show (1 : Int32) = nI 1 from rfl, show (10 : Int32) = nI 10 from rfl, niAdd, niAdd, niMul, niMul, niAdd, niMul]
  rfl
theorem wM {f l s c : Nat} (h1 : f ≤ c) (h2 : c ≤ l) : f_X8_weightAt (nI f) (nI l) (nI c) (nI s) = nI (wN f l s c) := by
  unfold f_X8_weightAt
  rw [niSub h1, niSub h2, show (1 : Int32) = nI 1 from rfl, show (10 : Int32) = nI 10 from rfl, niAdd, niAdd, niMul, niMul, niAdd, niMul]
  rfl
theorem ad1 (c : Nat) : nI c + (1 : Int32) = nI (c + 1) := niAdd c 1
theorem sb1 {c : Nat} (h : 0 < c) : nI c + (-1 : Int32) = nI (c - 1) := by
  have : nI c - nI 1 = nI (c - 1) := niSub (by omega)
  rw [← this, Int32.sub_eq_add_neg]
  rfl
/-- the weights together -/
theorem shpC1 {vc : rV} {B kd f l s A : Nat} (hl : l < 24) (e2 : vc.1 kd 2 = nI f) (e3 : vc.1 kd 3 = nI l) (e11 : vc.1 (kd + 1) 11 = nI s) : ∀ (d c n P : Nat), f ≤ c → c + d = l + 1 → d < n → 1 ≤ P + sn (wN f l s) c d → P + sn (wN f l s) c d < 2147483648 →
    f_X5_shape_8 n vc B kd (nI A) (nI P) (nI c) = f_X5_shape_47 20000 vc B kd (nI A) (nI (P + sn (wN f l s) c d)) (nI A) (nI f) := by
  intro d
  induction d with
  | zero =>
    intro c n P h1 h2 hn hp hq
    obtain ⟨n, rfl⟩ : ∃ n', n = n' + 1 := ⟨n - 1, by omega⟩
    simp only [sn, Nat.add_zero] at hp hq ⊢
    rw [f_X5_shape_8, e3, if_pos (plt (by omega) (by omega)), if_pos (show (1 : Int32) ≤ nI P from ple (a := 1) (by omega) (by omega))]
    simp only [vlet_eq]
    rw [e2]
  | succ d ih =>
    intro c n P h1 h2 hn hp hq
    obtain ⟨n, rfl⟩ : ∃ n', n = n' + 1 := ⟨n - 1, by omega⟩
    simp only [sn] at hp hq ⊢
    rw [f_X5_shape_8, e3, if_neg (nlt (by omega) (by omega))]
    simp only [vlet_eq]
    rw [wC e2 e3 e11 h1 (by omega), niAdd, ad1, ih (c + 1) n _ (by omega) (by omega) (by omega) (by omega) (by omega), Nat.add_assoc]
theorem shpM1 {vm : rV} {f l s A : Nat} (hl : l < 24) : ∀ (d c n P : Nat), f ≤ c → c + d = l + 1 → d < n →
    f_X8_shape_6 n vm (nI f) (nI l) (nI A) (nI s) (nI P) (nI c) = f_X8_shape_38 20000 vm (nI f) (nI l) (nI A) (nI s) (nI (P + sn (wN f l s) c d)) (nI A) (nI f) := by
  intro d
  induction d with
  | zero =>
    intro c n P h1 h2 hn
    obtain ⟨n, rfl⟩ : ∃ n', n = n' + 1 := ⟨n - 1, by omega⟩
    rw [f_X8_shape_6, if_pos (plt (by omega) (by omega))]
    simp only [sn, Nat.add_zero]
  | succ d ih =>
    intro c n P h1 h2 hn
    obtain ⟨n, rfl⟩ : ∃ n', n = n' + 1 := ⟨n - 1, by omega⟩
    rw [f_X8_shape_6, if_neg (nlt (by omega) (by omega))]
    simp only [vlet_eq]
    rw [wM h1 (by omega), niAdd, ad1, ih (c + 1) n _ (by omega) (by omega) (by omega)]
    simp only [sn, Nat.add_assoc]
/-- water lies paired -/
def Sw (B f l : Nat) : Nat → Nat → Prop := fun k j => k = B + 1 ∧ f ≤ j ∧ j ≤ l
def Tw (f l : Nat) : Nat → Nat → Prop := fun k j => k = 187 ∧ f ≤ j ∧ j ≤ l
/-- what is left goes one by one -/
theorem shp3 {B kd f l : Nat} (hl : l < 24) (hkd : B + 12 < kd) : ∀ (r c n m : Nat) (vc vm : rV), f ≤ c → c + r ≤ l + 1 → r < n → r < m → vc.1 kd 3 = nI l → Rw vc (B + 1) vm 187 0 24 →
    ∃ vc' vm', f_X5_shape_97 n vc B kd (nI r) (nI c) = some vc' ∧ f_X8_shape_94 m vm (nI r) (nI c) = some vm' ∧ Rw vc' (B + 1) vm' 187 0 24 ∧ Ch (Sw B f l) vc vc' ∧ Ch (Tw f l) vm vm' ∧ (∀ i, vm'.1 187 (0 + i) = if c ≤ i ∧ i < c + r then vm.1 187 (0 + i) + 1 else vm.1 187 (0 + i)) := by
  intro r
  induction r with
  | zero =>
    intro c n m vc vm h1 h2 hn hm e3 hR
    obtain ⟨n, rfl⟩ : ∃ n', n = n' + 1 := ⟨n - 1, by omega⟩
    obtain ⟨m, rfl⟩ : ∃ m', m = m' + 1 := ⟨m - 1, by omega⟩
    refine ⟨vc, vm, ?_, ?_, hR, Ch.rf, Ch.rf, fun i => by rw [if_neg (by omega)]⟩
    · rw [f_X5_shape_97]
      by_cases q : vc.1 kd 3 < nI c
      · rw [if_pos q]
      · rw [if_neg q, if_pos (show nI 0 ≤ 0 from by decide)]
    · rw [f_X8_shape_94, if_pos (show nI 0 ≤ 0 from by decide)]
  | succ r ih =>
    intro c n m vc vm h1 h2 hn hm e3 hR
    obtain ⟨n, rfl⟩ : ∃ n', n = n' + 1 := ⟨n - 1, by omega⟩
    obtain ⟨m, rfl⟩ : ∃ m', m = m' + 1 := ⟨m - 1, by omega⟩
    rw [f_X5_shape_97, e3, if_neg (nlt (by omega) (by omega)), if_neg (show ¬ nI (r + 1) ≤ 0 from nle (b := 0) (by omega) (by omega)), if_pos (gin (show c < 24 by omega) (by omega)), f_X8_shape_94, if_neg (show ¬ nI (r + 1) ≤ 0 from nle (b := 0) (by omega) (by omega))]
    simp only [vlet_eq]
    rw [show (0 : Int32) + nI c = nI (0 + c) from niAdd 0 c, if_pos (gin (show 0 + c < 416 by omega) (by omega)), niCl (show c < 2147483648 by omega), niCl (show 0 + c < 2147483648 by omega), ad1, sb1 (by omega), Nat.add_sub_cancel, hR c (by omega)]
    obtain ⟨vc', vm', g1, g2, g3, g4, g5, g6⟩ := ih (c + 1) n m (rI vc (B + 1) c (vm.1 187 (0 + c) + 1)) (rI vm 187 (0 + c) (vm.1 187 (0 + c) + 1)) (by omega) (by omega) (by omega) (by omega) (by rw [rI_no (by omega)]; exact e3) hR.up
    refine ⟨vc', vm', g1, g2, g3, (Ch.rf.I ⟨rfl, by omega, by omega⟩).tr g4, (Ch.rf.I ⟨rfl, by omega, by omega⟩).tr g5, fun i => ?_⟩
    rw [g6 i, rI_1]
    by_cases q : i = c
    · rw [if_neg (by omega), if_pos ⟨rfl, by omega⟩, if_pos (by omega), q]
    · rw [if_neg (show ¬ (187 = 187 ∧ 0 + i = 0 + c) by omega)]
      by_cases q2 : c + 1 ≤ i ∧ i < c + 1 + r
      · rw [if_pos q2, if_pos (by omega)]
      · rw [if_neg q2, if_neg (by omega)]
def dl (f D i : Nat) : Int32 := if f ≤ i ∧ i < f + D then 1 else 0
theorem dl_1 {f D i : Nat} (h : f ≤ i ∧ i < f + D) : dl f D i = 1 := if_pos h
theorem dl_0 {f D i : Nat} (h : ¬ (f ≤ i ∧ i < f + D)) : dl f D i = 0 := if_neg h
/-- shares, cell by cell -/
theorem shp2 {B kd f l s A W : Nat} (hl : l < 24) (hfl : f ≤ l) (hs : s ≤ 9) (hA : A ≤ 12000) (hkd : B + 12 < kd) (hW : W = sn (wN f l s) f (l + 1 - f)) : ∀ (d c n m P : Nat) (vc vm : rV), f ≤ c → c + d = l + 1 → d < n → d < m → P + sn (fun i => A * wN f l s i / W) c d ≤ A → A < P + sn (fun i => A * wN f l s i / W) c d + (l + 1 - f) → vc.1 kd 2 = nI f → vc.1 kd 3 = nI l → vc.1 (kd + 1) 11 = nI s → Rw vc (B + 1) vm 187 0 24 →
    ∃ vc' vm', f_X5_shape_47 n vc B kd (nI A) (nI W) (nI (A - P)) (nI c) = some vc' ∧ f_X8_shape_38 m vm (nI f) (nI l) (nI A) (nI s) (nI W) (nI (A - P)) (nI c) = some vm' ∧ Rw vc' (B + 1) vm' 187 0 24 ∧ Ch (Sw B f l) vc vc' ∧ Ch (Tw f l) vm vm' ∧ (∀ i, i ≤ l → vm'.1 187 (0 + i) = (if c ≤ i then nI (A * wN f l s i / W) else vm.1 187 (0 + i)) + dl f (A - (P + sn (fun i => A * wN f l s i / W) c d)) i) := by
  have hWp : 0 < W := by
    rw [hW, show l + 1 - f = (l - f) + 1 by omega]
    simp only [sn]
    have := wN_pos (f := f) (l := l) (s := s) (c := f)
    omega
  have hWl : W ≤ 24 * 124992 := by
    rw [hW]
    exact Nat.le_trans (sn_le (b := 124992) fun c h1 h2 => wN_le hl (by omega) hs) (Nat.mul_le_mul (by omega) (Nat.le_refl _))
  have hWn : ¬ nI W = 0 := nne (b := 0) (by omega) (by omega) (by omega)
  intro d
  induction d with
  | zero =>
    intro c n m P vc vm h1 h2 hn hm hP hP2 e2 e3 e11 hR
    obtain ⟨n, rfl⟩ : ∃ n', n = n' + 1 := ⟨n - 1, by omega⟩
    obtain ⟨m, rfl⟩ : ∃ m', m = m' + 1 := ⟨m - 1, by omega⟩
    simp only [sn, Nat.add_zero] at hP hP2 ⊢
    rw [f_X5_shape_47, e3, if_pos (plt (by omega) (by omega)), f_X8_shape_38, if_pos (plt (by omega) (by omega))]
    simp only [vlet_eq]
    rw [e2]
    obtain ⟨vc', vm', g1, g2, g3, g4, g5, g6⟩ := shp3 (f := f) hl hkd (A - P) f 20000 20000 vc vm (by omega) (by omega) (by omega) (by omega) e3 hR
    refine ⟨vc', vm', g1, g2, g3, g4, g5, fun i hi => ?_⟩
    rw [g6 i, if_neg (show ¬ c ≤ i by omega)]
    by_cases q : f ≤ i ∧ i < f + (A - P)
    · rw [if_pos q, dl_1 q]
    · rw [if_neg q, dl_0 q, Int32.add_zero]
  | succ d ih =>
    intro c n m P vc vm h1 h2 hn hm hP hP2 e2 e3 e11 hR
    obtain ⟨n, rfl⟩ : ∃ n', n = n' + 1 := ⟨n - 1, by omega⟩
    obtain ⟨m, rfl⟩ : ∃ m', m = m' + 1 := ⟨m - 1, by omega⟩
    simp only [sn] at hP hP2 ⊢
    have hw : wN f l s c ≤ 124992 := wN_le hl (by omega) hs
    have hAw : A * wN f l s c < 2147483648 := Nat.lt_of_le_of_lt (Nat.mul_le_mul hA hw) (by omega)
    have hq : A * wN f l s c / W ≤ A := by omega
    rw [f_X5_shape_47, e3, if_neg (nlt (by omega) (by omega)), if_neg hWn, if_pos (gin (show c < 24 by omega) (by omega)), f_X8_shape_38, if_neg (nlt (by omega) (by omega)), if_neg (fun q => by
      have := ni64 (a := W) (by omega)
      rw [q] at this
      exact absurd this (by rw [show (0 : Int64).toInt = 0 from by decide]; omega))]
    simp only [vlet_eq]
    rw [show (0 : Int32) + nI c = nI (0 + c) from niAdd 0 c, if_pos (gin (show 0 + c < 416 by omega) (by omega)), niCl (show c < 2147483648 by omega), niCl (show 0 + c < 2147483648 by omega), wC e2 e3 e11 h1 (by omega), wM h1 (by omega), niMul, niDiv hAw (by omega), niLong (by omega) (by omega) (by omega), ni32 (by omega), rI_at, rI_at, niSub (by omega), ad1, Nat.sub_sub]
    obtain ⟨vc', vm', g1, g2, g3, g4, g5, g6⟩ := ih (c + 1) n m (P + A * wN f l s c / W) (rI vc (B + 1) c (nI (A * wN f l s c / W))) (rI vm 187 (0 + c) (nI (A * wN f l s c / W))) (by omega) (by omega) (by omega) (by omega) (by omega) (by omega) (by rw [rI_no (by omega)]; exact e2) (by rw [rI_no (by omega)]; exact e3) (by rw [rI_no (by omega)]; exact e11) hR.up
    refine ⟨vc', vm', g1, g2, g3, (Ch.rf.I ⟨rfl, by omega, by omega⟩).tr g4, (Ch.rf.I ⟨rfl, by omega, by omega⟩).tr g5, fun i hi => ?_⟩
    rw [g6 i hi, rI_1, Nat.add_assoc]
    congr 1
    by_cases q : i = c
    · rw [if_neg (by omega), if_pos ⟨rfl, by omega⟩, if_pos (by omega), q]
    · rw [if_neg (show ¬ (187 = 187 ∧ 0 + i = 0 + c) by omega)]
      by_cases q2 : c + 1 ≤ i
      · rw [if_pos q2, if_pos (by omega)]
      · rw [if_neg q2, if_neg (by omega)]
/-- none below 0 in the cells from f to l, so many together there -/
def Ar (v : rV) (f l : Nat) (T : Int) : Prop := (∀ c, f ≤ c → c ≤ l → 0 ≤ am v 0 c) ∧ sm (am v 0) f (l + 1 - f) = T
theorem shape_go {vc vm : rV} {B kd f l s A : Nat} (hl : l < 24) (hfl : f ≤ l) (hs : s ≤ 9) (hA : A ≤ 12000) (hkd : B + 12 < kd) (e2 : vc.1 kd 2 = nI f) (e3 : vc.1 kd 3 = nI l) (e11 : vc.1 (kd + 1) 11 = nI s) (hR : Rw vc (B + 1) vm 187 0 24) :
    ∃ vc' vm', f_X5_shape vc B kd (nI A) = some vc' ∧ f_X8_shape vm (nI f) (nI l) (nI A) (nI s) = some vm' ∧ Rw vc' (B + 1) vm' 187 0 24 ∧ Ch (Sw B f l) vc vc' ∧ Ch (Tw f l) vm vm' ∧ Ar vm' f l A := by
  obtain ⟨W, hW⟩ : ∃ W, W = sn (wN f l s) f (l + 1 - f) := ⟨_, rfl⟩
  have hWp : 0 < W := by
    rw [hW, show l + 1 - f = (l - f) + 1 by omega]
    simp only [sn]
    have := wN_pos (f := f) (l := l) (s := s) (c := f)
    omega
  have hWl : W ≤ 24 * 124992 := by
    rw [hW]
    exact Nat.le_trans (sn_le (b := 124992) fun c h1 h2 => wN_le hl (by omega) hs) (Nat.mul_le_mul (by omega) (Nat.le_refl _))
  obtain ⟨k1, k2⟩ := shares_le (w := wN f l s) (A := A) (S := W) (a := f) (n := l + 1 - f) hWp hW.symm (by omega)
  unfold f_X5_shape f_X8_shape
  simp only [vlet_eq]
  rw [e2, show (0 : Int32) = nI 0 from rfl, shpC1 hl e2 e3 e11 (l + 1 - f) f 20000 0 (by omega) (by omega) (by omega) (by omega) (by omega), shpM1 hl (l + 1 - f) f 20000 0 (by omega) (by omega) (by omega), Nat.zero_add, ← hW]
  obtain ⟨vc', vm', g1, g2, g3, g4, g5, g6⟩ := shp2 (W := W) (A := A) hl hfl hs hA hkd hW (l + 1 - f) f 20000 20000 0 vc vm (by omega) (by omega) (by omega) (by omega) (by omega) (by omega) e2 e3 e11 hR
  rw [Nat.sub_zero] at g1 g2
  refine ⟨vc', vm', g1, g2, g3, g4, g5, ?_⟩
  obtain ⟨D, hD⟩ : ∃ D, D = A - (0 + sn (fun i => A * wN f l s i / W) f (l + 1 - f)) := ⟨_, rfl⟩
  rw [← hD] at g6
  have hcell : ∀ c, f ≤ c → c ≤ l → am vm' 0 c = ((A * wN f l s c / W + (if c < f + D then 1 else 0) : Nat) : Int) := fun c h1 h2 => by
    have hq : A * wN f l s c / W ≤ A := by
      have := sn_one (g := fun i => A * wN f l s i / W) (a := f) (n := l + 1 - f) (c := c) h1 (by omega)
      have e : (fun i => A * wN f l s i / W) c = A * wN f l s c / W := rfl
      omega
    show (vm'.1 187 (0 + c)).toInt = _
    rw [g6 c h2, if_pos h1]
    by_cases q : c < f + D
    · rw [dl_1 ⟨h1, q⟩, if_pos q, ad1, niInt (by omega)]
    · rw [dl_0 (fun e => q e.2), if_neg q, Int32.add_zero, niInt (by omega)]
      rfl
  refine ⟨fun c h1 h2 => by rw [hcell c h1 h2]; exact Int.natCast_nonneg _, ?_⟩
  rw [sm_sn (h := fun c => A * wN f l s c / W + (if c < f + D then 1 else 0)) (fun c h1 h2 => hcell c h1 (by omega))]
  have hsum : ∀ (n a : Nat), f ≤ a → sn (fun c => A * wN f l s c / W + (if c < f + D then 1 else 0)) a n = sn (fun c => A * wN f l s c / W) a n + (min (a + n) (f + D) - a) := by
    intro n
    induction n with
    | zero => intro a _; simp only [sn]; omega
    | succ n ih =>
      intro a ha
      simp only [sn]
      rw [ih (a + 1) (by omega)]
      by_cases q : a < f + D
      · rw [if_pos q]; omega
      · rw [if_neg q]; omega
  rw [hsum _ f (Nat.le_refl _)]
  omega
