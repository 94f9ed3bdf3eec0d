/-! THE MIDDLE, BODIES AS TOLD, COUNTS -/
/-- ten times the places, weighed with what lies there -/
def wsum (vm : rV) : Nat → Nat → Int32
  | _, 0 => 0
  | c, n + 1 => (10 : Int32) * nI c * la vm c + wsum vm (c + 1) n
theorem mid_m {vm : rV} {a1 : Int32} : ∀ (d c n : Nat) (x y : Int32), c + d = 24 → d < n → f_X8_middle_7 vm n a1 x y (nI c) = f_X8_middle_7 vm (n - d) a1 (x + sI (la vm) c d) (y + wsum vm c d) 24 := by
  intro d
  induction d with
  | zero =>
    intro c n x y e hn
    have : c = 24 := by omega
    subst this
    simp only [sI, wsum, Int32.add_zero, Nat.sub_zero]
    rfl
  | succ d ih =>
    intro c n x y e hn
    obtain ⟨n, rfl⟩ : ∃ n', n = n' + 1 := ⟨n - 1, by omega⟩
    rw [f_X8_middle_7, if_neg (show ¬ (24 : Int32) ≤ nI c from nle (a := 24) (by omega) (by omega)), laid_at (by omega)]
    simp only [Option.bind_some, vlet_eq, ad1]
    rw [ih (c + 1) n _ _ (by omega) (by omega), show n + 1 - (d + 1) = n - d by omega]
    simp only [sI, wsum]
    rw [Int32.add_assoc, Int32.add_assoc]
theorem cen_c {B : Nat} {vc vm : rV} {p : Int32} (h : RLl B vc vm) : ∀ (d c n : Nat) (y : Int32), c + d = 24 → d < n → f_X5_center_9 vc n B p y (nI c) = if p = 0 then some (-1) else some ((y + wsum vm c d) / p) := by
  intro d
  induction d with
  | zero =>
    intro c n y e hn
    obtain ⟨n, rfl⟩ : ∃ n', n = n' + 1 := ⟨n - 1, by omega⟩
    rw [f_X5_center_9, if_pos (show (24 : Int32) ≤ nI c from ple (a := 24) (by omega) (by omega))]
    simp only [wsum, Int32.add_zero]
    by_cases z : p = 0
    · rw [if_pos z, if_pos z]
    · rw [if_neg z, if_neg z, if_neg z]
  | succ d ih =>
    intro c n y e hn
    obtain ⟨n, rfl⟩ : ∃ n', n = n' + 1 := ⟨n - 1, by omega⟩
    rw [f_X5_center_9, if_neg (show ¬ (24 : Int32) ≤ nI c from nle (a := 24) (by omega) (by omega)), laid_eq h, laid_at (by omega)]
    simp only [Option.bind_some, vlet_eq, ad1]
    rw [ih (c + 1) n _ (by omega) (by omega)]
    simp only [wsum]
    rw [Int32.add_assoc]
theorem spr_go {B : Nat} {vc vm : rV} {p q : Int32} (h : RLl B vc vm) (hp : p ≠ 0) : ∀ (d c n m : Nat) (x : Int32), c + d = 24 → d < n → d < m → ∃ r, f_X5_spread_12 vc n B (q / p / 10) x (nI c) = some r ∧ f_X8_middle_65 vm m 1 p q x (nI c) = some r := by
  intro d
  induction d with
  | zero =>
    intro c n m x e hn hm
    obtain ⟨n, rfl⟩ : ∃ n', n = n' + 1 := ⟨n - 1, by omega⟩
    obtain ⟨m, rfl⟩ : ∃ m', m = m' + 1 := ⟨m - 1, by omega⟩
    have g : (24 : Int32) ≤ nI c := ple (a := 24) (by omega) (by omega)
    rw [f_X5_spread_12, f_X8_middle_65, if_pos g, if_pos g, if_neg (show ¬ (1 : Int32) = 0 by decide)]
    exact ⟨_, rfl, rfl⟩
  | succ d ih =>
    intro c n m x e hn hm
    obtain ⟨n, rfl⟩ : ∃ n', n = n' + 1 := ⟨n - 1, by omega⟩
    obtain ⟨m, rfl⟩ : ∃ m', m = m' + 1 := ⟨m - 1, by omega⟩
    have g : ¬ (24 : Int32) ≤ nI c := nle (a := 24) (by omega) (by omega)
    rw [f_X5_spread_12, f_X8_middle_65, if_neg g, if_neg g, laid_eq h, laid_at (by omega)]
    simp only [Option.bind_some, vlet_eq, ad1]
    rw [if_neg hp, Int32.mul_comm (la vm c)]
    exact ih (c + 1) n m _ (by omega) (by omega) (by omega)
theorem mid_at {vm : rV} {a : Int32} {p q : Int32} {m : Nat} (hp : p ≠ 0) (ha : f_X8_in a 0 1 = true) : f_X8_middle_7 vm (m + 1) a p q 24 = f_X8_middle_65 vm 20000 a p q 0 0 := by
  rw [f_X8_middle_7, if_pos (show (24 : Int32) ≤ 24 by decide), if_neg hp, if_pos ha]
theorem m65_0 {vm : rV} {p q : Int32} (hp : p ≠ 0) : ∀ (d c m : Nat) (x : Int32), c + d = 24 → d < m → f_X8_middle_65 vm m 0 p q x (nI c) = some (q / p) := by
  intro d
  induction d with
  | zero =>
    intro c m x e hm
    obtain ⟨m, rfl⟩ : ∃ m', m = m' + 1 := ⟨m - 1, by omega⟩
    have g : (24 : Int32) ≤ nI c := ple (a := 24) (by omega) (by omega)
    rw [f_X8_middle_65, if_pos g, if_pos rfl, if_neg hp]
  | succ d ih =>
    intro c m x e hm
    obtain ⟨m, rfl⟩ : ∃ m', m = m' + 1 := ⟨m - 1, by omega⟩
    have g : ¬ (24 : Int32) ≤ nI c := nle (a := 24) (by omega) (by omega)
    rw [f_X8_middle_65, if_neg g, laid_at (by omega)]
    simp only [Option.bind_some, vlet_eq, ad1]
    rw [if_neg hp]
    exact ih (c + 1) m _ (by omega) (by omega)
theorem middle_go {M B tb : Nat} {vc vm : rV} (hB : B = 60) (h : ST M B tb vc vm) (a : Int32) : ∃ r, f_X7_middle vc a = some r ∧ f_X8_middle vm a = some r := by
  subst hB
  obtain ⟨t, S0, S1, -, ⟨F, R8, R9, R10, R11, R1⟩, -⟩ := h.parts
  have hRL : RLl 60 vc vm := ⟨R8, R9⟩
  unfold f_X7_middle f_X8_middle
  rw [show f_X8_middle_7 vm 20000 a 0 0 0 = _ from mid_m (vm := vm) (a1 := a) 24 0 20000 0 0 (by omega) (by omega), Int32.zero_add, Int32.zero_add]
  obtain ⟨p, ep⟩ : ∃ p, p = sI (la vm) 0 24 := ⟨_, rfl⟩
  obtain ⟨q, eq⟩ : ∃ q, q = wsum vm 0 24 := ⟨_, rfl⟩
  have hl : f_X5_lyingAll vc 60 = some p := by rw [ep]; exact lyAll_eq hRL
  have hcn : p ≠ 0 → f_X5_center vc 60 = some (q / p) := fun hp => by
    unfold f_X5_center
    rw [hl, Option.bind_some]
    have := cen_c (vc := vc) (vm := vm) (p := p) hRL 24 0 20000 0 (by omega) (by omega)
    rw [if_neg hp, Int32.zero_add, ← eq] at this
    exact this
  rw [← ep, ← eq]
  obtain ⟨m, em⟩ : ∃ m, 20000 - 24 = m + 1 := ⟨20000 - 25, rfl⟩
  rw [em, hl]
  by_cases hp : p = 0
  · refine ⟨-1, ?_, ?_⟩
    · simp only [Option.bind_some, if_pos hp]
      by_cases z : a < 0
      · rw [if_pos z]
      · rw [if_neg z]
        by_cases z2 : 1 < a
        · rw [if_pos z2]
        · rw [if_neg z2]
    · rw [f_X8_middle_7, if_pos (show (24 : Int32) ≤ 24 by decide), if_pos hp]
  by_cases ha : f_X8_in a 0 1 = true
  · obtain ⟨k, hk, rfl⟩ := in_n (n := 1) (by omega) ha
    rw [mid_at hp ha, if_neg (niGe (by omega)), if_neg (show ¬ (1 : Int32) < nI k from nlt (a := 1) (by omega) (by omega)), Option.bind_some, if_neg hp, hcn hp]
    have hk2 : k = 0 ∨ k = 1 := by omega
    rcases hk2 with rfl | rfl
    · rw [if_pos (show nI 0 = (0 : Int32) from rfl)]
      exact ⟨_, rfl, m65_0 hp 24 0 20000 0 (by omega) (by omega)⟩
    · rw [if_neg (show ¬ nI 1 = (0 : Int32) from by decide)]
      obtain ⟨r, r1, r2⟩ := spr_go (q := q) hRL hp 24 0 20000 20000 0 (by omega) (by omega) (by omega)
      refine ⟨r, ?_, r2⟩
      unfold f_X5_spread
      rw [hcn hp, Option.bind_some, vlet_eq, show f_X5_spread_12 vc 20000 60 (q / p / 10) 0 0 = some r from r1]
      rfl
  · refine ⟨-1, ?_, ?_⟩
    · by_cases z : a < 0
      · rw [if_pos z]
      · rw [if_neg z, if_pos (Classical.byContradiction fun z2 => ha (in_p z z2))]
    · rw [f_X8_middle_7, if_pos (show (24 : Int32) ≤ 24 by decide), if_neg hp, if_neg ha]
/-- a body's water, over the model's row -/
theorem m80_go {vm : rV} {s l : Nat} (hs : s < 12) (hl : l < 24) (e3 : vm.1 187 (252 + s) = nI l) : ∀ (d c n : Nat) (x : Int32), c + d = l + 1 → d < n → f_X8_body_80 vm n (nI s) x (nI c) = some (x + sI (fun i => vm.1 187 i) c d) := by
  intro d
  induction d with
  | zero =>
    intro c n x e hn
    obtain ⟨n, rfl⟩ : ∃ n', n = n' + 1 := ⟨n - 1, by omega⟩
    rw [f_X8_body_80, show (252 : Int32) + nI s = nI (252 + s) from niAdd 252 _, if_pos (gin (show 252 + s < 416 by omega) (by omega)), niCl (show 252 + s < 2147483648 by omega), e3, if_pos (plt (by omega) (by omega))]
    simp only [sI, Int32.add_zero]
  | succ d ih =>
    intro c n x e hn
    obtain ⟨n, rfl⟩ : ∃ n', n = n' + 1 := ⟨n - 1, by omega⟩
    rw [f_X8_body_80, show (252 : Int32) + nI s = nI (252 + s) from niAdd 252 _, if_pos (gin (show 252 + s < 416 by omega) (by omega)), niCl (show 252 + s < 2147483648 by omega), e3, if_neg (nlt (by omega) (by omega)), Int32.zero_add, if_pos (gin (show c < 416 by omega) (by omega)), niCl (show c < 2147483648 by omega)]
    simp only [vlet_eq, ad1]
    rw [ih (c + 1) n _ (by omega) (by omega)]
    simp only [sI]
    rw [Int32.add_assoc]
theorem c7_go {vc vm : rV} {B kd l : Nat} (hl : l < 24) (e3 : vc.1 kd 3 = nI l) (hR : Rw vc (B + 1) vm 187 0 24) : ∀ (d c n : Nat) (x : Int32), c + d = l + 1 → d < n → f_X5_waterOf_7 vc n B kd x (nI c) = some (x + sI (fun i => vm.1 187 i) c d) := by
  intro d
  induction d with
  | zero =>
    intro c n x e hn
    obtain ⟨n, rfl⟩ : ∃ n', n = n' + 1 := ⟨n - 1, by omega⟩
    rw [f_X5_waterOf_7, e3, if_pos (plt (by omega) (by omega))]
    simp only [sI, Int32.add_zero]
  | succ d ih =>
    intro c n x e hn
    obtain ⟨n, rfl⟩ : ∃ n', n = n' + 1 := ⟨n - 1, by omega⟩
    rw [f_X5_waterOf_7, e3, if_neg (nlt (by omega) (by omega)), if_pos (gin (show c < 24 by omega) (by omega)), niCl (show c < 2147483648 by omega)]
    simp only [vlet_eq, ad1]
    rw [ih (c + 1) n _ (by omega) (by omega), hR c (by omega), Nat.zero_add]
    simp only [sI]
    rw [Int32.add_assoc]
theorem body_go {M B tb : Nat} {vc vm : rV} (hB : B = 60) (h : ST M B tb vc vm) (a b : Int32) : ∃ r, f_X7_body vc a b = some r ∧ f_X8_body vm a b = some r := by
  subst hB
  obtain ⟨ρ, L, t, S0, S1, -, ⟨hR, hlen, hρ, hC, hA, hO⟩, ⟨n1, n2, hM⟩, ⟨F, R8, R9, R10, R11, R1⟩, -⟩ := h
  unfold f_X7_body f_X5_ofBody f_X8_body
  rw [n1, n2]
  by_cases z : a < 0
  · rw [if_pos z, if_neg (in_ff (Or.inl z))]; exact ⟨_, rfl, rfl⟩
  rw [if_neg z]
  by_cases z2 : nI L.length ≤ a
  · rw [if_pos z2, if_neg (in_ff (Or.inr (by rw [lt_suc (by omega) z]; exact z2)))]; exact ⟨_, rfl, rfl⟩
  obtain ⟨s, ha, hs⟩ : ∃ s, a = nI s ∧ s < L.length := by
    have e := niOfc a z
    have z9 : ¬ a.toInt < 0 := by rw [lt_toInt] at z; exact z
    rw [le_toInt, niInt (by omega)] at z2
    have h3 : a.toInt.toNat = a.toNatClampNeg := rfl
    exact ⟨a.toNatClampNeg, e, by omega⟩
  rw [if_neg z2, if_pos (in_p z (by rw [lt_suc (by omega) z]; exact z2))]
  subst ha
  have hs12 : s < 12 := by omega
  obtain ⟨e, he⟩ : ∃ e, L[s]? = some e := ⟨_, List.getElem?_eq_getElem hs⟩
  obtain ⟨y1, y2, y3, y4⟩ := hM s e he
  obtain ⟨⟨x1, x2⟩, ⟨o1, o2, o3, q, o4, o5⟩, hm, htd, har, hA9⟩ := hC e (List.mem_of_getElem? he)
  have hr : vc.2.2 (60 + 13) s = some e.1 := by rw [← hρ s e he]; exact (hR s hs12).1
  have hb : isBody e.1 = true := by
    have fm : ∀ q, q < 12 → isBody (60 + 14 + 2 * q) = true := by decide
    rw [o5]; exact fm q o4
  rw [if_pos (show nI s < (12 : Int32) from plt (b := 12) (by omega) (by omega)), if_pos (gin hs12 (by omega)), niCl (by omega), hr, Option.bind_some, if_pos hb]
  have g1 : (240 : Int32) + nI s = nI (240 + s) := niAdd 240 s
  have g2 : (252 : Int32) + nI s = nI (252 + s) := niAdd 252 s
  have g3 : (276 : Int32) + nI s = nI (276 + s) := niAdd 276 s
  by_cases q : f_X8_in b 0 3 = true
  · obtain ⟨k, hk, rfl⟩ := in_n (n := 3) (by omega) q
    rw [if_pos q]
    have hk2 : k = 0 ∨ k = 1 ∨ k = 2 ∨ k = 3 := by omega
    rcases hk2 with rfl | rfl | rfl | rfl
    · rw [if_pos (show nI 0 = (0 : Int32) from rfl), if_neg (show ¬ nI 0 = (2 : Int32) from by decide), if_pos (show nI 0 = (0 : Int32) from rfl), g1, if_pos (gin (show 240 + s < 416 by omega) (by omega)), niCl (show 240 + s < 2147483648 by omega)]
      exact ⟨_, rfl, by rw [x1, y1]⟩
    · rw [if_neg (show ¬ nI 1 = (0 : Int32) from by decide), if_pos (show nI 1 = (1 : Int32) from rfl), if_neg (show ¬ nI 1 = (2 : Int32) from by decide), if_neg (show ¬ nI 1 = (0 : Int32) from by decide), if_pos (show nI 1 = (1 : Int32) from rfl), g2, if_pos (gin (show 252 + s < 416 by omega) (by omega)), niCl (show 252 + s < 2147483648 by omega)]
      exact ⟨_, rfl, by rw [x2, y2]⟩
    · rw [if_neg (show ¬ nI 2 = (0 : Int32) from by decide), if_neg (show ¬ nI 2 = (1 : Int32) from by decide), if_pos (show nI 2 = (2 : Int32) from rfl), if_pos (show nI 2 = (2 : Int32) from rfl), g1, if_pos (gin (show 240 + s < 416 by omega) (by omega)), niCl (show 240 + s < 2147483648 by omega), vlet_eq, y1]
      unfold f_X5_waterOf
      rw [vlet_eq, x1, show f_X5_waterOf_7 vc 20000 60 e.1 0 (nI e.2.1) = _ from c7_go o3 x2 R1 (e.2.2.1 + 1 - e.2.1) e.2.1 20000 0 (by omega) (by omega), show f_X8_body_80 vm 20000 (nI s) 0 (nI e.2.1) = _ from m80_go hs12 o3 y2 (e.2.2.1 + 1 - e.2.1) e.2.1 20000 0 (by omega) (by omega)]
      exact ⟨_, rfl, rfl⟩
    · rw [if_neg (show ¬ nI 3 = (0 : Int32) from by decide), if_neg (show ¬ nI 3 = (1 : Int32) from by decide), if_neg (show ¬ nI 3 = (2 : Int32) from by decide), if_pos (show nI 3 = (3 : Int32) from rfl), if_neg (show ¬ nI 3 = (2 : Int32) from by decide), if_neg (show ¬ nI 3 = (0 : Int32) from by decide), if_neg (show ¬ nI 3 = (1 : Int32) from by decide), g3, if_pos (gin (show 276 + s < 416 by omega) (by omega)), niCl (show 276 + s < 2147483648 by omega)]
      exact ⟨_, rfl, by rw [y4]⟩
  · rw [if_neg q, if_neg (fun e => q (by rw [e]; rfl)), if_neg (fun e => q (by rw [e]; rfl)), if_neg (fun e => q (by rw [e]; rfl)), if_neg (fun e => q (by rw [e]; rfl))]
    exact ⟨_, rfl, rfl⟩
