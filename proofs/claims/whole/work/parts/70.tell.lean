/-! WHAT IS TOLD OF A STRIP -/
theorem ST.parts {M B tb : Nat} {vc vm : rV} (h : ST M B tb vc vm) : ∃ (t : Nat) (S0 S1 : Int), (S0 ≤ 12000 ∧ S1 ≤ 12000 ∧ t ≤ tb) ∧ (FF B vc vm ∧ Rw vc (B + 8) vm 187 72 24 ∧ Rw vc (B + 9) vm 187 96 24 ∧ Rw vc (B + 10) vm 187 144 24 ∧ Rw vc (B + 11) vm 187 168 24 ∧ Rw vc (B + 1) vm 187 0 24) ∧
  (AA vm S0 S1 ∧ (∀ c, c < 24 → vm.1 187 (120 + c) + vm.1 187 (144 + c) = vm.1 187 (72 + c) + vm.1 187 (96 + c))) ∧
  (vc.1 B 15 = nI t ∧ vm.1 187 289 = nI t ∧ vc.1 B 16 = vm.1 187 290 ∧ vc.1 B 17 = vm.1 187 293 ∧ vc.1 B 18 = vm.1 187 291 ∧ vc.1 B 19 = vm.1 187 292 ∧ vc.2.1 B 14 = vm.2.1 174 27) ∧
  (BT (vc.1 B 11) vm 216 ∧ BT (vc.1 B 12) vm 192 ∧ (∀ s, s < 120 → s < t → vc.1 (B + 12) s = vm.1 187 (296 + s))) := by
  obtain ⟨ρ, L, t, S0, S1, a, b, c, d, e, f, g⟩ := h
  exact ⟨t, S0, S1, a, d, e, f, g⟩
/-- how many lie in a cell -/
def la (vm : rV) (c : Nat) : Int32 := vm.1 187 (72 + c) + vm.1 187 (96 + c)
theorem la_nn {vm : rV} {S0 S1 : Int} {c : Nat} (h0 : S0 ≤ 12000) (h1 : S1 ≤ 12000) (h : AA vm S0 S1) (hc : c < 24) : 0 ≤ (la vm c).toInt ∧ (la vm c).toInt ≤ 24000 := by
  obtain ⟨T0, U0, T1, U1, a0, u0, a1, u1, t0, t1⟩ := h
  have n0 := a0.nn
  have n1 := a1.nn
  have x := u0.one hc
  have y := u1.one hc
  unfold la
  rw [add_toInt (by omega) (by omega)]
  omega
theorem isCell_c {a : Int32} : f_X7_isCell a = f_X8_isCell a := by
  unfold f_X7_isCell f_X8_isCell f_X8_in
  by_cases p : a < 0
  · rw [if_pos p, if_pos p]
  · rw [if_neg p, if_neg p]
    by_cases q : (24 : Int32) ≤ a
    · rw [if_pos q, if_pos (by rw [lt_toInt]; rw [le_toInt] at q; have h1 : (24 : Int32).toInt = 24 := rfl; have h2 : (23 : Int32).toInt = 23 := rfl; omega)]
    · rw [if_neg q, if_neg (by rw [lt_toInt]; rw [le_toInt] at q; have h1 : (24 : Int32).toInt = 24 := rfl; have h2 : (23 : Int32).toInt = 23 := rfl; omega)]
theorem isCell_n {a : Int32} (h : f_X8_isCell a = true) : ∃ c, c < 24 ∧ a = nI c := by
  unfold f_X8_isCell f_X8_in at h
  by_cases p : a < 0
  · rw [if_pos p] at h; cases h
  · rw [if_neg p] at h
    by_cases q : (23 : Int32) < a
    · rw [if_pos q] at h; cases h
    · refine ⟨a.toNatClampNeg, ?_, niOfc a p⟩
      have e := niOfc a p
      rw [lt_toInt] at q
      have h2 : (23 : Int32).toInt = 23 := rfl
      have h3 : a.toInt.toNat = a.toNatClampNeg := rfl
      omega
theorem isCell_t {c : Nat} (h : c < 24) : f_X8_isCell (nI c) = true := by
  unfold f_X8_isCell f_X8_in
  rw [if_neg (niGe (by omega)), if_neg (show ¬ (23 : Int32) < nI c from nlt (a := 23) (by omega) (by omega))]
theorem laid_at {vm : rV} {c : Nat} (h : c < 24) : f_X8_laidIn vm (nI c) = some (la vm c) := by
  unfold f_X8_laidIn
  rw [if_pos (isCell_t h), show (72 : Int32) + nI c = nI (72 + c) from niAdd 72 c, show (96 : Int32) + nI c = nI (96 + c) from niAdd 96 c, if_pos (gin (show 72 + c < 416 by omega) (by omega)), if_pos (gin (show 96 + c < 416 by omega) (by omega)), niCl (by omega), niCl (by omega)]
  rfl
theorem laid_out {vm : rV} {a : Int32} (h : ¬ f_X8_isCell a = true) : f_X8_laidIn vm a = some 0 := by
  unfold f_X8_laidIn
  rw [if_neg h]
/-- rows of what lies -/
def RLl (B : Nat) (vc vm : rV) : Prop := Rw vc (B + 8) vm 187 72 24 ∧ Rw vc (B + 9) vm 187 96 24
theorem laid_eq {B : Nat} {vc vm : rV} {a : Int32} (h : RLl B vc vm) : f_X5_lyingAt vc B a = f_X8_laidIn vm a := by
  by_cases p : f_X8_isCell a = true
  · obtain ⟨c, hc, rfl⟩ := isCell_n p
    rw [laid_at hc]
    unfold f_X5_lyingAt
    rw [if_neg (niGe (by omega)), if_neg (show ¬ (24 : Int32) ≤ nI c from nle (a := 24) (by omega) (by omega)), if_pos (gin hc (by omega)), niCl (by omega)]
    show some (vc.1 (B + 8) c + vc.1 (B + 9) c) = _
    rw [h.1 c hc, h.2 c hc]
    rfl
  · rw [laid_out p]
    rw [← isCell_c] at p
    unfold f_X7_isCell at p
    unfold f_X5_lyingAt
    by_cases q : a < 0
    · rw [if_pos q]
    · rw [if_neg q] at p ⊢
      by_cases q2 : (24 : Int32) ≤ a
      · rw [if_pos q2]
      · rw [if_neg q2] at p
        exact absurd rfl p
theorem laid_some {vm : rV} (a : Int32) : ∃ r, f_X8_laidIn vm a = some r := by
  by_cases p : f_X8_isCell a = true
  · obtain ⟨c, hc, rfl⟩ := isCell_n p
    exact ⟨_, laid_at hc⟩
  · exact ⟨_, laid_out p⟩
theorem ring_go {B : Nat} {vc vm : rV} (h : RLl B vc vm) (hb : BT (vc.1 B 12) vm 192) : ∀ (d c n m : Nat) (a1 a2 : Int32), c + d = 24 → d < n → d < m → ∃ r, f_X5_ring_6 vc n B a1 a2 (nI c) = some r ∧ f_X8_ring_6 vm m a1 a2 (nI c) = some r := by
  intro d
  induction d with
  | zero =>
    intro c n m a1 a2 e hn hm
    obtain ⟨n, rfl⟩ : ∃ n', n = n' + 1 := ⟨n - 1, by omega⟩
    obtain ⟨m, rfl⟩ : ∃ m', m = m' + 1 := ⟨m - 1, by omega⟩
    have g : (24 : Int32) ≤ nI c := ple (a := 24) (by omega) (by omega)
    rw [f_X5_ring_6, f_X8_ring_6, if_pos g, if_pos g]
    by_cases z : a1 = 0
    · rw [if_pos z, if_pos z]; exact ⟨_, rfl, rfl⟩
    · rw [if_neg z, if_neg z, if_neg z, if_neg z]
      exact ⟨_, rfl, by rw [Int32.mul_comm]⟩
  | succ d ih =>
    intro c n m a1 a2 e hn hm
    obtain ⟨n, rfl⟩ : ∃ n', n = n' + 1 := ⟨n - 1, by omega⟩
    obtain ⟨m, rfl⟩ : ∃ m', m = m' + 1 := ⟨m - 1, by omega⟩
    have g : ¬ (24 : Int32) ≤ nI c := nle (a := 24) (by omega) (by omega)
    rw [f_X5_ring_6, f_X8_ring_6, if_neg g, if_neg g, laid_eq h, laid_at (by omega), Option.bind_some, Option.bind_some, vlet_eq, vlet_eq, show (192 : Int32) + nI c = nI (192 + c) from niAdd 192 c, if_pos (gin (show 192 + c < 416 by omega) (by omega)), Option.bind_some, Option.bind_some, niCl (show 192 + c < 2147483648 by omega), hb c (by omega)]
    unfold f_X5_ring_41
    rw [vlet_eq, vlet_eq, ad1]
    by_cases z : f_X7_has (vc.1 B 12) (nI c) = true
    · rw [if_pos z, if_pos z, vlet_eq, vlet_eq, Int32.one_mul]
      exact ih (c + 1) n m _ _ (by omega) (by omega) (by omega)
    · rw [if_neg z, if_neg z, vlet_eq, vlet_eq, Int32.zero_mul]
      exact ih (c + 1) n m _ _ (by omega) (by omega) (by omega)
theorem rings_go {B : Nat} {vc vm : rV} (h : RLl B vc vm) : ∀ (d c n m : Nat) (a1 : Int32), c + d = 24 → d < n → d < m → ∃ r, f_X5_rings_4 vc n B a1 (nI c) = some r ∧ f_X8_rings_4 vm m a1 (nI c) = some r := by
  intro d
  induction d with
  | zero =>
    intro c n m a1 e hn hm
    obtain ⟨n, rfl⟩ : ∃ n', n = n' + 1 := ⟨n - 1, by omega⟩
    obtain ⟨m, rfl⟩ : ∃ m', m = m' + 1 := ⟨m - 1, by omega⟩
    have g : (24 : Int32) ≤ nI c := ple (a := 24) (by omega) (by omega)
    rw [f_X5_rings_4, f_X8_rings_4, if_pos g, if_pos g]
    exact ⟨_, rfl, rfl⟩
  | succ d ih =>
    intro c n m a1 e hn hm
    obtain ⟨n, rfl⟩ : ∃ n', n = n' + 1 := ⟨n - 1, by omega⟩
    obtain ⟨m, rfl⟩ : ∃ m', m = m' + 1 := ⟨m - 1, by omega⟩
    have g : ¬ (24 : Int32) ≤ nI c := nle (a := 24) (by omega) (by omega)
    obtain ⟨p, ep⟩ := laid_some (vm := vm) (nI c - 1)
    obtain ⟨q, eq⟩ := laid_some (vm := vm) (nI c + 1)
    rw [f_X5_rings_4, f_X8_rings_4, if_neg g, if_neg g, laid_eq h, laid_eq h, laid_eq h, laid_at (by omega), ep, eq]
    simp only [Option.bind_some]
    unfold f_X5_rings_41 f_X8_rings_45 f_X8_rings_46
    simp only [vlet_eq, ad1, Int32.add_zero]
    by_cases z : la vm c ≤ p
    · rw [if_pos z, if_pos z]
      exact ih (c + 1) n m _ (by omega) (by omega) (by omega)
    · rw [if_neg z, if_neg z]
      by_cases z2 : la vm c ≤ q
      · rw [if_pos z2, if_pos z2]
        exact ih (c + 1) n m _ (by omega) (by omega) (by omega)
      · rw [if_neg z2, if_neg z2]
        exact ih (c + 1) n m _ (by omega) (by omega) (by omega)
/-- the most and the fewest, where the class begins with no most and the model with no least -/
theorem even_go {B : Nat} {vc vm : rV} (h : RLl B vc vm) (hb : BT (vc.1 B 11) vm 216) (hn0 : ∀ c, c < 24 → 0 ≤ (la vm c).toInt) : ∀ (d c n m : Nat) (a1 a2 b1 b2 : Int32), c + d = 24 → d < n → d < m → ((a1 = -1 ∧ b1 = -1 ∧ b2 = 0) ∨ (0 ≤ a1.toInt ∧ a1 = b2 ∧ a2 = b1 ∧ 0 ≤ b1.toInt)) → ∃ r, f_X5_even_6 vc n B a1 a2 (nI c) = some r ∧ f_X8_even_6 vm m b1 b2 (nI c) = some r := by
  have mo : (-1 : Int32).toInt = -1 := rfl
  intro d
  induction d with
  | zero =>
    intro c n m a1 a2 b1 b2 e hn hm hs
    obtain ⟨n, rfl⟩ : ∃ n', n = n' + 1 := ⟨n - 1, by omega⟩
    obtain ⟨m, rfl⟩ : ∃ m', m = m' + 1 := ⟨m - 1, by omega⟩
    have g : (24 : Int32) ≤ nI c := ple (a := 24) (by omega) (by omega)
    rw [f_X5_even_6, f_X8_even_6, if_pos g, if_pos g]
    rcases hs with ⟨e1, e2, e3⟩ | ⟨e1, e2, e3, e4⟩
    · rw [if_pos e1, if_pos e2]; exact ⟨_, rfl, rfl⟩
    · rw [if_neg (fun q => by rw [q, mo] at e1; omega), if_neg (fun q => by rw [q, mo] at e4; omega), e2, e3]
      exact ⟨_, rfl, rfl⟩
  | succ d ih =>
    intro c n m a1 a2 b1 b2 e hn hm hs
    obtain ⟨n, rfl⟩ : ∃ n', n = n' + 1 := ⟨n - 1, by omega⟩
    obtain ⟨m, rfl⟩ : ∃ m', m = m' + 1 := ⟨m - 1, by omega⟩
    have g : ¬ (24 : Int32) ≤ nI c := nle (a := 24) (by omega) (by omega)
    have la0 := hn0 c (by omega)
    rw [f_X5_even_6, f_X8_even_6, if_neg g, if_neg g, show (216 : Int32) + nI c = nI (216 + c) from niAdd 216 c, if_pos (gin (show 216 + c < 416 by omega) (by omega)), niCl (show 216 + c < 2147483648 by omega), hb c (by omega), laid_eq h, laid_at (by omega)]
    simp only [Option.bind_some]
    unfold f_X5_even_46 f_X5_even_54 f_X8_even_48 f_X8_even_59
    rw [laid_at (by omega)]
    simp only [Option.bind_some, vlet_eq, ad1]
    by_cases z : f_X7_has (vc.1 B 11) (nI c) = true
    · rw [if_pos z, if_pos z, if_pos rfl]
      rcases hs with ⟨e1, e2, e3⟩ | ⟨e1, e2, e3, e4⟩
      · rw [if_pos e1, if_pos e2]
        refine ih (c + 1) n m _ _ _ _ (by omega) (by omega) (by omega) (Or.inr ?_)
        rw [e1, e3, if_pos (show (-1 : Int32) < la vm c by rw [lt_toInt, mo]; omega)]
        refine ⟨la0, ?_, rfl, la0⟩
        by_cases y : 0 < la vm c
        · rw [if_pos y]
        · rw [if_neg y]
          rw [lt_toInt] at y
          rw [eq_toInt]
          have : (0 : Int32).toInt = 0 := rfl
          omega
      · rw [if_neg (show ¬ a1 = -1 from fun q => by rw [q, mo] at e1; omega), if_neg (show ¬ b1 = -1 from fun q => by rw [q, mo] at e4; omega)]
        refine ih (c + 1) n m _ _ _ _ (by omega) (by omega) (by omega) (Or.inr ?_)
        rw [e2, e3]
        refine ⟨?_, rfl, rfl, ?_⟩
        · by_cases y : b2 < la vm c
          · rw [if_pos y]; exact la0
          · rw [if_neg y, ← e2]; exact e1
        · by_cases y : la vm c < b1
          · rw [if_pos y]; exact la0
          · rw [if_neg y]; exact e4
    · rw [if_neg z, if_neg z, if_neg (show ¬ (0 : Int32) = 1 by decide)]
      exact ih (c + 1) n m _ _ _ _ (by omega) (by omega) (by omega) hs
/-- sums in two orders -/
theorem sumOf_go {vm : rV} {o k : Nat} (hok : o + k ≤ 416) : ∀ (d i n : Nat) (x : Int32), i + d = k → d < n → f_X8_sumOf_5 vm n (nI o) (nI k) x (nI (o + i)) = some (x + sI (fun j => vm.1 187 j) (o + i) d) := by
  intro d
  induction d with
  | zero =>
    intro i n x e hn
    obtain ⟨n, rfl⟩ : ∃ n', n = n' + 1 := ⟨n - 1, by omega⟩
    rw [f_X8_sumOf_5, niAdd, if_pos (ple (by omega) (by omega)), sI, Int32.add_zero]
  | succ d ih =>
    intro i n x e hn
    obtain ⟨n, rfl⟩ : ∃ n', n = n' + 1 := ⟨n - 1, by omega⟩
    rw [f_X8_sumOf_5, niAdd, if_neg (nle (by omega) (by omega)), if_pos (gin (show o + i < 416 by omega) (by omega)), niCl (by omega), vlet_eq, vlet_eq, ad1, show o + i + 1 = o + (i + 1) by omega, ih (i + 1) n _ (by omega) (by omega)]
    simp only [sI]
    rw [Int32.add_assoc, show o + i + 1 = o + (i + 1) by omega]
theorem sumOf_eq {vm : rV} {o k : Nat} (hok : o + k ≤ 416) (hk : k < 20000) : f_X8_sumOf vm (nI o) (nI k) = some (sI (fun j => vm.1 187 j) o k) := by
  unfold f_X8_sumOf
  have := sumOf_go (vm := vm) hok k 0 20000 0 (by omega) hk
  rw [Nat.add_zero, Int32.zero_add] at this
  exact this
theorem sI_add (g : Nat → Int32) (a m n : Nat) : sI g a (m + n) = sI g a m + sI g (a + m) n := by
  induction m generalizing a with
  | zero => simp [sI]
  | succ m ih =>
    rw [show m + 1 + n = (m + n) + 1 by omega]
    simp only [sI]
    rw [ih, show a + 1 + m = a + (m + 1) by omega, Int32.add_assoc]
theorem sI_two (g h : Nat → Int32) (a n : Nat) : sI (fun c => g c + h c) a n = sI g a n + sI h a n := by
  induction n generalizing a with
  | zero => rfl
  | succ n ih =>
    simp only [sI]
    rw [ih, Int32.add_assoc, Int32.add_assoc, ← Int32.add_assoc (h a), Int32.add_comm (h a) (sI g (a + 1) n), Int32.add_assoc (sI g (a + 1) n)]
theorem sI_sh (g h : Nat → Int32) (a b n : Nat) (e : ∀ i, i < n → g (a + i) = h (b + i)) : sI g a n = sI h b n := by
  induction n generalizing a b with
  | zero => rfl
  | succ n ih =>
    simp only [sI]
    rw [show g a = h b from e 0 (by omega), ih (a + 1) (b + 1) fun i hi => by
      have := e (i + 1) (by omega)
      rwa [show a + (i + 1) = a + 1 + i by omega, show b + (i + 1) = b + 1 + i by omega] at this]
/-- a loop of the class over all cells that adds -/
theorem sI_48 {vm : rV} {o : Nat} : sI (fun j => vm.1 187 j) o 48 = sI (fun c => vm.1 187 (o + c) + vm.1 187 (o + 24 + c)) 0 24 := by
  rw [sI_two, show 48 = 24 + 24 from rfl, sI_add, sI_sh (fun j => vm.1 187 j) (fun c => vm.1 187 (o + c)) o 0 24 (fun i _ => by simp), sI_sh (fun j => vm.1 187 j) (fun c => vm.1 187 (o + 24 + c)) (o + 24) 0 24 (fun i _ => by simp)]
theorem lyAll_go {B : Nat} {vc vm : rV} (h : RLl B vc vm) : ∀ (d c n : Nat) (x : Int32), c + d = 24 → d < n → f_X5_lyingAll_4 vc n B x (nI c) = some (x + sI (la vm) c d) := by
  intro d
  induction d with
  | zero =>
    intro c n x e hn
    obtain ⟨n, rfl⟩ : ∃ n', n = n' + 1 := ⟨n - 1, by omega⟩
    rw [f_X5_lyingAll_4, if_pos (show (24 : Int32) ≤ nI c from ple (a := 24) (by omega) (by omega)), sI, Int32.add_zero]
  | succ d ih =>
    intro c n x e hn
    obtain ⟨n, rfl⟩ : ∃ n', n = n' + 1 := ⟨n - 1, by omega⟩
    rw [f_X5_lyingAll_4, if_neg (show ¬ (24 : Int32) ≤ nI c from nle (a := 24) (by omega) (by omega)), laid_eq h, laid_at (by omega), Option.bind_some, vlet_eq, vlet_eq, ad1, ih (c + 1) n _ (by omega) (by omega)]
    simp only [sI]
    rw [Int32.add_assoc]
theorem lyAll_eq {B : Nat} {vc vm : rV} (h : RLl B vc vm) : f_X5_lyingAll vc B = some (sI (la vm) 0 24) := by
  unfold f_X5_lyingAll
  have := lyAll_go h 24 0 20000 0 (by omega) (by omega)
  rw [Int32.zero_add] at this
  exact this
theorem hpAll_go {B : Nat} {vc : rV} : ∀ (d c n : Nat) (x : Int32), c + d = 24 → d < n → f_X5_heapedAll_4 vc n B x (nI c) = some (x + sI (fun i => vc.1 (B + 10) i) c d) := by
  intro d
  induction d with
  | zero =>
    intro c n x e hn
    obtain ⟨n, rfl⟩ : ∃ n', n = n' + 1 := ⟨n - 1, by omega⟩
    rw [f_X5_heapedAll_4, if_pos (show (24 : Int32) ≤ nI c from ple (a := 24) (by omega) (by omega)), sI, Int32.add_zero]
  | succ d ih =>
    intro c n x e hn
    obtain ⟨n, rfl⟩ : ∃ n', n = n' + 1 := ⟨n - 1, by omega⟩
    rw [f_X5_heapedAll_4, if_neg (show ¬ (24 : Int32) ≤ nI c from nle (a := 24) (by omega) (by omega)), if_pos (gin (show c < 24 by omega) (by omega)), niCl (by omega), vlet_eq, vlet_eq, ad1, ih (c + 1) n _ (by omega) (by omega)]
    simp only [sI]
    rw [Int32.add_assoc]
theorem frAll_go {B : Nat} {vc : rV} : ∀ (d c n : Nat) (x : Int32), c + d = 24 → d < n → f_X5_freeAll_4 vc n B x (nI c) = some (x + sI (fun i => vc.1 (B + 5) i + vc.1 (B + 6) i) c d) := by
  intro d
  induction d with
  | zero =>
    intro c n x e hn
    obtain ⟨n, rfl⟩ : ∃ n', n = n' + 1 := ⟨n - 1, by omega⟩
    rw [f_X5_freeAll_4, if_pos (show (24 : Int32) ≤ nI c from ple (a := 24) (by omega) (by omega)), sI, Int32.add_zero]
  | succ d ih =>
    intro c n x e hn
    obtain ⟨n, rfl⟩ : ∃ n', n = n' + 1 := ⟨n - 1, by omega⟩
    rw [f_X5_freeAll_4, if_neg (show ¬ (24 : Int32) ≤ nI c from nle (a := 24) (by omega) (by omega)), if_pos (gin (show c < 24 by omega) (by omega)), niCl (by omega), vlet_eq, vlet_eq, ad1, ih (c + 1) n _ (by omega) (by omega)]
    simp only [sI]
    rw [Int32.add_assoc]
theorem tell_go {M B tb : Nat} {vc vm : rV} (h : ST M B tb vc vm) (a : Int32) : ∃ r, f_X5_tell vc B a = some r ∧ f_X8_about vm a = some r := by
  obtain ⟨ρ, L, t, S0, S1, ⟨s0, s1, ht⟩, -, ⟨hN, hN2, -⟩, ⟨F, R8, R9, R10, R11, R1⟩, ⟨hAA, hrow⟩, ⟨t1, t2, e16, e17, e18, e19, esd⟩, ⟨bt1, bt2, har⟩⟩ := h
  have hRL : RLl B vc vm := ⟨R8, R9⟩
  unfold f_X5_tell f_X8_about
  by_cases c0 : a = 0
  · obtain ⟨r, r1, r2⟩ := ring_go hRL bt2 24 0 20000 20000 0 0 (by omega) (by omega) (by omega)
    rw [if_pos c0, if_pos c0]
    unfold f_X5_ring f_X8_ring
    exact ⟨r, by rw [show f_X5_ring_6 vc 20000 B 0 0 0 = some r from r1]; rfl, by rw [show f_X8_ring_6 vm 20000 0 0 0 = some r from r2]; rfl⟩
  rw [if_neg c0, if_neg c0]
  by_cases c1 : a = 1
  · obtain ⟨r, r1, r2⟩ := rings_go hRL 24 0 20000 20000 0 (by omega) (by omega) (by omega)
    rw [if_pos c1, if_pos c1]
    unfold f_X5_rings f_X8_rings
    exact ⟨r, by rw [show f_X5_rings_4 vc 20000 B 0 0 = some r from r1]; rfl, by rw [show f_X8_rings_4 vm 20000 0 0 = some r from r2]; rfl⟩
  rw [if_neg c1, if_neg c1]
  by_cases c2 : a = 2
  · obtain ⟨r, r1, r2⟩ := even_go hRL bt1 (fun c hc => (la_nn s0 s1 hAA hc).1) 24 0 20000 20000 (-1) 0 (-1) 0 (by omega) (by omega) (by omega) (Or.inl ⟨rfl, rfl, rfl⟩)
    rw [if_pos c2, if_pos c2]
    unfold f_X5_even f_X8_even
    exact ⟨r, by rw [show f_X5_even_6 vc 20000 B (-1) 0 0 = some r from r1]; rfl, by rw [show f_X8_even_6 vm 20000 (-1) 0 0 = some r from r2]; rfl⟩
  rw [if_neg c2, if_neg c2]
  by_cases c3 : a = 3
  · rw [if_pos c3, if_pos c3, lyAll_eq hRL, show f_X8_sumOf vm 72 48 = _ from sumOf_eq (o := 72) (k := 48) (by omega) (by omega), sI_48]
    exact ⟨_, rfl, rfl⟩
  rw [if_neg c3, if_neg c3]
  by_cases c4 : a = 4
  · rw [if_pos c4, if_pos c4, show f_X8_sumOf vm 144 24 = _ from sumOf_eq (o := 144) (k := 24) (by omega) (by omega)]
    unfold f_X5_heapedAll
    have k := hpAll_go (vc := vc) (B := B) 24 0 20000 0 (by omega) (by omega)
    rw [Int32.zero_add] at k
    rw [show f_X5_heapedAll_4 vc 20000 B 0 0 = _ from k]
    exact ⟨_, rfl, by rw [sI_sh (fun j => vm.1 187 j) (fun i => vc.1 (B + 10) i) 144 0 24 fun i hi => by rw [Nat.zero_add]; exact (R10 i hi).symm]; rfl⟩
  rw [if_neg c4, if_neg c4]
  by_cases c5 : a = 5
  · rw [if_pos c5, if_pos c5, t1, t2]; exact ⟨_, rfl, rfl⟩
  rw [if_neg c5, if_neg c5]
  by_cases c6 : a = 6
  · rw [if_pos c6, if_pos c6, e16]; exact ⟨_, rfl, rfl⟩
  rw [if_neg c6, if_neg c6]
  by_cases c7 : a = 7
  · rw [if_pos c7, if_pos c7, hN, hN2]; exact ⟨_, rfl, rfl⟩
  rw [if_neg c7, if_neg c7]
  by_cases c8 : a = 8
  · rw [if_pos c8, if_pos c8, show f_X8_sumOf vm 24 48 = _ from sumOf_eq (o := 24) (k := 48) (by omega) (by omega), sI_48]
    unfold f_X5_freeAll
    have k := frAll_go (vc := vc) (B := B) 24 0 20000 0 (by omega) (by omega)
    rw [Int32.zero_add] at k
    rw [show f_X5_freeAll_4 vc 20000 B 0 0 = _ from k]
    exact ⟨_, rfl, by rw [sI_ext fun i _ hi => show _ = vc.1 (B + 5) i + vc.1 (B + 6) i by rw [F.1 i (by omega), F.2 i (by omega)]]; rfl⟩
  rw [if_neg c8, if_neg c8]
  exact ⟨_, rfl, rfl⟩
