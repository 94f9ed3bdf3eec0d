/-! INTS: the pure side's words for numbers -/
theorem vlet_eq {α β : Type} (a : α) (f : α → β) : vlet a f = f a := rfl
theorem rI_at (v : rV) (k j : Nat) (x : Int32) : (rI v k j x).1 k j = x := by simp [rI]
theorem rI_no {v : rV} {k j a b : Nat} {x : Int32} (h : ¬ (a = k ∧ b = j)) : (rI v k j x).1 a b = v.1 a b := by simp [rI, h]
theorem rI_1 (v : rV) (k j : Nat) (x : Int32) (a b : Nat) : (rI v k j x).1 a b = if a = k ∧ b = j then x else v.1 a b := rfl
theorem rI_2 (v : rV) (k j : Nat) (x : Int32) : (rI v k j x).2 = v.2 := rfl
theorem lit (n : Nat) : (no_index (OfNat.ofNat n) : Int32) = nI n := rfl
theorem niAdd (a b : Nat) : nI a + nI b = nI (a + b) := (Int32.ofNat_add a b).symm
theorem niMul (a b : Nat) : nI a * nI b = nI (a * b) := (Int32.ofNat_mul a b).symm
theorem niInt {a : Nat} (h : a < 2147483648) : (nI a).toInt = (a : Int) := by
  unfold nI
  rw [Int32.toInt_ofNat_of_lt (by omega)]
theorem niSub {a b : Nat} (h : b ≤ a) : nI a - nI b = nI (a - b) := by
  rw [← Int32.toInt_inj]
  have e : nI a = nI (a - b) + nI b := by rw [niAdd]; congr 1; omega
  rw [e, Int32.add_sub_cancel]
theorem niCl {a : Nat} (h : a < 2147483648) : (nI a).toNatClampNeg = a := Int32.toNatClampNeg_ofNat_of_lt (by omega)
theorem niLt {a b : Nat} (ha : a < 2147483648) (hb : b < 2147483648) : (nI a < nI b) = (a < b) := by
  rw [Int32.lt_iff_toInt_lt, niInt ha, niInt hb]
  simp
theorem niLe {a b : Nat} (ha : a < 2147483648) (hb : b < 2147483648) : (nI a ≤ nI b) = (a ≤ b) := by
  rw [Int32.le_iff_toInt_le, niInt ha, niInt hb]
  simp
theorem niEq {a b : Nat} (ha : a < 2147483648) (hb : b < 2147483648) : (nI a = nI b) = (a = b) := by
  apply propext
  constructor
  · intro h
    have := congrArg Int32.toInt h
    rw [niInt ha, niInt hb] at this
    omega
  · intro h
    rw [h]
theorem niGe {a : Nat} (ha : a < 2147483648) : ¬ nI a < 0 := by
  rw [show (0 : Int32) = nI 0 from rfl, niLt ha (by omega)]
  omega
/-- a number that isn't below 0 is a natural one -/
theorem niOf {x : Int32} (h : 0 ≤ x.toInt) : x = nI x.toInt.toNat := by
  rw [← Int32.toInt_inj, niInt (by have := x.toInt_lt; omega)]
  omega
theorem niOfc (x : Int32) (h : ¬ x < 0) : x = nI x.toNatClampNeg := by
  have : 0 ≤ x.toInt := by
    have h2 := Int32.not_lt.mp h
    rw [Int32.le_iff_toInt_le] at h2
    simpa using h2
  exact niOf this
/-- the guard of a row -/
theorem gin {a n : Nat} (h : a < n) (hn : n ≤ 2147483648) : ¬ nI a < 0 ∧ (nI a).toNatClampNeg < n := ⟨niGe (by omega), by rw [niCl (by omega)]; exact h⟩
theorem add_toInt {a b : Int32} (h : -2147483648 ≤ a.toInt + b.toInt) (h2 : a.toInt + b.toInt < 2147483648) : (a + b).toInt = a.toInt + b.toInt := by
  rw [Int32.toInt_add]
  exact Int.bmod_eq_of_le (by omega) (by omega)
theorem sub_toInt {a b : Int32} (h : -2147483648 ≤ a.toInt - b.toInt) (h2 : a.toInt - b.toInt < 2147483648) : (a - b).toInt = a.toInt - b.toInt := by
  rw [Int32.toInt_sub]
  exact Int.bmod_eq_of_le (by omega) (by omega)
theorem mul_toInt {a b : Int32} (h : -2147483648 ≤ a.toInt * b.toInt) (h2 : a.toInt * b.toInt < 2147483648) : (a * b).toInt = a.toInt * b.toInt := by
  rw [Int32.toInt_mul]
  exact Int.bmod_eq_of_le (by omega) (by omega)
theorem neg_toInt {a : Int32} (h : -2147483648 < a.toInt) : (-a).toInt = -a.toInt := by
  rw [Int32.toInt_neg]
  have := a.toInt_lt
  exact Int.bmod_eq_of_le (by omega) (by omega)
theorem div_toInt {a b : Int32} (h : 0 ≤ b.toInt) : (a / b).toInt = a.toInt.tdiv b.toInt := by
  refine Int32.toInt_div_of_ne_right a b ?_
  intro e
  rw [e] at h
  exact absurd h (by decide)
theorem lt_toInt {a b : Int32} : (a < b) = (a.toInt < b.toInt) := propext Int32.lt_iff_toInt_lt
theorem le_toInt {a b : Int32} : (a ≤ b) = (a.toInt ≤ b.toInt) := propext Int32.le_iff_toInt_le
theorem eq_toInt {a b : Int32} : (a = b) = (a.toInt = b.toInt) := propext Int32.toInt_inj.symm
/-- what lies in n cells from a on -/
def sm (g : Nat → Int) (a : Nat) : Nat → Int
  | 0 => 0
  | n + 1 => g a + sm g (a + 1) n
theorem sm_add (g : Nat → Int) (a m n : Nat) : sm g a (m + n) = sm g a m + sm g (a + m) n := by
  induction m generalizing a with
  | zero => simp [sm]
  | succ m ih =>
    rw [show m + 1 + n = (m + n) + 1 by omega]
    simp only [sm]
    rw [ih, show a + 1 + m = a + (m + 1) by omega]
    omega
theorem sm_last (g : Nat → Int) (a n : Nat) : sm g a (n + 1) = sm g a n + g (a + n) := by
  rw [sm_add]
  simp [sm]
theorem sm_ext {g h : Nat → Int} {a n : Nat} (e : ∀ c, a ≤ c → c < a + n → g c = h c) : sm g a n = sm h a n := by
  induction n generalizing a with
  | zero => rfl
  | succ n ih =>
    simp only [sm]
    rw [e a (by omega) (by omega), ih fun c h1 h2 => e c (by omega) (by omega)]
theorem sm_nn {g : Nat → Int} {a n : Nat} (e : ∀ c, a ≤ c → c < a + n → 0 ≤ g c) : 0 ≤ sm g a n := by
  induction n generalizing a with
  | zero => exact Int.le_refl 0
  | succ n ih =>
    simp only [sm]
    have := ih (a := a + 1) fun c h1 h2 => e c (by omega) (by omega)
    have := e a (by omega) (by omega)
    omega
theorem sm_one {g : Nat → Int} {a n c : Nat} (e : ∀ c, a ≤ c → c < a + n → 0 ≤ g c) (h1 : a ≤ c) (h2 : c < a + n) : g c ≤ sm g a n := by
  induction n generalizing a with
  | zero => omega
  | succ n ih =>
    simp only [sm]
    have h0 := e a (by omega) (by omega)
    have hn : 0 ≤ sm g (a + 1) n := sm_nn fun c h1 h2 => e c (by omega) (by omega)
    rcases Nat.eq_or_lt_of_le h1 with q | q
    · subst q; omega
    · have := ih (a := a + 1) (fun c h1 h2 => e c (by omega) (by omega)) (by omega) (by omega)
      omega
/-- a part of the cells holds no more than all of them -/
theorem sm_part {g : Nat → Int} {a n b m : Nat} (e : ∀ c, a ≤ c → c < a + n → 0 ≤ g c) (h1 : a ≤ b) (h2 : b + m ≤ a + n) : sm g b m ≤ sm g a n := by
  have e1 : n = (b - a) + (m + (a + n - b - m)) := by omega
  rw [e1, sm_add, sm_add, show a + (b - a) = b by omega]
  have p1 : 0 ≤ sm g a (b - a) := sm_nn fun c h1 h2 => e c (by omega) (by omega)
  have p2 : 0 ≤ sm g (b + m) (a + n - b - m) := sm_nn fun c h1 h2 => e c (by omega) (by omega)
  omega
theorem sm_set {g h : Nat → Int} {a n i : Nat} (h1 : a ≤ i) (h2 : i < a + n) (e : ∀ c, c ≠ i → h c = g c) : sm h a n = sm g a n + h i - g i := by
  induction n generalizing a with
  | zero => omega
  | succ n ih =>
    simp only [sm]
    rcases Nat.eq_or_lt_of_le h1 with q | q
    · subst q
      rw [sm_ext (g := h) (h := g) fun c h1 h2 => e c (by omega)]
      omega
    · rw [e a (by omega), ih (by omega) (by omega)]
      omega
theorem sm_out {g h : Nat → Int} {a n i : Nat} (h1 : i < a ∨ a + n ≤ i) (e : ∀ c, c ≠ i → h c = g c) : sm h a n = sm g a n := sm_ext fun c h1 h2 => e c (by omega)
theorem nle {a b : Nat} (h : b < a) (ha : a < 2147483648) : ¬ nI a ≤ nI b := by rw [niLe ha (by omega)]; omega
theorem nlt {a b : Nat} (h : b ≤ a) (ha : a < 2147483648) : ¬ nI a < nI b := by rw [niLt ha (by omega)]; omega
theorem ple {a b : Nat} (h : a ≤ b) (hb : b < 2147483648) : nI a ≤ nI b := by rw [niLe (by omega) hb]; omega
theorem plt {a b : Nat} (h : a < b) (hb : b < 2147483648) : nI a < nI b := by rw [niLt (by omega) hb]; omega
theorem nne {a b : Nat} (h : a ≠ b) (ha : a < 2147483648) (hb : b < 2147483648) : ¬ nI a = nI b := by rw [niEq ha hb]; omega
theorem nsc {n : Nat} {P : Nat → Prop} (h : 0 < n) (k : ∀ m, P (m + 1)) : P n := by
  obtain ⟨m, rfl⟩ : ∃ m, n = m + 1 := ⟨n - 1, by omega⟩
  exact k m
theorem niDiv {a b : Nat} (ha : a < 2147483648) (hb : b < 2147483648) : nI a / nI b = nI (a / b) := by
  have h : a / b < 2147483648 := Nat.lt_of_le_of_lt (Nat.div_le_self a b) ha
  rw [eq_toInt, div_toInt (by rw [niInt hb]; omega), niInt ha, niInt hb, niInt h]
  rfl
theorem ni64 {a : Nat} (ha : a < 2147483648) : (nI a).toInt64.toInt = (a : Int) := by
  rw [Int32.toInt_toInt64, niInt ha]
/-- the model's long way of a product and a quotient -/
theorem niLong {a b c : Nat} (ha : a < 2147483648) (hb : b < 2147483648) (hc : c < 2147483648) : (nI a).toInt64 * (nI b).toInt64 / (nI c).toInt64 = Int64.ofInt ((a * b / c : Nat) : Int) := by
  have hp : a * b < 4611686018427387904 := Nat.lt_of_le_of_lt (Nat.mul_le_mul (Nat.le_of_lt_succ (show a < 2147483647 + 1 by omega)) (Nat.le_of_lt_succ (show b < 2147483647 + 1 by omega))) (by decide)
  have hq : a * b / c < 4611686018427387904 := Nat.lt_of_le_of_lt (Nat.div_le_self _ _) hp
  have hm : ((nI a).toInt64 * (nI b).toInt64).toInt = ((a * b : Nat) : Int) := by
    rw [Int64.toInt_mul, ni64 ha, ni64 hb, ← Int.natCast_mul]
    exact Int.bmod_eq_of_le (by omega) (by omega)
  have e : (((a * b : Nat) : Int)).tdiv (c : Int) = ((a * b / c : Nat) : Int) := rfl
  rw [← Int64.toInt_inj, Int64.toInt_div_of_ne_right _ _ (fun e => by
    have := ni64 hc
    rw [e] at this
    exact absurd this (by rw [show (-1 : Int64).toInt = -1 from by decide]; omega)), hm, ni64 hc, e]
  generalize a * b / c = q at *
  rw [Int64.toInt_ofInt_of_le (by omega) (by omega)]
theorem ni32 {a : Nat} (ha : a < 2147483648) : (Int64.ofInt (a : Int)).toInt32 = nI a := by
  rw [← Int32.toInt_inj, Int64.toInt_toInt32, Int64.toInt_ofInt_of_le (by omega) (by omega), niInt ha]
  exact Int.bmod_eq_of_le (by omega) (by omega)
/-- sums of natural numbers -/
def sn (g : Nat → Nat) (a : Nat) : Nat → Nat
  | 0 => 0
  | n + 1 => g a + sn g (a + 1) n
theorem sn_add (g : Nat → Nat) (a m n : Nat) : sn g a (m + n) = sn g a m + sn g (a + m) n := by
  induction m generalizing a with
  | zero => simp [sn]
  | succ m ih =>
    rw [show m + 1 + n = (m + n) + 1 by omega]
    simp only [sn]
    rw [ih, show a + 1 + m = a + (m + 1) by omega]
    omega
theorem sn_last (g : Nat → Nat) (a n : Nat) : sn g a (n + 1) = sn g a n + g (a + n) := by
  rw [sn_add]
  simp [sn]
theorem sn_le {g : Nat → Nat} {a n b : Nat} (e : ∀ c, a ≤ c → c < a + n → g c ≤ b) : sn g a n ≤ n * b := by
  induction n generalizing a with
  | zero => simp [sn]
  | succ n ih =>
    simp only [sn]
    have h1 := ih (a := a + 1) fun c h1 h2 => e c (by omega) (by omega)
    have h2 := e a (by omega) (by omega)
    rw [Nat.succ_mul]
    omega
theorem sn_one {g : Nat → Nat} {a n c : Nat} (h1 : a ≤ c) (h2 : c < a + n) : g c ≤ sn g a n := by
  induction n generalizing a with
  | zero => omega
  | succ n ih =>
    simp only [sn]
    rcases Nat.eq_or_lt_of_le h1 with q | q
    · subst q; omega
    · have := ih (a := a + 1) (by omega) (by omega)
      omega
theorem sm_sn {g : Nat → Int} {h : Nat → Nat} {a n : Nat} (e : ∀ c, a ≤ c → c < a + n → g c = (h c : Int)) : sm g a n = ((sn h a n : Nat) : Int) := by
  induction n generalizing a with
  | zero => rfl
  | succ n ih =>
    simp only [sm, sn]
    rw [e a (by omega) (by omega), ih fun c h1 h2 => e c (by omega) (by omega)]
    omega
/-- shares cut: together no more than all, and fewer are wanting than there are shares -/
theorem shares (w : Nat → Nat) (A S : Nat) (hS : 0 < S) (a n : Nat) : sn (fun i => A * w i / S) a n * S ≤ A * sn w a n ∧ A * sn w a n + n ≤ (sn (fun i => A * w i / S) a n + n) * S := by
  induction n generalizing a with
  | zero => simp [sn]
  | succ n ih =>
    simp only [sn]
    obtain ⟨h1, h2⟩ := ih (a + 1)
    have hd := Nat.div_add_mod (A * w a) S
    have hr := Nat.mod_lt (A * w a) hS
    rw [Nat.mul_comm] at hd
    rw [Nat.mul_add, Nat.add_mul]
    refine ⟨by omega, ?_⟩
    rw [show A * w a / S + sn (fun i => A * w i / S) (a + 1) n + (n + 1) = A * w a / S + ((sn (fun i => A * w i / S) (a + 1) n + n) + 1) by omega, Nat.add_mul, Nat.add_mul, Nat.one_mul]
    omega
theorem shares_le {w : Nat → Nat} {A S a n : Nat} (hS : 0 < S) (h : sn w a n = S) (hn : 0 < n) : sn (fun i => A * w i / S) a n ≤ A ∧ A < sn (fun i => A * w i / S) a n + n := by
  obtain ⟨h1, h2⟩ := shares w A S hS a n
  rw [h] at h1 h2
  exact ⟨Nat.le_of_mul_le_mul_right h1 hS, Nat.lt_of_mul_lt_mul_right (a := S) (by omega)⟩
