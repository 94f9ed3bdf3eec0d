/-! A DROP, from the tape -/
def TV (q : Qy) (vc vm : rV) : Prop := q.n ≤ 160 ∧ (vc.1 1 1 = nI q.n ∧ vm.1 174 2 = nI q.n) ∧ ∀ j, j < q.n → (1 ≤ q.tp j ∧ q.tp j ≤ 255) ∧ vc.1 2 j = nI (q.tp j) ∧ vm.1 175 j = nI (q.tp j)
def Sdr : Nat → Nat → Prop := fun k j => (k = 7 ∧ (j = 2 ∨ j = 3)) ∨ (k = 8 ∧ j < 12)
def Tdr (d : Nat) : Nat → Nat → Prop := fun k j => (k = 174 ∧ (j = 3 ∨ j = 4 ∨ j = 22)) ∨ (k = 185 ∧ 12 * d ≤ j ∧ j < 12 * d + 12)
theorem TV.ch {q : Qy} {d : Nat} {vc vm wc wm : rV} (h : TV q vc vm) (hc : Ch Sdr vc wc) (hm : Ch (Tdr d) vm wm) : TV q wc wm := by
  obtain ⟨a, ⟨b1, b2⟩, c⟩ := h
  refine ⟨a, ⟨?_, ?_⟩, fun j hj => ⟨(c j hj).1, ?_, ?_⟩⟩
  · rw [hc.1 _ _ (by unfold Sdr; omega)]; exact b1
  · rw [hm.1 _ _ (by unfold Tdr; omega)]; exact b2
  · rw [hc.1 _ _ (by unfold Sdr; omega)]; exact (c j hj).2.1
  · rw [hm.1 _ _ (by unfold Tdr; omega)]; exact (c j hj).2.2
theorem byteAt_d {q : Qy} {vc vm : rV} {a : Nat} (h : TV q vc vm) (ha : a < 1000) : f_X6_byteAt vc (nI a) = some (bt q a) := by
  obtain ⟨a1, ⟨b1, b2⟩, d⟩ := h
  unfold f_X6_byteAt bt
  rw [if_neg (niGe (by omega)), b1]
  by_cases p : a < q.n
  · rw [if_neg (nle p (by omega)), if_neg (show ¬ (160 : Int32) ≤ nI a from nle (a := 160) (by omega) (by omega)), if_pos (gin (show a < 160 by omega) (by omega)), niCl (by omega), (d a p).2.1, if_pos p]
  · rw [if_pos (ple (by omega) (by omega)), if_neg p]
theorem here_d {q : Qy} {vc vm : rV} {a : Nat} (h : TV q vc vm) (ha : a < 1000) (e3 : vm.1 174 3 = nI a) : f_X8_here vm = some (bt q a) := by
  obtain ⟨a1, ⟨b1, b2⟩, d⟩ := h
  unfold f_X8_here bt
  rw [b2, e3]
  by_cases p : a < q.n
  · rw [if_neg (nle p (by omega)), if_pos (gin (show a < 160 by omega) (by omega)), niCl (by omega), (d a p).2.2, if_pos p]
  · rw [if_pos (ple (by omega) (by omega)), if_neg p]
def AD (q : Qy) (d a : Nat) (vc vm : rV) : Prop := TV q vc vm ∧ (vc.1 7 3 = nI a ∧ vm.1 174 3 = nI a ∧ a ≤ q.n) ∧ vm.1 174 4 = -1 ∧ vc.1 7 2 = vm.1 174 22 ∧ (∀ j, j < 12 → vc.1 8 j = vm.1 185 (12 * d + j)) ∧ TD vm 185 (12 * d)
def Sd3 : Nat → Nat → Prop := fun k j => k = 7 ∧ j = 3
def Td3 : Nat → Nat → Prop := fun k j => k = 174 ∧ j = 3
theorem sd3 {v w : rV} (h : Ch Sd3 v w) : Ch Sdr v w := h.mono fun k j q => by unfold Sd3 at q; unfold Sdr; omega
theorem td3 {d : Nat} {v w : rV} (h : Ch Td3 v w) : Ch (Tdr d) v w := h.mono fun k j q => by unfold Td3 at q; unfold Tdr; omega
theorem AD.at {q : Qy} {d a a' : Nat} {vc vm : rV} (h : AD q d a vc vm) (ha : a' ≤ q.n) : AD q d a' (rI vc 7 3 (nI a')) (rI vm 174 3 (nI a')) := by
  obtain ⟨e, ⟨p1, p2, p3⟩, w, x, y, z⟩ := h
  have c : Ch Sd3 vc (rI vc 7 3 (nI a')) := Ch.rf.I ⟨rfl, rfl⟩
  have m : Ch Td3 vm (rI vm 174 3 (nI a')) := Ch.rf.I ⟨rfl, rfl⟩
  exact ⟨e.ch (d := d) (sd3 c) (td3 m), ⟨rI_at _ _ _ _, rI_at _ _ _ _, ha⟩, by rw [rI_no (by omega)]; exact w, by rw [rI_no (by omega), rI_no (by omega)]; exact x, fun j hj => by rw [rI_no (by omega), rI_no (by omega)]; exact y j hj, z.ch m fun j _ => by unfold Td3; omega⟩
theorem nbd_lp {q : Qy} {dd : Nat} : ∀ (d a f g : Nat) (vc vm : rV), q.n - a ≤ d → d < f → d < g → AD q dd a vc vm → ∃ a' wc wm, f_X1_nextByte_0 f vc = some (bt q a', wc) ∧ f_X8_look_0 g vm = some (bt q a', wm) ∧ AD q dd a' wc wm ∧ a ≤ a' ∧ bt q a' ≠ 32 ∧ Ch Sd3 vc wc ∧ Ch Td3 vm wm := by
  intro d
  induction d with
  | zero =>
    intro a f g vc vm hd hf hg h
    obtain ⟨f, rfl⟩ : ∃ n', f = n' + 1 := ⟨f - 1, by omega⟩
    obtain ⟨g, rfl⟩ : ∃ n', g = n' + 1 := ⟨g - 1, by omega⟩
    have h0 := h
    obtain ⟨e, ⟨p1, p2, p3⟩, w, -⟩ := h
    have e160 := e.1
    have b1 : bt q a = -1 := bt_end (by omega)
    have n32 : ¬ (-1 : Int32) = 32 := by decide
    rw [f_X1_nextByte_0, f_X8_look_0, e.2.1.1, p1, if_pos (ple (by omega) (by omega)), here_d e (by omega) p2, Option.bind_some, b1, if_neg n32, Option.bind_some]
    unfold f_X1_nextByte_43
    rw [p1, byteAt_d e (by omega), Option.bind_some, b1]
    exact ⟨a, vc, vm, by rw [b1], by rw [b1], h0, Nat.le_refl _, by rw [b1]; exact n32, Ch.rf, Ch.rf⟩
  | succ d ih =>
    intro a f g vc vm hd hf hg h
    obtain ⟨f, rfl⟩ : ∃ n', f = n' + 1 := ⟨f - 1, by omega⟩
    obtain ⟨g, rfl⟩ : ∃ n', g = n' + 1 := ⟨g - 1, by omega⟩
    have h0 := h
    obtain ⟨e, ⟨p1, p2, p3⟩, w, -⟩ := h
    have e160 := e.1
    by_cases z : a < q.n
    · rw [f_X1_nextByte_0, f_X8_look_0, e.2.1.1, p1, if_neg (nle z (by omega)), here_d e (by omega) p2, byteAt_d e (by omega), Option.bind_some, Option.bind_some]
      by_cases b32 : bt q a = 32
      · rw [if_pos b32, if_pos b32, vlet_eq, vlet_eq, p2, ad1]
        obtain ⟨a', wc, wm, j1, j2, j3, j4, j5, j6, j7⟩ := ih (a + 1) f g _ _ (by omega) (by omega) (by omega) (h0.at (show a + 1 ≤ q.n by omega))
        exact ⟨a', wc, wm, j1, j2, j3, by omega, j5, (show Ch Sd3 vc _ from Ch.rf.I ⟨rfl, rfl⟩).tr j6, (show Ch Td3 vm _ from Ch.rf.I ⟨rfl, rfl⟩).tr j7⟩
      · rw [if_neg b32, if_neg b32, Option.bind_some]
        unfold f_X1_nextByte_43
        rw [p1, byteAt_d e (by omega), Option.bind_some]
        exact ⟨a, vc, vm, rfl, rfl, h0, Nat.le_refl _, b32, Ch.rf, Ch.rf⟩
    · exact ih a (f + 1) (g + 1) vc vm (by omega) (by omega) (by omega) h0
theorem nbd_go {q : Qy} {d a : Nat} {vc vm : rV} (h : AD q d a vc vm) : ∃ a' wc wm, f_X1_nextByte vc = some (bt q a', wc) ∧ f_X8_look vm = some (bt q a', wm) ∧ AD q d a' wc wm ∧ a ≤ a' ∧ bt q a' ≠ 32 ∧ Ch Sd3 vc wc ∧ Ch Td3 vm wm := by
  have := h.1.1
  exact nbd_lp (q.n - a) a 20000 20000 vc vm (Nat.le_refl _) (by omega) (by omega) h
theorem numd_lp {q : Qy} {dd i : Nat} : ∀ (d k v a f g : Nat) (vc vm : rV), k + d = 4 → d < f → d < g → v < 10 ^ k → AD q dd a vc vm →
    ∃ a' v' k' wc wm, f_X1_readNumber_10 f vc (nI i) (nI v) (nI k) (bt q a) = f_X1_readNumber_69 wc (nI i) (nI v') (nI k') (bt q a') ∧ f_X8_plainNumber_4 g vm (nI v) (nI k) = f_X8_plainNumber_48 wm (nI v') ∧ AD q dd a' wc wm ∧ a ≤ a' ∧ v' < 10000 ∧ (k ≤ k' ∧ k' ≤ 4) ∧ (1 ≤ d → ¬ bt q a < 48 → ¬ 57 < bt q a → k + 1 ≤ k') ∧ Ch Sd3 vc wc ∧ Ch Td3 vm wm := by
  intro d
  induction d with
  | zero =>
    intro k v a f g vc vm hk hf hg hv h
    obtain ⟨f, rfl⟩ : ∃ n', f = n' + 1 := ⟨f - 1, by omega⟩
    obtain ⟨g, rfl⟩ : ∃ n', g = n' + 1 := ⟨g - 1, by omega⟩
    have : k = 4 := by omega
    subst this
    rw [f_X1_readNumber_10, f_X8_plainNumber_4, if_pos (show (4 : Int32) ≤ nI 4 by decide), if_pos (show (4 : Int32) ≤ nI 4 by decide)]
    exact ⟨a, v, 4, vc, vm, rfl, rfl, h, Nat.le_refl _, hv, by omega, fun z => by omega, Ch.rf, Ch.rf⟩
  | succ d ih =>
    intro k v a f g vc vm hk hf hg hv h
    obtain ⟨f, rfl⟩ : ∃ n', f = n' + 1 := ⟨f - 1, by omega⟩
    obtain ⟨g, rfl⟩ : ∃ n', g = n' + 1 := ⟨g - 1, by omega⟩
    have n160 := h.1.1
    have hv4 : v < 10000 := Nat.lt_of_lt_of_le hv (Nat.pow_le_pow_right (by omega) (show k ≤ 4 by omega))
    have g4 : ¬ (4 : Int32) ≤ nI k := nle (a := 4) (by omega) (by omega)
    rw [f_X1_readNumber_10, f_X8_plainNumber_4, if_neg g4, if_neg g4, here_d h.1 (by have := h.2.1.2.2; omega) h.2.1.2.1, Option.bind_some, Option.bind_some]
    unfold f_X8_isDigit
    by_cases p1 : bt q a < 48
    · rw [if_pos p1, if_pos p1, if_neg (by decide)]
      exact ⟨a, v, k, vc, vm, rfl, rfl, h, Nat.le_refl _, hv4, by omega, fun _ z => absurd p1 z, Ch.rf, Ch.rf⟩
    rw [if_neg p1, if_neg p1]
    by_cases p2 : 57 < bt q a
    · rw [if_pos p2, if_pos p2, if_neg (by decide)]
      exact ⟨a, v, k, vc, vm, rfl, rfl, h, Nat.le_refl _, hv4, by omega, fun _ _ z => absurd p2 z, Ch.rf, Ch.rf⟩
    rw [if_neg p2, if_neg p2, if_pos rfl]
    have han : a < q.n := by
      by_cases z : a < q.n
      · exact z
      · rw [bt_end z] at p1
        exact absurd (by decide) p1
    obtain ⟨x, ex⟩ : ∃ x, x = q.tp a := ⟨_, rfl⟩
    have eb : bt q a = nI x := by rw [ex]; exact if_pos han
    have hx := (h.1.2.2 a han).1
    rw [eb] at p1 p2
    rw [show (48 : Int32) = nI 48 from rfl, niLt (by omega) (by omega)] at p1
    rw [show (57 : Int32) = nI 57 from rfl, niLt (by omega) (by omega)] at p2
    have hA := h.at (show a + 1 ≤ q.n by omega)
    rw [eb, h.2.1.1, h.2.1.2.1, ad1, ad1, vlet_eq, vlet_eq, vlet_eq, vlet_eq, vlet_eq, rI_at, byteAt_d hA.1 (by omega), Option.bind_some, vlet_eq, show nI v * 10 = nI (v * 10) from niMul v 10, show (10 : Int32) * nI v = nI (10 * v) from niMul 10 v, niAdd, niAdd, show nI (v * 10 + x) - 48 = nI (v * 10 + x - 48) from niSub (b := 48) (by omega), show nI (10 * v + x) - 48 = nI (10 * v + x - 48) from niSub (b := 48) (by omega), Nat.mul_comm 10 v]
    obtain ⟨a', v', k', wc, wm, j1, j2, j3, j4, j5, j6, j7, j8, j9⟩ := ih (k + 1) (v * 10 + x - 48) (a + 1) f g _ _ (by omega) (by omega) (by omega) (by rw [Nat.pow_succ]; omega) hA
    exact ⟨a', v', k', wc, wm, j1, j2, j3, by omega, j5, by omega, fun _ _ _ => by omega, (show Ch Sd3 vc _ from Ch.rf.I ⟨rfl, rfl⟩).tr j8, (show Ch Td3 vm _ from Ch.rf.I ⟨rfl, rfl⟩).tr j9⟩
theorem D_s : ∀ x, x < 256 → sidx 2 (((nI x).toUInt32 % 65536).toInt32) = f_X8_dropLetter (nI x) := by decide +kernel
theorem D_v (b : Int32) : f_X8_dropLetter b = -1 ∨ ∃ i, i < 12 ∧ f_X8_dropLetter b = nI i := by
  unfold f_X8_dropLetter
  by_cases c0 : b = 120
  · rw [if_pos c0]; exact Or.inr ⟨0, by omega, rfl⟩
  rw [if_neg c0]
  by_cases c1 : b = 107
  · rw [if_pos c1]; exact Or.inr ⟨1, by omega, rfl⟩
  rw [if_neg c1]
  by_cases c2 : b = 119
  · rw [if_pos c2]; exact Or.inr ⟨2, by omega, rfl⟩
  rw [if_neg c2]
  by_cases c3 : b = 103
  · rw [if_pos c3]; exact Or.inr ⟨3, by omega, rfl⟩
  rw [if_neg c3]
  by_cases c4 : b = 108
  · rw [if_pos c4]; exact Or.inr ⟨4, by omega, rfl⟩
  rw [if_neg c4]
  by_cases c5 : b = 109
  · rw [if_pos c5]; exact Or.inr ⟨5, by omega, rfl⟩
  rw [if_neg c5]
  by_cases c6 : b = 97
  · rw [if_pos c6]; exact Or.inr ⟨6, by omega, rfl⟩
  rw [if_neg c6]
  by_cases c7 : b = 112
  · rw [if_pos c7]; exact Or.inr ⟨7, by omega, rfl⟩
  rw [if_neg c7]
  by_cases c8 : b = 99
  · rw [if_pos c8]; exact Or.inr ⟨8, by omega, rfl⟩
  rw [if_neg c8]
  by_cases c9 : b = 101
  · rw [if_pos c9]; exact Or.inr ⟨9, by omega, rfl⟩
  rw [if_neg c9]
  by_cases c10 : b = 106
  · rw [if_pos c10]; exact Or.inr ⟨10, by omega, rfl⟩
  rw [if_neg c10]
  by_cases c11 : b = 115
  · rw [if_pos c11]; exact Or.inr ⟨11, by omega, rfl⟩
  rw [if_neg c11]
  exact Or.inl rfl
/-- letters not told yet -/
def frc (x : Int32) : Nat → Nat
  | 0 => 0
  | n + 1 => frc x n + (if f_X7_has x (nI n) = true then 0 else 1)
theorem frc_set {x : Int32} {i : Nat} (hi : i < 12) (h : ¬ f_X7_has x (nI i) = true) : ∀ n, n ≤ 12 → frc (x ||| ((1 : Int32) <<< (nI i &&& 31))) n + (if i < n then 1 else 0) = frc x n := by
  intro n
  induction n with
  | zero => intro _; rfl
  | succ n ih =>
    intro hn
    have h1 := ih (by omega)
    simp only [frc]
    have h2 : f_X7_has (x ||| ((1 : Int32) <<< (nI i &&& 31))) (nI n) = (f_X7_has x (nI n) || decide (n = i)) := by rw [has_or _ _ (by omega), has_one i (by omega) n (by omega)]
    rw [h2]
    by_cases z : n = i
    · subst z
      rw [if_neg (by omega)] at h1
      have e : (f_X7_has x (nI n) || decide (n = n)) = true := by simp
      rw [e, if_pos rfl, if_neg h, if_pos (Nat.lt_succ_self n)]
      omega
    · have e : (f_X7_has x (nI n) || decide (n = i)) = f_X7_has x (nI n) := by simp [z]
      rw [e]
      by_cases y : i < n
      · rw [if_pos y] at h1
        rw [if_pos (show i < n + 1 by omega)]
        omega
      · rw [if_neg y] at h1
        rw [if_neg (show ¬ i < n + 1 by omega)]
        omega
theorem low_t : ∀ i, i < 12 → (rtb.getD 0 []).getD i 0 = nI (tLo i) ∧ f_X8_lowest (nI i) = nI (tLo i) ∧ (rtb.getD 1 []).getD i 0 = nI (tHi i) ∧ f_X8_highest (nI i) = nI (tHi i) ∧ tHi i < 1000 ∧ tLo i < 1000 := by decide
theorem usual_t : ∀ i, i < 12 → (rtb.getD 2 []).getD i 0 = f_X8_usual (nI i) ∧ (f_X8_usual (nI i)).toInt.toNat < 1000 ∧ f_X8_usual (nI i) = nI (f_X8_usual (nI i)).toInt.toNat ∧ tLo i ≤ (f_X8_usual (nI i)).toInt.toNat ∧ (f_X8_usual (nI i)).toInt.toNat ≤ tHi i := by decide
/-- an item is read, or both know the fault -/
def DP (q : Qy) (d a : Nat) (vc vm : rV) (f : Option (Bool × rV)) (g : Option rV) : Prop :=
  (∃ wc wm a', f = some (true, wc) ∧ g = some wm ∧ AD q d a' wc wm ∧ frc (wc.1 7 2) 12 + 1 ≤ frc (vc.1 7 2) 12 ∧ Ch Sdr vc wc ∧ Ch (Tdr d) vm wm) ∨
  (∃ wc wm w, f = some (false, wc) ∧ g = some wm ∧ w ≤ 160 ∧ wc.1 7 3 = nI w ∧ wm.1 174 4 = nI w ∧ Ch Sdr vc wc ∧ Ch (Tdr d) vm wm)
theorem badd_go {q : Qy} {d a : Nat} {vc vm : rV} (h : AD q d a vc vm) : f_X8_bad vm = some (rI vm 174 4 (nI a)) ∧ Ch (Tdr d) vm (rI vm 174 4 (nI a)) := by
  refine ⟨?_, Ch.rf.I (Or.inl ⟨rfl, by omega⟩)⟩
  unfold f_X8_bad f_X8_bad_20
  rw [h.2.2.1, if_pos rfl, vlet_eq, h.2.1.2.1]
theorem item_go {q : Qy} {d a : Nat} {vc vm : rV} (hd : d < 13) (h : AD q d a vc vm) : DP q d a vc vm (f_X1_readItem vc) (f_X8_item vm (nI d)) := by
  obtain ⟨a1, uc, um, n1, n2, h1, ha, hb, s3, t3⟩ := nbd_go h
  have n160 := h1.1.1
  have l1 := h1.2.1.2.2
  unfold f_X1_readItem f_X8_item
  rw [n1, h.2.2.1, if_pos rfl, n2, Option.bind_some, Option.bind_some]
  simp only []
  have ub : uc.1 7 2 = vc.1 7 2 := s3.1 _ _ (by unfold Sd3; omega)
  have deadc : ∀ (s : Int32), (s = -1 ∨ ∃ i, i < 12 ∧ s = nI i ∧ f_X7_has (uc.1 7 2) (nI i) = true) → DP q d a vc vm (f_X1_readItem_21 uc s) (f_X8_item_19 um (nI d) s) := fun s hs => by
    obtain ⟨b1, b2⟩ := badd_go h1
    refine Or.inr ⟨uc, _, a1, ?_, ?_, by omega, h1.2.1.1, rI_at _ _ _ _, sd3 s3, (td3 t3).tr b2⟩
    · unfold f_X1_readItem_21
      rcases hs with rfl | ⟨i, hi, rfl, hh⟩
      · rw [if_pos (by decide)]
      · rw [if_neg (niGe (by omega)), if_neg (show ¬ (12 : Int32) ≤ nI i from nle (a := 12) hi (by omega)), if_pos hh]
    · unfold f_X8_item_19 f_X8_item_36
      rcases hs with rfl | ⟨i, hi, rfl, hh⟩
      · rw [if_pos rfl, b1, Option.bind_some]
      · rw [if_neg (fun z => by
          have := congrArg Int32.toInt z
          rw [niInt (by omega), show (-1 : Int32).toInt = -1 from rfl] at this
          omega), has_eq, ← h1.2.2.2.1, if_pos hh, b1, Option.bind_some]
  -- the letter
  obtain ⟨s, es1, es2⟩ : ∃ s, (if bt q a1 = -1 then f_X1_readItem_21 uc (-1) else f_X1_readItem_21 uc (sidx 2 ((bt q a1).toUInt32 % 65536).toInt32)) = f_X1_readItem_21 uc s ∧ f_X8_dropLetter (bt q a1) = s := by
    by_cases z : a1 < q.n
    · have eb : bt q a1 = nI (q.tp a1) := if_pos z
      have hx := (h1.1.2.2 a1 z).1
      rw [eb, if_neg (fun y => by
        have := congrArg Int32.toInt y
        rw [niInt (by omega), show (-1 : Int32).toInt = -1 from rfl] at this
        omega), D_s _ (by omega)]
      exact ⟨_, rfl, rfl⟩
    · rw [bt_end z, if_pos rfl]
      exact ⟨-1, rfl, by decide⟩
  rw [es1, es2]
  rcases D_v (bt q a1) with z | ⟨i, hi, z⟩
  · rw [es2] at z
    exact deadc s (Or.inl z)
  rw [es2] at z
  rw [z]
  by_cases hh : f_X7_has (uc.1 7 2) (nI i) = true
  · exact deadc (nI i) (Or.inr ⟨i, hi, rfl, hh⟩)
  have han : a1 < q.n := by
    by_cases y : a1 < q.n
    · exact y
    · rw [bt_end y] at es2
      rw [← es2] at z
      have := congrArg Int32.toInt z
      rw [niInt (by omega), show (f_X8_dropLetter (-1)).toInt = -1 from by decide] at this
      omega
  unfold f_X1_readItem_21 f_X8_item_19
  rw [if_neg (niGe (by omega)), if_neg (show ¬ (12 : Int32) ≤ nI i from nle (a := 12) hi (by omega)), if_neg hh, if_neg (fun y => by
    have := congrArg Int32.toInt y
    rw [niInt (by omega), show (-1 : Int32).toInt = -1 from rfl] at this
    omega), has_eq, ← h1.2.2.2.1, if_neg hh, vlet_eq, vlet_eq, vlet_eq, vlet_eq, rI_no (a := 7) (b := 3) (by omega), rI_no (a := 174) (b := 3) (by omega), h1.2.1.1, h1.2.1.2.1, ad1]
  obtain ⟨bits, ebits⟩ : ∃ b, b = uc.1 7 2 ||| ((1 : Int32) <<< (nI i &&& 31)) := ⟨_, rfl⟩
  rw [← ebits]
  have hfr : frc bits 12 + 1 = frc (vc.1 7 2) 12 := by
    rw [ebits, ← ub]
    have := frc_set hi hh 12 (Nat.le_refl _)
    rw [if_pos hi] at this
    exact this
  obtain ⟨c2, ec2⟩ : ∃ v, v = rI (rI uc 7 2 bits) 7 3 (nI (a1 + 1)) := ⟨_, rfl⟩
  obtain ⟨m2, em2⟩ : ∃ v, v = rI (rI um 174 22 bits) 174 3 (nI (a1 + 1)) := ⟨_, rfl⟩
  rw [← ec2, ← em2]
  have cc2 : Ch Sdr uc c2 := by rw [ec2]; exact (Ch.rf.I (Or.inl ⟨rfl, by omega⟩)).I (Or.inl ⟨rfl, by omega⟩)
  have mm2 : Ch (Tdr d) um m2 := by rw [em2]; exact (Ch.rf.I (Or.inl ⟨rfl, by omega⟩)).I (Or.inl ⟨rfl, by omega⟩)
  have hb1 : c2.1 7 2 = bits := by rw [ec2, rI_no (by omega), rI_at]
  have hb2 : m2.1 174 22 = bits := by rw [em2, rI_no (by omega), rI_at]
  have h2 : AD q d (a1 + 1) c2 m2 := by
    obtain ⟨e, ⟨p1, p2, p3⟩, w, x, y, zz⟩ := h1
    refine ⟨e.ch cc2 mm2, ⟨by rw [ec2, rI_at], by rw [em2, rI_at], by omega⟩, by rw [em2, rI_no (by omega), rI_no (by omega)]; exact w, by rw [hb1, hb2], fun j hj => by rw [ec2, em2, rI_no (by omega), rI_no (by omega), rI_no (by omega), rI_no (by omega)]; exact y j hj, fun j hj => by rw [em2, rI_no (by omega), rI_no (by omega)]; exact zz j hj⟩
  obtain ⟨a3, uc3, um3, n3, n4, h3, ha3, hb3, s4, t4⟩ := nbd_go h2
  have l3 := h3.2.1.2.2
  unfold f_X1_readNumber
  rw [n3, n4, Option.bind_some, Option.bind_some]
  simp only []
  have pc : Ch Sdr vc uc3 := ((sd3 s3).tr cc2).tr (sd3 s4)
  have pm : Ch (Tdr d) vm um3 := ((td3 t3).tr mm2).tr (td3 t4)
  have b3 : uc3.1 7 2 = bits := by rw [s4.1 _ _ (by unfold Sd3; omega), ec2, rI_no (by omega), rI_at]
  obtain ⟨a4, v, k, wc, wm, j1, j2, j3, j4, j5, j6, j7, j8, j9⟩ := numd_lp (i := i) 4 0 0 a3 20000 20000 uc3 um3 (by omega) (by omega) (by omega) (by omega) h3
  have l4 := j3.2.1.2.2
  rw [show f_X1_readNumber_10 20000 uc3 (nI i) 0 0 (bt q a3) = _ from j1]
  have pc4 := pc.tr (sd3 j8)
  have pm4 := pm.tr (td3 (d := d) j9)
  have b4 : wc.1 7 2 = bits := by rw [j8.1 _ _ (by unfold Sd3; omega)]; exact b3
  by_cases dg : f_X8_isDigit (bt q a3) = true
  rotate_left
  · -- no digit
    rw [if_neg dg]
    obtain ⟨b1, b2⟩ := badd_go h3
    have nod : bt q a3 < 48 ∨ 57 < bt q a3 := by
      by_cases y1 : bt q a3 < 48
      · exact Or.inl y1
      · by_cases y2 : 57 < bt q a3
        · exact Or.inr y2
        · exact absurd (by unfold f_X8_isDigit; rw [if_neg y1, if_neg y2]) dg
    have e69 : f_X1_readNumber_10 20000 uc3 (nI i) 0 0 (bt q a3) = some (false, uc3) := by
      obtain ⟨f, hf⟩ : ∃ f, 20000 = f + 1 := ⟨19999, rfl⟩
      rw [hf, f_X1_readNumber_10, if_neg (by decide)]
      unfold f_X1_readNumber_69
      rw [if_pos rfl]
      rcases nod with y | y
      · rw [if_pos y]
      · by_cases y1 : bt q a3 < 48
        · rw [if_pos y1]
        · rw [if_neg y1, if_pos y]
    rw [show f_X1_readNumber_10 20000 uc3 (nI i) 0 0 (bt q a3) = _ from j1] at e69
    rw [e69, b1, Option.bind_some, Option.bind_some]
    exact Or.inr ⟨uc3, _, a3, rfl, rfl, by omega, h3.2.1.1, rI_at _ _ _ _, pc, pm.tr b2⟩
  rw [if_pos dg]
  have dg1 : ¬ bt q a3 < 48 := fun y => by
    unfold f_X8_isDigit at dg
    rw [if_pos y] at dg
    cases dg
  have dg2 : ¬ 57 < bt q a3 := fun y => by
    unfold f_X8_isDigit at dg
    rw [if_neg dg1, if_pos y] at dg
    cases dg
  have k1 : 1 ≤ k := by have := j7 (by omega) dg1 dg2; omega
  unfold f_X8_plainNumber
  rw [show f_X8_plainNumber_4 20000 um3 0 0 = _ from j2]
  unfold f_X1_readNumber_69 f_X8_plainNumber_48
  rw [if_neg (show ¬ nI k = (0 : Int32) from nne (b := 0) (by omega) (by omega) (by omega)), here_d j3.1 (by omega) j3.2.1.2.1, Option.bind_some]
  have ix : (12 : Int32) * nI d + nI i = nI (12 * d + i) := ix185
  by_cases y4 : f_X8_isDigit (bt q a4) = true
  · -- a fifth digit
    have y1 : ¬ bt q a4 < 48 := fun y => by
      unfold f_X8_isDigit at y4
      rw [if_pos y] at y4
      cases y4
    have y2 : ¬ 57 < bt q a4 := fun y => by
      unfold f_X8_isDigit at y4
      rw [if_neg y1, if_pos y] at y4
      cases y4
    obtain ⟨b1, b2⟩ := badd_go j3
    rw [if_neg y1, if_neg y2, if_pos y4, b1, Option.bind_some, Option.bind_some, Option.bind_some]
    simp only []
    rw [rI_at, if_neg (fun y => by
      have := congrArg Int32.toInt y
      rw [niInt (by omega), show (-1 : Int32).toInt = -1 from rfl] at this
      omega)]
    unfold f_X8_item_120
    rw [ix, if_pos (gin (show 12 * d + i < 156 by omega) (by omega)), niCl (show 12 * d + i < 2147483648 by omega), vlet_eq]
    exact Or.inr ⟨wc, _, a4, rfl, rfl, by omega, j3.2.1.1, by rw [rI_no (by omega), rI_at], pc4, (pm4.tr b2).I (Or.inr ⟨rfl, by omega, by omega⟩)⟩
  · rw [if_neg y4, Option.bind_some]
    simp only []
    rw [j3.2.2.1, if_pos rfl]
    have e89 : (if bt q a4 < 48 then f_X1_readNumber_89 wc (nI i) (nI v) else if 57 < bt q a4 then f_X1_readNumber_89 wc (nI i) (nI v) else some (false, wc)) = f_X1_readNumber_89 wc (nI i) (nI v) := by
      by_cases y1 : bt q a4 < 48
      · rw [if_pos y1]
      · by_cases y2 : 57 < bt q a4
        · rw [if_neg y1, if_pos y2]
        · exact absurd (by unfold f_X8_isDigit; rw [if_neg y1, if_neg y2]) y4
    rw [e89]
    obtain ⟨lo1, lo2, hi1, hi2, hi3, lo3⟩ := low_t i hi
    unfold f_X1_readNumber_89 f_X1_readNumber_107 f_X8_item_120
    rw [if_pos (gin (show i < 12 by omega) (by omega)), niCl (show i < 2147483648 by omega), lo1, hi1, lo2, hi2, ix, if_pos (gin (show 12 * d + i < 156 by omega) (by omega)), niCl (show 12 * d + i < 2147483648 by omega)]
    have bad : (v < tLo i ∨ tHi i < v) → DP q d a vc vm (some (false, rI wc 7 3 (wc.1 7 3 - 1))) (vlet (rI wm 174 3 ((wm.1 174 3) - (1 : Int32))) fun v13 => (f_X8_bad v13).bind fun p14 => if ¬ nI (12 * d + i) < 0 ∧ 12 * d + i < 156 then (vlet (rI p14 185 (12 * d + i) (nI v)) fun v9 => some v9) else none) := fun _ => by
      have hA := j3.at (a' := a4 - 1) (by omega)
      obtain ⟨b1, b2⟩ := badd_go hA
      rw [vlet_eq, j3.2.1.1, j3.2.1.2.1, show nI a4 - 1 = nI (a4 - 1) from niSub (a := a4) (b := 1) (by omega), b1, Option.bind_some, if_pos ⟨niGe (by omega), show 12 * d + i < 156 by omega⟩, vlet_eq]
      exact Or.inr ⟨_, _, a4 - 1, rfl, rfl, by omega, rI_at _ _ _ _, by rw [rI_no (by omega), rI_at], pc4.I (Or.inl ⟨rfl, by omega⟩), ((pm4.I (Or.inl ⟨rfl, by omega⟩)).tr b2).I (Or.inr ⟨rfl, by omega, by omega⟩)⟩
    by_cases q1 : v < tLo i
    · rw [if_pos (plt q1 (by omega)), vlet_eq, if_neg (in_ff (Or.inl (plt q1 (by omega)))), Option.bind_some]
      exact bad (Or.inl q1)
    · rw [if_neg (nlt (by omega) (by omega))]
      by_cases q2 : v ≤ tHi i
      · rw [if_pos (ple q2 (by omega)), vlet_eq, Option.bind_some, if_pos (in_p (nlt (by omega) (by omega)) (nlt q2 (by omega))), vlet_eq]
        obtain ⟨e, ⟨p1, p2, p3⟩, w, x, y, zz⟩ := j3
        refine Or.inl ⟨_, _, a4, rfl, rfl, ⟨e.ch (d := d) (Ch.rf.I (Or.inr ⟨rfl, hi⟩)) (Ch.rf.I (Or.inr ⟨rfl, by omega, by omega⟩)), ⟨by rw [rI_no (by omega)]; exact p1, by rw [rI_no (by omega)]; exact p2, p3⟩, by rw [rI_no (by omega)]; exact w, by rw [rI_no (by omega), rI_no (by omega)]; exact x, fun j hj => ?_, fun j hj => ?_⟩, ?_, pc4.I (Or.inr ⟨rfl, hi⟩), pm4.I (Or.inr ⟨rfl, by omega, by omega⟩)⟩
        · by_cases r : j = i
          · rw [r, rI_at, rI_at]
          · rw [rI_no (by omega), rI_no (by omega)]; exact y j hj
        · by_cases r : j = i
          · rw [r, rI_at]; exact ⟨v, rfl, by omega, q2⟩
          · rw [rI_no (by omega)]; exact zz j hj
        · rw [rI_no (by omega), b4]; omega
      · rw [if_neg (nle (by omega) (by omega)), vlet_eq, if_neg (in_ff (Or.inr (plt (by omega) (by omega)))), Option.bind_some]
        exact bad (Or.inr (by omega))
