/-! LYING DOWN -/
def sI (g : Nat → Int32) (a : Nat) : Nat → Int32
  | 0 => 0
  | n + 1 => g a + sI g (a + 1) n
theorem sI_ext {g h : Nat → Int32} {a n : Nat} (e : ∀ c, a ≤ c → c < a + n → g c = h c) : sI g a n = sI h a n := by
  induction n generalizing a with
  | zero => rfl
  | succ n ih =>
    simp only [sI]
    rw [e a (by omega) (by omega), ih fun c h1 h2 => e c (by omega) (by omega)]
theorem sI_set {g h : Nat → Int32} {a n i : Nat} {x : Int32} (h1 : a ≤ i) (h2 : i < a + n) (e : ∀ c, c ≠ i → h c = g c) (ei : h i = g i + x) : sI h a n = sI g a n + x := by
  induction n generalizing a with
  | zero => omega
  | succ n ih =>
    simp only [sI]
    rcases Nat.eq_or_lt_of_le h1 with q | q
    · subst q
      rw [sI_ext (g := h) (h := g) fun c h1 h2 => e c (by omega), ei, Int32.add_assoc, Int32.add_comm x, ← Int32.add_assoc]
    · rw [e a (by omega), ih (by omega) (by omega), Int32.add_assoc]
theorem sI_last (g : Nat → Int32) (a n : Nat) : sI g a (n + 1) = sI g a n + g (a + n) := by
  induction n generalizing a with
  | zero => simp [sI]
  | succ n ih =>
    have := ih (a + 1)
    simp only [sI] at this ⊢
    rw [this, Int32.add_assoc, show a + 1 + n = a + (n + 1) by omega]
/-- what fell in a cell this tick -/
def fe (vm : rV) (c : Nat) : Int32 := vm.1 193 c + vm.1 193 (24 + c)
/-- the heap as the class has it, from the model's at the tick's begin and what fell -/
def hp (pc h x : Int32) : Int32 := if x ≤ pc then h else h + x
def HH (B : Nat) (pc : Int32) (vc vm : rV) : Prop := (∀ c, c < 24 → vc.1 (B + 10) c = hp pc (vm.1 187 (144 + c)) (fe vm c)) ∧ vc.1 B 3 = sI (fe vm) 0 24 ∧ (∀ c, c < 24 → vm.1 187 (120 + c) + vm.1 187 (144 + c) + fe vm c = vm.1 187 (72 + c) + vm.1 187 (96 + c))
/-- free and lying grains of each sort together -/
def AA (vm : rV) (S0 S1 : Int) : Prop := ∃ T0 U0 T1 U1, Am vm 24 T0 ∧ Am vm 72 U0 ∧ Am vm 48 T1 ∧ Am vm 96 U1 ∧ T0 + U0 = S0 ∧ T1 + U1 = S1
theorem Am.nn {v : rV} {o : Nat} {T : Int} (h : Am v o T) : 0 ≤ T := by
  rw [← h.2]
  exact sm_nn fun c _ h2 => h.1 c (by omega)
def GG (B : Nat) (pc : Int32) (S0 S1 : Int) (vc vm : rV) : Prop := FF B vc vm ∧ Rw vc (B + 8) vm 187 72 24 ∧ Rw vc (B + 9) vm 187 96 24 ∧ HH B pc vc vm ∧ AA vm S0 S1
theorem HH.ch {S T : Nat → Nat → Prop} {B : Nat} {pc : Int32} {vc vm wc wm : rV} (h : HH B pc vc vm) (hc : Ch S vc wc) (hm : Ch T vm wm) (s1 : ∀ c, c < 24 → ¬ S (B + 10) c) (s2 : ¬ S B 3) (t1 : ∀ j, 72 ≤ j → j < 168 → ¬ T 187 j) (t2 : ∀ c, c < 48 → ¬ T 193 c) : HH B pc wc wm := by
  have e : ∀ c, c < 24 → fe wm c = fe vm c := fun c hc => by
    unfold fe
    rw [hm.1 _ _ (t2 c (by omega)), hm.1 _ _ (t2 (24 + c) (by omega))]
  refine ⟨fun c h9 => by rw [hc.1 _ _ (s1 c h9), hm.1 _ _ (t1 (144 + c) (by omega) (by omega)), e c h9]; exact h.1 c h9, ?_, fun c h9 => ?_⟩
  · rw [hc.1 _ _ s2, h.2.1]
    exact sI_ext fun c _ h9 => (e c (by omega)).symm
  · rw [hm.1 _ _ (t1 (120 + c) (by omega) (by omega)), hm.1 _ _ (t1 (144 + c) (by omega) (by omega)), hm.1 _ _ (t1 (72 + c) (by omega) (by omega)), hm.1 _ _ (t1 (96 + c) (by omega) (by omega)), e c h9]
    exact h.2.2 c h9
theorem AA.ch {T : Nat → Nat → Prop} {vm wm : rV} {S0 S1 : Int} (h : AA vm S0 S1) (hm : Ch T vm wm) (t : ∀ j, 24 ≤ j → j < 120 → ¬ T 187 j) : AA wm S0 S1 := by
  obtain ⟨T0, U0, T1, U1, a1, a2, a3, a4, a5, a6⟩ := h
  exact ⟨T0, U0, T1, U1, a1.ch hm fun c _ => t _ (by omega) (by omega), a2.ch hm fun c _ => t _ (by omega) (by omega), a3.ch hm fun c _ => t _ (by omega) (by omega), a4.ch hm fun c _ => t _ (by omega) (by omega), a5, a6⟩
theorem GG.ch {S T : Nat → Nat → Prop} {B : Nat} {pc : Int32} {S0 S1 : Int} {vc vm wc wm : rV} (h : GG B pc S0 S1 vc vm) (hc : Ch S vc wc) (hm : Ch T vm wm) (s1 : ∀ k c, c < 24 → 5 ≤ k → k ≤ 10 → ¬ S (B + k) c) (s2 : ¬ S B 3) (t1 : ∀ j, 24 ≤ j → j < 168 → ¬ T 187 j) (t2 : ∀ c, c < 48 → ¬ T 193 c) : GG B pc S0 S1 wc wm :=
  ⟨⟨h.1.1.ch hc hm (fun c h9 => s1 5 c h9 (by omega) (by omega)) (fun c h9 => t1 _ (by omega) (by omega)), h.1.2.ch hc hm (fun c h9 => s1 6 c h9 (by omega) (by omega)) (fun c h9 => t1 _ (by omega) (by omega))⟩,
   h.2.1.ch hc hm (fun c h9 => s1 8 c h9 (by omega) (by omega)) (fun c h9 => t1 _ (by omega) (by omega)), h.2.2.1.ch hc hm (fun c h9 => s1 9 c h9 (by omega) (by omega)) (fun c h9 => t1 _ (by omega) (by omega)),
   h.2.2.2.1.ch hc hm (fun c h9 => s1 10 c h9 (by omega) (by omega)) s2 (fun j h8 h9 => t1 j (by omega) h9) t2, h.2.2.2.2.ch hm fun j h1 h2 => t1 j h1 (by omega)⟩
/-- the model's fall -/
def faV (v : rV) (c s : Nat) (n : Int32) : rV := rI (rI (rI v 187 (24 + 24 * s + c) (v.1 187 (24 + 24 * s + c) - n)) 187 (72 + 24 * s + c) (v.1 187 (72 + 24 * s + c) + n)) 193 (24 * s + c) (v.1 193 (24 * s + c) + n)
theorem fall_eq {v : rV} {c s : Nat} {n : Int32} (hc : c < 24) (hs : s < 2) : f_X8_fall v (nI c) (nI s) n = some (faV v c s n) := by
  have ei : (24 : Int32) + (24 : Int32) * nI s + nI c = nI (24 + 24 * s + c) := by rw [show (24 : Int32) = nI 24 from rfl, niMul, niAdd, niAdd]
  have ej : (72 : Int32) + (24 : Int32) * nI s + nI c = nI (72 + 24 * s + c) := by rw [show (24 : Int32) = nI 24 from rfl, show (72 : Int32) = nI 72 from rfl, niMul, niAdd, niAdd]
  have ek : (24 : Int32) * nI s + nI c = nI (24 * s + c) := by rw [show (24 : Int32) = nI 24 from rfl, niMul, niAdd]
  unfold f_X8_fall
  rw [ei, ej, ek, vlet_eq, if_pos (gin (show 24 + 24 * s + c < 416 by omega) (by omega)), vlet_eq, vlet_eq, if_pos (gin (show 72 + 24 * s + c < 416 by omega) (by omega)), vlet_eq, vlet_eq, if_pos (gin (show 24 * s + c < 48 by omega) (by omega)), vlet_eq, niCl (by omega), niCl (by omega), niCl (by omega)]
  unfold faV
  rw [rI_no (v := v) (by omega), rI_no (by omega), rI_no (by omega)]
/-- the class's, of both sorts at once -/
def liV (v : rV) (B c : Nat) (r s pc : Int32) : rV :=
  let v5 := rI (rI (rI (rI v (B + 5) c (v.1 (B + 5) c - r)) (B + 6) c (v.1 (B + 6) c - s)) (B + 8) c (v.1 (B + 8) c + r)) (B + 9) c (v.1 (B + 9) c + s)
  let v6 := if r + s ≤ pc then v5 else rI v5 (B + 10) c (v.1 (B + 10) c + (r + s))
  rI v6 B 3 (v.1 B 3 + (r + s))
theorem lie_eq {v : rV} {B c : Nat} {r s pc : Int32} (hc : c < 24) : f_X5_lieDown v B (nI c) r s pc = some (liV v B c r s pc) := by
  unfold f_X5_lieDown f_X5_lieDown_71
  rw [if_pos (gin hc (by omega)), niCl (by omega)]
  simp only [vlet_eq, Nat.add_zero]
  unfold liV
  simp only [show B + 5 + 1 = B + 6 from rfl, show B + 8 + 1 = B + 9 from rfl]
  rw [rI_no (a := B + 6) (by omega), rI_no (a := B + 8) (by omega), rI_no (a := B + 8) (by omega), rI_no (a := B + 9) (by omega), rI_no (a := B + 9) (by omega), rI_no (a := B + 9) (by omega)]
  by_cases q : r + s ≤ pc
  · rw [if_pos q, if_pos q]
    rw [rI_no (a := B) (by omega), rI_no (a := B) (by omega), rI_no (a := B) (by omega), rI_no (a := B) (by omega)]
  · rw [if_neg q, if_neg q]
    rw [rI_no (a := B + 10) (by omega), rI_no (a := B + 10) (by omega), rI_no (a := B + 10) (by omega), rI_no (a := B + 10) (by omega)]
    rw [rI_no (a := B) (by omega), rI_no (a := B) (by omega), rI_no (a := B) (by omega), rI_no (a := B) (by omega), rI_no (a := B) (by omega)]
def Sl (B c : Nat) : Nat → Nat → Prop := fun k j => ((k = B + 5 ∨ k = B + 6 ∨ k = B + 8 ∨ k = B + 9 ∨ k = B + 10) ∧ j = c) ∨ (k = B ∧ j = 3)
def Tl (c : Nat) : Nat → Nat → Prop := fun k j => (k = 187 ∧ (j = 24 + c ∨ j = 48 + c ∨ j = 72 + c ∨ j = 96 + c)) ∨ (k = 193 ∧ (j = c ∨ j = 24 + c))
theorem lie_ch {v : rV} {B c : Nat} {r s pc : Int32} : Ch (Sl B c) v (liV v B c r s pc) := by
  unfold liV
  by_cases q : r + s ≤ pc
  · simp only [if_pos q]
    exact ((((Ch.rf.I (Or.inl ⟨by omega, rfl⟩)).I (Or.inl ⟨by omega, rfl⟩)).I (Or.inl ⟨by omega, rfl⟩)).I (Or.inl ⟨by omega, rfl⟩)).I (Or.inr ⟨rfl, rfl⟩)
  · simp only [if_neg q]
    exact (((((Ch.rf.I (Or.inl ⟨by omega, rfl⟩)).I (Or.inl ⟨by omega, rfl⟩)).I (Or.inl ⟨by omega, rfl⟩)).I (Or.inl ⟨by omega, rfl⟩)).I (Or.inl ⟨by omega, rfl⟩)).I (Or.inr ⟨rfl, rfl⟩)
theorem fa_ch {v : rV} {c s : Nat} {n : Int32} (hs : s < 2) : Ch (Tl c) v (faV v c s n) := ((Ch.rf.I (Or.inl ⟨rfl, by omega⟩)).I (Or.inl ⟨rfl, by omega⟩)).I (Or.inr ⟨rfl, by omega⟩)
/-- grains of one sort go from the free to the lying ones -/
theorem fa_am {v : rV} {c s : Nat} {n : Int32} {T U : Int} (hc : c < 24) (hs : s < 2) (hT : T + U ≤ 12000) (a : Am v (24 + 24 * s) T) (b : Am v (72 + 24 * s) U) (h1 : 0 ≤ n.toInt) (h2 : n.toInt ≤ (v.1 187 (24 + 24 * s + c)).toInt) :
    Am (faV v c s n) (24 + 24 * s) (T - n.toInt) ∧ Am (faV v c s n) (72 + 24 * s) (U + n.toInt) := by
  have r1 := a.one hc
  have r2 := b.one hc
  have n1 := a.nn
  have n2 := b.nn
  have e1 : (v.1 187 (24 + 24 * s + c) - n).toInt = (v.1 187 (24 + 24 * s + c)).toInt - n.toInt := sub_toInt (by omega) (by omega)
  have e2 : (v.1 187 (72 + 24 * s + c) + n).toInt = (v.1 187 (72 + 24 * s + c)).toInt + n.toInt := add_toInt (by omega) (by omega)
  have k1 := a.set (x := v.1 187 (24 + 24 * s + c) - n) hc (by rw [e1]; omega)
  have k2 := (b.off (k := 187) (j := 24 + 24 * s + c) (x := v.1 187 (24 + 24 * s + c) - n) (by omega)).set (x := v.1 187 (72 + 24 * s + c) + n) hc (by rw [e2]; omega)
  rw [rI_no (by omega), e2] at k2
  rw [e1] at k1
  refine ⟨?_, ?_⟩
  · have := (k1.off (k := 187) (j := 72 + 24 * s + c) (x := v.1 187 (72 + 24 * s + c) + n) (by omega)).off (k := 193) (j := 24 * s + c) (x := v.1 193 (24 * s + c) + n) (by omega)
    have e3 : T + ((v.1 187 (24 + 24 * s + c)).toInt - n.toInt) - (v.1 187 (24 + 24 * s + c)).toInt = T - n.toInt := by omega
    rwa [e3] at this
  · have := k2.off (k := 193) (j := 24 * s + c) (x := v.1 193 (24 * s + c) + n) (by omega)
    have e3 : U + ((v.1 187 (72 + 24 * s + c)).toInt + n.toInt) - (v.1 187 (72 + 24 * s + c)).toInt = U + n.toInt := by omega
    rwa [e3] at this
theorem li_5 {v : rV} {B c : Nat} {r s pc : Int32} : (liV v B c r s pc).1 (B + 5) c = v.1 (B + 5) c - r := by
  by_cases q : r + s ≤ pc <;> simp [liV, q, rI_1]
theorem li_6 {v : rV} {B c : Nat} {r s pc : Int32} : (liV v B c r s pc).1 (B + 6) c = v.1 (B + 6) c - s := by
  by_cases q : r + s ≤ pc <;> simp [liV, q, rI_1]
theorem li_8 {v : rV} {B c : Nat} {r s pc : Int32} : (liV v B c r s pc).1 (B + 8) c = v.1 (B + 8) c + r := by
  by_cases q : r + s ≤ pc <;> simp [liV, q, rI_1]
theorem li_9 {v : rV} {B c : Nat} {r s pc : Int32} : (liV v B c r s pc).1 (B + 9) c = v.1 (B + 9) c + s := by
  by_cases q : r + s ≤ pc <;> simp [liV, q, rI_1]
theorem li_10 {v : rV} {B c : Nat} {r s pc : Int32} : (liV v B c r s pc).1 (B + 10) c = hp pc (v.1 (B + 10) c) (r + s) := by
  by_cases q : r + s ≤ pc <;> simp [liV, hp, q, rI_1]
theorem li_3 {v : rV} {B c : Nat} {r s pc : Int32} : (liV v B c r s pc).1 B 3 = v.1 B 3 + (r + s) := by
  by_cases q : r + s ≤ pc <;> simp [liV, q, rI_1]
theorem fa_f {v : rV} {c s : Nat} {n : Int32} : (faV v c s n).1 187 (24 + 24 * s + c) = v.1 187 (24 + 24 * s + c) - n := by
  unfold faV
  rw [rI_no (by omega), rI_no (by omega), rI_at]
theorem fa_l {v : rV} {c s : Nat} {n : Int32} : (faV v c s n).1 187 (72 + 24 * s + c) = v.1 187 (72 + 24 * s + c) + n := by
  unfold faV
  rw [rI_no (by omega), rI_at]
theorem fa_e {v : rV} {c s : Nat} {n : Int32} : (faV v c s n).1 193 (24 * s + c) = v.1 193 (24 * s + c) + n := by
  unfold faV
  rw [rI_at]
theorem fa_no {v : rV} {c s k j : Nat} {n : Int32} (h : ¬ ((k = 187 ∧ (j = 24 + 24 * s + c ∨ j = 72 + 24 * s + c)) ∨ (k = 193 ∧ j = 24 * s + c))) : (faV v c s n).1 k j = v.1 k j := by
  unfold faV
  rw [rI_no (by omega), rI_no (by omega), rI_no (by omega)]
theorem lie1 {B c : Nat} {pc r s : Int32} {S0 S1 : Int} {vc vm : rV} (h0 : S0 ≤ 12000) (h1 : S1 ≤ 12000) (hc : c < 24) (hpc : 0 ≤ pc) (g : GG B pc S0 S1 vc vm) (r0 : 0 ≤ r.toInt) (r1 : r.toInt ≤ (vm.1 187 (24 + c)).toInt) (s0 : 0 ≤ s.toInt) (s1 : s.toInt ≤ (vm.1 187 (48 + c)).toInt) (z0 : vm.1 193 c = 0) (z1 : vm.1 193 (24 + c) = 0) :
    GG B pc S0 S1 (liV vc B c r s pc) (faV (faV vm c 0 r) c 1 s) ∧ (faV (faV vm c 0 r) c 1 s).1 187 (24 + c) = vm.1 187 (24 + c) - r ∧ (faV (faV vm c 0 r) c 1 s).1 187 (48 + c) = vm.1 187 (48 + c) - s := by
  obtain ⟨⟨f0, f1⟩, l0, l1, ⟨hh, ha, hr⟩, T0, U0, T1, U1, a0, b0, a1, b1, t0, t1⟩ := g
  have cc : Ch (Sl B c) vc (liV vc B c r s pc) := lie_ch
  have cm : Ch (Tl c) vm (faV (faV vm c 0 r) c 1 s) := (fa_ch (by omega)).tr (fa_ch (by omega))
  have w0 : (faV (faV vm c 0 r) c 1 s).1 187 (24 + c) = vm.1 187 (24 + c) - r := by rw [fa_no (by omega), ← Nat.add_zero 24, ← Nat.mul_zero 24, fa_f]
  have w1 : (faV (faV vm c 0 r) c 1 s).1 187 (48 + c) = vm.1 187 (48 + c) - s := by
    have := fa_f (v := faV vm c 0 r) (c := c) (s := 1) (n := s)
    rw [this, fa_no (by omega)]
  have w2 : (faV (faV vm c 0 r) c 1 s).1 187 (72 + c) = vm.1 187 (72 + c) + r := by
    rw [fa_no (by omega)]
    exact fa_l (s := 0)
  have w3 : (faV (faV vm c 0 r) c 1 s).1 187 (96 + c) = vm.1 187 (96 + c) + s := by
    have := fa_l (v := faV vm c 0 r) (c := c) (s := 1) (n := s)
    rw [this, fa_no (by omega)]
  have w4 : (faV (faV vm c 0 r) c 1 s).1 193 c = r := by
    rw [fa_no (by omega)]
    have := fa_e (v := vm) (c := c) (s := 0) (n := r)
    rw [show 24 * 0 + c = c by omega, z0, Int32.zero_add] at this
    exact this
  have w5 : (faV (faV vm c 0 r) c 1 s).1 193 (24 + c) = s := by
    have := fa_e (v := faV vm c 0 r) (c := c) (s := 1) (n := s)
    rw [this, fa_no (by omega), z1, Int32.zero_add]
  have fe0 : fe vm c = 0 := by unfold fe; rw [z0, z1]; rfl
  have fe1 : fe (faV (faV vm c 0 r) c 1 s) c = r + s := by unfold fe; rw [w4, w5]
  have fe2 : ∀ i, i < 24 → i ≠ c → fe (faV (faV vm c 0 r) c 1 s) i = fe vm i := fun i hi q => by
    unfold fe
    rw [cm.1 _ _ (by unfold Tl; omega), cm.1 _ _ (by unfold Tl; omega)]
  refine ⟨⟨⟨fun i hi => ?_, fun i hi => ?_⟩, fun i hi => ?_, fun i hi => ?_, ⟨fun i hi => ?_, ?_, fun i hi => ?_⟩, ?_⟩, w0, w1⟩
  · by_cases q : i = c
    · subst q; rw [li_5, w0, f0 i hc]
    · rw [cc.1 _ _ (by unfold Sl; omega), cm.1 _ _ (by unfold Tl; omega)]; exact f0 i hi
  · by_cases q : i = c
    · subst q; rw [li_6, w1, f1 i hc]
    · rw [cc.1 _ _ (by unfold Sl; omega), cm.1 _ _ (by unfold Tl; omega)]; exact f1 i hi
  · by_cases q : i = c
    · subst q; rw [li_8, w2, l0 i hc]
    · rw [cc.1 _ _ (by unfold Sl; omega), cm.1 _ _ (by unfold Tl; omega)]; exact l0 i hi
  · by_cases q : i = c
    · subst q; rw [li_9, w3, l1 i hc]
    · rw [cc.1 _ _ (by unfold Sl; omega), cm.1 _ _ (by unfold Tl; omega)]; exact l1 i hi
  · have e : (faV (faV vm c 0 r) c 1 s).1 187 (144 + i) = vm.1 187 (144 + i) := cm.1 _ _ (by unfold Tl; omega)
    by_cases q : i = c
    · subst q
      rw [li_10, hh i hc, e, fe0, fe1]
      congr 1
      unfold hp
      rw [if_pos hpc]
    · rw [cc.1 _ _ (by unfold Sl; omega), e, fe2 i hi q]; exact hh i hi
  · rw [li_3, ha]
    refine (sI_set (g := fe vm) (h := fun i => if i < 24 then fe (faV (faV vm c 0 r) c 1 s) i else fe vm i) (i := c) (x := r + s) (by omega) (by omega) (fun i q => ?_) ?_).symm.trans (sI_ext fun i _ h9 => ?_)
    · by_cases z : i < 24
      · simp only [if_pos z]; exact fe2 i z q
      · simp only [if_neg z]
    · simp only [if_pos hc]
      rw [fe1, fe0, Int32.zero_add]
    · simp only [if_pos (show i < 24 by omega)]
  · have e : (faV (faV vm c 0 r) c 1 s).1 187 (144 + i) = vm.1 187 (144 + i) := cm.1 _ _ (by unfold Tl; omega)
    have e' : (faV (faV vm c 0 r) c 1 s).1 187 (120 + i) = vm.1 187 (120 + i) := cm.1 _ _ (by unfold Tl; omega)
    by_cases q : i = c
    · subst q
      have := hr i hc
      rw [fe0, Int32.add_zero] at this
      rw [e, e', fe1, w2, w3, this]
      rw [Int32.add_assoc, Int32.add_assoc, ← Int32.add_assoc (vm.1 187 (96 + i)), Int32.add_comm (vm.1 187 (96 + i)) r, Int32.add_assoc r]
    · rw [e, e', fe2 i hi q, cm.1 _ _ (by unfold Tl; omega), cm.1 187 (96 + i) (by unfold Tl; omega)]
      exact hr i hi
  · have n0 := a0.nn
    have n1 := b0.nn
    have n2 := a1.nn
    have n3 := b1.nn
    obtain ⟨k1, k2⟩ := fa_am (s := 0) (n := r) hc (by omega) (show T0 + U0 ≤ 12000 by omega) a0 b0 r0 r1
    have a1' : Am (faV vm c 0 r) 48 T1 := a1.ch (S := fun k j => (k = 187 ∧ (j = 24 + c ∨ j = 72 + c)) ∨ k = 193) ((((Ch.rf.I (Or.inl ⟨rfl, by omega⟩)).I (Or.inl ⟨rfl, by omega⟩)).I (Or.inr rfl))) fun i hi => by omega
    have b1' : Am (faV vm c 0 r) 96 U1 := b1.ch (S := fun k j => (k = 187 ∧ (j = 24 + c ∨ j = 72 + c)) ∨ k = 193) ((((Ch.rf.I (Or.inl ⟨rfl, by omega⟩)).I (Or.inl ⟨rfl, by omega⟩)).I (Or.inr rfl))) fun i hi => by omega
    obtain ⟨k3, k4⟩ := fa_am (v := faV vm c 0 r) (s := 1) (n := s) hc (by omega) (show T1 + U1 ≤ 12000 by omega) a1' b1' s0 (by
      show s.toInt ≤ ((faV vm c 0 r).1 187 (48 + c)).toInt
      rw [fa_no (by omega)]
      exact s1)
    have k1' : Am (faV (faV vm c 0 r) c 1 s) 24 (T0 - r.toInt) := Am.ch (v := faV vm c 0 r) k1 (S := fun k j => (k = 187 ∧ (j = 48 + c ∨ j = 96 + c)) ∨ k = 193) ((((Ch.rf.I (Or.inl ⟨rfl, by omega⟩)).I (Or.inl ⟨rfl, by omega⟩)).I (Or.inr rfl))) fun i hi => by omega
    have k2' : Am (faV (faV vm c 0 r) c 1 s) 72 (U0 + r.toInt) := Am.ch (v := faV vm c 0 r) k2 (S := fun k j => (k = 187 ∧ (j = 48 + c ∨ j = 96 + c)) ∨ k = 193) ((((Ch.rf.I (Or.inl ⟨rfl, by omega⟩)).I (Or.inl ⟨rfl, by omega⟩)).I (Or.inr rfl))) fun i hi => by omega
    exact ⟨T0 - r.toInt, U0 + r.toInt, T1 - s.toInt, U1 + s.toInt, k1', k2', k3, k4, by omega, by omega⟩
