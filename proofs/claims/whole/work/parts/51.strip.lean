/-! STRIP: what changes, paired rows, amounts -/
/-- nothing has changed but at such places: ints by their place, longs by 1000000 and the place, references by 2000000 and the place -/
def Ch (S : Nat → Nat → Prop) (v w : rV) : Prop := (∀ k j, ¬ S k j → w.1 k j = v.1 k j) ∧ (∀ k j, ¬ S k (1000000 + j) → w.2.1 k j = v.2.1 k j) ∧ (∀ k j, ¬ S k (2000000 + j) → w.2.2 k j = v.2.2 k j)
theorem Ch.rf {S : Nat → Nat → Prop} {v : rV} : Ch S v v := ⟨fun _ _ _ => rfl, fun _ _ _ => rfl, fun _ _ _ => rfl⟩
theorem Ch.tr {S : Nat → Nat → Prop} {u v w : rV} (h : Ch S u v) (g : Ch S v w) : Ch S u w := ⟨fun k j q => (g.1 k j q).trans (h.1 k j q), fun k j q => (g.2.1 k j q).trans (h.2.1 k j q), fun k j q => (g.2.2 k j q).trans (h.2.2 k j q)⟩
theorem Ch.I {S : Nat → Nat → Prop} {v w : rV} (h : Ch S v w) {k j : Nat} {x : Int32} (q : S k j) : Ch S v (rI w k j x) := ⟨fun a b n => by
  rw [rI_no (fun e => n (by rw [e.1, e.2]; exact q))]
  exact h.1 a b n, h.2.1, h.2.2⟩
theorem Ch.L {S : Nat → Nat → Prop} {v w : rV} (h : Ch S v w) {k j : Nat} {x : Int64} (q : S k (1000000 + j)) : Ch S v (rL w k j x) := ⟨h.1, fun a b n => by
  show (if a = k ∧ b = j then x else w.2.1 a b) = _
  rw [if_neg (fun e => n (by rw [e.1, e.2]; exact q))]
  exact h.2.1 a b n, h.2.2⟩
theorem Ch.R {S : Nat → Nat → Prop} {v w : rV} (h : Ch S v w) {k j : Nat} {x : Option Nat} (q : S k (2000000 + j)) : Ch S v (rR w k j x) := ⟨h.1, h.2.1, fun a b n => by
  show (if a = k ∧ b = j then x else w.2.2 a b) = _
  rw [if_neg (fun e => n (by rw [e.1, e.2]; exact q))]
  exact h.2.2 a b n⟩
theorem Ch.mono {S T : Nat → Nat → Prop} {v w : rV} (h : Ch S v w) (q : ∀ k j, S k j → T k j) : Ch T v w := ⟨fun k j n => h.1 k j fun s => n (q k _ s), fun k j n => h.2.1 k j fun s => n (q k _ s), fun k j n => h.2.2 k j fun s => n (q k _ s)⟩
/-- a row of one heap is a piece of a row of the other -/
def Rw (vc : rV) (k : Nat) (vm : rV) (k' o n : Nat) : Prop := ∀ c, c < n → vc.1 k c = vm.1 k' (o + c)
theorem Rw.up {vc vm : rV} {k k' o n c : Nat} {x : Int32} (h : Rw vc k vm k' o n) : Rw (rI vc k c x) k (rI vm k' (o + c) x) k' o n := fun i hi => by
  rw [rI_1, rI_1]
  by_cases e : i = c
  · rw [if_pos ⟨rfl, e⟩, if_pos ⟨rfl, by omega⟩]
  · rw [if_neg (fun q => e q.2), if_neg (fun q => e (by omega))]
    exact h i hi
theorem Rw.off {vc vm : rV} {k k' o n k1 j1 k2 j2 : Nat} {x y : Int32} (h : Rw vc k vm k' o n) (h1 : k1 ≠ k) (h2 : k2 ≠ k' ∨ j2 < o ∨ o + n ≤ j2) : Rw (rI vc k1 j1 x) k (rI vm k2 j2 y) k' o n := fun i hi => by
  rw [rI_no (fun q => h1 q.1.symm), rI_no (fun q => by omega)]
  exact h i hi
theorem Rw.offC {vc vm : rV} {k k' o n k1 j1 : Nat} {x : Int32} (h : Rw vc k vm k' o n) (h1 : k1 ≠ k) : Rw (rI vc k1 j1 x) k vm k' o n := fun i hi => by
  rw [rI_no (fun q => h1 q.1.symm)]
  exact h i hi
theorem Rw.offM {vc vm : rV} {k k' o n k2 j2 : Nat} {y : Int32} (h : Rw vc k vm k' o n) (h2 : k2 ≠ k' ∨ j2 < o ∨ o + n ≤ j2) : Rw vc k (rI vm k2 j2 y) k' o n := fun i hi => by
  rw [rI_no (fun q => by omega)]
  exact h i hi
theorem Rw.ch {S T : Nat → Nat → Prop} {vc wc vm wm : rV} {k k' o n : Nat} (h : Rw vc k vm k' o n) (hc : Ch S vc wc) (hm : Ch T vm wm) (h1 : ∀ c, c < n → ¬ S k c) (h2 : ∀ c, c < n → ¬ T k' (o + c)) : Rw wc k wm k' o n := fun i hi => by
  rw [hc.1 k i (h1 i hi), hm.1 k' (o + i) (h2 i hi)]
  exact h i hi
/-- the amounts of a piece of the model's row -/
def am (v : rV) (o : Nat) : Nat → Int := fun c => (v.1 187 (o + c)).toInt
/-- none below 0, so many together -/
def Am (v : rV) (o : Nat) (T : Int) : Prop := (∀ c, c < 24 → 0 ≤ am v o c) ∧ sm (am v o) 0 24 = T
theorem Am.one {v : rV} {o : Nat} {T : Int} (h : Am v o T) {c : Nat} (hc : c < 24) : 0 ≤ (v.1 187 (o + c)).toInt ∧ (v.1 187 (o + c)).toInt ≤ T := by
  have h1 := h.1 c hc
  have h2 := sm_one (g := am v o) (a := 0) (n := 24) (c := c) (fun c _ h2 => h.1 c (by omega)) (by omega) (by omega)
  rw [h.2] at h2
  exact ⟨h1, h2⟩
theorem Am.two {v : rV} {o : Nat} {T : Int} (h : Am v o T) {i j : Nat} (hi : i < j) (hj : j < 24) : (v.1 187 (o + i)).toInt + (v.1 187 (o + j)).toInt ≤ T := by
  have e1 : sm (am v o) 0 24 = sm (am v o) 0 j + sm (am v o) j (24 - j) := by
    have := sm_add (am v o) 0 j (24 - j)
    rw [show j + (24 - j) = 24 by omega] at this
    simpa using this
  have h1 := sm_one (g := am v o) (a := 0) (n := j) (c := i) (fun c _ h2 => h.1 c (by omega)) (by omega) (by omega)
  have h2 := sm_one (g := am v o) (a := j) (n := 24 - j) (c := j) (fun c _ h2 => h.1 c (by omega)) (by omega) (by omega)
  have h3 := h.2
  show am v o i + am v o j ≤ T
  omega
theorem Am.set {v : rV} {o : Nat} {T : Int} (h : Am v o T) {i : Nat} {x : Int32} (hi : i < 24) (hx : 0 ≤ x.toInt) : Am (rI v 187 (o + i) x) o (T + x.toInt - (v.1 187 (o + i)).toInt) := by
  refine ⟨fun c hc => ?_, ?_⟩
  · show 0 ≤ ((rI v 187 (o + i) x).1 187 (o + c)).toInt
    rw [rI_1]
    by_cases e : c = i
    · rw [if_pos ⟨rfl, by omega⟩]; exact hx
    · rw [if_neg (by omega)]; exact h.1 c hc
  · rw [sm_set (g := am v o) (h := am (rI v 187 (o + i) x) o) (i := i) (by omega) (by omega) (fun c hc => by
      show ((rI v 187 (o + i) x).1 187 (o + c)).toInt = _
      rw [rI_no (by omega)]
      rfl), h.2]
    show T + ((rI v 187 (o + i) x).1 187 (o + i)).toInt - _ = _
    rw [rI_at]
    rfl
theorem Am.off {v : rV} {o : Nat} {T : Int} (h : Am v o T) {k j : Nat} {x : Int32} (q : k ≠ 187 ∨ j < o ∨ o + 24 ≤ j) : Am (rI v k j x) o T := by
  have e : ∀ c, c < 24 → am (rI v k j x) o c = am v o c := fun c hc => by
    show ((rI v k j x).1 187 (o + c)).toInt = _
    rw [rI_no (by omega)]
    rfl
  refine ⟨fun c hc => ?_, ?_⟩
  · rw [e c hc]; exact h.1 c hc
  · rw [sm_ext (fun c _ h2 => e c (by omega))]; exact h.2
theorem Am.ch {S : Nat → Nat → Prop} {v w : rV} {o : Nat} {T : Int} (h : Am v o T) (g : Ch S v w) (q : ∀ c, c < 24 → ¬ S 187 (o + c)) : Am w o T := by
  have e : ∀ c, c < 24 → am w o c = am v o c := fun c hc => by
    show (w.1 187 (o + c)).toInt = _
    rw [g.1 187 (o + c) (q c hc)]
    rfl
  refine ⟨fun c hc => ?_, ?_⟩
  · rw [e c hc]; exact h.1 c hc
  · rw [sm_ext (fun c _ h2 => e c (by omega))]; exact h.2
/-- some go from one cell to another -/
theorem Am.mv {v : rV} {o : Nat} {T : Int} (h : Am v o T) {i j : Nat} {z : Int32} (hT : T ≤ 100000) (hi : i < 24) (hj : j < 24) (hn : i ≠ j) (h1 : 0 ≤ (v.1 187 (o + i)).toInt - z.toInt) (h2 : 0 ≤ (v.1 187 (o + j)).toInt + z.toInt) :
    Am (rI (rI v 187 (o + i) (v.1 187 (o + i) - z)) 187 (o + j) ((rI v 187 (o + i) (v.1 187 (o + i) - z)).1 187 (o + j) + z)) o T := by
  have a1 := h.one hi
  have a2 := h.one hj
  have a3 : (v.1 187 (o + i)).toInt + (v.1 187 (o + j)).toInt ≤ T := by
    rcases Nat.lt_or_gt_of_ne hn with q | q
    · exact h.two q hj
    · have := h.two q hi; omega
  have e1 : (v.1 187 (o + i) - z).toInt = (v.1 187 (o + i)).toInt - z.toInt := sub_toInt (by omega) (by omega)
  have r1 : (rI v 187 (o + i) (v.1 187 (o + i) - z)).1 187 (o + j) = v.1 187 (o + j) := rI_no (by omega)
  have e2 : (v.1 187 (o + j) + z).toInt = (v.1 187 (o + j)).toInt + z.toInt := add_toInt (by omega) (by omega)
  have k1 := h.set (x := v.1 187 (o + i) - z) hi (by rw [e1]; exact h1)
  have k2 := k1.set (i := j) (x := v.1 187 (o + j) + z) hj (by rw [e2]; exact h2)
  rw [r1] at k2 ⊢
  rw [e1, e2] at k2
  have e3 : T + ((v.1 187 (o + i)).toInt - z.toInt) - (v.1 187 (o + i)).toInt + ((v.1 187 (o + j)).toInt + z.toInt) - (v.1 187 (o + j)).toInt = T := by omega
  rwa [e3] at k2
/-- round and long free grains, paired -/
def FF (B : Nat) (vc vm : rV) : Prop := Rw vc (B + 5) vm 187 24 24 ∧ Rw vc (B + 6) vm 187 48 24
/-- some go from a place to another of one row -/
def mvr (v : rV) (k i j : Nat) (z : Int32) : rV := rI (rI v k i (v.1 k i - z)) k j ((rI v k i (v.1 k i - z)).1 k j + z)
theorem mv_no {v : rV} {k i j a b : Nat} {z : Int32} (h : a ≠ k ∨ (b ≠ i ∧ b ≠ j)) : (mvr v k i j z).1 a b = v.1 a b := by
  unfold mvr
  rw [rI_no (by omega), rI_no (by omega)]
theorem Ch.mv {S : Nat → Nat → Prop} {v w : rV} {k i j : Nat} {z : Int32} (h : Ch S v w) (q : S k i) (q2 : S k j) : Ch S v (mvr w k i j z) := (h.I q).I q2
theorem Rw.mv {vc vm : rV} {k k' o i j : Nat} {z : Int32} (h : Rw vc k vm k' o 24) (hi : i < 24) (hj : j < 24) : Rw (mvr vc k i j z) k (mvr vm k' (o + i) (o + j) z) k' o 24 := by
  unfold mvr
  have e := h i hi
  have h1 := h.up (c := i) (x := vm.1 k' (o + i) - z)
  rw [e, h1 j hj]
  exact h1.up
theorem Rw.mvo {vc vm : rV} {k k' o k1 k2 i j i' j' n : Nat} {z z' : Int32} (h : Rw vc k vm k' o n) (h1 : k1 ≠ k) (h2 : k2 ≠ k' ∨ ((i' < o ∨ o + n ≤ i') ∧ (j' < o ∨ o + n ≤ j'))) : Rw (mvr vc k1 i j z) k (mvr vm k2 i' j' z') k' o n := (h.off h1 (by omega)).off h1 (by omega)
theorem Am.mvo {v : rV} {o k i j : Nat} {T : Int} {z : Int32} (h : Am v o T) (q : k ≠ 187 ∨ ((i < o ∨ o + 24 ≤ i) ∧ (j < o ∨ o + 24 ≤ j))) : Am (mvr v k i j z) o T := (h.off (by omega)).off (by omega)
