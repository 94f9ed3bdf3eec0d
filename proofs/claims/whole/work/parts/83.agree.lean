/-! TWO CALLS THAT AGREE -/
def Cc : Nat → Nat → Prop := fun k _ => k < 174 ∨ 197 ≤ k
def Cm : Nat → Nat → Prop := fun k _ => 174 ≤ k ∧ k < 197
def Agree {α : Type} (tb : Nat) (vc vm : rV) (f g : Option (α × rV)) : Prop := ∃ r vc' vm', f = some (r, vc') ∧ g = some (r, vm') ∧ Rel tb vc' vm' ∧ Ch Cc vc vc' ∧ Ch Cm vm vm'
theorem Ch.no {v : rV} : Ch (fun _ _ => False) v v := Ch.rf
/-- the class's side alone is read below 174 -/
theorem Rel.c {tb : Nat} {vc vm wc : rV} (h : Rel tb vc vm) (hc : Ch Cm vc wc) : Rel tb wc vm := by
  obtain ⟨nl, nw, nd, p, a, b, c⟩ := h
  have f : ∀ k j, k < 174 → ¬ Cm k j := fun k j hk q => by unfold Cm at q; omega
  refine ⟨nl, nw, nd, p, a.ch hc Ch.no (fun k j hk _ _ _ => f k j (by omega)) (fun k j _ hk => f k j hk) (fun i _ => f _ _ (by omega)) (fun _ _ q => q) (fun _ _ _ _ q => q) (fun j => ⟨fun q => q, fun q => q, fun q => q, fun q => q⟩), b.ch hc Ch.no (fun k j _ hk => f k j (by omega)) (fun _ _ q => q) (fun q => q) (fun _ _ q => q), c.ch hc Ch.no (f _ _ (by omega)) (fun q => q) (fun q => q)⟩
theorem Rel.m {tb : Nat} {vc vm wm : rV} (h : Rel tb vc vm) (hm : Ch Cc vm wm) : Rel tb vc wm := by
  obtain ⟨nl, nw, nd, p, a, b, c⟩ := h
  have f : ∀ k j, 174 ≤ k → k < 197 → ¬ Cc k j := fun k j hk h2 q => by unfold Cc at q; omega
  refine ⟨nl, nw, nd, p, a.ch Ch.no hm (fun _ _ _ _ _ _ q => q) (fun _ _ _ _ q => q) (fun _ _ q => q) (fun j _ => f _ _ (by omega) (by omega)) (fun k j h1 h2 => f k j (by omega) (by omega)) (fun j => ⟨f _ _ (by omega) (by omega), f _ _ (by omega) (by omega), f _ _ (by omega) (by omega), f _ _ (by omega) (by omega)⟩), b.ch Ch.no hm (fun _ _ _ _ q => q) (fun _ _ => f _ _ (by omega) (by omega)) (f _ _ (by omega) (by omega)) (fun _ _ => f _ _ (by omega) (by omega)), c.ch Ch.no hm (fun q => q) (f _ _ (by omega) (by omega)) (f _ _ (by omega) (by omega))⟩
/-- both calls on one heap, one behind the other -/
theorem agree_both {α : Type} {tb tb' : Nat} {v : rV} {f g : rV → Option (α × rV)} (h : Rel tb v v) (k : ∀ vc vm, Rel tb vc vm → Agree tb' vc vm (f vc) (g vm)) : ∃ r v1 v2, f v = some (r, v1) ∧ g v1 = some (r, v2) ∧ Rel tb' v2 v2 := by
  obtain ⟨r, v1, vm, e1, e2, -, c1, -⟩ := k v v h
  obtain ⟨r', v1', v2, e1', e2', h', c1', c2'⟩ := k v v1 (h.m c1)
  rw [e1] at e1'
  cases e1'
  exact ⟨r, v1, v2, e1, e2', h'.c c2'⟩
theorem pure_both {α : Type} {tb : Nat} {v : rV} {f g : rV → Option α} (h : Rel tb v v) (k : ∀ vc vm, Rel tb vc vm → ∃ r, f vc = some r ∧ g vm = some r) : ∃ r, f v = some r ∧ g v = some r := k v v h
/-- nothing has changed: both answer alike -/
theorem Agree.same {α : Type} {tb : Nat} {vc vm : rV} {r : α} (h : Rel tb vc vm) : Agree tb vc vm (some (r, vc)) (some (r, vm)) := ⟨r, vc, vm, rfl, rfl, h, Ch.rf, Ch.rf⟩
/-- the tape, a drop's weight, a stain, the pace anew -/
def Sc : Nat → Nat → Prop := fun k j => (k = 0 ∧ (j = 14 ∨ j = 15)) ∨ (k = 1 ∧ j = 1) ∨ (k = 2 ∧ j < 1000) ∨ (50 ≤ k ∧ k ≤ 58 ∧ j < 1000)
def Sm : Nat → Nat → Prop := fun k j => (k = 174 ∧ (j = 0 ∨ j = 2 ∨ j = 23 ∨ j = 41)) ∨ (k = 175 ∧ j < 1000) ∨ (k = 186 ∧ j < 1000) ∨ (k = 195 ∧ j < 1000)
theorem sc_no {k j : Nat} (h : Sc k j) : (k = 0 ∧ (j = 14 ∨ j = 15)) ∨ (k = 1 ∧ j = 1) ∨ k = 2 ∨ (50 ≤ k ∧ k ≤ 58) := by unfold Sc at h; omega
theorem sm_no {k j : Nat} (h : Sm k j) : (k = 174 ∧ (j = 0 ∨ j = 2 ∨ j = 23 ∨ j = 41)) ∨ k = 175 ∨ k = 186 ∨ k = 195 := by unfold Sm at h; omega
theorem Re.new {nl nw nd p p' tb : Nat} {vc vm wc wm : rV} (h : Re nl nw nd p tb vc vm) (hc : Ch Sc vc wc) (hm : Ch Sm vm wm) (a : Rt wc wm) (b : Rd nd wc wm) (c : Rs wc wm) (d : Rp p' wc wm) : Re nl nw nd p' tb wc wm := by
  obtain ⟨-, h2, h3, -, -, -, h7, h8⟩ := h
  have s : ∀ k j, ¬ ((k = 0 ∧ (j = 14 ∨ j = 15)) ∨ (k = 1 ∧ j = 1) ∨ k = 2 ∨ (50 ≤ k ∧ k ≤ 58)) → ¬ Sc k j := fun k j q z => q (sc_no z)
  have t : ∀ k j, ¬ ((k = 174 ∧ (j = 0 ∨ j = 2 ∨ j = 23 ∨ j = 41)) ∨ k = 175 ∨ k = 186 ∨ k = 195) → ¬ Sm k j := fun k j q z => q (sm_no z)
  refine ⟨a, h2.ch hc hm (s _ _ (by omega)) (fun n j _ => ⟨s _ _ (by omega), s _ _ (by omega)⟩) (t _ _ (by omega)) (fun k j _ _ _ => t _ _ (by omega)), h3.ch hc hm (s _ _ (by omega)) (fun n j _ => ⟨s _ _ (by omega), s _ _ (by omega)⟩) (t _ _ (by omega)) (fun k j _ _ _ => t _ _ (by omega)), b, c, d, ?_, h8.ch hc (fun _ _ => s _ _ (by omega)) (fun _ _ => s _ _ (by omega))⟩
  have z0 : wc.1 0 16 = vc.1 0 16 := hc.1 _ _ (s _ _ (by omega))
  have z1 : wm.1 174 30 = vm.1 174 30 := hm.1 _ _ (t _ _ (by omega))
  unfold Ri
  rw [z0, z1]
  rcases h7 with i | ⟨i1, i2, i3, i4⟩
  · exact Or.inl i
  · exact Or.inr ⟨i1, i2, i3.ch hc hm (fun k j h1 h2 => s _ _ (by omega)) (fun j _ => t _ _ (by omega)) (t _ _ (by omega)) (fun j _ => t _ _ (by omega)), i4.ch hc hm (s _ _ (by omega)) (t _ _ (by omega)) (t _ _ (by omega))⟩
theorem Rel.new {tb : Nat} {vc vm wc wm : rV} (h : Rel tb vc vm) (hc : Ch Sc vc wc) (hm : Ch Sm vm wm) (a : Rt wc wm) (b : ∀ nd, Rd nd vc vm → Rd nd wc wm) (c : Rs wc wm) (d : ∀ p, Rp p vc vm → ∃ p', Rp p' wc wm) : Rel tb wc wm := by
  obtain ⟨nl, nw, nd, p, e, f, g⟩ := h
  obtain ⟨p', d⟩ := d p e.2.2.2.2.2.1
  have s : ∀ k j, ¬ ((k = 0 ∧ (j = 14 ∨ j = 15)) ∨ (k = 1 ∧ j = 1) ∨ k = 2 ∨ (50 ≤ k ∧ k ≤ 58)) → ¬ Sc k j := fun k j q z => q (sc_no z)
  have t : ∀ k j, ¬ ((k = 174 ∧ (j = 0 ∨ j = 2 ∨ j = 23 ∨ j = 41)) ∨ k = 175 ∨ k = 186 ∨ k = 195) → ¬ Sm k j := fun k j q z => q (sm_no z)
  exact ⟨nl, nw, nd, p', e.new hc hm a (b nd e.2.2.2.1) c d, f.ch hc hm (fun k j _ _ => s _ _ (by omega)) (fun j _ => t _ _ (by omega)) (t _ _ (by omega)) (fun j _ => t _ _ (by omega)), g.ch hc hm (s _ _ (by omega)) (t _ _ (by omega)) (t _ _ (by omega))⟩
theorem Rel.tape {tb : Nat} {vc vm : rV} (h : Rel tb vc vm) : Rt vc vm := by
  obtain ⟨nl, nw, nd, p, e, f, g⟩ := h
  exact e.1
theorem Rel.stains {tb : Nat} {vc vm : rV} (h : Rel tb vc vm) : Rs vc vm := by
  obtain ⟨nl, nw, nd, p, e, f, g⟩ := h
  exact e.2.2.2.2.1
theorem Rel.st {tb : Nat} {vc vm : rV} (h : Rel tb vc vm) : ∃ M, ST M 60 tb vc vm := by
  obtain ⟨nl, nw, nd, p, e, f, g⟩ := h
  exact ⟨nd, f⟩
theorem Rel.drops {tb : Nat} {vc vm : rV} (h : Rel tb vc vm) : ∃ nd, Rd nd vc vm := by
  obtain ⟨nl, nw, nd, p, e, f, g⟩ := h
  exact ⟨nd, e.2.2.2.1⟩
theorem sc_cc {v w : rV} (h : Ch Sc v w) : Ch Cc v w := h.mono fun k j q => by have := sc_no q; unfold Cc; omega
theorem sm_cm {v w : rV} (h : Ch Sm v w) : Ch Cm v w := h.mono fun k j q => by have := sm_no q; unfold Cm; omega
theorem Agree.new {α : Type} {tb : Nat} {vc vm wc wm : rV} {r : α} (h : Rel tb vc vm) (hc : Ch Sc vc wc) (hm : Ch Sm vm wm) (a : Rt wc wm) (b : ∀ nd, Rd nd vc vm → Rd nd wc wm) (c : Rs wc wm) (d : ∀ p, Rp p vc vm → ∃ p', Rp p' wc wm) : Agree tb vc vm (some (r, wc)) (some (r, wm)) := ⟨r, wc, wm, rfl, rfl, h.new hc hm a b c d, sc_cc hc, sm_cm hm⟩
/-- the class's guards of an index against the model's -/
theorem lt_guard {a : Int32} {n : Nat} (hn : n < 1000000) : f_X8_in a 0 (nI n - 1) = true ↔ ∃ d, d < n ∧ a = nI d := by
  constructor
  · intro h
    obtain ⟨p, q⟩ := in_t h
    rw [lt_suc hn p] at q
    have p9 : ¬ a.toInt < 0 := by rw [lt_toInt] at p; exact p
    rw [le_toInt, niInt (by omega)] at q
    exact ⟨a.toInt.toNat, by omega, niOf (by omega)⟩
  · rintro ⟨d, hd, rfl⟩
    exact in_p (niGe (by omega)) (by rw [lt_suc hn (niGe (by omega))]; exact nle (by omega) (by omega))
theorem isDrop_m {vm : rV} {nd : Nat} {a : Int32} (hd : DR vm nd) : f_X8_isDrop vm a = true ↔ ∃ d, d < nd ∧ a = nI d := by
  have := hd.1
  unfold f_X8_isDrop
  rw [hd.2.1]
  exact lt_guard (by omega)
theorem isDrop_c {vc vm : rV} {nd : Nat} {a : Int32} (hd : DR vm nd) (hC : DC vc vm nd) : f_X7_isDrop vc a = f_X8_isDrop vm a := by
  have h12 := hd.1
  rw [Bool.eq_iff_iff, isDrop_m hd]
  unfold f_X7_isDrop
  rw [hC.1]
  constructor
  · intro h
    by_cases p : a < 0
    · rw [if_pos p] at h; cases h
    rw [if_neg p] at h
    by_cases q : nI nd ≤ a
    · rw [if_pos q] at h; cases h
    · exact (lt_guard (a := a) (n := nd) (by omega)).mp (in_p p (by rw [lt_suc (by omega) p]; exact q))
  · rintro ⟨d, hd, rfl⟩
    rw [if_neg (niGe (by omega)), if_neg (nle (by omega) (by omega)), if_neg (show ¬ (12 : Int32) ≤ nI d from nle (a := 12) (by omega) (by omega))]
theorem isStain_m {vc vm : rV} {a : Int32} (h : Rs vc vm) : f_X8_isStain vm a = true ↔ ∃ n s, n ≤ 6 ∧ vc.1 0 14 = nI n ∧ s < n ∧ a = nI s := by
  obtain ⟨n, hn, e1, e2, -⟩ := h
  unfold f_X8_isStain
  rw [e2, lt_guard (by omega)]
  constructor
  · rintro ⟨d, hd, rfl⟩
    exact ⟨n, d, hn, e1, hd, rfl⟩
  · rintro ⟨n', s, h1, h2, h3, rfl⟩
    rw [e1, niEq (by omega) (by omega)] at h2
    exact ⟨s, by omega, rfl⟩
theorem isStain_s {vc vm : rV} {a : Int32} (h : Rs vc vm) (k : f_X8_isStain vm a = true) : ∃ s, s < 6 ∧ a = nI s := by
  obtain ⟨n, s, h1, h2, h3, rfl⟩ := (isStain_m h).mp k
  exact ⟨s, by omega, rfl⟩
theorem isStain_c {vc vm : rV} {a : Int32} (h : Rs vc vm) : f_X7_isStain vc a = f_X8_isStain vm a := by
  rw [Bool.eq_iff_iff, isStain_m h]
  obtain ⟨n, hn, e1, -⟩ := h
  unfold f_X7_isStain
  rw [e1]
  constructor
  · intro h
    by_cases p : a < 0
    · rw [if_pos p] at h; cases h
    rw [if_neg p] at h
    by_cases q : nI n ≤ a
    · rw [if_pos q] at h; cases h
    · obtain ⟨d, hd, rfl⟩ := (lt_guard (a := a) (n := n) (by omega)).mp (in_p p (by rw [lt_suc (by omega) p]; exact q))
      exact ⟨n, d, hn, rfl, hd, rfl⟩
  · rintro ⟨n', s, h1, h2, h3, rfl⟩
    rw [niEq (by omega) (by omega)] at h2
    rw [if_neg (niGe (by omega)), if_neg (nle (by omega) (by omega)), if_neg (show ¬ (6 : Int32) ≤ nI s from nle (a := 6) (by omega) (by omega))]
theorem count_go {tb : Nat} {vc vm : rV} (h : Rel tb vc vm) (a : Int32) : f_X7_count vc a = f_X8_count vm a := by
  obtain ⟨nl, nw, nd, p, ⟨⟨n, n1, n2, n3, -⟩, ⟨-, l2, l3, -⟩, ⟨-, w2, w3, -⟩, ⟨d1, d2, -⟩, ⟨s, s1, s2, s3, -⟩, ⟨-, p2, p3⟩, -⟩, -⟩ := h
  unfold f_X7_count f_X8_count
  rw [n2, n3, l2, l3, w2, w3, d1.2.1, d2.1, s2, s3, p2, p3]
