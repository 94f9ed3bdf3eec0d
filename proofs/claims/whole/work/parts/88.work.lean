/-! AT WORK ON THE TRIAL STRIP: the model's own strip lies aside -/
def Wk (nl nw nd p tb : Nat) (vc vm : rV) : Prop := Re nl nw nd p tb vc vm ∧ IX nd 60 tb 188 28 vc vm ∧ LPq 60 nl 188 vc vm
theorem aside_go {nl nw nd p tb : Nat} {vc vm : rV} (hE : Re nl nw nd p tb vc vm) (hS : ST nd 60 tb vc vm) (hL : LPq 60 nl 187 vc vm) : ∃ wm, f_X8_putAside vm = some wm ∧ Wk nl nw nd p tb vc wm ∧ Ch (fun k j => (k = 188 ∧ j < 416) ∨ (k = 174 ∧ j = 1000028)) vm wm := by
  obtain ⟨va, a1, a2, a3, a4⟩ := asd_go 416 0 20000 vm (by omega) (by omega)
  unfold f_X8_putAside
  rw [show f_X8_putAside_2 20000 vm 0 = _ from a1]
  obtain ⟨v1, ev1⟩ : ∃ v1, v1 = rL va 174 28 (va.2.1 174 27) := ⟨_, rfl⟩
  rw [← ev1]
  have m1 : Ch (fun k j => (k = 188 ∧ j < 416) ∨ (k = 174 ∧ j = 1000028)) vm v1 := by
    rw [ev1]
    exact (a4.mono fun k j q => by omega).L (by omega)
  have r188 : ∀ j, j < 416 → v1.1 188 j = vm.1 187 j := fun j hj => by rw [ev1]; exact a2 j (by omega) hj
  have l28 : v1.2.1 174 28 = vm.2.1 174 27 := by
    rw [ev1]
    show (if 174 = 174 ∧ 28 = 28 then va.2.1 174 27 else va.2.1 174 28) = _
    rw [if_pos ⟨rfl, rfl⟩]
    exact a4.2.1 _ _ (by omega)
  refine ⟨v1, rfl, ⟨hE.ch Ch.no m1 (fun _ _ _ _ _ _ q => q) (fun _ _ _ _ q => q) (fun _ _ q => q) (fun j hj => by omega) (fun k j _ _ => by omega) (fun j => ⟨by omega, by omega, by omega, by omega⟩), ⟨vm, hS, fun j hj => (r188 j hj).symm, l28.symm, fun j hj => (m1.1 _ _ (by omega)).symm⟩, ?_⟩, m1⟩
  rcases hL with ⟨b1, b2⟩ | ⟨n, b1, b2, b3, b4⟩
  · exact Or.inl ⟨b1, by rw [r188 _ (by omega)]; exact b2⟩
  · exact Or.inr ⟨n, b1, b2, by rw [r188 _ (by omega)]; exact b3, by rw [r188 _ (by omega)]; exact b4⟩
theorem taken_go {nl nw nd p tb : Nat} {vc vm : rV} (h : Wk nl nw nd p tb vc vm) : ∃ wm, f_X8_takeBack vm = some wm ∧ Rel tb vc wm ∧ Ch (fun k j => k = 187 ∨ (k = 174 ∧ j = 1000027)) vm wm := by
  obtain ⟨hE, ⟨v0, j1, j2, j3, j4⟩, hL⟩ := h
  obtain ⟨vb, b1, b2, b3, b4⟩ := tkb_go 416 0 20000 vm (by omega) (by omega)
  unfold f_X8_takeBack
  rw [show f_X8_takeBack_2 20000 vm 0 = _ from b1]
  obtain ⟨v9, ev9⟩ : ∃ v9, v9 = rL vb 174 27 (vb.2.1 174 28) := ⟨_, rfl⟩
  rw [← ev9]
  have m9 : Ch (fun k j => k = 187 ∨ (k = 174 ∧ j = 1000027)) vm v9 := by
    rw [ev9]
    exact (b4.mono fun k j q => by omega).L (by omega)
  have row : ∀ j, j < 416 → v9.1 187 j = vm.1 188 j := fun j hj => by rw [ev9]; exact b2 j (by omega) hj
  have lon : v9.2.1 174 27 = vm.2.1 174 28 := by
    rw [ev9]
    show (if 174 = 174 ∧ 27 = 27 then vb.2.1 174 28 else vb.2.1 174 27) = _
    rw [if_pos ⟨rfl, rfl⟩]
    exact b4.2.1 _ _ (by omega)
  refine ⟨v9, rfl, ⟨nl, nw, nd, p, hE.ch Ch.no m9 (fun _ _ _ _ _ _ q => q) (fun _ _ _ _ q => q) (fun _ _ q => q) (fun j hj => by omega) (fun k j _ _ => by omega) (fun j => ⟨by omega, by omega, by omega, by omega⟩), j1.ext Ch.no (fun _ _ _ _ q => q) (fun j hj => by rw [row j hj, j2 j hj]) (by rw [lon, j3]) (fun j hj => by rw [m9.1 _ _ (by omega), j4 j hj]), ?_⟩, m9⟩
  rcases hL with ⟨b1, b2⟩ | ⟨n, b1, b2, b3, b4⟩
  · exact Or.inl ⟨b1, by rw [row _ (by omega)]; exact b2⟩
  · exact Or.inr ⟨n, b1, b2, by rw [row _ (by omega)]; exact b3, by rw [row _ (by omega)]; exact b4⟩
/-- what work on the trial strip may touch -/
def Swk : Nat → Nat → Prop := fun k j => (98 ≤ k ∧ k ≤ 135) ∨ k = 51 ∨ k = 59 ∨ (∃ n, n < 4 ∧ (k = 13 + 3 * n ∨ k = 27 + 3 * n))
def Twk : Nat → Nat → Prop := fun k j => k = 183 ∨ k = 184 ∨ k = 187 ∨ (190 ≤ k ∧ k ≤ 194) ∨ k = 196 ∨ (k = 174 ∧ (j = 34 ∨ j = 37 ∨ j = 38 ∨ j = 39 ∨ j = 43 ∨ j = 1000027))
theorem Wk.ch {nl nw nd p tb : Nat} {vc vm wc wm : rV} (h : Wk nl nw nd p tb vc vm) (hc : Ch Swk vc wc) (hm : Ch Twk vm wm) (hf : ∃ ρ, RF 98 wc ρ) : Wk nl nw nd p tb wc wm := by
  obtain ⟨hE, hI, hL⟩ := h
  have s : ∀ k j, ¬ ((98 ≤ k ∧ k ≤ 135) ∨ k = 51 ∨ k = 59 ∨ (∃ n, n < 4 ∧ (k = 13 + 3 * n ∨ k = 27 + 3 * n))) → ¬ Swk k j := fun k j q z => by
    unfold Swk at z
    rcases z with z | z | z | z
    · omega
    · omega
    · omega
    · exact q (Or.inr (Or.inr (Or.inr z)))
  have s6 : ∀ k j, 60 ≤ k → ¬ (98 ≤ k ∧ k ≤ 135) → ¬ Swk k j := fun k j h1 h2 => s k j fun z => by
    rcases z with z | z | z | ⟨n, z1, z2⟩
    · exact h2 z
    · omega
    · omega
    · omega
  have t : ∀ k j, ¬ (k = 183 ∨ k = 184 ∨ k = 187 ∨ (190 ≤ k ∧ k ≤ 194) ∨ k = 196 ∨ (k = 174 ∧ (j = 34 ∨ j = 37 ∨ j = 38 ∨ j = 39 ∨ j = 43 ∨ j = 1000027))) → ¬ Twk k j := fun k j q z => q z
  obtain ⟨σ, hσ⟩ := hE.2.2.2.2.2.2.2.2
  exact ⟨hE.ch2 hc hm (fun k j h1 h2 h3 h4 => s k j fun z => by
    rcases z with z | z | z | z
    · omega
    · exact h3 z
    · exact h4 z
    · exact h2 z) (fun k j h1 h2 => s6 _ _ (by omega) (by omega)) ⟨hf, σ, hσ.ch hc fun i _ => s6 _ _ (by omega) (by omega)⟩ (fun j hj => t _ _ (by omega)) (fun k j h1 h2 => t _ _ (by omega)) (fun j => ⟨t _ _ (by omega), t _ _ (by omega), t _ _ (by omega), t _ _ (by omega)⟩), hI.ch hc hm (fun k j h1 h2 => s6 _ _ (by omega) (by omega)) (fun j _ => t _ _ (by omega)) (t _ _ (by omega)) (fun j _ => t _ _ (by omega)), hL.ch hc hm (s6 _ _ (by omega) (by omega)) (t _ _ (by omega)) (t _ _ (by omega))⟩
/-- an answer found at work, the strip taken back -/
theorem work_end {α : Type} {nl nw nd p tb : Nat} {vc0 vm0 vc vm : rV} {r : α} (h : Wk nl nw nd p tb vc vm) (hc : Ch Swk vc0 vc) (hm : Ch Cm vm0 vm) : Agree tb vc0 vm0 (some (r, vc)) ((f_X8_takeBack vm).bind fun w => some (r, w)) := by
  obtain ⟨wm, g1, g2, g3⟩ := taken_go h
  rw [g1, Option.bind_some]
  refine ⟨r, vc, wm, rfl, rfl, g2, hc.mono fun k j q => ?_, hm.tr (g3.mono fun k j q => by unfold Cm; omega)⟩
  unfold Swk at q
  unfold Cc
  rcases q with q | q | q | ⟨n, q1, q2⟩ <;> omega
