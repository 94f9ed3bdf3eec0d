/-! IMAGE, BACK, TRIED -/
theorem img_go : ∀ (d i n : Nat) (v : rV), i + d = 416 → d < n → ∃ w, f_X8_image_2 n v (nI i) = some (w.1 187 289, rI (rL w 174 29 (w.2.1 174 27)) 174 30 1) ∧ (∀ j, i ≤ j → j < 416 → w.1 189 j = v.1 187 j) ∧ (∀ j, j < i → w.1 189 j = v.1 189 j) ∧ Ch (fun k j => k = 189 ∧ j < 416) v w := by
  intro d
  induction d with
  | zero =>
    intro i n v e hn
    obtain ⟨n, rfl⟩ : ∃ n', n = n' + 1 := ⟨n - 1, by omega⟩
    refine ⟨v, ?_, fun j h1 h2 => by omega, fun j _ => rfl, Ch.rf⟩
    rw [f_X8_image_2, if_pos (show (416 : Int32) ≤ nI i from ple (a := 416) (by omega) (by omega))]
    simp only [vlet_eq]
    rw [rI_no (by omega)]
    rfl
  | succ d ih =>
    intro i n v e hn
    obtain ⟨n, rfl⟩ : ∃ n', n = n' + 1 := ⟨n - 1, by omega⟩
    rw [f_X8_image_2, if_neg (show ¬ (416 : Int32) ≤ nI i from nle (a := 416) (by omega) (by omega)), if_pos (gin (show i < 416 by omega) (by omega)), niCl (by omega)]
    simp only [vlet_eq, ad1]
    obtain ⟨w, g1, g2, g3, g4⟩ := ih (i + 1) n (rI v 189 i (v.1 187 i)) (by omega) (by omega)
    refine ⟨w, g1, fun j h1 h2 => ?_, fun j hj => by rw [g3 j (by omega), rI_no (by omega)], (Ch.rf.I ⟨rfl, by omega⟩).tr g4⟩
    by_cases q : j = i
    · rw [q, g3 i (by omega), rI_at]
    · rw [g2 j (by omega) h2, rI_no (by omega)]
theorem bck_go : ∀ (d i n : Nat) (v : rV), i + d = 416 → d < n → ∃ w, f_X8_back_11 n v (nI i) = some (w.1 187 289, rL w 174 27 (w.2.1 174 29)) ∧ (∀ j, i ≤ j → j < 416 → w.1 187 j = v.1 189 j) ∧ (∀ j, j < i → w.1 187 j = v.1 187 j) ∧ Ch (fun k j => k = 187 ∧ j < 416) v w := by
  intro d
  induction d with
  | zero =>
    intro i n v e hn
    obtain ⟨n, rfl⟩ : ∃ n', n = n' + 1 := ⟨n - 1, by omega⟩
    refine ⟨v, ?_, fun j h1 h2 => by omega, fun j _ => rfl, Ch.rf⟩
    rw [f_X8_back_11, if_pos (show (416 : Int32) ≤ nI i from ple (a := 416) (by omega) (by omega))]
    simp only [vlet_eq]
    rfl
  | succ d ih =>
    intro i n v e hn
    obtain ⟨n, rfl⟩ : ∃ n', n = n' + 1 := ⟨n - 1, by omega⟩
    rw [f_X8_back_11, if_neg (show ¬ (416 : Int32) ≤ nI i from nle (a := 416) (by omega) (by omega)), if_pos (gin (show i < 416 by omega) (by omega)), niCl (by omega)]
    simp only [vlet_eq, ad1]
    obtain ⟨w, g1, g2, g3, g4⟩ := ih (i + 1) n (rI v 187 i (v.1 189 i)) (by omega) (by omega)
    refine ⟨w, g1, fun j h1 h2 => ?_, fun j hj => by rw [g3 j (by omega), rI_no (by omega)], (Ch.rf.I ⟨rfl, by omega⟩).tr g4⟩
    by_cases q : j = i
    · rw [q, g3 i (by omega), rI_at]
    · rw [g2 j (by omega) h2, rI_no (by omega)]
theorem asd_go : ∀ (d i n : Nat) (v : rV), i + d = 416 → d < n → ∃ w, f_X8_putAside_2 n v (nI i) = some (rL w 174 28 (w.2.1 174 27)) ∧ (∀ j, i ≤ j → j < 416 → w.1 188 j = v.1 187 j) ∧ (∀ j, j < i → w.1 188 j = v.1 188 j) ∧ Ch (fun k j => k = 188 ∧ j < 416) v w := by
  intro d
  induction d with
  | zero =>
    intro i n v e hn
    obtain ⟨n, rfl⟩ : ∃ n', n = n' + 1 := ⟨n - 1, by omega⟩
    refine ⟨v, ?_, fun j h1 h2 => by omega, fun j _ => rfl, Ch.rf⟩
    rw [f_X8_putAside_2, if_pos (show (416 : Int32) ≤ nI i from ple (a := 416) (by omega) (by omega))]
    simp only [vlet_eq]
  | succ d ih =>
    intro i n v e hn
    obtain ⟨n, rfl⟩ : ∃ n', n = n' + 1 := ⟨n - 1, by omega⟩
    rw [f_X8_putAside_2, if_neg (show ¬ (416 : Int32) ≤ nI i from nle (a := 416) (by omega) (by omega)), if_pos (gin (show i < 416 by omega) (by omega)), niCl (by omega)]
    simp only [vlet_eq, ad1]
    obtain ⟨w, g1, g2, g3, g4⟩ := ih (i + 1) n (rI v 188 i (v.1 187 i)) (by omega) (by omega)
    refine ⟨w, g1, fun j h1 h2 => ?_, fun j hj => by rw [g3 j (by omega), rI_no (by omega)], (Ch.rf.I ⟨rfl, by omega⟩).tr g4⟩
    by_cases q : j = i
    · rw [q, g3 i (by omega), rI_at]
    · rw [g2 j (by omega) h2, rI_no (by omega)]
theorem tkb_go : ∀ (d i n : Nat) (v : rV), i + d = 416 → d < n → ∃ w, f_X8_takeBack_2 n v (nI i) = some (rL w 174 27 (w.2.1 174 28)) ∧ (∀ j, i ≤ j → j < 416 → w.1 187 j = v.1 188 j) ∧ (∀ j, j < i → w.1 187 j = v.1 187 j) ∧ Ch (fun k j => k = 187 ∧ j < 416) v w := by
  intro d
  induction d with
  | zero =>
    intro i n v e hn
    obtain ⟨n, rfl⟩ : ∃ n', n = n' + 1 := ⟨n - 1, by omega⟩
    refine ⟨v, ?_, fun j h1 h2 => by omega, fun j _ => rfl, Ch.rf⟩
    rw [f_X8_takeBack_2, if_pos (show (416 : Int32) ≤ nI i from ple (a := 416) (by omega) (by omega))]
    simp only [vlet_eq]
  | succ d ih =>
    intro i n v e hn
    obtain ⟨n, rfl⟩ : ∃ n', n = n' + 1 := ⟨n - 1, by omega⟩
    rw [f_X8_takeBack_2, if_neg (show ¬ (416 : Int32) ≤ nI i from nle (a := 416) (by omega) (by omega)), if_pos (gin (show i < 416 by omega) (by omega)), niCl (by omega)]
    simp only [vlet_eq, ad1]
    obtain ⟨w, g1, g2, g3, g4⟩ := ih (i + 1) n (rI v 187 i (v.1 188 i)) (by omega) (by omega)
    refine ⟨w, g1, fun j h1 h2 => ?_, fun j hj => by rw [g3 j (by omega), rI_no (by omega)], (Ch.rf.I ⟨rfl, by omega⟩).tr g4⟩
    by_cases q : j = i
    · rw [q, g3 i (by omega), rI_at]
    · rw [g2 j (by omega) h2, rI_no (by omega)]
theorem LPq.law {B nl R : Nat} {vc vm : rV} (h : LPq B nl R vc vm) (h4 : nl ≤ 4) : vc.2.2 B 13 = none ∨ ∃ kf, isForm kf = true ∧ vc.2.2 B 13 = some kf := by
  have fm : ∀ n, n < 4 → isForm (11 + 3 * n) = true := by decide
  rcases h with ⟨a, b⟩ | ⟨n, h1, h2, h3, h4'⟩
  · exact Or.inl a
  · exact Or.inr ⟨_, fm n (by omega), h2⟩
theorem ST.rf {M B tb : Nat} {vc vm : rV} (h : ST M B tb vc vm) : ∃ ρ, RF B vc ρ := by
  obtain ⟨ρ, L, t, S0, S1, -, ⟨q, -⟩, -⟩ := h
  exact ⟨ρ, q⟩
theorem ST.told {M B tb : Nat} {vc vm : rV} (h : ST M B tb vc vm) : vc.1 B 15 = vm.1 187 289 := by
  obtain ⟨t, S0, S1, -, -, -, ⟨t1, t2, -⟩, -⟩ := h.parts
  rw [t1, t2]
/-- a strip copied over another keeps all but the image -/
theorem back_go {tb : Nat} {vc vm : rV} (h : Rel tb vc vm) : Agree tb vc vm (f_X7_back vc) (f_X8_back vm) := by
  obtain ⟨nl, nw, nd, p, hE, hS, hL⟩ := h
  have hR : Rel tb vc vm := ⟨nl, nw, nd, p, hE, hS, hL⟩
  unfold f_X7_back f_X8_back
  rcases hE.2.2.2.2.2.2.1 with ⟨i1, i2⟩ | ⟨i1, i2, ⟨v0, j1, j2, j3, j4⟩, i4⟩
  · rw [i1, i2, if_pos rfl, if_pos rfl]
    exact Agree.same hR
  · rw [i1, i2, if_neg (show ¬ (1 : Int32) = 0 by decide), if_neg (show ¬ (1 : Int32) = 0 by decide)]
    have l4 := hE.2.1.1
    obtain ⟨σ, hσ⟩ := hS.rf
    obtain ⟨wc, c1, c2, c3, c4, c5⟩ := copyAll_go (D := 60) (B := 136) (by decide) (by decide) (by decide) j1 hσ (i4.law l4)
    obtain ⟨w, m1, m2, m3, m4⟩ := bck_go 416 0 20000 vm (by omega) (by omega)
    rw [c1, Option.bind_some, show f_X8_back_11 20000 vm 0 = _ from m1]
    have hm : Ch Tlb vm (rL w 174 27 (w.2.1 174 29)) := (m4.mono fun k j q => by unfold Tlb; omega).L (by unfold Tlb; omega)
    have s : ∀ k j, ¬ (60 ≤ k ∧ k ≤ 60 + 37) → ¬ Sall 60 k j := fun k j q z => by have := sall_no z; omega
    have t : ∀ k j, ¬ (k = 187 ∨ (k = 174 ∧ j = 1000027)) → ¬ Tlb k j := fun k j q z => q (tlb_no z)
    have hE' := hE.ch c4 hm (fun k j hk _ _ _ => s _ _ (by omega)) (fun k j _ _ => s _ _ (by omega)) (fun i _ => s _ _ (by omega)) (fun j hj => t _ _ (by omega)) (fun k j _ _ => t _ _ (by omega)) (fun j => ⟨t _ _ (by omega), t _ _ (by omega), t _ _ (by omega), t _ _ (by omega)⟩)
    have row : ∀ j, j < 416 → (rL w 174 27 (w.2.1 174 29)).1 187 j = v0.1 187 j := fun j hj => (m2 j (by omega) hj).trans (j2 j hj).symm
    have hS' : ST nd 60 tb wc (rL w 174 27 (w.2.1 174 29)) := c2.ext Ch.no (fun _ _ _ _ q => q) row (by
      rw [j3]
      show (if 174 = 174 ∧ 27 = 27 then w.2.1 174 29 else w.2.1 174 27) = _
      rw [if_pos ⟨rfl, rfl⟩]
      exact m4.2.1 _ _ (by omega)) (fun j hj => by rw [j4 j hj]; exact m4.1 _ _ (by omega))
    refine ⟨_, _, _, rfl, ?_, ⟨nl, nw, nd, p, hE', hS', ?_⟩, c4.mono fun k j q => by have := sall_no q; unfold Cc; omega, hm.mono fun k j q => by have := tlb_no q; unfold Cm; omega⟩
    · have e := hS'.told
      have e2 : (rL w 174 27 (w.2.1 174 29)).1 187 289 = w.1 187 289 := rfl
      rw [e, e2]
    · rcases i4 with ⟨a1, a2⟩ | ⟨n, a1, a2, a3, a4⟩
      · exact Or.inl ⟨by rw [c3]; exact a1, (m2 295 (by omega) (by omega)).trans a2⟩
      · exact Or.inr ⟨n, a1, by rw [c3]; exact a2, (m2 294 (by omega) (by omega)).trans a3, (m2 295 (by omega) (by omega)).trans a4⟩
theorem image_go {tb : Nat} {vc vm : rV} (h : Rel tb vc vm) : Agree tb vc vm (f_X7_image vc) (f_X8_image vm) := by
  obtain ⟨nl, nw, nd, p, hE, hS, hL⟩ := h
  unfold f_X7_image f_X8_image
  obtain ⟨h1, h2, h3, h4, h5, h6, h7, ⟨⟨τ, hτ⟩, ⟨σ, hσ⟩⟩⟩ := hE
  have l4 := h2.1
  obtain ⟨wc, c1, c2, c3, c4, c5⟩ := copyAll_go (D := 136) (B := 60) (by decide) (by decide) (by decide) hS hσ (hL.law l4)
  obtain ⟨w, m1, m2, m3, m4⟩ := img_go 416 0 20000 vm (by omega) (by omega)
  rw [c1, Option.bind_some, vlet_eq, show f_X8_image_2 20000 vm 0 = _ from m1]
  obtain ⟨uc, euc⟩ : ∃ uc, uc = rI wc 0 16 1 := ⟨_, rfl⟩
  obtain ⟨um, eum⟩ : ∃ um, um = rI (rL w 174 29 (w.2.1 174 27)) 174 30 1 := ⟨_, rfl⟩
  rw [← euc, ← eum]
  have hc : Ch (fun k j => (136 ≤ k ∧ k ≤ 173 ∧ k ≠ 149) ∨ (k = 0 ∧ j = 16)) vc uc := by
    rw [euc]
    exact (c4.mono fun k j q => by have := sall_no q; omega).I (Or.inr ⟨rfl, rfl⟩)
  have hm : Ch (fun k j => (k = 189 ∧ j < 416) ∨ (k = 174 ∧ (j = 30 ∨ j = 1000029))) vm um := by
    rw [eum]
    exact ((m4.mono fun k j q => by omega).L (by omega)).I (by omega)
  have g : Ch (fun k j => k = 0 ∧ j = 16) wc uc := by rw [euc]; exact Ch.rf.I ⟨rfl, rfl⟩
  have hS' : ST nd 60 tb uc um := hS.ch hc hm (by omega) (by omega) (by omega) (by omega)
  have hI : ST nd 136 tb uc vm := c2.ext g (by omega) (fun _ _ => rfl) rfl (fun _ _ => rfl)
  have hL' : LPq 60 nl 187 uc um := hL.ch hc hm (by omega) (by omega) (by omega)
  refine ⟨_, _, _, rfl, ?_, ⟨nl, nw, nd, p, ⟨h1.ch hc hm (by omega) (by omega) (by omega) (by omega), h2.ch hc hm (by omega) (by omega) (by omega) (by omega), h3.ch hc hm (by omega) (by omega) (by omega) (by omega), h4.ch hc hm (by omega) (by omega) (by omega) (by omega) (by omega), h5.ch hc hm (by omega) (by omega) (by omega) (by omega), h6.ch hc hm (by omega) (by omega), Or.inr ⟨by rw [euc, rI_at], by rw [eum, rI_at], ⟨vm, hI, fun j hj => ?_, ?_, fun j hj => (hm.1 _ _ (by omega)).symm⟩, ?_⟩, ⟨τ, hτ.ch hc (by omega)⟩, hI.rf⟩, hS', hL'⟩, hc.mono fun k j q => by unfold Cc; omega, hm.mono fun k j q => by unfold Cm; omega⟩
  · have e := hS'.told
    rw [e]
    have : um.1 187 289 = w.1 187 289 := by rw [eum, rI_no (by omega)]; rfl
    rw [this]
  · rw [eum, rI_no (by omega)]
    exact (m2 j (by omega) hj).symm
  · rw [eum]
    show vm.2.1 174 27 = (if 174 = 174 ∧ 29 = 29 then w.2.1 174 27 else w.2.1 174 29)
    rw [if_pos ⟨rfl, rfl⟩]
    exact (m4.2.1 _ _ (by omega)).symm
  · have e13 : uc.2.2 136 13 = vc.2.2 60 13 := by rw [euc]; exact c3
    have er : ∀ j, j < 416 → um.1 189 j = vm.1 187 j := fun j hj => by
      rw [eum, rI_no (by omega)]
      exact m2 j (by omega) hj
    rcases hL with ⟨a1, a2⟩ | ⟨n, a1, a2, a3, a4⟩
    · exact Or.inl ⟨by rw [e13]; exact a1, by rw [er _ (by omega)]; exact a2⟩
    · exact Or.inr ⟨n, a1, by rw [e13]; exact a2, by rw [er _ (by omega)]; exact a3, by rw [er _ (by omega)]; exact a4⟩
