/-! A STRIP COPIED ONTO ANOTHER -/
theorem rCp_1 (v : rV) (k k0 n a b : Nat) : (rCp v k k0 0 0 n).1 a b = if a = k ∧ b < n then v.1 k0 b else v.1 a b := by
  show (if a = k then va_cpy (v.1 k0) (v.1 k) 0 0 n b else v.1 a b) = _
  unfold va_cpy
  by_cases h : a = k
  · subst h
    by_cases q : b < n
    · rw [if_pos rfl, if_pos (by omega), if_pos ⟨rfl, q⟩, Nat.zero_add, Nat.sub_zero]
    · rw [if_pos rfl, if_neg (by omega), if_neg (fun z => q z.2)]
  · rw [if_neg h, if_neg (fun z => h z.1)]
theorem Ch.cp {S : Nat → Nat → Prop} {v w : rV} {k k0 n : Nat} (h : Ch S v w) (q : ∀ j, j < n → S k j) : Ch S v (rCp w k k0 0 0 n) := ⟨fun a b z => by
  rw [rCp_1, if_neg (fun y => z (by rw [y.1]; exact q b y.2))]
  exact h.1 a b z, h.2.1, h.2.2⟩
def cpl (D B : Nat) (v : rV) : List (Nat × Nat) → rV
  | [] => v
  | q :: t => cpl D B (rCp v (D + q.1) (B + q.1) 0 0 q.2) t
theorem cpl_no {D B : Nat} (l : List (Nat × Nat)) : ∀ {v : rV} {a b : Nat}, (∀ q, q ∈ l → a ≠ D + q.1) → (cpl D B v l).1 a b = v.1 a b := by
  induction l with
  | nil => intro v a b h; rfl
  | cons q t ih =>
    intro v a b h
    simp only [cpl]
    rw [ih fun q hq => h q (List.mem_cons_of_mem _ hq), rCp_1, if_neg fun z => h q (List.mem_cons_self ..) z.1]
theorem cpl_at {D B : Nat} (hDB : D + 38 ≤ B ∨ B + 38 ≤ D) (l : List (Nat × Nat)) : ∀ {v : rV} {r n j : Nat}, (r, n) ∈ l → (l.map Prod.fst).Nodup → (∀ q, q ∈ l → q.1 ≤ 37) → j < n → (cpl D B v l).1 (D + r) j = v.1 (B + r) j := by
  induction l with
  | nil => intro v r n j h; cases h
  | cons q t ih =>
    intro v r n j h hn hl hj
    simp only [cpl]
    rw [List.map_cons, List.nodup_cons] at hn
    rcases List.mem_cons.mp h with h | h
    · subst h
      rw [cpl_no t (fun q hq z => hn.1 (by
        have e : q.1 = r := by omega
        have h9 := List.mem_map_of_mem (f := Prod.fst) hq
        rw [e] at h9
        exact h9)), rCp_1, if_pos ⟨rfl, hj⟩]
    · have h1 := hl q (List.mem_cons_self ..)
      have h2 := hl _ (List.mem_cons_of_mem _ h)
      rw [ih h hn.2 (fun q hq => hl q (List.mem_cons_of_mem _ hq)) hj, rCp_1, if_neg (fun z => by have := z.1; simp only at h2; omega)]
theorem cpl_ch {D B : Nat} {S : Nat → Nat → Prop} (l : List (Nat × Nat)) : ∀ {v : rV}, (∀ q j, q ∈ l → j < q.2 → S (D + q.1) j) → Ch S v (cpl D B v l) := by
  induction l with
  | nil => intro v h; exact Ch.rf
  | cons q t ih =>
    intro v h
    simp only [cpl]
    exact (Ch.rf.cp fun j hj => h q j (List.mem_cons_self ..) hj).tr (ih fun q j hq hj => h q j (List.mem_cons_of_mem _ hq) hj)
def cpr : List (Nat × Nat) := [(1, 24), (10, 24), (11, 24), (12, 120), (5, 24), (8, 24), (6, 24), (9, 24)]
theorem c62a {n : Nat} {w : rV} {D B : Nat} : f_X5_copy_62 (n + 1) w D B (nI 0) = f_X5_copy_62 n (rCp (rCp w (D + 5) (B + 5) 0 0 24) (D + 8) (B + 8) 0 0 24) D B (nI 1) := by
  rw [f_X5_copy_62, if_neg (show ¬ (2 : Int32) ≤ nI 0 from nle (a := 2) (by omega) (by omega)), if_pos (gin (show 0 < 2 by omega) (by omega)), niCl (by omega)]
  simp only [vlet_eq, ad1]
theorem c62b {n : Nat} {w : rV} {D B : Nat} : f_X5_copy_62 (n + 1) w D B (nI 1) = f_X5_copy_62 n (rCp (rCp w (D + 5 + 1) (B + 5 + 1) 0 0 24) (D + 8 + 1) (B + 8 + 1) 0 0 24) D B (nI 2) := by
  rw [f_X5_copy_62, if_neg (show ¬ (2 : Int32) ≤ nI 1 from nle (a := 2) (by omega) (by omega)), if_pos (gin (show 1 < 2 by omega) (by omega)), niCl (by omega)]
  simp only [vlet_eq, ad1]
theorem c62c {n : Nat} {w : rV} {D B : Nat} : f_X5_copy_62 (n + 1) w D B (nI 2) = f_X5_copy_113 20000 w D B 0 := by
  rw [f_X5_copy_62, if_pos (show (2 : Int32) ≤ nI 2 from ple (a := 2) (by omega) (by omega))]
theorem c62d {n : Nat} {w : rV} {D B : Nat} : f_X5_copy_62 (n + 3) w D B 0 = f_X5_copy_113 20000 (rCp (rCp (rCp (rCp w (D + 5) (B + 5) 0 0 24) (D + 8) (B + 8) 0 0 24) (D + 6) (B + 6) 0 0 24) (D + 9) (B + 9) 0 0 24) D B 0 := by
  have h := c62a (n := n + 2) (w := w) (D := D) (B := B)
  rw [c62b (n := n + 1), c62c] at h
  exact h
theorem copy_62 {v : rV} {D B : Nat} : ∃ n, 19000 < n ∧ f_X5_copy v D B = f_X5_copy_113 n (cpl D B v cpr) D B 0 := by
  refine ⟨20000, by omega, ?_⟩
  unfold f_X5_copy
  rw [vlet_eq, vlet_eq, vlet_eq, vlet_eq]
  obtain ⟨n, en⟩ : ∃ n, 20000 = n + 3 := ⟨19997, rfl⟩
  have h := fun w => c62d (n := n) (w := w) (D := D) (B := B)
  rw [← en] at h
  rw [h]
  simp only [cpl, cpr]
/-- one body copied -/
theorem cb_go {w : rV} {a b : Nat} (hab : a ≠ b ∧ a + 1 ≠ b ∧ a ≠ b + 1 ∧ a + 1 ≠ b + 1) : ∃ w', f_X0_copy w a b = some w' ∧ (∀ j, 1 ≤ j → j ≤ 4 → w'.1 a j = w.1 b j) ∧ (∀ j, j < 12 → w'.1 (a + 1) j = w.1 (b + 1) j) ∧ Ch (fun k j => (k = a ∧ 1 ≤ j ∧ j ≤ 4) ∨ (k = a + 1 ∧ j < 12)) w w' := by
  refine ⟨_, rfl, ?_, ?_, ?_⟩
  · intro j h1 h2
    simp only [vlet_eq, rI_1, rCp_1]
    have hj : j = 1 ∨ j = 2 ∨ j = 3 ∨ j = 4 := by omega
    rcases hj with rfl | rfl | rfl | rfl <;> simp [hab.1, hab.2.1, hab.1.symm, hab.2.2.1.symm, Ne.symm hab.2.1]
  · intro j hj
    simp only [vlet_eq, rI_1, rCp_1]
    simp [hj]
  · exact (((((Ch.rf.cp fun j hj => Or.inr ⟨rfl, hj⟩).I (Or.inl ⟨rfl, by omega, by omega⟩)).I (Or.inl ⟨rfl, by omega, by omega⟩)).I (Or.inl ⟨rfl, by omega, by omega⟩)).I (Or.inl ⟨rfl, by omega, by omega⟩))
theorem cbs_go {D B N : Nat} {σ ρ : Nat → Nat} (hD : isStrip D = true) (hB : isStrip B = true) (hDB : D + 38 ≤ B ∨ B + 38 ≤ D) (hN : N ≤ 12) : ∀ (d i n : Nat) (w : rV), i + d = N → d < n → RF D w σ → RF B w ρ → w.1 B 10 = nI N → ∃ w', f_X5_copy_113 n w D B (nI i) = f_X5_copy_151 w' D B ∧ (∀ s, i ≤ s → s < N → (∀ j, 1 ≤ j → j ≤ 4 → w'.1 (σ s) j = w.1 (ρ s) j) ∧ (∀ j, j < 12 → w'.1 (σ s + 1) j = w.1 (ρ s + 1) j)) ∧ Ch (fun k j => (∃ s, i ≤ s ∧ s < N ∧ (k = σ s ∨ k = σ s + 1)) ∧ j < 12) w w' := by
  have bd : ∀ {X : Nat}, isStrip X = true → ∀ q, q < 12 → isBody (X + 14 + 2 * q) = true := fun h => is_mem (p := fun X => ∀ q, q < 12 → isBody (X + 14 + 2 * q) = true) h (by decide)
  intro d
  induction d with
  | zero =>
    intro i n w e hn hσ hρ h10
    obtain ⟨n, rfl⟩ : ∃ n', n = n' + 1 := ⟨n - 1, by omega⟩
    rw [f_X5_copy_113, h10, if_pos (ple (by omega) (by omega))]
    exact ⟨w, rfl, fun s h1 h2 => by omega, Ch.rf⟩
  | succ d ih =>
    intro i n w e hn hσ hρ h10
    obtain ⟨n, rfl⟩ : ∃ n', n = n' + 1 := ⟨n - 1, by omega⟩
    obtain ⟨s1, ⟨q, hq, s2⟩, s3⟩ := hσ i (by omega)
    obtain ⟨r1, ⟨p, hp, r2⟩, r3⟩ := hρ i (by omega)
    obtain ⟨w', g1, g2, g3, g4⟩ := cb_go (w := w) (a := σ i) (b := ρ i) (by omega)
    rw [f_X5_copy_113, h10, if_neg (nle (by omega) (by omega)), if_neg (show ¬ (12 : Int32) ≤ nI i from nle (a := 12) (by omega) (by omega)), if_pos (gin (show i < 12 by omega) (by omega)), niCl (by omega), s1, Option.bind_some, if_pos (by rw [s2]; exact bd hD q hq), r1, Option.bind_some, if_pos (by rw [r2]; exact bd hB p hp), g1, Option.bind_some, vlet_eq, ad1]
    have nS : ∀ k j, (k ≠ σ i ∧ k ≠ σ i + 1) ∨ 12 ≤ j → ¬ ((k = σ i ∧ 1 ≤ j ∧ j ≤ 4) ∨ (k = σ i + 1 ∧ j < 12)) := fun k j h z => by omega
    obtain ⟨u, k1, k2, k3⟩ := ih (i + 1) n w' (by omega) (by omega) (hσ.ch g4 fun i _ => nS _ _ (Or.inr (by omega))) (hρ.ch g4 fun i _ => nS _ _ (Or.inr (by omega))) (by rw [g4.1 _ _ (nS _ _ (Or.inl (by omega)))]; exact h10)
    refine ⟨u, k1, fun s h1 h2 => ?_, (g4.mono fun k j z => ⟨⟨i, by omega, by omega, by omega⟩, by omega⟩).tr (k3.mono fun k j ⟨⟨s, z1, z2, z3⟩, z4⟩ => ⟨⟨s, by omega, z2, z3⟩, z4⟩)⟩
    obtain ⟨-, ⟨q', hq', s2'⟩, s3'⟩ := hσ s (by omega)
    obtain ⟨-, ⟨p', hp', r2'⟩, -⟩ := hρ s (by omega)
    by_cases z : s = i
    · subst z
      have no : ∀ k j, k = σ s ∨ k = σ s + 1 → ¬ ((∃ t, s + 1 ≤ t ∧ t < N ∧ (k = σ t ∨ k = σ t + 1)) ∧ j < 12) := fun k j hk ⟨⟨t, t1, t2, t3⟩, _⟩ => by
        obtain ⟨-, ⟨q9, hq9, s9⟩, -⟩ := hσ t (by omega)
        have : σ s ≠ σ t := fun h => by have := s3 t (by omega) h; omega
        omega
      exact ⟨fun j j1 j2 => by rw [k3.1 _ _ (no _ _ (Or.inl rfl))]; exact g2 j j1 j2, fun j hj => by rw [k3.1 _ _ (no _ _ (Or.inr rfl))]; exact g3 j hj⟩
    · obtain ⟨y1, y2⟩ := k2 s (by omega) h2
      exact ⟨fun j j1 j2 => by rw [y1 j j1 j2, g4.1 _ _ (nS _ _ (Or.inl (by omega)))], fun j hj => by rw [y2 j hj, g4.1 _ _ (nS _ _ (Or.inl (by omega)))]⟩
theorem strip_sep {D B : Nat} (hD : isStrip D = true) (hB : isStrip B = true) (h : D ≠ B) : D + 38 ≤ B ∨ B + 38 ≤ D := by
  have a := is_mem (p := fun k => k = 60 ∨ k = 98 ∨ k = 136) hD (by decide)
  have b := is_mem (p := fun k => k = 60 ∨ k = 98 ∨ k = 136) hB (by decide)
  omega
theorem copyAll_go {M B D tb : Nat} {vc vm : rV} {σ : Nat → Nat} (hD : isStrip D = true) (hB : isStrip B = true) (hne : D ≠ B) (h : ST M B tb vc vm) (hσ : RF D vc σ) (hlaw : vc.2.2 B 13 = none ∨ ∃ kf, isForm kf = true ∧ vc.2.2 B 13 = some kf) :
    ∃ wc, f_X5_copy vc D B = some wc ∧ ST M D tb wc vm ∧ wc.2.2 D 13 = vc.2.2 B 13 ∧ Ch (Sall D) vc wc ∧ wc.1 D 15 = vc.1 B 15 := by
  have hDB := strip_sep hD hB hne
  obtain ⟨ρ, L, t, S0, S1, a0, ⟨hR, hl, hρ, hC, hA, hO⟩, ⟨n1, n2, hM⟩, ⟨F, R8, R9, R10, R11, R1⟩, ⟨hAA, hrow⟩, ⟨u1, u2, u3, u4, u5, u6, u7⟩, ⟨b1, b2, b3⟩⟩ := h
  obtain ⟨n, hn, e1⟩ := copy_62 (v := vc) (D := D) (B := B)
  have hr37 : ∀ q, q ∈ cpr → q.1 ≤ 12 ∧ 1 ≤ q.1 ∧ q.2 ≤ 120 := by decide
  have c1 : Ch (fun k j => D + 1 ≤ k ∧ k ≤ D + 12 ∧ j < 120) vc (cpl D B vc cpr) := cpl_ch cpr fun q j hq hj => by have := hr37 q hq; exact ⟨by omega, by omega, by omega⟩
  have at1 : ∀ {r n j}, (r, n) ∈ cpr → j < n → (cpl D B vc cpr).1 (D + r) j = vc.1 (B + r) j := fun hq hj => cpl_at hDB cpr hq (by decide) (fun q hq => by have := hr37 q hq; omega) hj
  obtain ⟨v1, ev1⟩ : ∃ v1, v1 = cpl D B vc cpr := ⟨_, rfl⟩
  rw [← ev1] at c1 at1 e1
  obtain ⟨v2, e2, g2, c2⟩ := cbs_go hD hB hDB hl L.length 0 n v1 (by omega) (by omega) (hσ.ch c1 fun i _ => by omega) (hR.ch c1 fun i _ => by omega) (by rw [c1.1 _ _ (by omega)]; exact n1)
  rw [e1, show f_X5_copy_113 n v1 D B 0 = _ from e2]
  have c2' : Ch (fun k j => D + 14 ≤ k ∧ k ≤ D + 37 ∧ j < 12) v1 v2 := c2.mono fun k j ⟨⟨s, _, z2, z3⟩, z4⟩ => by
    obtain ⟨-, ⟨q, hq, s2⟩, -⟩ := hσ s (by omega)
    omega
  have c12 : Ch (fun k j => (D + 1 ≤ k ∧ k ≤ D + 12 ∧ j < 120) ∨ (D + 14 ≤ k ∧ k ≤ D + 37 ∧ j < 12)) vc v2 := (c1.mono fun k j q => Or.inl q).tr (c2'.mono fun k j q => Or.inr q)
  obtain ⟨lr, elr⟩ : ∃ lr, lr = vc.2.2 B 13 := ⟨_, rfl⟩
  have hv2 : v2.2.2 B 13 = lr := by rw [c12.2.2 _ _ (by omega), elr]
  obtain ⟨v3, ev3⟩ : ∃ v3, v3 = rI (rI (rI v2 D 10 (v2.1 B 10)) D 11 (v2.1 B 11)) D 12 (v2.1 B 12) := ⟨_, rfl⟩
  have hv3 : v3.2.2 B 13 = lr := by rw [ev3]; exact hv2
  have dB : D ≠ B := hne
  have dB' : B ≠ D := hne.symm
  have key : ∃ wc, f_X5_copy_151 v2 D B = some wc ∧ (∀ j, 10 ≤ j → j ≤ 19 → j ≠ 13 → j ≠ 14 → wc.1 D j = v2.1 B j) ∧ wc.2.2 D 13 = lr ∧ wc.2.1 D 14 = v2.2.1 B 14 ∧ Ch (fun k j => k = D ∧ (10 ≤ j ∧ j ≤ 19 ∨ j = 2000013 ∨ j = 1000014)) v2 wc := by
    have fin : ∀ w : rV, w = rI (rI (rI (rI (rI (rL (rR v3 D 13 lr) D 14 (v2.2.1 B 14)) D 15 (v2.1 B 15)) D 16 (v2.1 B 16)) D 17 (v2.1 B 17)) D 18 (v2.1 B 18)) D 19 (v2.1 B 19) → (∀ j, 10 ≤ j → j ≤ 19 → j ≠ 13 → j ≠ 14 → w.1 D j = v2.1 B j) ∧ w.2.2 D 13 = lr ∧ w.2.1 D 14 = v2.2.1 B 14 ∧ Ch (fun k j => k = D ∧ (10 ≤ j ∧ j ≤ 19 ∨ j = 2000013 ∨ j = 1000014)) v2 w := fun w hw => by
      refine ⟨fun j h1 h2 h3 h4 => ?_, ?_, ?_, ?_⟩
      · have hj : j = 10 ∨ j = 11 ∨ j = 12 ∨ j = 15 ∨ j = 16 ∨ j = 17 ∨ j = 18 ∨ j = 19 := by omega
        rw [hw, ev3]
        rcases hj with rfl | rfl | rfl | rfl | rfl | rfl | rfl | rfl <;> simp [rI, rL, rR]
      · rw [hw]; simp [rI, rL, rR]
      · rw [hw]; simp [rI, rL, rR]
      · rw [hw, ev3]
        exact ((((((((Ch.rf.I ⟨rfl, by omega⟩).I ⟨rfl, by omega⟩).I ⟨rfl, by omega⟩).R ⟨rfl, by omega⟩).L ⟨rfl, by omega⟩).I ⟨rfl, by omega⟩).I ⟨rfl, by omega⟩).I ⟨rfl, by omega⟩).I ⟨rfl, by omega⟩ |>.I ⟨rfl, by omega⟩
    have fl : ∀ j, v3.1 B j = v2.1 B j := fun j => by rw [ev3, rI_no (fun q => dB' q.1), rI_no (fun q => dB' q.1), rI_no (fun q => dB' q.1)]
    have f14 : v3.2.1 B 14 = v2.2.1 B 14 := by rw [ev3]; rfl
    have g1 : ∀ (w : rV) (k j : Nat) (x : Int32), k = D → (rI w k j x).1 B = w.1 B := fun w k j x hk => by
      funext i
      exact rI_no fun q => dB' (by rw [q.1, hk])
    have g2 : ∀ (w : rV) (j : Nat) (x : Int64), (rL w D j x).1 = w.1 := fun w j x => rfl
    have g3 : ∀ (w : rV) (j : Nat) (x : Option Nat), (rR w D j x).1 = w.1 := fun w j x => rfl
    have g4 : ∀ (w : rV) (j : Nat) (x : Option Nat), (rR w D j x).2.1 = w.2.1 := fun w j x => rfl
    unfold f_X5_copy_151
    rw [vlet_eq, vlet_eq, vlet_eq]
    simp only [g1 _ D _ _ rfl]
    rw [← ev3, hv3]
    have hlr : lr = none ∨ ∃ kf, isForm kf = true ∧ lr = some kf := by rw [elr]; exact hlaw
    have fl' : v3.1 B = v2.1 B := funext fl
    rcases hlr with hl0 | ⟨kf, hf, hl0⟩
    · rw [hl0] at fin ⊢
      refine ⟨_, rfl, fin _ ?_⟩
      simp only [vlet_eq, g1 _ D _ _ rfl, g2, g3, g4, fl', f14]
    · rw [hl0] at fin ⊢
      simp only [if_pos hf]
      refine ⟨_, rfl, fin _ ?_⟩
      simp only [vlet_eq, g1 _ D _ _ rfl, g2, g3, g4, fl', f14]
  obtain ⟨wc, k1, k2, k3, k4, k5⟩ := key
  have c3 : Ch (Sall D) vc wc := (c12.mono fun k j q => by unfold Sall; omega).tr (k5.mono fun k j q => by unfold Sall; omega)
  -- what stands in the copy
  have row : ∀ {r n j}, (r, n) ∈ cpr → j < n → wc.1 (D + r) j = vc.1 (B + r) j := fun {r n j} hq hj => by
    have := hr37 _ hq
    simp only at this
    rw [k5.1 _ _ (by omega), c2'.1 _ _ (by omega)]
    exact at1 hq hj
  have sc : ∀ j, 10 ≤ j → j ≤ 19 → j ≠ 13 → j ≠ 14 → wc.1 D j = vc.1 B j := fun j h1 h2 h3 h4 => by rw [k2 j h1 h2 h3 h4, c12.1 _ _ (by omega)]
  have lg : wc.2.1 D 14 = vc.2.1 B 14 := by rw [k4, c12.2.1 _ _ (by omega)]
  refine ⟨wc, k1, ?_, by rw [k3, elr], c3, sc 15 (by omega) (by omega) (by omega) (by omega)⟩
  have bodies : ∀ s, s < L.length → (∀ j, 1 ≤ j → j ≤ 4 → wc.1 (σ s) j = vc.1 (ρ s) j) ∧ (∀ j, j < 12 → wc.1 (σ s + 1) j = vc.1 (ρ s + 1) j) := fun s hs => by
    obtain ⟨-, ⟨q, hq, s2⟩, -⟩ := hσ s (by omega)
    obtain ⟨-, ⟨p, hp, r2⟩, -⟩ := hR s (by omega)
    obtain ⟨y1, y2⟩ := g2 s (by omega) hs
    exact ⟨fun j h1 h2 => by rw [k5.1 _ _ (by omega), y1 j h1 h2, c1.1 _ _ (by omega)], fun j hj => by rw [k5.1 _ _ (by omega), y2 j hj, c1.1 _ _ (by omega)]⟩
  obtain ⟨L', eL⟩ : ∃ L' : List En, L' = L.mapIdx (fun s e => (σ s, e.2)) := ⟨_, rfl⟩
  have gL : ∀ (s : Nat) e', L'[s]? = some e' → ∃ e, L[s]? = some e ∧ e' = (σ s, e.2) := fun s e' he => by
    rw [eL, List.getElem?_mapIdx] at he
    cases h : L[s]? with
    | none => rw [h] at he; cases he
    | some e => rw [h] at he; exact ⟨e, rfl, by cases he; rfl⟩
  have lL : L'.length = L.length := by rw [eL, List.length_mapIdx]
  have cen : ∀ (s : Nat) e, L[s]? = some e → CEn D wc vm (σ s, e.2) := fun s e he => by
    have hs := (List.getElem?_eq_some_iff.mp he).1
    obtain ⟨⟨x1, x2⟩, ⟨o1, o2, o3, -⟩, hm, htd, har, hA9⟩ := hC e (List.mem_of_getElem? he)
    obtain ⟨y1, y2⟩ := bodies s hs
    have hr := hρ s e he
    obtain ⟨-, ⟨q, hq, s2⟩, -⟩ := hσ s (by omega)
    rw [hr] at y1 y2
    exact ⟨⟨(y1 2 (by omega) (by omega)).trans x1, (y1 3 (by omega) (by omega)).trans x2⟩, ⟨o1, o2, o3, q, hq, s2⟩, fun j h1 h2 => (y2 j h2).trans (hm j h1 h2), htd, har, hA9⟩
  have btr : ∀ j o, (j = 11 ∨ j = 12) → BT (vc.1 B j) vm o → BT (wc.1 D j) vm o := fun j o hj h => by
    rw [sc j (by omega) (by omega) (by omega) (by omega)]; exact h
  refine ⟨σ, L', t, S0, S1, a0, ⟨hσ.ch c3 fun i _ => by unfold Sall; omega, by omega, fun s e' he => ?_, fun e' he => ?_, ?_, fun e' he => ?_⟩, ⟨by rw [sc 10 (by omega) (by omega) (by omega) (by omega), lL]; exact n1, by rw [lL]; exact n2, fun s e' he => ?_⟩, ⟨⟨fun c hc => by rw [row (r := 5) (n := 24) (by decide) hc]; exact F.1 c hc, fun c hc => by rw [row (r := 6) (n := 24) (by decide) hc]; exact F.2 c hc⟩, fun c hc => by rw [row (r := 8) (n := 24) (by decide) hc]; exact R8 c hc, fun c hc => by rw [row (r := 9) (n := 24) (by decide) hc]; exact R9 c hc, fun c hc => by rw [row (r := 10) (n := 24) (by decide) hc]; exact R10 c hc, fun c hc => by rw [row (r := 11) (n := 24) (by decide) hc]; exact R11 c hc, fun c hc => by rw [row (r := 1) (n := 24) (by decide) hc]; exact R1 c hc⟩, ⟨hAA, hrow⟩, ⟨?_, u2, ?_, ?_, ?_, ?_, ?_⟩, ⟨btr 11 _ (Or.inl rfl) b1, btr 12 _ (Or.inr rfl) b2, fun s z1 z2 => by rw [row (r := 12) (n := 120) (by decide) z1]; exact b3 s z1 z2⟩⟩
  · obtain ⟨e, h1, rfl⟩ := gL s e' he
    rfl
  · obtain ⟨s, hs⟩ := List.mem_iff_getElem?.mp he
    obtain ⟨e, h1, rfl⟩ := gL s e' hs
    exact cen s e h1
  · rw [List.pairwise_iff_getElem] at hA ⊢
    intro i j hi hj hij
    obtain ⟨e, h1, z1⟩ := gL i _ (List.getElem?_eq_getElem hi)
    obtain ⟨f, h2, z2⟩ := gL j _ (List.getElem?_eq_getElem hj)
    have w1 := hA i j (by omega) (by omega) hij
    obtain ⟨p1, p2⟩ := List.getElem?_eq_some_iff.mp h1
    obtain ⟨q1, q2⟩ := List.getElem?_eq_some_iff.mp h2
    rw [p2, q2] at w1
    rw [z1, z2]
    exact ⟨w1.1, fun q => by have := (hσ i (by omega)).2.2 j (by omega) q; omega⟩
  · obtain ⟨s, hs⟩ := List.mem_iff_getElem?.mp he
    obtain ⟨e, h1, rfl⟩ := gL s e' hs
    exact hO e (List.mem_of_getElem? h1)
  · obtain ⟨e, h1, rfl⟩ := gL s e' he
    obtain ⟨y1, y2, y3, y4⟩ := hM s e h1
    refine ⟨y1, y2, y3, ?_⟩
    have := (bodies s (List.getElem?_eq_some_iff.mp h1).1).1 4 (by omega) (by omega)
    rw [hρ s e h1] at this
    exact this.trans y4
  · rw [sc 15 (by omega) (by omega) (by omega) (by omega)]; exact u1
  · rw [sc 16 (by omega) (by omega) (by omega) (by omega)]; exact u3
  · rw [sc 17 (by omega) (by omega) (by omega) (by omega)]; exact u4
  · rw [sc 18 (by omega) (by omega) (by omega) (by omega)]; exact u5
  · rw [sc 19 (by omega) (by omega) (by omega) (by omega)]; exact u6
  · rw [lg]; exact u7
