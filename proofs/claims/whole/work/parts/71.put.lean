/-! DROPS ARE PUT: the class's bodies from pieces -/
def Scl (B : Nat) : Nat → Nat → Prop := fun k j => ((k = B + 1 ∨ k = B + 5 ∨ k = B + 6 ∨ k = B + 8 ∨ k = B + 9 ∨ k = B + 10 ∨ k = B + 11) ∧ j < 24) ∨ (k = B ∧ (10 ≤ j ∧ j < 20 ∨ j = 1000014 ∨ j = 2000013))
theorem clr1 {q : rV → Nat → Nat → Int64 → Int32 → Option rV} {n B kf c s : Nat} {x : Int64} {vc : rV} (hs : s < 2) (hc : c < 24) : f_X5_clear_37 q (n + 1) vc B kf x (nI c) (nI s) = f_X5_clear_37 q n (rI (rI vc (B + 5 + s) c 0) (B + 8 + s) c 0) B kf x (nI c) (nI (s + 1)) := by
  rw [f_X5_clear_37, if_neg (show ¬ (2 : Int32) ≤ nI s from nle (a := 2) (by omega) (by omega)), if_pos (gin hs (by omega)), if_pos (gin hc (by omega)), niCl (by omega), niCl (by omega), vlet_eq, vlet_eq, vlet_eq, ad1]
theorem clr2 {q : rV → Nat → Nat → Int64 → Int32 → Option rV} {n B kf c : Nat} {x : Int64} {vc : rV} : f_X5_clear_37 q (n + 1) vc B kf x (nI c) (nI 2) = q vc B kf x (nI (c + 1)) := by
  rw [f_X5_clear_37, if_pos (show (2 : Int32) ≤ nI 2 from by decide), vlet_eq, ad1]
def clE (v : rV) (B kf : Nat) (x : Int64) : rV := rI (rI (rI (rI (rI (rL (rR (rI (rI (rI v B 10 0) B 11 0) B 12 0) B 13 (some kf)) B 14 x) B 15 0) B 16 0) B 17 0) B 18 0) B 19 0
theorem clr_go {B kf : Nat} {x : Int64} : ∀ (d c n : Nat) (vc : rV), c + d = 24 → d < n → ∃ w, f_X5_clear_3 n vc B kf x (nI c) = some (clE w B kf x) ∧ Ch (fun k j => (k = B + 1 ∨ k = B + 5 ∨ k = B + 6 ∨ k = B + 8 ∨ k = B + 9 ∨ k = B + 10 ∨ k = B + 11) ∧ j < 24) vc w ∧ (∀ k, (k = B + 1 ∨ k = B + 5 ∨ k = B + 6 ∨ k = B + 8 ∨ k = B + 9 ∨ k = B + 10 ∨ k = B + 11) → ∀ i, (c ≤ i → i < 24 → w.1 k i = 0) ∧ (i < c → w.1 k i = vc.1 k i)) := by
  intro d
  induction d with
  | zero =>
    intro c n vc h hn
    obtain ⟨n, rfl⟩ : ∃ n', n = n' + 1 := ⟨n - 1, by omega⟩
    refine ⟨vc, ?_, Ch.rf, fun k _ i => ⟨fun h1 h2 => by omega, fun _ => rfl⟩⟩
    rw [f_X5_clear_3, if_pos (show (24 : Int32) ≤ nI c from ple (a := 24) (by omega) (by omega))]
    simp only [vlet_eq]
    rfl
  | succ d ih =>
    intro c n vc h hn
    obtain ⟨n, rfl⟩ : ∃ n', n = n' + 1 := ⟨n - 1, by omega⟩
    obtain ⟨w1, e1⟩ : ∃ w, w = rI (rI (rI vc (B + 1) c 0) (B + 10) c 0) (B + 11) c 0 := ⟨_, rfl⟩
    obtain ⟨w2, e2⟩ : ∃ w, w = rI (rI w1 (B + 5) c 0) (B + 8) c 0 := ⟨_, rfl⟩
    obtain ⟨w3, e3⟩ : ∃ w, w = rI (rI w2 (B + 6) c 0) (B + 9) c 0 := ⟨_, rfl⟩
    have cw : Ch (fun k j => (k = B + 1 ∨ k = B + 5 ∨ k = B + 6 ∨ k = B + 8 ∨ k = B + 9 ∨ k = B + 10 ∨ k = B + 11) ∧ j = c) vc w3 := by
      rw [e3, e2, e1]
      exact ((((((Ch.rf.I ⟨by omega, rfl⟩).I ⟨by omega, rfl⟩).I ⟨by omega, rfl⟩).I ⟨by omega, rfl⟩).I ⟨by omega, rfl⟩).I ⟨by omega, rfl⟩).I ⟨by omega, rfl⟩
    have cz : ∀ k, (k = B + 1 ∨ k = B + 5 ∨ k = B + 6 ∨ k = B + 8 ∨ k = B + 9 ∨ k = B + 10 ∨ k = B + 11) → w3.1 k c = 0 := fun k hk => by
      rw [e3, e2, e1]
      simp only [rI_1]
      rcases hk with rfl | rfl | rfl | rfl | rfl | rfl | rfl <;> simp
    obtain ⟨w, g1, g2, g3⟩ := ih (c + 1) n w3 (by omega) (by omega)
    refine ⟨w, ?_, (cw.mono fun k j q => ⟨q.1, by omega⟩).tr (g2.mono fun k j q => ⟨q.1, by omega⟩), fun k hk i => ⟨fun h1 h2 => ?_, fun h1 => ?_⟩⟩
    · rw [f_X5_clear_3, if_neg (show ¬ (24 : Int32) ≤ nI c from nle (a := 24) (by omega) (by omega)), if_pos (gin (show c < 24 by omega) (by omega)), niCl (by omega), vlet_eq, vlet_eq, vlet_eq, ← e1]
      rw [show (0 : Int32) = nI 0 from rfl, clr1 (s := 0) (by omega) (by omega), clr1 (s := 1) (by omega) (by omega), clr2]
      rw [show rI (rI w1 (B + 5 + 0) c 0) (B + 8 + 0) c 0 = w2 from e2.symm, show rI (rI w2 (B + 5 + 1) c 0) (B + 8 + 1) c 0 = w3 from e3.symm]
      exact g1
    · by_cases q : i = c
      · rw [q, ((g3 k hk c).2 (by omega)), cz k hk]
      · exact (g3 k hk i).1 (by omega) h2
    · rw [(g3 k hk i).2 (by omega), cw.1 _ _ (by omega)]
theorem clear_go {B kf : Nat} {x : Int64} (vc : rV) : ∃ vc', f_X5_clear vc B kf x = some vc' ∧ Ch (Scl B) vc vc' ∧ (∀ k, (k = B + 1 ∨ k = B + 5 ∨ k = B + 6 ∨ k = B + 8 ∨ k = B + 9 ∨ k = B + 10 ∨ k = B + 11) → ∀ i, i < 24 → vc'.1 k i = 0) ∧ (∀ j, 10 ≤ j → j < 20 → j ≠ 13 → j ≠ 14 → vc'.1 B j = 0) ∧ vc'.2.2 B 13 = some kf ∧ vc'.2.1 B 14 = x := by
  obtain ⟨w, g1, g2, g3⟩ := clr_go (B := B) (kf := kf) (x := x) 24 0 20000 vc (by omega) (by omega)
  have ce : Ch (fun k j => k = B ∧ (10 ≤ j ∧ j < 20 ∨ j = 1000014 ∨ j = 2000013)) w (clE w B kf x) := by
    unfold clE
    exact (((((((((Ch.rf.I ⟨rfl, by omega⟩).I ⟨rfl, by omega⟩).I ⟨rfl, by omega⟩).R ⟨rfl, by omega⟩).L ⟨rfl, by omega⟩).I ⟨rfl, by omega⟩).I ⟨rfl, by omega⟩).I ⟨rfl, by omega⟩).I ⟨rfl, by omega⟩).I ⟨rfl, by omega⟩
  refine ⟨clE w B kf x, g1, (g2.mono fun k j q => Or.inl q).tr (ce.mono fun k j q => Or.inr q), fun k hk i hi => ?_, fun j h1 h2 h3 h4 => ?_, ?_, ?_⟩
  · rw [ce.1 _ _ (by omega)]
    exact (g3 k hk i).1 (by omega) hi
  · show (clE w B kf x).1 B j = 0
    have e : ∀ (v : rV) (k i : Nat) (y : Option Nat), (rR v k i y).1 = v.1 := fun _ _ _ _ => rfl
    have e' : ∀ (v : rV) (k i : Nat) (y : Int64), (rL v k i y).1 = v.1 := fun _ _ _ _ => rfl
    unfold clE
    simp only [rI_1, e, e']
    have : j = 10 ∨ j = 11 ∨ j = 12 ∨ j = 15 ∨ j = 16 ∨ j = 17 ∨ j = 18 ∨ j = 19 := by omega
    rcases this with rfl | rfl | rfl | rfl | rfl | rfl | rfl | rfl <;> simp
  · show (rR _ B 13 (some kf)).2.2 B 13 = _
    rw [rR_at]
  · show (rL _ B 14 x).2.1 B 14 = _
    rw [rL_at]
/-! pieces: first cell, width, the class's row, its number, the model's drop -/
abbrev Pz : Type := Nat × Nat × Nat × Nat × Nat
def tv (vm : rV) (d j : Nat) : Nat := (vm.1 185 (12 * d + j)).toInt.toNat
def ow : List Pz → Nat
  | [] => 100
  | p :: z => min p.2.2.2.2 (ow z)
def sW (vm : rV) (j : Nat) : List Pz → Nat
  | [] => 0
  | p :: z => tv vm p.2.2.2.2 j + sW vm j z
def fs : List Pz → Nat
  | [] => 0
  | p :: _ => p.1
def ls : List Pz → Nat
  | [] => 0
  | [p] => p.1 + p.2.1 - 1
  | _ :: q :: z => ls (q :: z)
def tch : List Pz → Prop
  | [] => True
  | [_] => True
  | p :: q :: z => p.1 + p.2.1 = q.1 ∧ tch (q :: z)
theorem ow_sn (z : List Pz) (p : Pz) : ow (z ++ [p]) = min (ow z) (min p.2.2.2.2 100) := by
  induction z with
  | nil => simp only [List.nil_append, ow]; omega
  | cons q z ih => simp only [List.cons_append, ow, ih]; omega
theorem ow_le (z : List Pz) : ow z ≤ 100 := by
  induction z with
  | nil => simp [ow]
  | cons q z ih => simp only [ow]; omega
theorem sW_sn (vm : rV) (j : Nat) (z : List Pz) (p : Pz) : sW vm j (z ++ [p]) = sW vm j z + tv vm p.2.2.2.2 j := by
  induction z with
  | nil => simp [sW]
  | cons q z ih => simp only [List.cons_append, sW, ih]; omega
theorem fs_sn {z : List Pz} (p : Pz) (h : z ≠ []) : fs (z ++ [p]) = fs z := by
  cases z with
  | nil => exact absurd rfl h
  | cons q z => rfl
theorem ls_sn (z : List Pz) (p : Pz) : ls (z ++ [p]) = p.1 + p.2.1 - 1 := by
  induction z with
  | nil => rfl
  | cons q z ih =>
    cases z with
    | nil => rfl
    | cons y z => exact ih
theorem tch_sn {z : List Pz} {p : Pz} (h : tch z) (hk : ∀ q, q ∈ z → 2 ≤ q.2.1) (e : z ≠ [] → ls z + 1 = p.1) : tch (z ++ [p]) := by
  induction z with
  | nil => trivial
  | cons q z ih =>
    cases z with
    | nil =>
      have := e (by simp)
      have := hk q (by simp)
      simp only [ls] at *
      exact ⟨by omega, trivial⟩
    | cons y z => exact ⟨h.1, ih h.2 (fun q hq => hk q (List.mem_cons_of_mem _ hq)) fun _ => e (by simp)⟩
theorem tv_eq {vm : rV} {d j : Nat} (h : TD vm 185 (12 * d)) (hj : j < 12) : vm.1 185 (12 * d + j) = nI (tv vm d j) ∧ tLo j ≤ tv vm d j ∧ tv vm d j ≤ tHi j := by
  obtain ⟨x, e, h1, h2⟩ := h j hj
  have hx : tHi j ≤ 999 := by
    have : ∀ j, j < 12 → tHi j ≤ 999 := by decide
    exact this j hj
  have : tv vm d j = x := by unfold tv; rw [e, niInt (by omega)]; rfl
  rw [this]
  exact ⟨e, h1, h2⟩
theorem sW_le {vm : rV} {j : Nat} (hj : j < 12) : ∀ z : List Pz, (∀ p, p ∈ z → TD vm 185 (12 * p.2.2.2.2)) → sW vm j z ≤ z.length * 999 := by
  intro z
  induction z with
  | nil => intro _; simp [sW]
  | cons p z ih =>
    intro h
    have hx : ∀ j, j < 12 → tHi j ≤ 999 := by decide
    have := (tv_eq (h p (by simp)) hj).2.2
    have := hx j hj
    have := ih fun q hq => h q (by simp [hq])
    simp only [sW, List.length_cons]
    omega
/-- a piece as both have it -/
def PD (B : Nat) (vc vm : rV) (p : Pz) : Prop := (p.2.2.1 < 60 ∧ ∀ j, j < 12 → vc.1 p.2.2.1 j = vm.1 185 (12 * p.2.2.2.2 + j)) ∧ TD vm 185 (12 * p.2.2.2.2) ∧ (p.2.2.2.2 < 13 ∧ 2 ≤ p.2.1 ∧ p.1 + p.2.1 ≤ 24 ∧ p.2.2.2.1 < 100) ∧ vm.1 185 (12 * p.2.2.2.2 + 1) = nI p.2.1
/-- a body that is put from a run of pieces -/
def BI (A : Bool) (vc vm : rV) (r : Nat) (z : List Pz) : Prop := z ≠ [] ∧ (A = true → vc.1 r 1 = nI (ow z)) ∧ (vc.1 r 2 = nI (fs z) ∧ vc.1 r 3 = nI (ls z) ∧ vc.1 r 4 = 0) ∧ (∀ j, 5 ≤ j → j < 12 → vc.1 (r + 1) j = vm.1 185 (12 * ow z + j)) ∧ (vc.1 (r + 1) 2 = nI (sW vm 2 z) ∧ vc.1 (r + 1) 3 = nI (sW vm 3 z) ∧ vc.1 (r + 1) 4 = nI (sW vm 4 z))
theorem BI.ch {S : Nat → Nat → Prop} {A : Bool} {vc wc vm : rV} {r : Nat} {z : List Pz} (h : BI A vc vm r z) (hc : Ch S vc wc) (s1 : ∀ j, j < 12 → ¬ S r j) (s2 : ∀ j, j < 12 → ¬ S (r + 1) j) : BI A wc vm r z := by
  obtain ⟨a, b, ⟨c1, c2, c3⟩, d, e1, e2, e3⟩ := h
  exact ⟨a, fun h9 => by rw [hc.1 _ _ (s1 1 (by omega))]; exact b h9, ⟨by rw [hc.1 _ _ (s1 2 (by omega))]; exact c1, by rw [hc.1 _ _ (s1 3 (by omega))]; exact c2, by rw [hc.1 _ _ (s1 4 (by omega))]; exact c3⟩, fun j h1 h2 => by rw [hc.1 _ _ (s2 j h2)]; exact d j h1 h2, by rw [hc.1 _ _ (s2 2 (by omega))]; exact e1, by rw [hc.1 _ _ (s2 3 (by omega))]; exact e2, by rw [hc.1 _ _ (s2 4 (by omega))]; exact e3⟩
def CI (B : Nat) (A : Bool) (vc vm : rV) (R : List (List Pz)) : Prop := ∃ ρ, RF B vc ρ ∧ vc.1 B 10 = nI R.length ∧ R.length ≤ 12 ∧ (∀ (i : Nat) z, R[i]? = some z → BI A vc vm (ρ i) z)
theorem rCp_at {v : rV} {k k0 n a b : Nat} : (rCp v k k0 0 0 n).1 a b = if a = k ∧ b < n then v.1 k0 b else v.1 a b := by
  show (if a = k then va_cpy (v.1 k0) (v.1 k) 0 0 n b else v.1 a b) = _
  by_cases h : a = k
  · subst h
    rw [if_pos rfl]
    unfold va_cpy
    by_cases q : b < n
    · rw [if_pos (by omega), if_pos ⟨rfl, q⟩, Nat.zero_add, Nat.sub_zero]
    · rw [if_neg (by omega), if_neg (fun z => q z.2)]
  · rw [if_neg h, if_neg (fun z => h z.1)]
theorem Ch.C {S : Nat → Nat → Prop} {v w : rV} (h : Ch S v w) {k k0 n : Nat} (q : ∀ j, j < n → S k j) : Ch S v (rCp w k k0 0 0 n) := ⟨fun a b m => by
  rw [rCp_at]
  by_cases e : a = k ∧ b < n
  · exact absurd (by rw [e.1]; exact q b e.2) m
  · rw [if_neg e]; exact h.1 a b m, h.2.1, h.2.2⟩
