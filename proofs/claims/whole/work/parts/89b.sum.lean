/-! TEXTS: what a run of codes does to a stack, and atoms, terms, sums -/
def ck9 : List Bool → Option (List Bool)
  | true :: r => some (true :: r)
  | _ => none
def ckA (b : Bool) : List Bool → Option (List Bool)
  | false :: false :: r => some (b :: r)
  | _ => none
def ckB : List Bool → Option (List Bool)
  | true :: true :: r => some (true :: r)
  | _ => none
def ck1 (w : Nat) (x : Nat × Nat) (st : List Bool) : Option (List Bool) := if x.1 = 0 then (if x.2 < 10000 ∧ st.length < 32 then some (false :: st) else none) else if x.1 = 1 then (if x.2 < w ∧ st.length < 32 then some (false :: st) else none) else if x.1 = 9 then ck9 st else if x.1 ≤ 5 then ckA false st else if x.1 ≤ 8 then ckA true st else if x.1 ≤ 11 then ckB st else none
def ck (w : Nat) : List (Nat × Nat) → List Bool → Option (List Bool)
  | [], st => some st
  | x :: s, st => (ck1 w x st).bind (ck w s)
theorem ck_app (w : Nat) (s t : List (Nat × Nat)) (st : List Bool) : ck w (s ++ t) st = (ck w s st).bind (ck w t) := by
  induction s generalizing st with
  | nil => rfl
  | cons x s ih =>
    simp only [List.cons_append, ck]
    cases ck1 w x st with
    | none => rfl
    | some u =>
      rw [Option.bind_some, Option.bind_some]
      exact ih u
def Ty (w m : Nat) (pre post : List Bool) (s : List (Nat × Nat)) : Prop := ∀ st : List Bool, st.length + m ≤ 32 → ck w s (pre ++ st) = some (post ++ st)
theorem Ty.seq {w m : Nat} {p r t : List Bool} {s u : List (Nat × Nat)} (h : Ty w m p r s) (g : Ty w m r t u) : Ty w m p t (s ++ u) := fun st hst => by
  rw [ck_app, h st hst, Option.bind_some, g st hst]
theorem Ty.mono {w m m' : Nat} {p r : List Bool} {s : List (Nat × Nat)} (h : Ty w m p r s) (e : m ≤ m') : Ty w m' p r s := fun st hst => h st (by omega)
theorem Ty.push {w m : Nat} {p r : List Bool} {s : List (Nat × Nat)} (b : Bool) (h : Ty w m p r s) : Ty w (m + 1) (p ++ [b]) (r ++ [b]) s := fun st hst => by
  have := h (b :: st) (by simp only [List.length_cons]; omega)
  simpa using this
theorem Ty.nil {w m : Nat} {p : List Bool} : Ty w m p p [] := fun st _ => rfl
theorem ty_num {w m v : Nat} (hv : v < 10000) (hm : 1 ≤ m) : Ty w m [] [false] [(0, v)] := fun st hst => by
  simp only [ck, ck1, List.nil_append, if_true]
  rw [if_pos ⟨hv, by omega⟩]
  rfl
theorem ty_let {w m v : Nat} (hv : v < w) (hm : 1 ≤ m) : Ty w m [] [false] [(1, v)] := fun st hst => by
  simp only [ck, ck1, List.nil_append]
  rw [if_neg (by decide), if_pos trivial, if_pos ⟨hv, by omega⟩]
  rfl
theorem ty_ar {w m o : Nat} (h1 : 2 ≤ o) (h2 : o ≤ 5) : Ty w m [false, false] [false] [(o, 0)] := fun st _ => by
  simp only [ck, ck1]
  rw [if_neg (by omega), if_neg (by omega), if_neg (by omega), if_pos h2]
  rfl
theorem ty_cp {w m o : Nat} (h1 : 6 ≤ o) (h2 : o ≤ 8) : Ty w m [false, false] [true] [(o, 0)] := fun st _ => by
  simp only [ck, ck1]
  rw [if_neg (by omega), if_neg (by omega), if_neg (by omega), if_neg (by omega), if_pos h2]
  rfl
theorem ty_not {w m : Nat} : Ty w m [true] [true] [(9, 0)] := fun st _ => by
  simp only [ck, ck1]
  rw [if_neg (by decide), if_neg (by decide), if_pos trivial]
  rfl
theorem ty_bo {w m o : Nat} (h1 : 10 ≤ o) (h2 : o ≤ 11) : Ty w m [true, true] [true] [(o, 0)] := fun st _ => by
  simp only [ck, ck1]
  rw [if_neg (by omega), if_neg (by omega), if_neg (by omega), if_neg (by omega), if_neg (by omega), if_pos h2]
  rfl
def Qy.w (q : Qy) : Nat := 7 - q.W
/-- a piece is read: both go on, or both know the fault -/
def PK (q : Qy) (h e a δ l c dp m : Nat) (pre post : List Bool) (N : Nat → Prop) (K : rV → Nat → Option (Bool × rV)) (vc vm : rV) (f : Option (Bool × rV)) (g : Option rV) : Prop :=
  (∃ wc wm a' s, f = K wc a' ∧ g = some wm ∧ AL q a' (l + s.length) (c + s.length) dp wc wm ∧ N a' ∧ SG q.T wc wm l c s ∧ Ty q.w m pre post s ∧ a + δ ≤ a' ∧ (l + s.length + e ≤ a' ∧ c + s.length + e ≤ a') ∧ Ch (Sps l) vc wc ∧ Ch (Tps q.T c) vm wm) ∨
  (∃ wc wm, f = some (false, wc) ∧ g = some wm ∧ DE q e h wc wm ∧ Ch (Sps 0) vc wc ∧ Ch (Tps q.T 0) vm wm)
def kT : rV → Nat → Option (Bool × rV) := fun wc _ => some (true, wc)
def nT : Nat → Prop := fun _ => True
def nB (q : Qy) : Nat → Prop := fun a => bt q a ≠ 32
theorem PK.cls {q : Qy} {h e a δ l c dp m : Nat} {pre post : List Bool} {N : Nat → Prop} {vc vm : rV} {X : Option (Bool × rV)} {g : Option rV} (F : rV → Option (Bool × rV)) (k : PK q h e a δ l c dp m pre post N kT vc vm X g) : PK q h e a δ l c dp m pre post N (fun wc _ => F wc) vc vm (X.bind fun p => if p.1 = true then F p.2 else some (false, p.2)) g := by
  rcases k with ⟨wc, wm, a', s, k1, k2⟩ | ⟨wc, wm, k1, k2⟩
  · exact Or.inl ⟨wc, wm, a', s, by rw [k1]; rfl, k2⟩
  · exact Or.inr ⟨wc, wm, by rw [k1]; rfl, k2⟩
theorem PK.bind {q : Qy} {h1 h2 e1 e2 a δ1 δ2 l c dp1 dp2 m : Nat} {pre mid post : List Bool} {N1 N2 : Nat → Prop} {K1 K2 : rV → Nat → Option (Bool × rV)} {vc vm : rV} {f : Option (Bool × rV)} {g : Option rV} {G : rV → Option rV} (k : PK q h1 e1 a δ1 l c dp1 m pre mid N1 K1 vc vm f g)
    (al : ∀ wc wm a' l' c', AL q a' l' c' dp1 wc wm → N1 a' → a + δ1 ≤ a' → l ≤ l' → c ≤ c' → l' + e1 ≤ a' → c' + e1 ≤ a' → PK q h2 e2 a' δ2 l' c' dp2 m mid post N2 K2 wc wm (K1 wc a') (G wm))
    (de : ∀ wc wm, DE q e1 h1 wc wm → ∃ wm', G wm = some wm' ∧ DE q e2 h2 wc wm' ∧ Ch (Tps q.T 0) wm wm') : PK q h2 e2 a (δ1 + δ2) l c dp2 m pre post N2 K2 vc vm f (g.bind G) := by
  rcases k with ⟨wc, wm, a', s, k1, k2, k3, k4, k5, k6, k7, k8, k9, k10⟩ | ⟨wc, wm, k1, k2, k3, k4, k5⟩
  · rw [k2, Option.bind_some, k1]
    rcases al wc wm a' _ _ k3 k4 k7 (Nat.le_add_right _ _) (Nat.le_add_right _ _) k8.1 k8.2 with ⟨uc, um, a2, t, j1, j2, j3, j4, j5, j6, j7, j8, j9, j10⟩ | ⟨uc, um, j1, j2, j3, j4, j5⟩
    · refine Or.inl ⟨uc, um, a2, s ++ t, j1, j2, ?_, j4, (k5.ch j9 j10 (Nat.le_refl _) (Nat.le_refl _)).app j5, k6.seq j6, by omega, ?_, k9.tr (sps_mono j9 (Nat.le_add_right _ _)), k10.tr (tps_mono j10 (Nat.le_add_right _ _))⟩
      · rw [List.length_append, ← Nat.add_assoc, ← Nat.add_assoc]; exact j3
      · rw [List.length_append, ← Nat.add_assoc, ← Nat.add_assoc]; exact j8
    · exact Or.inr ⟨uc, um, j1, j2, j3, (sps_mono k9 (Nat.zero_le _)).tr j4, (tps_mono k10 (Nat.zero_le _)).tr j5⟩
  · obtain ⟨wm', d1, d2, d3⟩ := de wc wm k3
    exact Or.inr ⟨wc, wm', k1, by rw [k2, Option.bind_some, d1], d2, k4, k5.tr d3⟩
theorem PK.ty {q : Qy} {h e a δ l c dp m m' : Nat} {pre post pre' post' : List Bool} {N : Nat → Prop} {K : rV → Nat → Option (Bool × rV)} {vc vm : rV} {f : Option (Bool × rV)} {g : Option rV} (k : PK q h e a δ l c dp m pre post N K vc vm f g) (t : ∀ s, Ty q.w m pre post s → Ty q.w m' pre' post' s) : PK q h e a δ l c dp m' pre' post' N K vc vm f g := by
  rcases k with ⟨wc, wm, a', s, k1, k2, k3, k4, k5, k6, k7⟩ | k
  · exact Or.inl ⟨wc, wm, a', s, k1, k2, k3, k4, k5, t s k6, k7⟩
  · exact Or.inr k
theorem DE.mono {q : Qy} {e F F' : Nat} {vc vm : rV} (h : DE q e F vc vm) (k : F ≤ F') : DE q e F' vc vm := by
  obtain ⟨a, b, c, x, y, z1, z2, z3, z4⟩ := h
  exact ⟨a, b, c, x, y, z1, z2, z3, by omega⟩
theorem DE.weak {q : Qy} {e e' F : Nat} {vc vm : rV} (h : DE q e F vc vm) (k : e' ≤ e) : DE q e' F vc vm := by
  obtain ⟨a, b, c, x, y, z1, z2, z3, z4⟩ := h
  exact ⟨a, b, c, x, y, z1, z2, by omega, z4⟩
/-- from a little further on, with less left -/
theorem PK.from {q : Qy} {h h' e a a1 δ δ' l c dp m : Nat} {pre post : List Bool} {N : Nat → Prop} {K : rV → Nat → Option (Bool × rV)} {vc vm uc um : rV} {f : Option (Bool × rV)} {g : Option rV} (k : PK q h' e a1 δ' l c dp m pre post N K uc um f g) (hc : Ch (Sps l) vc uc) (hm : Ch (Tps q.T c) vm um) (ha : a + δ ≤ a1 + δ') (hh : h' ≤ h) : PK q h e a δ l c dp m pre post N K vc vm f g := by
  rcases k with ⟨wc, wm, a', s, k1, k2, k3, k4, k5, k6, k7, k8, k9, k10⟩ | ⟨wc, wm, k1, k2, k3, k4, k5⟩
  · exact Or.inl ⟨wc, wm, a', s, k1, k2, k3, k4, k5, k6, by omega, k8, hc.tr k9, hm.tr k10⟩
  · exact Or.inr ⟨wc, wm, k1, k2, k3.mono hh, (sps_mono hc (Nat.zero_le _)).tr k4, (tps_mono hm (Nat.zero_le _)).tr k5⟩
theorem DE.w {q : Qy} {e F : Nat} {vc vm : rV} (h : DE q e F vc vm) : ¬ vm.1 174 4 = -1 := fun z => by
  obtain ⟨ev, ⟨w, w1, w2, w3⟩, -⟩ := h
  have := ev.1.1
  rw [w3] at z
  have := congrArg Int32.toInt z
  rw [niInt (by omega), show (-1 : Int32).toInt = -1 from rfl] at this
  omega
theorem bad_go {q : Qy} {a l c dp e F : Nat} {vc vm : rV} (h : AL q a l c dp vc vm) (hc : c + e ≤ a) (hl : l ≤ 162) : f_X8_bad vm = some (rI vm 174 4 (nI a)) ∧ DE q e F vc (rI vm 174 4 (nI a)) ∧ Ch T3 vm (rI vm 174 4 (nI a)) := by
  obtain ⟨ev, ⟨p1, p2, p3⟩, w, d, x, y⟩ := h
  have t : Ch T3 vm (rI vm 174 4 (nI a)) := Ch.rf.I ⟨rfl, by omega⟩
  refine ⟨?_, ⟨ev.ch (l := 0) (c := 0) Ch.rf (t3_tps t), ⟨a, p3, p1, rI_at _ _ _ _⟩, ⟨l, hl, x⟩, ⟨a, c, by rw [rI_no (by omega)]; exact p2, by rw [rI_no (by omega)]; exact y, hc, by omega⟩⟩, t⟩
  unfold f_X8_bad f_X8_bad_20
  rw [w, if_pos rfl, vlet_eq, p2]
/-- digits -/
theorem num_lp {q : Qy} {l c dp : Nat} : ∀ (d k v a f g : Nat) (vc vm : rV), k + d = 4 → d < f → d < g → v < 10 ^ k → AL q a l c dp vc vm →
    ∃ a' v' wc wm, f_X3_readNumber_16 f vc (nI v) (bt q a) (nI k) = f_X3_readNumber_71 wc (nI v') (bt q a') ∧ f_X8_plainNumber_4 g vm (nI v) (nI k) = f_X8_plainNumber_48 wm (nI v') ∧ AL q a' l c dp wc wm ∧ a ≤ a' ∧ v' < 10000 ∧ (1 ≤ d → ¬ bt q a < 48 → ¬ 57 < bt q a → a + 1 ≤ a') ∧ Ch S3 vc wc ∧ Ch T3 vm wm := by
  intro d
  induction d with
  | zero =>
    intro k v a f g vc vm hk hf hg hv h
    obtain ⟨f, rfl⟩ : ∃ n', f = n' + 1 := ⟨f - 1, by omega⟩
    obtain ⟨g, rfl⟩ : ∃ n', g = n' + 1 := ⟨g - 1, by omega⟩
    have : k = 4 := by omega
    subst this
    rw [f_X3_readNumber_16, f_X8_plainNumber_4, if_pos (show (4 : Int32) ≤ nI 4 by decide), if_pos (show (4 : Int32) ≤ nI 4 by decide)]
    exact ⟨a, v, vc, vm, rfl, rfl, h, Nat.le_refl _, hv, fun z => by omega, Ch.rf, Ch.rf⟩
  | succ d ih =>
    intro k v a f g vc vm hk hf hg hv h
    obtain ⟨f, rfl⟩ : ∃ n', f = n' + 1 := ⟨f - 1, by omega⟩
    obtain ⟨g, rfl⟩ : ∃ n', g = n' + 1 := ⟨g - 1, by omega⟩
    have n160 := h.1.1.1
    have hv4 : v < 10000 := Nat.lt_of_lt_of_le hv (Nat.pow_le_pow_right (by omega) (show k ≤ 4 by omega))
    have g4 : ¬ (4 : Int32) ≤ nI k := nle (a := 4) (by omega) (by omega)
    rw [f_X3_readNumber_16, f_X8_plainNumber_4, if_neg g4, if_neg g4, here_eq h.1 (by have := h.2.1.2.2; omega) h.2.1.2.1, Option.bind_some, Option.bind_some]
    unfold f_X8_isDigit
    by_cases p1 : bt q a < 48
    · rw [if_pos p1, if_pos p1, if_neg (by decide)]
      exact ⟨a, v, vc, vm, rfl, rfl, h, Nat.le_refl _, hv4, fun _ z => absurd p1 z, Ch.rf, Ch.rf⟩
    rw [if_neg p1, if_neg p1]
    by_cases p2 : 57 < bt q a
    · rw [if_pos p2, if_pos p2, if_neg (by decide)]
      exact ⟨a, v, vc, vm, rfl, rfl, h, Nat.le_refl _, hv4, fun _ _ z => absurd p2 z, Ch.rf, Ch.rf⟩
    rw [if_neg p2, if_neg p2, if_pos rfl]
    have han : a < q.n := by
      by_cases z : a < q.n
      · exact z
      · rw [bt_end z] at p1
        exact absurd (by decide) p1
    obtain ⟨x, ex⟩ : ∃ x, x = q.tp a := ⟨_, rfl⟩
    have eb : bt q a = nI x := by rw [ex]; exact if_pos han
    have hx := (h.1.2.2.1 a han).1
    rw [eb] at p1 p2
    rw [show (48 : Int32) = nI 48 from rfl, niLt (by omega) (by omega)] at p1
    rw [show (57 : Int32) = nI 57 from rfl, niLt (by omega) (by omega)] at p2
    have hA := h.at (show a + 1 ≤ q.n by omega)
    rw [eb, h.2.1.1, h.2.1.2.1, ad1, vlet_eq, vlet_eq, vlet_eq, vlet_eq, rI_at, byteAt_eq hA.1 (by omega), Option.bind_some, vlet_eq, vlet_eq, ad1, show nI v * 10 = nI (v * 10) from niMul v 10, show (10 : Int32) * nI v = nI (10 * v) from niMul 10 v, niAdd, niAdd, show nI (v * 10 + x) - 48 = nI (v * 10 + x - 48) from niSub (b := 48) (by omega), show nI (10 * v + x) - 48 = nI (10 * v + x - 48) from niSub (b := 48) (by omega), Nat.mul_comm 10 v]
    obtain ⟨a', v', wc, wm, j1, j2, j3, j4, j5, j6, j7, j8⟩ := ih (k + 1) (v * 10 + x - 48) (a + 1) f g _ _ (by omega) (by omega) (by omega) (by rw [Nat.pow_succ]; omega) hA
    exact ⟨a', v', wc, wm, j1, j2, j3, by omega, j5, fun _ _ _ => j4, (show Ch S3 vc _ from Ch.rf.I ⟨rfl, rfl⟩).tr j7, (show Ch T3 vm _ from Ch.rf.I ⟨rfl, Or.inl rfl⟩).tr j8⟩
/-- letters -/
def L0 (b : Int32) : Int32 := if b = 105 then 0 else if b = 119 then 1 else if b = 103 then 2 else if b = 116 then 3 else if b = 109 then 4 else if b = 97 then 5 else if b = 107 then 6 else -1
def L1 (b : Int32) : Int32 := if b = 101 then 0 else if b = 114 then 1 else if b = 118 then 2 else if b = 110 then 3 else if b = 104 then 4 else if b = 116 then 5 else -1
theorem L0_s : ∀ x, x < 256 → sidx 0 (((nI x).toUInt32 % 65536).toInt32) = L0 (nI x) := by decide +kernel
theorem L1_s : ∀ x, x < 256 → sidx 1 (((nI x).toUInt32 % 65536).toInt32) = L1 (nI x) := by decide +kernel
theorem L0_v (b : Int32) : L0 b = -1 ∨ ∃ i, i < 7 ∧ L0 b = nI i := by
  unfold L0
  by_cases c0 : b = 105
  · rw [if_pos c0]; exact Or.inr ⟨0, by omega, rfl⟩
  rw [if_neg c0]
  by_cases c1 : b = 119
  · rw [if_pos c1]; exact Or.inr ⟨1, by omega, rfl⟩
  rw [if_neg c1]
  by_cases c2 : b = 103
  · rw [if_pos c2]; exact Or.inr ⟨2, by omega, rfl⟩
  rw [if_neg c2]
  by_cases c3 : b = 116
  · rw [if_pos c3]; exact Or.inr ⟨3, by omega, rfl⟩
  rw [if_neg c3]
  by_cases c4 : b = 109
  · rw [if_pos c4]; exact Or.inr ⟨4, by omega, rfl⟩
  rw [if_neg c4]
  by_cases c5 : b = 97
  · rw [if_pos c5]; exact Or.inr ⟨5, by omega, rfl⟩
  rw [if_neg c5]
  by_cases c6 : b = 107
  · rw [if_pos c6]; exact Or.inr ⟨6, by omega, rfl⟩
  rw [if_neg c6]
  exact Or.inl rfl
theorem L1_v (b : Int32) : L1 b = -1 ∨ ∃ i, i < 6 ∧ L1 b = nI i := by
  unfold L1
  by_cases c0 : b = 101
  · rw [if_pos c0]; exact Or.inr ⟨0, by omega, rfl⟩
  rw [if_neg c0]
  by_cases c1 : b = 114
  · rw [if_pos c1]; exact Or.inr ⟨1, by omega, rfl⟩
  rw [if_neg c1]
  by_cases c2 : b = 118
  · rw [if_pos c2]; exact Or.inr ⟨2, by omega, rfl⟩
  rw [if_neg c2]
  by_cases c3 : b = 110
  · rw [if_pos c3]; exact Or.inr ⟨3, by omega, rfl⟩
  rw [if_neg c3]
  by_cases c4 : b = 104
  · rw [if_pos c4]; exact Or.inr ⟨4, by omega, rfl⟩
  rw [if_neg c4]
  by_cases c5 : b = 116
  · rw [if_pos c5]; exact Or.inr ⟨5, by omega, rfl⟩
  rw [if_neg c5]
  exact Or.inl rfl
def LX (q : Qy) (b : Int32) : Int32 := if q.W = 0 then L0 b else L1 b
theorem LX_v {q : Qy} {vc vm : rV} (h : EV q vc vm) (b : Int32) : LX q b = -1 ∨ ∃ i, i < q.w ∧ LX q b = nI i := by
  unfold LX Qy.w
  rcases h.1.2.2 with w | w
  · rw [w, if_pos rfl]; exact L0_v b
  · rw [w, if_neg (by decide)]; exact L1_v b
theorem LX_m {q : Qy} {vc vm : rV} (h : EV q vc vm) (b : Int32) : f_X8_letterOf vm b = LX q b := by
  unfold f_X8_letterOf LX
  rw [h.2.2.2.2.2]
  rcases h.1.2.2 with w | w
  · rw [w, if_pos (show nI 0 = (0 : Int32) from rfl), if_pos rfl]; rfl
  · rw [w, if_neg (show ¬ nI 1 = (0 : Int32) from by decide), if_neg (show ¬ (1 : Nat) = 0 by decide)]; rfl
theorem LX_n (q : Qy) : LX q (-1) = -1 := by
  unfold LX
  by_cases w : q.W = 0
  · rw [if_pos w]; decide
  · rw [if_neg w]; decide
theorem LX_c {q : Qy} {vc vm : rV} {R : rV → Int32 → Option (Bool × rV)} (h : EV q vc vm) (a : Nat) : f_X3_readAtom_69 R vc (bt q a) = f_X3_readAtom_87 R vc (LX q (bt q a)) := by
  unfold f_X3_readAtom_69
  by_cases p : a < q.n
  · have eb : bt q a = nI (q.tp a) := if_pos p
    have hx := (h.2.2.1 a p).1
    rw [eb, if_neg (fun z => by
      have := congrArg Int32.toInt z
      rw [niInt (by omega), show (-1 : Int32).toInt = -1 from rfl] at this
      omega), h.2.2.2.1]
    unfold LX
    rcases h.1.2.2 with w | w
    · rw [w, if_pos (show some (1000010 + 0) = some 1000010 from rfl), if_pos rfl, L0_s _ (by omega)]
    · rw [w, if_neg (show ¬ some (1000010 + 1) = some 1000010 from by decide), if_pos (show some (1000010 + 1) = some 1000011 from rfl), if_neg (by decide), L1_s _ (by omega)]
  · rw [bt_end p, if_pos rfl, LX_n]
