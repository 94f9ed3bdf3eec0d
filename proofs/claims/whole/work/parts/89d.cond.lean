/-! TEXTS: comparisons, units, conditions -/
theorem bnd_id {α : Type} (x : Option α) : (x.bind fun p => some p) = x := by cases x <;> rfl
theorem compare_go {q : Qy} {h dp e a l c : Nat} {vc vm : rV} (hh : 1 ≤ h) (hd : dp + h = 7) (hA : AL q a l c dp vc vm) (h1 : l + e ≤ a) (h2 : c + e ≤ a) : PK q h e a 1 l c dp (2 * h + 3) [false] [true] nT kT vc vm (f_X3_readComparison vc (nI dp)) (f_X8_compare vm) := by
  obtain ⟨a1, uc, um, n1, n2, hA1, ha, hb, s3, t3⟩ := nb_go hA
  have hl := hA1.l
  refine PK.from (a1 := a1) (δ' := 1) ?_ (s3_sps s3) (t3_tps t3) (by omega) (Nat.le_refl _)
  unfold f_X3_readComparison f_X8_compare f_X8_compare_16
  rw [n1, hA.2.2.1, if_pos rfl, n2, Option.bind_some, Option.bind_some]
  simp only []
  rw [show f_X3_isComparison (bt q a1) = f_X8_isSign (bt q a1) from rfl]
  by_cases z : f_X8_isSign (bt q a1) = true
  · have han : a1 < q.n := by
      by_cases y : a1 < q.n
      · exact y
      · rw [bt_end y] at z
        exact absurd z (by decide)
    obtain ⟨o, ho, c9, m9⟩ : ∃ o, (6 ≤ o ∧ o ≤ 8) ∧ (∀ w, (if bt q a1 = 61 then f_X3_readComparison_62 w (-5) else if bt q a1 = 60 then f_X3_readComparison_62 w (-6) else f_X3_readComparison_62 w (-7)) = f_X3_readComparison_62 w (cl (o, 0))) ∧ (∀ w, (if bt q a1 = 61 then f_X8_compare_68 w 6 else if bt q a1 = 60 then f_X8_compare_68 w 7 else f_X8_compare_68 w 8) = f_X8_compare_68 w (nI o)) := by
      by_cases y : bt q a1 = 61
      · exact ⟨6, by omega, fun w => by rw [if_pos y]; rfl, fun w => by rw [if_pos y]; rfl⟩
      · by_cases y2 : bt q a1 = 60
        · exact ⟨7, by omega, fun w => by rw [if_neg y, if_pos y2]; rfl, fun w => by rw [if_neg y, if_pos y2]; rfl⟩
        · exact ⟨8, by omega, fun w => by rw [if_neg y, if_neg y2]; rfl, fun w => by rw [if_neg y, if_neg y2]; rfl⟩
    have hA2 := hA1.at (a' := a1 + 1) (by omega)
    rw [if_pos z, if_pos z, vlet_eq, vlet_eq, hA1.2.1.1, hA1.2.1.2.1, ad1]
    refine PK.from (a1 := a1 + 1) (δ := 1) (δ' := 1 + 0) ?_ (s3_sps (s3_up (a1 + 1))) (t3_tps (t3_up (a1 + 1))) (by omega) (Nat.le_refl _)
    refine PK.bind (e1 := e + 1) (mid := [false, false]) (((sum_go h hh 10 10 dp (e + 1) (a1 + 1) l c _ _ hd (by omega) (by omega) hA2 (by omega) (by omega)).ty fun s t => t.push false).cls fun w => if bt q a1 = 61 then f_X3_readComparison_62 w (-5) else if bt q a1 = 60 then f_X3_readComparison_62 w (-6) else f_X3_readComparison_62 w (-7)) (fun wc wm a' l' c' k1 _ k2 k3 k4 k5 k6 => ?_) (fun wc wm k => ?_)
    · have hl2 := k1.l
      rw [c9, m9]
      unfold f_X3_readComparison_62 f_X8_compare_68
      obtain ⟨y1, y2, y3, y4⟩ := one_cod (h := h) (e := e) (m := 2 * h + 3) (p := [false, false]) (r := [true]) (N := nT) (o, 0) k1 trivial (ty_cp (by omega) (by omega)) (by omega) (by omega)
      rw [y1, Option.bind_some]
      rw [show f_X8_put wm (nI o) 0 = _ from y2, Option.bind_some]
      exact y4 kT
    · rw [m9]
      unfold f_X8_compare_68
      obtain ⟨tm, t1, t2, t3⟩ := k.puts (by omega) (nI o) 0
      rw [t1, Option.bind_some]
      exact ⟨tm, rfl, t2, t3⟩
  · obtain ⟨b1, b2, b3⟩ := bad_go (F := h) (e := e) hA1 (by omega) (by omega)
    rw [if_neg z, if_neg z, b1, Option.bind_some]
    exact PK.dead rfl rfl b2 Ch.rf (t3_tps b3)
theorem readSum_eq {v w : rV} {nf : Nat} {d : Int32} (h : f_X3_nextByte v = f_X3_nextByte w) : f_X3_readSum (nf + 1) v d = f_X3_readSum (nf + 1) w d := by
  rw [f_X3_readSum, f_X3_readSum]
  unfold f_X3_readSum_B
  obtain ⟨f, hf⟩ : ∃ f, 20000 = f + 1 := ⟨19999, rfl⟩
  rw [hf, f_X3_readSum_4, f_X3_readSum_4, if_neg (by decide), if_neg (by decide)]
  unfold f_X3_readAtom
  rw [h]
theorem sum_bad {q : Qy} {a l c dp nf : Nat} {vc vm : rV} {d : Int32} (hA : AL q a l c dp vc vm) (hb : bt q a = 33 ∨ bt q a = 40) : f_X3_readSum (nf + 1) vc d = some (false, vc) := by
  have n32 : bt q a ≠ 32 := by rcases hb with z | z <;> rw [z] <;> decide
  have l48 : bt q a < 48 := by rcases hb with z | z <;> rw [z] <;> decide
  have n91 : ¬ bt q a = 91 := by rcases hb with z | z <;> rw [z] <;> decide
  have lx : LX q (bt q a) = -1 := by
    unfold LX
    rcases hb with z | z <;> rw [z] <;> by_cases w : q.W = 0
    · rw [if_pos w]; decide
    · rw [if_neg w]; decide
    · rw [if_pos w]; decide
    · rw [if_neg w]; decide
  rw [f_X3_readSum]
  unfold f_X3_readSum_B
  obtain ⟨f, hf⟩ : ∃ f, 20000 = f + 1 := ⟨19999, rfl⟩
  rw [hf, f_X3_readSum_4, if_neg (by decide)]
  unfold f_X3_readAtom f_X3_readAtom_22
  rw [nb_st hA n32, Option.bind_some]
  simp only []
  rw [if_pos l48, if_neg n91, LX_c hA.1, lx]
  unfold f_X3_readAtom_87
  rw [if_neg (by decide)]
  rfl
/-- nots -/
def nadd : Nat → rV → rV
  | 0, v => v
  | k + 1, v => nadd k (ad5 v (-10))
theorem nots_lp {R : rV → Int32 → Int32 → Option (Bool × rV)} {k : Nat} (hk : k ≤ 100) (g : Bool) : ∀ (d i F : Nat) (v : rV), i + d = k → d < F → (∃ l, l ≤ 162 ∧ v.1 4 2 = nI l) → f_X3_readUnit_117 R F v (nI k) (bI g) (nI i) = some (g, nadd d v) := by
  intro d
  induction d with
  | zero =>
    intro i F v h hF hl
    obtain ⟨F, rfl⟩ : ∃ n', F = n' + 1 := ⟨F - 1, by omega⟩
    rw [f_X3_readUnit_117, if_pos (ple (by omega) (by omega)), if_pos (bI_01 g)]
    cases g <;> rfl
  | succ d ih =>
    intro i F v h hF hl
    obtain ⟨F, rfl⟩ : ∃ n', F = n' + 1 := ⟨F - 1, by omega⟩
    obtain ⟨l, l1, l2⟩ := hl
    obtain ⟨k1, k2, -, -⟩ := add_eq (x := -10) l1 l2
    rw [f_X3_readUnit_117, if_neg (nle (by omega) (by omega)), k1, Option.bind_some, vlet_eq, ad1]
    exact ih (i + 1) F _ (by omega) (by omega) k2
theorem fin_nots {q : Qy} {h e a δ l c dp m k : Nat} {p r : List Bool} {R : rV → Int32 → Int32 → Option (Bool × rV)} {vc vm : rV} {X : Option (Bool × rV)} {g : Option rV} (hk : k ≤ 100) (K : PK q h e a δ l c dp m p r nT kT vc vm X g) : ∃ (b : Bool) (wc0 : rV), (X.bind fun p => if p.1 = true then f_X3_readUnit_117 R 20000 p.2 (nI k) 1 0 else f_X3_readUnit_117 R 20000 p.2 (nI k) 0 0) = some (b, nadd k wc0) ∧ PK q h e a δ l c dp m p r nT kT vc vm (some (b, wc0)) g := by
  have K0 := K
  rcases K with ⟨wc, wm, a', s, k1, k2, k3, k4, k5, k6, k7, k8, k9, k10⟩ | ⟨wc, wm, k1, k2, k3, k4, k5⟩
  · have hl := k3.l
    refine ⟨true, wc, ?_, by rw [k1] at K0; exact K0⟩
    have t := nots_lp (R := R) hk true k 0 20000 wc (by omega) (by omega) ⟨_, by omega, k3.2.2.2.2.1⟩
    rw [k1, kT, Option.bind_some, if_pos (show (true, wc).1 = true from rfl)]
    exact t
  · refine ⟨false, wc, ?_, by rw [k1] at K0; exact K0⟩
    have t := nots_lp (R := R) hk false k 0 20000 wc (by omega) (by omega) k3.2.2.1
    rw [k1, Option.bind_some, if_neg (show ¬ (false, wc).1 = true from Bool.false_ne_true)]
    exact t
theorem bind_two {R : rV → Int32 → Int32 → Option (Bool × rV)} {k : Int32} (X : Option (Bool × rV)) (F : rV → Option (Bool × rV)) : (X.bind fun p => if p.1 = true then ((F p.2).bind fun p2 => if p2.1 = true then f_X3_readUnit_117 R 20000 p2.2 k 1 0 else f_X3_readUnit_117 R 20000 p2.2 k 0 0) else f_X3_readUnit_117 R 20000 p.2 k 0 0) = ((X.bind fun p => if p.1 = true then F p.2 else some (false, p.2)).bind fun p => if p.1 = true then f_X3_readUnit_117 R 20000 p.2 k 1 0 else f_X3_readUnit_117 R 20000 p.2 k 0 0) := by
  cases X with
  | none => rfl
  | some p =>
    rw [Option.bind_some, Option.bind_some]
    by_cases z : p.1 = true
    · rw [if_pos z, if_pos z]
    · rw [if_neg z, if_neg z, Option.bind_some]
      simp only [Bool.false_eq_true, if_false]
/-- & -/
theorem and_lp {q : Qy} {h dp : Nat} {R : rV → Int32 → Int32 → Option (Bool × rV)} {Rm : rV → Option rV} {q5 : rV → Int32 → Int32 → Int32 → Int32 → Option (Bool × rV)} {a2 a3 a4 : Int32} (hh : h ≤ 7)
    (hU : ∀ e a l c vc vm, AL q a l c dp vc vm → l + e ≤ a → c + e ≤ a → PK q h e a 1 l c dp (2 * h + 3) [] [true] nT kT vc vm (f_X3_readUnit R vc (nI dp) 0) (Rm vm)) :
    ∀ (d a f g j e l c : Nat) (vc vm : rV), q.n - a ≤ d → d < f → d + 1 < g → 2 * j ≤ a → AL q a l c dp vc vm → l + e ≤ a → c + e ≤ a → PK q h e a 0 l c dp (2 * h + 4) [true] [true] nT (fun wc _ => f_X3_readCondition_83 R q5 wc (nI dp) a2 a3 a4) vc vm (f_X3_readCondition_40 R q5 f vc (nI dp) a2 a3 a4 (nI j)) (f_X8_goOnAnd_0 Rm g vm) := by
  intro d
  induction d with
  | zero =>
    intro a f g j e l c vc vm hd hf hg hj hA h1 h2
    obtain ⟨f, rfl⟩ : ∃ n', f = n' + 1 := ⟨f - 1, by omega⟩
    obtain ⟨g, rfl⟩ : ∃ n', g = n' + 1 := ⟨g - 1, by omega⟩
    obtain ⟨a1, uc, um, n1, n2, hA1, ha, hb, s3, t3⟩ := nb_go hA
    have hl := hA1.l
    have b1 : bt q a1 = -1 := bt_end (by omega)
    have nz : bt q a1 ≠ 38 := by rw [b1]; decide
    rw [f_X3_readCondition_40, f_X8_goOnAnd_0, if_neg (show ¬ (160 : Int32) ≤ nI j from nle (a := 160) (by omega) (by omega)), gw_eq (show f_X3_nextByte vc = f_X3_nextByte uc by rw [n1, nb_st hA1 hb]), gw_n hA1 hb nz, hA.2.2.1, if_pos rfl, n2, Option.bind_some, Option.bind_some]
    simp only []
    rw [if_neg nz, if_neg (by decide)]
    exact PK.from (a1 := a1) (δ' := 0) (PK.end hA1 trivial (by omega) (by omega)) (s3_sps s3) (t3_tps t3) (by omega) (Nat.le_refl _)
  | succ d ih =>
    intro a f g j e l c vc vm hd hf hg hj hA h1 h2
    obtain ⟨f, rfl⟩ : ∃ n', f = n' + 1 := ⟨f - 1, by omega⟩
    obtain ⟨g, rfl⟩ : ∃ n', g = n' + 1 := ⟨g - 1, by omega⟩
    obtain ⟨a1, uc, um, n1, n2, hA1, ha, hb, s3, t3⟩ := nb_go hA
    have hl := hA1.l
    refine PK.from (a1 := a1) (δ' := 0) ?_ (s3_sps s3) (t3_tps t3) (by omega) (Nat.le_refl _)
    rw [f_X3_readCondition_40, f_X8_goOnAnd_0, if_neg (show ¬ (160 : Int32) ≤ nI j from nle (a := 160) (by omega) (by omega)), gw_eq (show f_X3_nextByte vc = f_X3_nextByte uc by rw [n1, nb_st hA1 hb]), hA.2.2.1, if_pos rfl, n2, Option.bind_some]
    simp only []
    by_cases z : bt q a1 = 38
    · have han := bt_lt z (by decide)
      have hA2 := hA1.at (a' := a1 + 1) (by omega)
      rw [gw_y hA1 hb z, Option.bind_some, if_pos rfl, if_pos z, vlet_eq, hA1.2.1.2.1, ad1 a1]
      refine PK.from (a1 := a1 + 1) (δ := 0) (δ' := 1 + 0) ?_ (s3_sps (s3_up (a1 + 1))) (t3_tps (t3_up (a1 + 1))) (by omega) (Nat.le_refl _)
      refine PK.bind (e1 := e + 1) (mid := [true, true]) (((hU (e + 1) (a1 + 1) l c _ _ hA2 (by omega) (by omega)).ty fun s t => t.push true).cls fun w => (f_X2_add w 4 (-8 : Int32)).bind fun p10 => vlet (nI j + (1 : Int32)) fun x11 => f_X3_readCondition_40 R q5 f p10 (nI dp) a2 a3 a4 x11) (fun wc wm a' l' c' k1 _ k2 k3 k4 k5 k6 => ?_) (fun wc wm k => ?_)
      · have hl2 := k1.l
        obtain ⟨y1, y2, y3, y4, y5, y6⟩ := cod_go k1 (by omega) (by omega) (10, 0)
        rw [show f_X2_add wc 4 (-8) = _ from y1, Option.bind_some, vlet_eq, ad1]
        rw [show f_X8_put wm 10 0 = _ from y2, Option.bind_some]
        rcases ih a' f g (j + 1) e (l' + 1) (c' + 1) _ _ (by omega) (by omega) (by omega) (by omega) y3 (by omega) (by omega) with ⟨uc, um, b, t, x1, x2, x3, x4, x5, x6, x7, x8, x9, x10⟩ | ⟨uc, um, x1, x2, x3, x4, x5⟩
        · refine Or.inl ⟨uc, um, b, (10, 0) :: t, x1, x2, ?_, x4, ?_, ?_, by omega, ?_, y5.tr (sps_mono x9 (by omega)), y6.tr (tps_mono x10 (by omega))⟩
          · rw [List.length_cons, show l' + (t.length + 1) = l' + 1 + t.length by omega, show c' + (t.length + 1) = c' + 1 + t.length by omega]; exact x3
          · exact SG.app (s := [(10, 0)]) (y4.ch x9 x10 (by simp) (by simp)) x5
          · exact Ty.seq (s := [(10, 0)]) (ty_bo (by omega) (by omega)) x6
          · rw [List.length_cons]; omega
        · exact Or.inr ⟨uc, um, x1, x2, x3, (sps_mono y5 (Nat.zero_le _)).tr x4, (tps_mono y6 (Nat.zero_le _)).tr x5⟩
      · obtain ⟨tm, t1, t2, t3⟩ := k.puts (by omega) 10 0
        obtain ⟨g, rfl⟩ : ∃ n', g = n' + 1 := ⟨g - 1, by omega⟩
        rw [t1, Option.bind_some, f_X8_goOnAnd_0, if_neg t2.w]
        exact ⟨tm, rfl, t2, t3⟩
    · rw [gw_n hA1 hb z, Option.bind_some, if_neg z]
      simp only []
      rw [if_neg (by decide)]
      exact PK.end hA1 trivial (by omega) (by omega)
theorem and_de {q : Qy} {e F : Nat} {Rm : rV → Option rV} {vc vm : rV} (k : DE q e F vc vm) : f_X8_goOnAnd Rm vm = some vm := by
  unfold f_X8_goOnAnd
  obtain ⟨f, hf⟩ : ∃ f, 20000 = f + 1 := ⟨19999, rfl⟩
  rw [hf, f_X8_goOnAnd_0, if_neg k.w]
theorem or_de {q : Qy} {e F : Nat} {Rm : rV → Option rV} {vc vm : rV} (k : DE q e F vc vm) : f_X8_goOnOr Rm vm = some vm := by
  unfold f_X8_goOnOr
  obtain ⟨f, hf⟩ : ∃ f, 20000 = f + 1 := ⟨19999, rfl⟩
  rw [hf, f_X8_goOnOr_0, if_neg k.w]
theorem and_go {q : Qy} {h dp e a l c : Nat} {R : rV → Int32 → Int32 → Option (Bool × rV)} {Rm : rV → Option rV} {q5 : rV → Int32 → Int32 → Int32 → Int32 → Option (Bool × rV)} {a2 a3 a4 : Int32} {vc vm : rV} (hh : h ≤ 7)
    (hU : ∀ e a l c vc vm, AL q a l c dp vc vm → l + e ≤ a → c + e ≤ a → PK q h e a 1 l c dp (2 * h + 3) [] [true] nT kT vc vm (f_X3_readUnit R vc (nI dp) 0) (Rm vm)) (hA : AL q a l c dp vc vm) (h1 : l + e ≤ a) (h2 : c + e ≤ a) :
    PK q h e a 0 l c dp (2 * h + 4) [true] [true] nT (fun wc _ => f_X3_readCondition_83 R q5 wc (nI dp) a2 a3 a4) vc vm (f_X3_readCondition_40 R q5 20000 vc (nI dp) a2 a3 a4 0) (f_X8_goOnAnd Rm vm) := by
  have hl := hA.l
  exact and_lp hh hU (q.n - a) a 20000 20000 0 e l c vc vm (Nat.le_refl _) (by omega) (by omega) (by omega) hA h1 h2
/-- | -/
theorem or_lp {q : Qy} {h dp : Nat} {R : rV → Int32 → Int32 → Option (Bool × rV)} {Rm : rV → Option rV} {a2 : Int32} (hh : h ≤ 7)
    (hU : ∀ e a l c vc vm, AL q a l c dp vc vm → l + e ≤ a → c + e ≤ a → PK q h e a 1 l c dp (2 * h + 3) [] [true] nT kT vc vm (f_X3_readUnit R vc (nI dp) 0) (Rm vm)) :
    ∀ (d a f g i e l c : Nat) (vc vm : rV), q.n - a ≤ d → d < f → d + 1 < g → 2 * i ≤ a → AL q a l c dp vc vm → l + e ≤ a → c + e ≤ a → PK q h e a 0 l c dp (2 * h + 5) [true] [true] nT kT vc vm (f_X3_readCondition_96 R (fun v a1 a2 a3 a4 => f_X3_readCondition_5 R f v a1 a2 a3 a4) vc (nI dp) a2 (nI i) (nI i)) (f_X8_goOnOr_0 Rm g vm) := by
  intro d
  induction d with
  | zero =>
    intro a f g i e l c vc vm hd hf hg hi hA h1 h2
    obtain ⟨g, rfl⟩ : ∃ n', g = n' + 1 := ⟨g - 1, by omega⟩
    obtain ⟨a1, uc, um, n1, n2, hA1, ha, hb, s3, t3⟩ := nb_go hA
    have hl := hA1.l
    have b1 : bt q a1 = -1 := bt_end (by omega)
    have nz : bt q a1 ≠ 124 := by rw [b1]; decide
    unfold f_X3_readCondition_96
    rw [f_X8_goOnOr_0, vlet_eq, gw_eq (show f_X3_nextByte vc = f_X3_nextByte uc by rw [n1, nb_st hA1 hb]), gw_n hA1 hb nz, hA.2.2.1, if_pos rfl, n2, Option.bind_some, Option.bind_some]
    simp only []
    rw [if_neg nz, if_neg (by decide)]
    exact PK.from (a1 := a1) (δ' := 0) (PK.end (K := kT) hA1 trivial (by omega) (by omega)) (s3_sps s3) (t3_tps t3) (by omega) (Nat.le_refl _)
  | succ d ih =>
    intro a f g i e l c vc vm hd hf hg hi hA h1 h2
    obtain ⟨f, rfl⟩ : ∃ n', f = n' + 1 := ⟨f - 1, by omega⟩
    obtain ⟨g, rfl⟩ : ∃ n', g = n' + 1 := ⟨g - 1, by omega⟩
    obtain ⟨a1, uc, um, n1, n2, hA1, ha, hb, s3, t3⟩ := nb_go hA
    have hl := hA1.l
    refine PK.from (a1 := a1) (δ' := 0) ?_ (s3_sps s3) (t3_tps t3) (by omega) (Nat.le_refl _)
    unfold f_X3_readCondition_96
    rw [f_X8_goOnOr_0, vlet_eq, gw_eq (show f_X3_nextByte vc = f_X3_nextByte uc by rw [n1, nb_st hA1 hb]), hA.2.2.1, if_pos rfl, n2, Option.bind_some]
    simp only []
    by_cases z : bt q a1 = 124
    · have han := bt_lt z (by decide)
      have hA2 := hA1.at (a' := a1 + 1) (by omega)
      have i1 : ¬ nI (i + 1) = (0 : Int32) := nne (b := 0) (by omega) (by omega) (by omega)
      rw [gw_y hA1 hb z, Option.bind_some, if_pos rfl, if_pos z, vlet_eq, vlet_eq, hA1.2.1.2.1, ad1, ad1]
      rw [f_X3_readCondition_5, if_neg (show ¬ (160 : Int32) ≤ nI (i + 1) from nle (a := 160) (by omega) (by omega)), if_neg i1]
      obtain ⟨cx, ecx⟩ : ∃ cx, cx = f_X3_readCondition_28 R (fun v a1 a2 a3 a4 => f_X3_readCondition_5 R f v a1 a2 a3 a4) (rI uc 3 3 (nI (a1 + 1))) (nI dp) a2 (nI (i + 1)) (nI (i + 1)) (nI dp) := ⟨_, rfl⟩
      rw [← ecx, show (if a2 = 0 then cx else cx) = cx by by_cases y : a2 = 0; rw [if_pos y]; rw [if_neg y], ecx]
      unfold f_X3_readCondition_28 f_X3_readCondition_29
      refine PK.from (a1 := a1 + 1) (δ := 0) (δ' := 1 + (0 + 0)) ?_ (s3_sps (s3_up (a1 + 1))) (t3_tps (t3_up (a1 + 1))) (by omega) (Nat.le_refl _)
      refine PK.bind (e1 := e + 1) (mid := [true, true]) (((hU (e + 1) (a1 + 1) l c _ _ hA2 (by omega) (by omega)).ty fun s t => (t.push true).mono (show 2 * h + 3 + 1 ≤ 2 * h + 5 by omega)).cls fun w => f_X3_readCondition_40 R (fun v a1 a2 a3 a4 => f_X3_readCondition_5 R f v a1 a2 a3 a4) 20000 w (nI dp) a2 (nI (i + 1)) (nI (i + 1)) (0 : Int32)) (fun wc wm a' l' c' k1 _ k2 k3 k4 k5 k6 => ?_) (fun wc wm k => ?_)
      · refine PK.bind (e1 := e + 1) (mid := [true, true]) ((and_go hh hU k1 (show l' + (e + 1) ≤ a' by omega) (by omega)).ty fun s t => t.push true) (fun tc tm a' l' c' k1 _ k2' k3 k4 k5 k6 => ?_) (fun wc wm k => ?_)
        · have hl2 := k1.l
          unfold f_X3_readCondition_83
          rw [if_neg (show ¬ nI (i + 1) ≤ 0 from nle (b := 0) (by omega) (by omega))]
          obtain ⟨y1, y2, y3, y4, y5, y6⟩ := cod_go k1 (by omega) (by omega) (11, 0)
          rw [show f_X2_add tc 4 (-9) = _ from y1, Option.bind_some]
          rw [show f_X8_put tm 11 0 = _ from y2, Option.bind_some]
          rcases ih a' f g (i + 1) e (l' + 1) (c' + 1) _ _ (by omega) (by omega) (by omega) (by omega) y3 (by omega) (by omega) with ⟨uc, um, b, t, x1, x2, x3, x4, x5, x6, x7, x8, x9, x10⟩ | ⟨uc, um, x1, x2, x3, x4, x5⟩
          · refine Or.inl ⟨uc, um, b, (11, 0) :: t, x1, x2, ?_, x4, ?_, ?_, by omega, ?_, y5.tr (sps_mono x9 (by omega)), y6.tr (tps_mono x10 (by omega))⟩
            · rw [List.length_cons, show l' + (t.length + 1) = l' + 1 + t.length by omega, show c' + (t.length + 1) = c' + 1 + t.length by omega]; exact x3
            · exact SG.app (s := [(11, 0)]) (y4.ch x9 x10 (by simp) (by simp)) x5
            · exact Ty.seq (s := [(11, 0)]) (ty_bo (by omega) (by omega)) x6
            · rw [List.length_cons]; omega
          · exact Or.inr ⟨uc, um, x1, x2, x3, (sps_mono y5 (Nat.zero_le _)).tr x4, (tps_mono y6 (Nat.zero_le _)).tr x5⟩
        · obtain ⟨tm, t1, t2, t3⟩ := k.puts (by omega) 11 0
          obtain ⟨g, rfl⟩ : ∃ n', g = n' + 1 := ⟨g - 1, by omega⟩
          rw [t1, Option.bind_some, f_X8_goOnOr_0, if_neg t2.w]
          exact ⟨tm, rfl, t2, t3⟩
      · obtain ⟨tm, t1, t2, t3⟩ := k.puts (by omega) 11 0
        obtain ⟨g, rfl⟩ : ∃ n', g = n' + 1 := ⟨g - 1, by omega⟩
        rw [and_de k, Option.bind_some, t1, Option.bind_some, f_X8_goOnOr_0, if_neg t2.w]
        exact ⟨tm, rfl, t2, t3⟩
    · rw [gw_n hA1 hb z, Option.bind_some, if_neg z]
      simp only []
      rw [if_neg (by decide)]
      exact PK.end (K := kT) hA1 trivial (by omega) (by omega)
/-- behind the first unit -/
theorem ctail_go {q : Qy} {h dp e a l c F : Nat} {R : rV → Int32 → Int32 → Option (Bool × rV)} {Rm : rV → Option rV} {a2 : Int32} {vc vm : rV} (hh : h ≤ 7) (hF : 200 < F)
    (hU : ∀ e a l c vc vm, AL q a l c dp vc vm → l + e ≤ a → c + e ≤ a → PK q h e a 1 l c dp (2 * h + 3) [] [true] nT kT vc vm (f_X3_readUnit R vc (nI dp) 0) (Rm vm)) (hA : AL q a l c dp vc vm) (h1 : l + e ≤ a) (h2 : c + e ≤ a) :
    PK q h e a (0 + 0) l c dp (2 * h + 5) [true] [true] nT kT vc vm (f_X3_readCondition_40 R (fun v a1 a2 a3 a4 => f_X3_readCondition_5 R F v a1 a2 a3 a4) 20000 vc (nI dp) a2 0 0 0) ((f_X8_goOnAnd Rm vm).bind fun p => f_X8_goOnOr Rm p) := by
  refine PK.bind (e1 := e) (mid := [true]) ((and_go hh hU hA h1 h2).ty fun s t => t.mono (Nat.le_succ _)) (fun tc tm a' l' c' k1 _ k2 k3 k4 k5 k6 => ?_) (fun wc wm k => ⟨wm, or_de k, k, Ch.rf⟩)
  have hl := k1.l
  unfold f_X3_readCondition_83 f_X8_goOnOr
  rw [if_pos (by decide)]
  exact or_lp hh hU (q.n - a') a' F 20000 0 e l' c' tc tm (Nat.le_refl _) (by omega) (by omega) (by omega) k1 k5 k6
/-- with its first sum read already -/
theorem there_go {q : Qy} {h dp e a l c nf : Nat} {Rm : rV → Option rV} {vc vm : rV} (hh1 : 1 ≤ h) (hd : dp + h = 7)
    (hU : ∀ e a l c vc vm, AL q a l c dp vc vm → l + e ≤ a → c + e ≤ a → PK q h e a 1 l c dp (2 * h + 3) [] [true] nT kT vc vm (f_X3_readUnit (f_X3_readCondition nf) vc (nI dp) 0) (Rm vm)) (hA : AL q a l c dp vc vm) (h1 : l + e ≤ a) (h2 : c + e ≤ a) :
    PK q h e a (1 + (0 + 0)) l c dp (2 * h + 5) [false] [true] nT kT vc vm (f_X3_readCondition (nf + 1) vc (nI dp) 1) ((f_X8_compare vm).bind fun p => (f_X8_goOnAnd Rm p).bind fun p => f_X8_goOnOr Rm p) := by
  rw [f_X3_readCondition]
  unfold f_X3_readCondition_B
  obtain ⟨f, hf⟩ : ∃ f, 20000 = f + 1 := ⟨19999, rfl⟩
  rw [show f_X3_readCondition_5 (f_X3_readCondition nf) 20000 vc (nI dp) 1 0 0 = f_X3_readCondition_5 (f_X3_readCondition nf) (f + 1) vc (nI dp) 1 0 0 by rw [← hf], f_X3_readCondition_5, if_neg (by decide), if_neg (by decide), if_pos rfl]
  unfold f_X3_readCondition_29
  have eu : f_X3_readUnit (f_X3_readCondition nf) vc (nI dp) 1 = (f_X3_readComparison vc (nI dp)).bind fun p => if p.1 = true then some (true, p.2) else some (false, p.2) := by
    unfold f_X3_readUnit
    rw [hf, f_X3_readUnit_2, if_neg (by decide)]
    unfold f_X3_readUnit_29 f_X3_readUnit_85 f_X3_readUnit_98 f_X3_readUnit_112 f_X3_readUnit_111 f_X3_readUnit_112 f_X3_readUnit_114
    rw [vlet_eq, if_neg (by decide), if_neg (by decide), Int32.add_zero]
    congr 1
  rw [eu]
  refine PK.bind (e1 := e) (mid := [true]) ((((compare_go hh1 hd hA h1 h2).ty fun s t => t.mono (show 2 * h + 3 ≤ 2 * h + 5 by omega)).cls fun w => some (true, w)).cls fun w => f_X3_readCondition_40 (f_X3_readCondition nf) (fun v a1 a2 a3 a4 => f_X3_readCondition_5 (f_X3_readCondition nf) f v a1 a2 a3 a4) 20000 w (nI dp) 1 0 0 (0 : Int32)) (fun tc tm a' l' c' k1 _ k2 k3 k4 k5 k6 => ctail_go (by omega) (by omega) hU k1 k5 k6) (fun wc wm k => ⟨wm, by rw [and_de k, Option.bind_some, or_de k], k, Ch.rf⟩)
/-- a condition out of its units -/
theorem cond_of {q : Qy} {h dp e a l c nf : Nat} {Rm : rV → Option rV} {vc vm : rV} (hh : h ≤ 7)
    (hU : ∀ e a l c vc vm, AL q a l c dp vc vm → l + e ≤ a → c + e ≤ a → PK q h e a 1 l c dp (2 * h + 3) [] [true] nT kT vc vm (f_X3_readUnit (f_X3_readCondition nf) vc (nI dp) 0) (Rm vm)) (hA : AL q a l c dp vc vm) (h1 : l + e ≤ a) (h2 : c + e ≤ a) :
    PK q h e a (1 + (0 + 0)) l c dp (2 * h + 5) [] [true] nT kT vc vm (f_X3_readCondition (nf + 1) vc (nI dp) 0) (f_X8_condition Rm vm) := by
  rw [f_X3_readCondition]
  unfold f_X3_readCondition_B f_X8_condition
  obtain ⟨f, hf⟩ : ∃ f, 20000 = f + 1 := ⟨19999, rfl⟩
  rw [show f_X3_readCondition_5 (f_X3_readCondition nf) 20000 vc (nI dp) 0 0 0 = f_X3_readCondition_5 (f_X3_readCondition nf) (f + 1) vc (nI dp) 0 0 0 by rw [← hf], f_X3_readCondition_5, if_neg (by decide), if_pos rfl]
  unfold f_X3_readCondition_28 f_X3_readCondition_29
  refine PK.bind (e1 := e) (mid := [true]) (((hU e a l c vc vm hA h1 h2).ty fun s t => t.mono (show 2 * h + 3 ≤ 2 * h + 5 by omega)).cls fun w => f_X3_readCondition_40 (f_X3_readCondition nf) (fun v a1 a2 a3 a4 => f_X3_readCondition_5 (f_X3_readCondition nf) f v a1 a2 a3 a4) 20000 w (nI dp) 0 0 0 (0 : Int32)) (fun tc tm a' l' c' k1 _ k2 k3 k4 k5 k6 => ?_) (fun wc wm k => ⟨wm, by rw [and_de k, Option.bind_some, or_de k]; rfl, k, Ch.rf⟩)
  have e9 : ((f_X8_goOnAnd Rm tm).bind fun p2 => (f_X8_goOnOr Rm p2).bind fun p3 => some p3) = ((f_X8_goOnAnd Rm tm).bind fun p => f_X8_goOnOr Rm p) := by
    congr 1
    funext p
    exact bnd_id _
  rw [e9]
  exact ctail_go hh (by omega) hU k1 k5 k6
