/-! TEXTS: atoms, terms, sums, comparisons -/
theorem s3_up {v : rV} (a : Nat) : Ch S3 v (rI v 3 3 (nI a)) := Ch.rf.I ⟨rfl, rfl⟩
theorem t3_up {v : rV} (a : Nat) : Ch T3 v (rI v 174 3 (nI a)) := Ch.rf.I ⟨rfl, by omega⟩
theorem AL.l {q : Qy} {a l c dp : Nat} {vc vm : rV} (h : AL q a l c dp vc vm) : q.n ≤ 160 ∧ a ≤ q.n := ⟨h.1.1.1, h.2.1.2.2⟩
theorem PK.end {q : Qy} {h e a l c dp m : Nat} {p : List Bool} {N : Nat → Prop} {K : rV → Nat → Option (Bool × rV)} {vc vm : rV} (hA : AL q a l c dp vc vm) (hN : N a) (h1 : l + e ≤ a) (h2 : c + e ≤ a) : PK q h e a 0 l c dp m p p N K vc vm (K vc a) (some vm) := Or.inl ⟨vc, vm, a, [], rfl, rfl, hA, hN, SG.nil, Ty.nil, Nat.le_refl _, ⟨h1, h2⟩, Ch.rf, Ch.rf⟩
theorem PK.dead {q : Qy} {h e a δ l c dp m : Nat} {p r : List Bool} {N : Nat → Prop} {K : rV → Nat → Option (Bool × rV)} {vc vm wc wm : rV} {f : Option (Bool × rV)} {g : Option rV} (hf : f = some (false, wc)) (hg : g = some wm) (hD : DE q e h wc wm) (hc : Ch (Sps 0) vc wc) (hm : Ch (Tps q.T 0) vm wm) : PK q h e a δ l c dp m p r N K vc vm f g := Or.inr ⟨wc, wm, hf, hg, hD, hc, hm⟩
theorem opens_go {q : Qy} {a l c dp : Nat} {vc vm : rV} (hA : AL q a l c dp vc vm) (hd : dp < 6) (ha : a < q.n) : ∃ wm, f_X8_opens vm = some wm ∧ AL q (a + 1) l c (dp + 1) (rI vc 3 3 (nI (a + 1))) wm ∧ Ch T3 vm wm := by
  refine ⟨rI (rI vm 174 5 (nI (dp + 1))) 174 3 (nI (a + 1)), ?_, (hA.dp (dp' := dp + 1)).at (by omega), (Ch.rf.I ⟨rfl, by omega⟩).I ⟨rfl, by omega⟩⟩
  unfold f_X8_opens f_X8_opens_13
  rw [hA.2.2.2.1, if_neg (show ¬ nI dp = (6 : Int32) from nne (b := 6) (by omega) (by omega) (by omega)), vlet_eq, ad1, rI_no (by omega), hA.2.1.2.1, ad1, vlet_eq]
theorem opens_no {q : Qy} {a l c dp e F : Nat} {vc vm : rV} (hA : AL q a l c dp vc vm) (hd : dp = 6) (ha : a < q.n) (hc : c + e ≤ a) (hl : l ≤ 162) : ∃ wm, f_X8_opens vm = some wm ∧ DE q e F vc wm ∧ Ch T3 vm wm := by
  subst hd
  obtain ⟨b1, b2, b3⟩ := bad_go (F := F) hA hc hl
  refine ⟨rI (rI (rI vm 174 4 (nI a)) 174 5 (nI 6 + 1)) 174 3 (nI (a + 1)), ?_, ?_, (b3.I ⟨rfl, by omega⟩).I ⟨rfl, by omega⟩⟩
  · unfold f_X8_opens f_X8_opens_13
    rw [hA.2.2.2.1, if_pos (show nI 6 = (6 : Int32) from rfl), b1, Option.bind_some, vlet_eq, rI_no (a := 174) (b := 5) (by omega), hA.2.2.2.1, rI_no (a := 174) (b := 3) (by omega), rI_no (a := 174) (b := 3) (by omega), hA.2.1.2.1, ad1, ad1, vlet_eq]
  · obtain ⟨ev, ⟨w, w1, w2, w3⟩, hl', -⟩ := b2
    refine ⟨ev.ch (l := 0) (c := 0) Ch.rf (t3_tps ((Ch.rf.I ⟨rfl, by omega⟩).I ⟨rfl, by omega⟩)), ⟨w, w1, w2, by rw [rI_no (by omega), rI_no (by omega)]; exact w3⟩, hl', ⟨a + 1, c, rI_at _ _ _ _, by rw [rI_no (by omega), rI_no (by omega), rI_no (by omega)]; exact hA.2.2.2.2.2, by omega, by omega⟩⟩
theorem closes_go {q : Qy} {a l c dp e F m : Nat} {p : List Bool} {x : Int32} {vc vm : rV} (hx : x ≠ -1) (hA : AL q a l c (dp + 1) vc vm) (h1 : l + e ≤ a) (h2 : c + e ≤ a) : PK q (F + 1) e a 1 l c dp m p p nT kT vc vm (f_X3_goesOnWith vc x) (f_X8_closes vm x) := by
  obtain ⟨a1, uc, um, n1, n2, hA1, ha, hb, s3, t3⟩ := nb_go hA
  have hl := hA1.l
  refine PK.from (a1 := a1) (δ' := 1) ?_ (s3_sps s3) (t3_tps t3) (by omega) (Nat.le_refl _)
  rw [gw_eq (show f_X3_nextByte vc = f_X3_nextByte uc by rw [n1, nb_st hA1 hb])]
  unfold f_X8_closes f_X8_closes_20
  rw [hA.2.2.1, if_pos rfl, n2, Option.bind_some]
  simp only []
  by_cases z : bt q a1 = x
  · have han := bt_lt z hx
    rw [gw_y hA1 hb z, if_pos z, vlet_eq, hA1.2.1.2.1, ad1, rI_no (a := 174) (b := 5) (by omega), hA1.2.2.2.1, show nI (dp + 1) - 1 = nI dp from niSub (a := dp + 1) (b := 1) (by omega), vlet_eq]
    have := (hA1.at (a' := a1 + 1) (by omega)).dp (dp' := dp)
    exact Or.inl ⟨_, _, a1 + 1, [], rfl, rfl, this, trivial, SG.nil, Ty.nil, Nat.le_refl _, ⟨by simp only [List.length_nil]; omega, by simp only [List.length_nil]; omega⟩, s3_sps (Ch.rf.I ⟨rfl, rfl⟩), t3_tps ((Ch.rf.I ⟨rfl, by omega⟩).I ⟨rfl, by omega⟩)⟩
  · obtain ⟨b1, b2, b3⟩ := bad_go (F := F) (e := e) hA1 (by omega) (by omega)
    rw [gw_n hA1 hb z, if_neg z, b1, Option.bind_some, vlet_eq, rI_no (a := 174) (b := 3) (by omega), hA1.2.1.2.1, ad1, vlet_eq]
    refine PK.dead rfl rfl ?_ Ch.rf (t3_tps ((b3.I ⟨rfl, by omega⟩).I ⟨rfl, by omega⟩))
    obtain ⟨ev, ⟨w, w1, w2, w3⟩, hl', -⟩ := b2
    exact ⟨ev.ch (l := 0) (c := 0) Ch.rf (t3_tps ((Ch.rf.I ⟨rfl, by omega⟩).I ⟨rfl, by omega⟩)), ⟨w, w1, w2, by rw [rI_no (by omega), rI_no (by omega)]; exact w3⟩, hl', ⟨a1 + 1, c, by rw [rI_no (by omega), rI_at], by rw [rI_no (by omega), rI_no (by omega), rI_no (by omega)]; exact hA1.2.2.2.2.2, by omega, by omega⟩⟩
theorem closes_de {q : Qy} {e F : Nat} {x : Int32} {vc vm : rV} (h : DE q e F vc vm) (hF : F ≤ 100) : ∃ wm, f_X8_closes vm x = some wm ∧ DE q e (F + 1) vc wm ∧ Ch (Tps q.T 0) vm wm := by
  have hw := h.w
  obtain ⟨ev, ⟨w, w1, w2, w3⟩, hl, ⟨a, c, a1, a2, a3, a4⟩⟩ := h
  unfold f_X8_closes f_X8_closes_20
  rw [if_neg hw, vlet_eq, vlet_eq, a1, ad1]
  refine ⟨_, rfl, ⟨ev.ch (l := 0) (c := 0) Ch.rf (t3_tps ((Ch.rf.I ⟨rfl, by omega⟩).I ⟨rfl, by omega⟩)), ⟨w, w1, w2, by rw [rI_no (by omega), rI_no (by omega)]; exact w3⟩, hl, ⟨a + 1, c, by rw [rI_no (by omega), rI_at], by rw [rI_no (by omega), rI_no (by omega)]; exact a2, by omega, by omega⟩⟩, t3_tps ((Ch.rf.I ⟨rfl, by omega⟩).I ⟨rfl, by omega⟩)⟩
theorem cl_let (i : Nat) : cl (1, i) = -20 - nI i := rfl
theorem cl_num (v : Nat) : cl (0, v) = nI v := rfl
theorem one_cod {q : Qy} {h e a l c dp m : Nat} {p r : List Bool} {N : Nat → Prop} {vc vm : rV} (x : Nat × Nat) (hA : AL q a l c dp vc vm) (hN : N a) (hx : Ty q.w m p r [x]) (h1 : l + 1 + e ≤ a) (h2 : c + 1 + e ≤ a) : f_X2_add vc 4 (cl x) = some (ad5 vc (cl x)) ∧ f_X8_put vm (nI x.1) (nI x.2) = some (ptv vm q.T c (nI x.1) (nI x.2)) ∧ AL q a (l + 1) (c + 1) dp (ad5 vc (cl x)) (ptv vm q.T c (nI x.1) (nI x.2)) ∧ ∀ K, PK q h e a 0 l c dp m p r N K vc vm (K (ad5 vc (cl x)) a) (some (ptv vm q.T c (nI x.1) (nI x.2))) := by
  have hl := hA.l
  obtain ⟨k1, k2, k3, k4, k5, k6⟩ := cod_go hA (by omega) (by omega) x
  exact ⟨k1, k2, k3, fun K => Or.inl ⟨_, _, a, [x], rfl, rfl, k3, hN, k4, hx, Nat.le_refl _, ⟨h1, h2⟩, k5, k6⟩⟩
theorem atom_nd {q : Qy} {h e a l c dp : Nat} {Rc : rV → Int32 → Option (Bool × rV)} {Rm : rV → Option rV} {vc vm : rV}
    (hR : dp < 6 → ∀ e a l c vc vm, AL q a l c (dp + 1) vc vm → l + e ≤ a → c + e ≤ a → PK q (h - 1) e a 1 l c (dp + 1) (2 * h) [] [false] nT kT vc vm (Rc vc (nI (dp + 1))) (Rm vm))
    (hd : dp + h = 7) (hd6 : dp ≤ 6) (hA : AL q a l c dp vc vm) (hb : bt q a ≠ 32) (h1 : l + e ≤ a) (h2 : c + e ≤ a) :
    PK q h e a 1 l c dp (2 * h) [] [false] nT kT vc vm (f_X3_readAtom_22 Rc vc (nI dp) (bt q a)) (if (f_X8_letterOf vm (bt q a)) = (-1 : Int32) then (if bt q a = (91 : Int32) then ((f_X8_opens vm).bind fun p5 => if (p5.1 174 4) = (-1 : Int32) then ((Rm p5).bind fun p6 => (f_X8_closes p6 (93 : Int32)).bind fun p7 => some p7) else (some p5)) else ((f_X8_bad vm).bind fun p4 => some p4)) else (vlet (rI vm 174 3 ((vm.1 174 3) + (1 : Int32))) fun v10 => (f_X8_put v10 (1 : Int32) (f_X8_letterOf v10 (bt q a))).bind fun p12 => some p12)) := by
  have hl := hA.l
  have deadc : LX q (bt q a) = -1 → f_X3_readAtom_69 Rc vc (bt q a) = some (false, vc) := fun z => by
    rw [LX_c hA.1, z]
    unfold f_X3_readAtom_87
    rw [if_neg (by decide)]
  rw [LX_m hA.1]
  unfold f_X3_readAtom_22
  by_cases z91 : bt q a = 91
  · have han := bt_lt z91 (by decide)
    have zl : LX q (bt q a) = -1 := by
      rw [z91]
      unfold LX
      by_cases w : q.W = 0
      · rw [if_pos w]; decide
      · rw [if_neg w]; decide
    rw [if_pos z91, if_pos zl, if_pos z91]
    by_cases z6 : dp < 6
    · obtain ⟨wm, o1, o2, o3⟩ := opens_go hA z6 han
      rw [if_neg (show ¬ (6 : Int32) ≤ nI dp from nle (a := 6) z6 (by omega)), o1, Option.bind_some, o2.2.2.1, if_pos rfl, hA.2.1.1, ad1, ad1, vlet_eq]
      refine PK.from (a1 := a + 1) (δ := 1) (δ' := 1 + 1) ?_ (s3_sps (s3_up (a + 1))) (t3_tps o3) (by omega) (Nat.le_refl _)
      refine PK.bind (K1 := fun w _ => (f_X3_goesOnWith w 93).bind fun p9 => if p9.1 = true then some (true, p9.2) else some (false, p9.2)) (mid := [false]) ((hR z6 e (a + 1) l c _ _ o2 (by omega) (by omega)).cls _) (fun wc wm a' l' c' k1 _ k2 k3 k4 k5 k6 => ?_) (fun wc wm k => ?_)
      · have := (closes_go (F := h - 1) (e := e) (m := 2 * h) (p := [false]) (x := 93) (by decide) k1 k5 k6).cls (fun w => some (true, w))
        rw [show h - 1 + 1 = h by omega] at this
        have e9 : (f_X8_closes wm 93).bind (fun p7 => some p7) = f_X8_closes wm 93 := by cases f_X8_closes wm 93 <;> rfl
        rw [e9]
        exact this
      · obtain ⟨um, d1, d2, d3⟩ := closes_de (x := 93) k (by omega)
        rw [show h - 1 + 1 = h by omega] at d2
        exact ⟨um, by rw [d1]; rfl, d2, d3⟩
    · obtain ⟨wm, o1, o2, o3⟩ := opens_no (F := h) (e := e) hA (by omega) han h2 (by omega)
      rw [if_pos (show (6 : Int32) ≤ nI dp from ple (a := 6) (by omega) (by omega)), o1, Option.bind_some, if_neg o2.w]
      exact PK.dead (deadc zl) rfl o2 Ch.rf (t3_tps o3)
  · rw [if_neg z91]
    rcases LX_v hA.1 (bt q a) with zl | ⟨i, hi, zl⟩
    · rw [if_pos zl, if_neg z91]
      obtain ⟨b1, b2, b3⟩ := bad_go (F := h) (e := e) hA h2 (by omega)
      rw [b1, Option.bind_some]
      exact PK.dead (deadc zl) rfl b2 Ch.rf (t3_tps b3)
    · have hw : q.w ≤ 7 := by unfold Qy.w; omega
      have nz : ¬ LX q (bt q a) = -1 := fun y => by
        rw [zl] at y
        have := congrArg Int32.toInt y
        rw [niInt (by omega), show (-1 : Int32).toInt = -1 from rfl] at this
        omega
      have han : a < q.n := by
        by_cases y : a < q.n
        · exact y
        · rw [bt_end y, LX_n] at nz
          exact absurd rfl nz
      have hA1 := hA.at (a' := a + 1) (by omega)
      rw [LX_c hA.1, zl]
      rw [zl] at nz
      rw [if_neg nz, vlet_eq, hA.2.1.2.1, ad1, LX_m hA1.1, zl]
      unfold f_X3_readAtom_87
      rw [if_pos (show (0 : Int32) ≤ nI i from ple (a := 0) (by omega) (by omega)), vlet_eq, hA.2.1.1, ad1, ← cl_let]
      obtain ⟨k1, k2, k3, k4⟩ := one_cod (h := h) (e := e) (m := 2 * h) (p := []) (r := [false]) (N := nT) (1, i) hA1 trivial (ty_let hi (by omega)) (by omega) (by omega)
      rw [k1, Option.bind_some]
      rw [show f_X8_put (rI vm 174 3 (nI (a + 1))) 1 (nI i) = _ from k2, Option.bind_some]
      exact PK.from (a1 := a + 1) (δ := 1) (δ' := 0) (k4 kT) (s3_sps (s3_up (a + 1))) (t3_tps (t3_up (a + 1))) (by omega) (Nat.le_refl _)
theorem atom_go {q : Qy} {h e a l c dp : Nat} {Rc : rV → Int32 → Option (Bool × rV)} {Rm : rV → Option rV} {vc vm : rV}
    (hR : dp < 6 → ∀ e a l c vc vm, AL q a l c (dp + 1) vc vm → l + e ≤ a → c + e ≤ a → PK q (h - 1) e a 1 l c (dp + 1) (2 * h) [] [false] nT kT vc vm (Rc vc (nI (dp + 1))) (Rm vm))
    (hd : dp + h = 7) (hd6 : dp ≤ 6) (hA : AL q a l c dp vc vm) (h1 : l + e ≤ a) (h2 : c + e ≤ a) :
    PK q h e a 1 l c dp (2 * h) [] [false] nT kT vc vm (f_X3_readAtom Rc vc (nI dp)) (f_X8_atom Rm vm) := by
  obtain ⟨a1, uc, um, n1, n2, hA1, ha, hb, s3, t3⟩ := nb_go hA
  have hl := hA1.l
  refine PK.from (a1 := a1) (δ' := 1) ?_ (s3_sps s3) (t3_tps t3) (by omega) (Nat.le_refl _)
  unfold f_X3_readAtom f_X8_atom
  rw [n1, n2, Option.bind_some, Option.bind_some]
  simp only []
  have nd := atom_nd hR hd hd6 hA1 hb (show l + e ≤ a1 by omega) (by omega)
  unfold f_X8_isDigit
  by_cases p1 : bt q a1 < 48
  · rw [if_pos p1, if_pos p1, if_neg (by decide)]
    exact nd
  rw [if_neg p1, if_neg p1]
  by_cases p2 : 57 < bt q a1
  · rw [if_pos p2, if_pos p2, if_neg (by decide)]
    exact nd
  rw [if_neg p2, if_neg p2, if_pos rfl]
  unfold f_X3_readNumber f_X8_plainNumber
  obtain ⟨a2, v, wc, wm, j1, j2, j3, j4, j5, j6, j7, j8⟩ := num_lp 4 0 0 a1 20000 20000 uc um (by omega) (by omega) (by omega) (by omega) hA1
  have ha2 := j6 (by omega) p1 p2
  have hl2 := j3.l
  rw [hA1.2.1.1, byteAt_eq hA1.1 (by omega), Option.bind_some, show f_X3_readNumber_16 20000 uc 0 (bt q a1) 0 = _ from j1, show f_X8_plainNumber_4 20000 um 0 0 = _ from j2]
  unfold f_X3_readNumber_71 f_X8_plainNumber_48
  rw [here_eq j3.1 (by omega) j3.2.1.2.1, Option.bind_some]
  refine PK.from (a1 := a2) (δ' := 0) ?_ (s3_sps j7) (t3_tps j8) (by omega) (Nat.le_refl _)
  obtain ⟨k1, k2, k3, k4⟩ := one_cod (h := h) (e := e) (m := 2 * h) (p := []) (r := [false]) (N := nT) (0, v) j3 trivial (ty_num j5 (by omega)) (by omega) (by omega)
  rw [cl_num] at k1 k4
  unfold f_X8_isDigit
  by_cases q1 : bt q a2 < 48
  · rw [if_pos q1, if_neg (by decide), Option.bind_some]
    simp only [if_pos q1]
    rw [k1, Option.bind_some, Option.bind_some]
    rw [show f_X8_put wm 0 (nI v) = _ from k2, Option.bind_some]
    exact k4 kT
  by_cases q2 : 57 < bt q a2
  · rw [if_neg q1, if_pos q2, if_neg (by decide), Option.bind_some]
    simp only [if_neg q1, if_neg (show ¬ bt q a2 ≤ 57 from fun z => le_nlt z q2)]
    rw [k1, Option.bind_some, Option.bind_some]
    rw [show f_X8_put wm 0 (nI v) = _ from k2, Option.bind_some]
    exact k4 kT
  · rw [if_neg q1, if_neg q2, if_pos rfl]
    have le57 : bt q a2 ≤ 57 := by
      rw [lt_toInt] at q2
      rw [le_toInt]
      omega
    simp only [if_neg q1, if_pos le57]
    obtain ⟨b1, b2, b3⟩ := bad_go (F := h) (e := e + 1) j3 (by omega) (by omega)
    obtain ⟨tm, t1, t2, t3'⟩ := b2.puts (by omega) 0 (nI v)
    obtain ⟨c1, c2, c3⟩ := t2.ad (nI v)
    rw [k1, Option.bind_some, Option.bind_some, b1, Option.bind_some, Option.bind_some]
    simp only []
    rw [t1, Option.bind_some]
    exact PK.dead rfl rfl c2 c3 ((t3_tps b3).tr t3')
/-- what an operator's sign stands for -/
theorem term_lp {q : Qy} {h l0 dp : Nat} {Rc : rV → Int32 → Option (Bool × rV)} {Rm : rV → Option rV} {q4 : rV → Int32 → Int32 → Int32 → Option (Bool × rV)} {a2 a3 : Int32} (hh : h ≤ 7) (hl0 : l0 = 0)
    (hat : ∀ e a l c vc vm, AL q a l c dp vc vm → l + e ≤ a → c + e ≤ a → PK q h e a 1 l c dp (2 * h) [] [false] nT kT vc vm (f_X3_readAtom Rc vc (nI dp)) (f_X8_atom Rm vm)) :
    ∀ (d a f g j e l c : Nat) (vc vm : rV), q.n - a ≤ d → d < f → d + 1 < g → 2 * j ≤ a → AL q a l c dp vc vm → nB q a → l + e ≤ a → c + e ≤ a → PK q h e a 0 l c dp (2 * h + 1) [false] [false] (nB q) (fun wc a' => f_X3_readSum_105 Rc q4 wc (nI dp) a2 a3 (bt q a')) vc vm (f_X3_readSum_30 Rc q4 f vc (nI dp) a2 a3 (bt q a) (nI j)) (f_X8_term_21 Rm g vm (bt q a)) := by
  intro d
  induction d with
  | zero =>
    intro a f g j e l c vc vm hd hf hg hj hA hb h1 h2
    obtain ⟨f, rfl⟩ : ∃ n', f = n' + 1 := ⟨f - 1, by omega⟩
    obtain ⟨g, rfl⟩ : ∃ n', g = n' + 1 := ⟨g - 1, by omega⟩
    have hl := hA.l
    have b1 : bt q a = -1 := bt_end (by omega)
    rw [f_X3_readSum_30, f_X8_term_21, if_neg (show ¬ (160 : Int32) ≤ nI j from nle (a := 160) (by omega) (by omega)), if_neg (show ¬ bt q a = 42 from by rw [b1]; decide), if_neg (show ¬ bt q a = 47 from by rw [b1]; decide), if_neg (show ¬ bt q a = 42 from by rw [b1]; decide), if_neg (show ¬ bt q a = 47 from by rw [b1]; decide)]
    exact PK.end hA hb h1 h2
  | succ d ih =>
    intro a f g j e l c vc vm hd hf hg hj hA hb h1 h2
    obtain ⟨f, rfl⟩ : ∃ n', f = n' + 1 := ⟨f - 1, by omega⟩
    obtain ⟨g, rfl⟩ : ∃ n', g = n' + 1 := ⟨g - 1, by omega⟩
    have hl := hA.l
    rw [f_X3_readSum_30, f_X8_term_21, if_neg (show ¬ (160 : Int32) ≤ nI j from nle (a := 160) (by omega) (by omega))]
    by_cases zz : bt q a = 42 ∨ bt q a = 47
    rotate_left
    · rw [if_neg (fun z => zz (Or.inl z)), if_neg (fun z => zz (Or.inr z)), if_neg (fun z => zz (Or.inl z)), if_neg (fun z => zz (Or.inr z))]
      exact PK.end hA hb h1 h2
    have han : a < q.n := by
      rcases zz with z | z
      · exact bt_lt z (by decide)
      · exact bt_lt z (by decide)
    obtain ⟨o, ho, c9, m9⟩ : ∃ o, (o = 4 ∨ o = 5) ∧ (∀ F : Int32 → Option (Bool × rV), (if bt q a = 42 then F (-3) else F (-4)) = F (cl (o, 0))) ∧ (∀ F : Int32 → Option rV, (if bt q a = 42 then F 4 else F 5) = F (nI o)) := by
      by_cases z : bt q a = 42
      · exact ⟨4, Or.inl rfl, fun F => by rw [if_pos z]; rfl, fun F => by rw [if_pos z]; rfl⟩
      · exact ⟨5, Or.inr rfl, fun F => by rw [if_neg z]; rfl, fun F => by rw [if_neg z]; rfl⟩
    have e1 : ∀ F : Option (Bool × rV), ∀ G : Option (Bool × rV), (if bt q a = 42 then F else if bt q a = 47 then F else G) = F := fun F G => by
      by_cases z : bt q a = 42
      · rw [if_pos z]
      · rw [if_neg z, if_pos (zz.resolve_left z)]
    have e2 : ∀ F : Option rV, ∀ G : Option rV, (if bt q a = 42 then F else if bt q a = 47 then F else G) = F := fun F G => by
      by_cases z : bt q a = 42
      · rw [if_pos z]
      · rw [if_neg z, if_pos (zz.resolve_left z)]
    rw [e1, e2]
    unfold f_X3_readSum_52 f_X8_term_33
    rw [vlet_eq, vlet_eq, hA.2.1.1, hA.2.1.2.1, ad1]
    have hA1 := hA.at (a' := a + 1) (by omega)
    refine PK.from (a1 := a + 1) (δ := 0) (δ' := 1 + 0) ?_ (s3_sps (s3_up (a + 1))) (t3_tps (t3_up (a + 1))) (by omega) (Nat.le_refl _)
    refine PK.bind (e1 := e + 1) (mid := [false, false]) (((hat (e + 1) (a + 1) l c _ _ hA1 (by omega) (by omega)).ty fun s t => t.push false).cls fun w => if bt q a = (42 : Int32) then (f_X3_readSum_90 Rc q4 (fun v a1 a2 a3 a4 a5 => f_X3_readSum_30 Rc q4 f v a1 a2 a3 a4 a5) w (nI dp) a2 a3 (nI j) (-3 : Int32)) else (f_X3_readSum_90 Rc q4 (fun v a1 a2 a3 a4 a5 => f_X3_readSum_30 Rc q4 f v a1 a2 a3 a4 a5) w (nI dp) a2 a3 (nI j) (-4 : Int32))) (fun wc wm a' l' c' k1 _ k2 k3 k4 k5 k6 => ?_) (fun wc wm k => ?_)
    · have hl2 := k1.l
      rw [c9 fun x => f_X3_readSum_90 Rc q4 (fun v a1 a2 a3 a4 a5 => f_X3_readSum_30 Rc q4 f v a1 a2 a3 a4 a5) wc (nI dp) a2 a3 (nI j) x, m9 fun x => f_X8_term_59 Rm (fun v a1 => f_X8_term_21 Rm g v a1) wm x]
      unfold f_X3_readSum_90 f_X8_term_59 f_X8_term_79
      obtain ⟨y1, y2, y3, y4, y5, y6⟩ := cod_go k1 (by omega) (by omega) (o, 0)
      obtain ⟨a3', vc', vm', n1, n2, n3, n4, n5, n6, n7⟩ := nb_go y3
      rw [y1, Option.bind_some, n1, Option.bind_some, vlet_eq, ad1]
      rw [show f_X8_put wm (nI o) 0 = _ from y2, Option.bind_some, y3.2.2.1, if_pos rfl, n2, Option.bind_some]
      simp only []
      rcases ih a3' f g (j + 1) e (l' + 1) (c' + 1) vc' vm' (by omega) (by omega) (by omega) (by omega) n3 n5 (by omega) (by omega) with ⟨uc, um, b, t, x1, x2, x3, x4, x5, x6, x7, x8, x9, x10⟩ | ⟨uc, um, x1, x2, x3, x4, x5⟩
      · refine Or.inl ⟨uc, um, b, (o, 0) :: t, x1, x2, ?_, x4, ?_, ?_, by omega, ?_, ((y5.tr (s3_sps n6)).tr (sps_mono x9 (by omega))), ((y6.tr (t3_tps n7)).tr (tps_mono x10 (by omega)))⟩
        · rw [List.length_cons, show l' + (t.length + 1) = l' + 1 + t.length by omega, show c' + (t.length + 1) = c' + 1 + t.length by omega]; exact x3
        · have a1 := (y4.ch (s3_sps (l := l' + 1) n6) (t3_tps (T := q.T) (c := c' + 1) n7) (by simp) (by simp)).ch x9 x10 (by simp) (by simp)
          exact SG.app (s := [(o, 0)]) a1 x5
        · exact Ty.seq (s := [(o, 0)]) (ty_ar (by omega) (by omega)) x6
        · rw [List.length_cons]; omega
      · exact Or.inr ⟨uc, um, x1, x2, x3, ((sps_mono y5 (Nat.zero_le _)).tr (s3_sps n6)).tr x4, ((tps_mono y6 (Nat.zero_le _)).tr (t3_tps n7)).tr x5⟩
    · rw [m9 fun x => f_X8_term_59 Rm (fun v a1 => f_X8_term_21 Rm g v a1) wm x]
      unfold f_X8_term_59 f_X8_term_79
      obtain ⟨tm, t1, t2, t3⟩ := k.puts (by omega) (nI o) 0
      obtain ⟨g, rfl⟩ : ∃ n', g = n' + 1 := ⟨g - 1, by omega⟩
      rw [t1, Option.bind_some, if_neg t2.w]
      dsimp only
      rw [f_X8_term_21, if_neg (by decide), if_neg (by decide)]
      exact ⟨tm, rfl, t2, t3⟩
theorem term_go {q : Qy} {h dp : Nat} {Rc : rV → Int32 → Option (Bool × rV)} {Rm : rV → Option rV} {q4 : rV → Int32 → Int32 → Int32 → Option (Bool × rV)} {a2 a3 : Int32} (hh : h ≤ 7)
    (hat : ∀ e a l c vc vm, AL q a l c dp vc vm → l + e ≤ a → c + e ≤ a → PK q h e a 1 l c dp (2 * h) [] [false] nT kT vc vm (f_X3_readAtom Rc vc (nI dp)) (f_X8_atom Rm vm))
    {e a l c : Nat} {vc vm : rV} (hA : AL q a l c dp vc vm) (h1 : l + e ≤ a) (h2 : c + e ≤ a) :
    PK q h e a 1 l c dp (2 * h + 1) [] [false] (nB q) (fun wc a' => f_X3_readSum_105 Rc q4 wc (nI dp) a2 a3 (bt q a')) vc vm ((f_X3_readAtom Rc vc (nI dp)).bind fun p1 => if p1.1 = true then ((f_X3_nextByte p1.2).bind fun p2 => f_X3_readSum_30 Rc q4 20000 p2.2 (nI dp) a2 a3 p2.1 (0 : Int32)) else (some (false, p1.2))) (f_X8_term Rm vm) := by
  unfold f_X8_term f_X8_term_20
  refine PK.bind (e1 := e) (δ1 := 1) (δ2 := 0) (mid := [false]) (((hat e a l c _ _ hA h1 h2).ty fun s t => t.mono (Nat.le_succ _)).cls fun w => (f_X3_nextByte w).bind fun p2 => f_X3_readSum_30 Rc q4 20000 p2.2 (nI dp) a2 a3 p2.1 (0 : Int32)) (fun wc wm a' l' c' k1 _ k2 k3 k4 k5 k6 => ?_) (fun wc wm k => ?_)
  · obtain ⟨a3', vc', vm', n1, n2, n3, n4, n5, n6, n7⟩ := nb_go k1
    have hl := n3.l
    rw [k1.2.2.1, if_pos rfl, n1, n2, Option.bind_some, Option.bind_some]
    exact PK.from (a1 := a3') (δ' := 0) (term_lp (l0 := 0) hh rfl hat (q.n - a3') a3' 20000 20000 0 e l' c' vc' vm' (Nat.le_refl _) (by omega) (by omega) (by omega) n3 n5 (by omega) (by omega)) (s3_sps n6) (t3_tps n7) (by omega) (Nat.le_refl _)
  · obtain ⟨f, hf⟩ : ∃ f, 20000 = f + 1 := ⟨19999, rfl⟩
    rw [if_neg k.w, hf, f_X8_term_21, if_neg (by decide), if_neg (by decide)]
    exact ⟨wm, rfl, k, Ch.rf⟩
theorem sum_lp {q : Qy} {h dp : Nat} {Rc : rV → Int32 → Option (Bool × rV)} {Rm : rV → Option rV} (hh : h ≤ 7)
    (hat : ∀ e a l c vc vm, AL q a l c dp vc vm → l + e ≤ a → c + e ≤ a → PK q h e a 1 l c dp (2 * h) [] [false] nT kT vc vm (f_X3_readAtom Rc vc (nI dp)) (f_X8_atom Rm vm)) :
    ∀ (d a f g i e l c : Nat) (vc vm : rV), q.n - a ≤ d → d < f → d + 1 < g → 2 * i ≤ a → AL q a l c dp vc vm → nB q a → l + e ≤ a → c + e ≤ a → PK q h e a 0 l c dp (2 * h + 2) [false] [false] nT kT vc vm (f_X3_readSum_129 Rc (fun v a1 a2 a3 => f_X3_readSum_4 Rc f v a1 a2 a3) vc (nI dp) (nI i) (bt q a)) (f_X8_sum_21 Rm g vm (bt q a)) := by
  intro d
  induction d with
  | zero =>
    intro a f g i e l c vc vm hd hf hg hi hA hb h1 h2
    obtain ⟨g, rfl⟩ : ∃ n', g = n' + 1 := ⟨g - 1, by omega⟩
    have hl := hA.l
    have b1 : bt q a = -1 := bt_end (by omega)
    unfold f_X3_readSum_129
    rw [f_X8_sum_21, if_neg (show ¬ bt q a = 43 from by rw [b1]; decide), if_neg (show ¬ bt q a = 45 from by rw [b1]; decide), if_neg (show ¬ bt q a = 43 from by rw [b1]; decide), if_neg (show ¬ bt q a = 45 from by rw [b1]; decide)]
    exact PK.end (K := kT) hA trivial h1 h2
  | succ d ih =>
    intro a f g i e l c vc vm hd hf hg hi hA hb h1 h2
    obtain ⟨f, rfl⟩ : ∃ n', f = n' + 1 := ⟨f - 1, by omega⟩
    obtain ⟨g, rfl⟩ : ∃ n', g = n' + 1 := ⟨g - 1, by omega⟩
    have hl := hA.l
    unfold f_X3_readSum_129
    rw [f_X8_sum_21]
    by_cases zz : bt q a = 43 ∨ bt q a = 45
    rotate_left
    · rw [if_neg (fun z => zz (Or.inl z)), if_neg (fun z => zz (Or.inr z)), if_neg (fun z => zz (Or.inl z)), if_neg (fun z => zz (Or.inr z))]
      exact PK.end (K := kT) hA trivial h1 h2
    have han : a < q.n := by
      rcases zz with z | z
      · exact bt_lt z (by decide)
      · exact bt_lt z (by decide)
    obtain ⟨o, ho, c9, m9⟩ : ∃ o, (o = 2 ∨ o = 3) ∧ (∀ F : Int32 → Option (Bool × rV), (if bt q a = 43 then F (-1) else F (-2)) = F (cl (o, 0))) ∧ (∀ F : Int32 → Option rV, (if bt q a = 43 then F 2 else F 3) = F (nI o)) := by
      by_cases z : bt q a = 43
      · exact ⟨2, Or.inl rfl, fun F => by rw [if_pos z]; rfl, fun F => by rw [if_pos z]; rfl⟩
      · exact ⟨3, Or.inr rfl, fun F => by rw [if_neg z]; rfl, fun F => by rw [if_neg z]; rfl⟩
    have e1 : ∀ F : Option (Bool × rV), ∀ G : Option (Bool × rV), (if bt q a = 43 then F else if bt q a = 45 then F else G) = F := fun F G => by
      by_cases z : bt q a = 43
      · rw [if_pos z]
      · rw [if_neg z, if_pos (zz.resolve_left z)]
    have e2 : ∀ F : Option rV, ∀ G : Option rV, (if bt q a = 43 then F else if bt q a = 45 then F else G) = F := fun F G => by
      by_cases z : bt q a = 43
      · rw [if_pos z]
      · rw [if_neg z, if_pos (zz.resolve_left z)]
    rw [e1, e2]
    unfold f_X3_readSum_145 f_X8_sum_33
    rw [vlet_eq, vlet_eq, vlet_eq, hA.2.1.1, hA.2.1.2.1, ad1, ad1]
    dsimp only
    rw [f_X3_readSum_4, if_neg (show ¬ (160 : Int32) ≤ nI (i + 1) from nle (a := 160) (by omega) (by omega))]
    have hA1 := hA.at (a' := a + 1) (by omega)
    have nm : ¬ bt q a = -1 := by
      rcases zz with z | z <;> rw [z] <;> decide
    refine PK.from (a1 := a + 1) (δ := 0) (δ' := 1 + 0) ?_ (s3_sps (s3_up (a + 1))) (t3_tps (t3_up (a + 1))) (by omega) (Nat.le_refl _)
    refine PK.bind (e1 := e + 1) (mid := [false, false]) ((term_go hh hat (e := e + 1) hA1 (by omega) (by omega)).ty fun s t => t.push false) (fun wc wm a' l' c' k1 kb k2 k3 k4 k5 k6 => ?_) (fun wc wm k => ?_)
    · have hl2 := k1.l
      unfold f_X3_readSum_105 f_X3_readSum_126
      rw [if_neg nm, c9 fun x => (f_X2_add wc 4 x).bind fun p7 => f_X3_readSum_129 Rc (fun v a1 a2 a3 => f_X3_readSum_4 Rc f v a1 a2 a3) p7 (nI dp) (nI (i + 1)) (bt q a'), m9 fun x => f_X8_sum_59 Rm (fun v a1 => f_X8_sum_21 Rm g v a1) wm x]
      unfold f_X8_sum_59 f_X8_sum_79
      obtain ⟨y1, y2, y3, y4, y5, y6⟩ := cod_go k1 (by omega) (by omega) (o, 0)
      rw [y1, Option.bind_some]
      rw [show f_X8_put wm (nI o) 0 = _ from y2, Option.bind_some, y3.2.2.1, if_pos rfl, lk_st y3 kb, Option.bind_some]
      simp only []
      rcases ih a' f g (i + 1) e (l' + 1) (c' + 1) _ _ (by omega) (by omega) (by omega) (by omega) y3 kb (by omega) (by omega) with ⟨uc, um, b, t, x1, x2, x3, x4, x5, x6, x7, x8, x9, x10⟩ | ⟨uc, um, x1, x2, x3, x4, x5⟩
      · refine Or.inl ⟨uc, um, b, (o, 0) :: t, x1, x2, ?_, x4, ?_, ?_, by omega, ?_, y5.tr (sps_mono x9 (by omega)), y6.tr (tps_mono x10 (by omega))⟩
        · rw [List.length_cons, show l' + (t.length + 1) = l' + 1 + t.length by omega, show c' + (t.length + 1) = c' + 1 + t.length by omega]; exact x3
        · exact SG.app (s := [(o, 0)]) (y4.ch x9 x10 (by simp) (by simp)) x5
        · exact Ty.seq (s := [(o, 0)]) (ty_ar (by omega) (by omega)) x6
        · rw [List.length_cons]; omega
      · exact Or.inr ⟨uc, um, x1, x2, x3, (sps_mono y5 (Nat.zero_le _)).tr x4, (tps_mono y6 (Nat.zero_le _)).tr x5⟩
    · rw [m9 fun x => f_X8_sum_59 Rm (fun v a1 => f_X8_sum_21 Rm g v a1) wm x]
      unfold f_X8_sum_59 f_X8_sum_79
      obtain ⟨tm, t1, t2, t3⟩ := k.puts (by omega) (nI o) 0
      obtain ⟨g, rfl⟩ : ∃ n', g = n' + 1 := ⟨g - 1, by omega⟩
      rw [t1, Option.bind_some, if_neg t2.w]
      dsimp only
      rw [f_X8_sum_21, if_neg (by decide), if_neg (by decide)]
      exact ⟨tm, rfl, t2, t3⟩
/-- a sum, at any depth; what it needs of the stack: 2 h + 2 -/
theorem sum_go {q : Qy} : ∀ (h : Nat), 1 ≤ h → ∀ (nf mf dp e a l c : Nat) (vc vm : rV), dp + h = 7 → h ≤ nf → h ≤ mf → AL q a l c dp vc vm → l + e ≤ a → c + e ≤ a → PK q h e a 1 l c dp (2 * h + 2) [] [false] nT kT vc vm (f_X3_readSum nf vc (nI dp)) (f_X8_sum mf vm) := by
  intro h
  induction h with
  | zero => intro h1; omega
  | succ h ih =>
    intro _ nf mf dp e a l c vc vm hd hn hm hA h1 h2
    obtain ⟨nf, rfl⟩ : ∃ n', nf = n' + 1 := ⟨nf - 1, by omega⟩
    obtain ⟨mf, rfl⟩ : ∃ n', mf = n' + 1 := ⟨mf - 1, by omega⟩
    have hat : ∀ e a l c vc vm, AL q a l c dp vc vm → l + e ≤ a → c + e ≤ a → PK q (h + 1) e a 1 l c dp (2 * (h + 1)) [] [false] nT kT vc vm (f_X3_readAtom (f_X3_readSum nf) vc (nI dp)) (f_X8_atom (f_X8_sum mf) vm) := fun e a l c vc vm k1 k2 k3 => by
      have hat0 := atom_go (q := q) (h := h + 1) (e := e) (Rc := f_X3_readSum nf) (Rm := f_X8_sum mf) (dp := dp) (a := a) (l := l) (c := c) (vc := vc) (vm := vm) (fun z6 e a l c vc vm r1 r2 r3 => by
        rw [show h + 1 - 1 = h by omega]
        exact ih (by omega) nf mf (dp + 1) e a l c vc vm (by omega) (by omega) (by omega) r1 r2 r3) hd (by omega) k1 k2 k3
      exact hat0
    rw [f_X3_readSum, f_X8_sum]
    unfold f_X3_readSum_B f_X8_sum_B f_X8_sum_20
    obtain ⟨f, hf⟩ : ∃ f, 20000 = f + 1 := ⟨19999, rfl⟩
    have hl := hA.l
    rw [show f_X3_readSum_4 (f_X3_readSum nf) 20000 vc (nI dp) (-1) 0 = f_X3_readSum_4 (f_X3_readSum nf) (f + 1) vc (nI dp) (-1) 0 by rw [← hf], f_X3_readSum_4, if_neg (by decide)]
    refine PK.bind (e1 := e) (δ1 := 1) (δ2 := 0) (mid := [false]) ((term_go (by omega) hat (e := e) hA h1 h2).ty fun s t => t.mono (by omega)) (fun wc wm a' l' c' k1 kb k2 k3 k4 k5 k6 => ?_) (fun wc wm k => ?_)
    · have hl2 := k1.l
      unfold f_X3_readSum_105
      rw [if_pos rfl, k1.2.2.1, if_pos rfl, lk_st k1 kb, Option.bind_some]
      exact sum_lp (by omega) hat (q.n - a') a' f 20000 0 e l' c' wc wm (Nat.le_refl _) (by omega) (by omega) (by omega) k1 kb (by omega) (by omega)
    · rw [if_neg k.w, hf, f_X8_sum_21, if_neg (by decide), if_neg (by decide)]
      exact ⟨wm, rfl, k, Ch.rf⟩
