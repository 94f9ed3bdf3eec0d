/-! TEXTS: laws and wants, read -/
theorem c183_de {q : Qy} {e F k : Nat} {x : Int32} {vc vm : rV} (h : DE q e F vc vm) (hk : k < 90) (e3 : vm.1 179 q.T = nI k) : ∃ wm, f_X8_clause_183 vm (nI (90 * q.T + k)) x = some wm ∧ DE q e F vc wm ∧ Ch (Tk q.T k) vm wm := by
  have hT := h.1.1.2.1
  unfold f_X8_clause_183
  rw [if_pos (gin (show 90 * q.T + k < 810 by omega) (by omega)), niCl (show 90 * q.T + k < 2147483648 by omega), vlet_eq]
  have m11 : Ch (Tk q.T k) vm (rI vm 181 (90 * q.T + k) (vm.1 180 (90 * q.T + k))) := Ch.rf.I (Or.inr ⟨by omega, by omega, by omega⟩)
  have h2 := h.mk m11
  obtain ⟨wm, x1, x2, x3⟩ := c250_de h2 hk (by rw [rI_no (by omega)]; exact e3)
  rw [x1, if_neg h2.w]
  by_cases z : x = 0
  · rw [if_pos z]; exact ⟨wm, rfl, x2, m11.tr x3⟩
  · rw [if_neg z]; exact ⟨wm, rfl, x2, m11.tr x3⟩
theorem PK.rest {q : Qy} {a δ l c k : Nat} {vc vm : rV} {X : Option (Bool × rV)} {g : Option rV} (K : PK q 7 2 a δ l c 0 19 [] [true] nT kT vc vm X g) (hk : k < 90) (hl : l ≤ 1000) (e180 : vm.1 180 (90 * q.T + k) = nI c) (e179 : vm.1 179 q.T = nI k) : CP q a δ l c k vc vm (X.bind fun p4 => if p4.1 = true then CR p4.2 else some (false, p4.2)) (g.bind fun p => f_X8_clause_183 p (nI (90 * q.T + k)) 1) := by
  rcases K with ⟨wc, wm, a', s, k1, k2, k3, k4, k5, k6, k7, k8, k9, k10⟩ | ⟨wc, wm, k1, k2, k3, k4, k5⟩
  · have hl3 := k3.l
    rw [k1, k2, Option.bind_some]
    unfold kT
    rw [Option.bind_some, if_pos (show (true, wc).1 = true from rfl)]
    exact CP.from (rest_go k3 (by omega) (by omega) hk rfl rfl k6 k5 (by rw [k10.1 _ _ (by unfold Tps; omega)]; exact e180) (by rw [k10.1 _ _ (by unfold Tps; omega)]; exact e179)) k9 (tps_tcl k10) (by omega)
  · obtain ⟨xm, x1, x2, x3⟩ := c183_de (x := 1) k3 hk (by rw [k5.1 _ _ (by unfold Tps; omega)]; exact e179)
    rw [k1, k2, Option.bind_some, Option.bind_some, x1, if_neg (show ¬ (false, wc).1 = true from Bool.false_ne_true)]
    exact Or.inr ⟨wc, xm, rfl, rfl, x2.weak (Nat.zero_le _), k4, (tps_tcl k5).tr (tcl_mono (tk_tcl (c := 0) x3) (Nat.le_refl _) (Nat.zero_le _))⟩
theorem DE.up {q : Qy} {e F : Nat} {vc vm : rV} (h : DE q e F vc vm) : DE q e (F + 1) vc (rI vm 174 3 (vm.1 174 3 + 1)) := by
  obtain ⟨ev, ⟨w, w1, w2, w3⟩, hl, ⟨a, c, a1, a2, a3, a4⟩⟩ := h
  rw [a1, ad1]
  exact ⟨ev.ch (l := 0) (c := 0) Ch.rf (t3_tps (t3_up (a + 1))), ⟨w, w1, w2, by rw [rI_no (by omega)]; exact w3⟩, hl, ⟨a + 1, c, rI_at _ _ _ _, by rw [rI_no (by omega)]; exact a2, by omega, by omega⟩⟩
theorem DE.up_t {vm : rV} : Ch T3 vm (rI vm 174 3 (vm.1 174 3 + 1)) := Ch.rf.I ⟨rfl, by omega⟩
theorem clause_go {q : Qy} {a l c k : Nat} {vc vm : rV} (hA : AL q a l c 0 vc vm) (h1 : l ≤ a) (h2 : c ≤ a) (hk : k < 90) (e179 : vm.1 179 q.T = nI k) : CP q a 3 l c k vc vm (f_X3_readClause vc) (f_X8_clause vm) := by
  have hq := hA.1.1.2.1
  have ik : (90 : Int32) * nI q.T + nI k = nI (90 * q.T + k) := by rw [show (90 : Int32) * nI q.T = nI (90 * q.T) from niMul 90 q.T, niAdd]
  obtain ⟨a1, uc, um, n1, n2, hA1, ha1, hb1, s1, t1⟩ := nb_go hA
  have hl1 := hA1.l
  refine CP.from (a1 := a1) (δ' := 3) ?_ (s3_sps s1) (tps_tcl (t3_tps t1)) (by omega)
  unfold f_X3_readClause f_X8_clause
  rw [gw_eq (show f_X3_nextByte vc = f_X3_nextByte uc by rw [n1, nb_st hA1 hb1]), hA.1.2.2.2.2.1, if_pos (gin (show q.T < 9 by omega) (by omega)), niCl (show q.T < 2147483648 by omega), e179, ik, vlet_eq, hA.2.2.1, if_pos rfl, n2, Option.bind_some]
  simp only []
  have e179u : um.1 179 q.T = nI k := by rw [t1.1 _ _ (by unfold T3; omega)]; exact e179
  unfold f_X8_clause_39
  by_cases z1 : bt q a1 = 121
  rotate_left
  · obtain ⟨b1, b2, b3⟩ := bad_go (F := 5) (e := 0) hA1 (by omega) (by omega)
    have d1 := b2.up
    have d2 := d1.up
    rw [gw_n hA1 hb1 z1, if_neg z1, Option.bind_some, b1, Option.bind_some, vlet_eq, if_neg d1.w]
    simp only []
    rw [if_neg (by decide)]
    unfold f_X8_clause_70
    rw [vlet_eq, if_neg d2.w]
    exact Or.inr ⟨_, _, rfl, rfl, d2, Ch.rf, tps_tcl (t3_tps ((b3.tr DE.up_t).tr DE.up_t))⟩
  have han1 := bt_lt z1 (by decide)
  rw [gw_y hA1 hb1 z1, if_pos z1, Option.bind_some, vlet_eq, hA1.2.1.2.1, ad1]
  simp only []
  rw [if_pos trivial]
  have hA1' := hA1.at (a' := a1 + 1) (by omega)
  obtain ⟨a2, uc2, um2, n3, n4, hA2, ha2, hb2, s2, t2⟩ := nb_go hA1'
  have hl2 := hA2.l
  refine CP.from (a1 := a2) (δ' := 2) ?_ ((s3_sps (s3_up (a1 + 1))).tr (s3_sps s2)) ((tps_tcl (t3_tps (t3_up (a1 + 1)))).tr (tps_tcl (t3_tps t2))) (by omega)
  rw [gw_eq (show f_X3_nextByte (rI uc 3 3 (nI (a1 + 1))) = f_X3_nextByte uc2 by rw [n3, nb_st hA2 hb2]), hA1'.2.2.1, if_pos rfl, n4, Option.bind_some]
  simp only []
  have e179v : um2.1 179 q.T = nI k := by rw [t2.1 _ _ (by unfold T3; omega), rI_no (by omega)]; exact e179u
  unfold f_X8_clause_70
  by_cases z2 : bt q a2 = 58
  rotate_left
  · obtain ⟨b1, b2, b3⟩ := bad_go (F := 6) (e := 0) hA2 (by omega) (by omega)
    have d1 := b2.up
    rw [gw_n hA2 hb2 z2, if_neg z2, Option.bind_some, b1, Option.bind_some, vlet_eq, if_neg d1.w]
    simp only []
    rw [if_neg (by decide)]
    exact Or.inr ⟨_, _, rfl, rfl, d1, Ch.rf, tps_tcl (t3_tps (b3.tr DE.up_t))⟩
  have han2 := bt_lt z2 (by decide)
  rw [gw_y hA2 hb2 z2, if_pos z2, Option.bind_some, vlet_eq, hA2.2.1.2.1, ad1]
  simp only []
  rw [if_pos trivial]
  have hA2' := hA2.at (a' := a2 + 1) (by omega)
  rw [hA2'.2.2.1, if_pos rfl, hA2'.1.2.2.2.2.1, if_pos (gin (show q.T < 9 by omega) (by omega)), if_pos (gin (show 90 * q.T + k < 810 by omega) (by omega)), niCl (show q.T < 2147483648 by omega), niCl (show 90 * q.T + k < 2147483648 by omega), hA2'.2.2.2.2.2, vlet_eq]
  obtain ⟨v7, ev7⟩ : ∃ v, v = rI (rI um2 174 3 (nI (a2 + 1))) 180 (90 * q.T + k) (nI c) := ⟨_, rfl⟩
  rw [← ev7]
  have m7 : Ch (Tk q.T k) (rI um2 174 3 (nI (a2 + 1))) v7 := by rw [ev7]; exact Ch.rf.I (Or.inr ⟨by omega, by omega, by omega⟩)
  have hA7 := hA2'.mk m7
  obtain ⟨a3, uc3, um3, n5, n6, hA3, ha3, hb3, s3, t3⟩ := nb_go hA7
  have hl3 := hA3.l
  have e180 : um3.1 180 (90 * q.T + k) = nI c := by rw [t3.1 _ _ (by unfold T3; omega), ev7, rI_at]
  have e179w : um3.1 179 q.T = nI k := by rw [t3.1 _ _ (by unfold T3; omega), ev7, rI_no (by omega), rI_no (by omega)]; exact e179v
  refine CP.from (a1 := a3) (δ' := 1) ?_ ((s3_sps (s3_up (a2 + 1))).tr (s3_sps s3)) (((tps_tcl (t3_tps (t3_up (a2 + 1)))).tr (tk_tcl m7)).tr (tps_tcl (t3_tps t3))) (by omega)
  rw [n5, n6, Option.bind_some, Option.bind_some]
  simp only []
  rw [lk_st hA3 hb3, Option.bind_some]
  simp only []
  -- a condition, or a sum first
  have pC : CP q a3 1 l c k uc3 um3 (f_X3_readClause_41 uc3) (f_X8_clause_122 um3 (nI (90 * q.T + k))) := by
    unfold f_X3_readClause_41 f_X3_readClause_42 f_X3_readClause_57 f_X3_readClause_82 f_X8_clause_122 f_X8_clause_127
    rw [if_pos rfl, if_pos rfl, if_neg (by decide)]
    exact PK.rest ((unit_cond 7 (by omega)).2 10 10 0 2 a3 l c uc3 um3 (by omega) (by omega) (by omega) hA3 (by omega) (by omega)) hk (by omega) e180 e179w
  have pS : CP q a3 1 l c k uc3 um3 (f_X3_readClause_42 uc3 1) (f_X8_clause_127 um3 (nI (90 * q.T + k)) 0) := by
    unfold f_X3_readClause_42 f_X8_clause_127
    rw [if_neg (by decide), if_pos rfl]
    rcases sum_go 7 (by omega) 10 10 0 2 a3 l c uc3 um3 (by omega) (by omega) (by omega) hA3 (by omega) (by omega) with ⟨wc, wm, a', s, k1, k2, k3, k4, k5, k6, k7, k8, k9, k10⟩ | ⟨wc, wm, k1, k2, k3, k4, k5⟩
    · have z1 : f_X3_readSum 10 uc3 0 = some (true, wc) := k1
      have w180 : wm.1 180 (90 * q.T + k) = nI c := by rw [k10.1 _ _ (by unfold Tps; omega)]; exact e180
      have w179 : wm.1 179 q.T = nI k := by rw [k10.1 _ _ (by unfold Tps; omega)]; exact e179w
      rw [z1, Option.bind_some, k2, Option.bind_some, k3.2.2.1, if_pos rfl]
      simp only []
      rw [if_pos trivial]
      unfold f_X3_readClause_57
      rw [if_neg (by decide)]
      obtain ⟨a5, vc5, vm5, n7, n8, hA5, ha5, hb5, s5, t5⟩ := nb_go k3
      have hl5 := hA5.l
      have v180 : vm5.1 180 (90 * q.T + k) = nI c := by rw [t5.1 _ _ (by unfold T3; omega)]; exact w180
      have v179 : vm5.1 179 q.T = nI k := by rw [t5.1 _ _ (by unfold T3; omega)]; exact w179
      rw [n7, n8, Option.bind_some, Option.bind_some]
      simp only []
      rw [show f_X3_isComparison (bt q a5) = f_X8_isSign (bt q a5) from rfl]
      have SG5 : SG q.T vc5 vm5 l c s := k5.ch (s3_sps (l := l + s.length) s5) (t3_tps (T := q.T) (c := c + s.length) t5) (Nat.le_refl _) (Nat.le_refl _)
      have cc5 : Ch (Sps l) uc3 vc5 := k9.tr (s3_sps s5)
      have cm5 : Ch (Tps q.T c) um3 vm5 := k10.tr (t3_tps t5)
      by_cases z : f_X8_isSign (bt q a5) = true
      · rw [if_pos z, if_pos z]
        unfold f_X3_readClause_82 f_X8_clause_166
        rw [if_neg (by decide)]
        have K := there_go (q := q) (h := 7) (dp := 0) (e := 2) (nf := 9) (Rm := f_X8_unit 10) (by omega) (by omega) (unit_U (by omega) (by omega) (by omega) (by omega)) hA5 (by omega) (by omega)
        have e9 : ((f_X8_compare vm5).bind fun p27 => (f_X8_goOnAnd (f_X8_unit 10) p27).bind fun p28 => (f_X8_goOnOr (f_X8_unit 10) p28).bind fun p29 => f_X8_clause_183 p29 (nI (90 * q.T + k)) 1) = (((f_X8_compare vm5).bind fun p => (f_X8_goOnAnd (f_X8_unit 10) p).bind fun p => f_X8_goOnOr (f_X8_unit 10) p).bind fun p => f_X8_clause_183 p (nI (90 * q.T + k)) 1) := by
          rw [Option.bind_assoc]
          congr 1
          funext p
          rw [Option.bind_assoc]
        rw [e9]
        refine PK.rest (X := f_X3_readCondition 10 vc5 0 1) ?_ hk (by omega) e180 e179w
        rcases K with ⟨tc, tm, b, r, x1, x2, x3, x4, x5, x6, x7, x8, x9, x10⟩ | ⟨tc, tm, x1, x2, x3, x4, x5⟩
        · refine Or.inl ⟨tc, tm, b, s ++ r, x1, x2, ?_, x4, (SG5.ch x9 x10 (Nat.le_refl _) (Nat.le_refl _)).app x5, (k6.mono (show 2 * 7 + 2 ≤ 19 by omega)).seq x6, by omega, ?_, cc5.tr (sps_mono x9 (Nat.le_add_right _ _)), cm5.tr (tps_mono x10 (Nat.le_add_right _ _))⟩
          · rw [List.length_append, ← Nat.add_assoc, ← Nat.add_assoc]; exact x3
          · rw [List.length_append, ← Nat.add_assoc, ← Nat.add_assoc]; exact x8
        · exact Or.inr ⟨tc, tm, x1, x2, x3, (sps_mono cc5 (Nat.zero_le _)).tr x4, (tps_mono cm5 (Nat.zero_le _)).tr x5⟩
      · rw [if_neg z, if_neg z]
        unfold f_X8_clause_165 f_X8_clause_166 f_X8_clause_183
        rw [if_pos rfl, if_pos (gin (show 90 * q.T + k < 810 by omega) (by omega)), niCl (show 90 * q.T + k < 2147483648 by omega), v180, vlet_eq, if_pos rfl]
        obtain ⟨v11, ev11⟩ : ∃ v, v = rI vm5 181 (90 * q.T + k) (nI c) := ⟨_, rfl⟩
        rw [← ev11]
        have m11 : Ch (Tk q.T k) vm5 v11 := by rw [ev11]; exact Ch.rf.I (Or.inr ⟨by omega, by omega, by omega⟩)
        have hA11 := hA5.mk m11
        obtain ⟨x1, x2⟩ := c250_eq hq hk hA11.1.2.2.2.2.1 hA11.2.2.2.2.2 (by rw [ev11, rI_no (by omega)]; exact v179)
        obtain ⟨y1, y2, y3, y4⟩ := hA11.ad (by omega) (-12)
        rw [y1, Option.bind_some, x1]
        obtain ⟨w6, ew6⟩ : ∃ v, v = rI (rI v11 182 (90 * q.T + k) (nI (c + s.length))) 179 q.T (nI (k + 1)) := ⟨_, rfl⟩
        rw [← ew6] at x2 ⊢
        have hA6 := y2.mk x2
        refine Or.inl ⟨_, w6, a5, ([], s), rfl, rfl, ?_, by rw [ew6, rI_at], ⟨⟨?_, ?_, ?_⟩, k6, Or.inl ⟨rfl, ?_, y3⟩⟩, by omega, ⟨?_, ?_⟩, cc5.tr (sps_mono y4 (Nat.le_add_right _ _)), (tps_tcl cm5).tr ((tk_tcl m11).tr (tk_tcl x2))⟩
        · unfold cL cC
          rw [if_pos rfl]
          show AL q a5 (l + (s.length + 1)) (c + (0 + s.length)) 0 _ w6
          rw [Nat.zero_add, ← Nat.add_assoc]
          exact hA6
        · rw [ew6, rI_no (by omega), rI_no (by omega), ev11, rI_no (by omega)]; exact v180
        · show w6.1 181 (90 * q.T + k) = nI (c + 0)
          rw [ew6, rI_no (by omega), rI_no (by omega), ev11, rI_at]
          rfl
        · show w6.1 182 (90 * q.T + k) = nI (c + 0 + s.length)
          rw [ew6, rI_no (by omega), rI_at]
          rfl
        · exact ((SG5.mk m11).ch y4 (c' := c + s.length) Ch.rf (Nat.le_refl _) (Nat.le_refl _)).mk x2
        · unfold cL
          rw [if_pos rfl]
          show l + (s.length + 1) ≤ a5
          omega
        · unfold cC
          show c + (0 + s.length) ≤ a5
          omega
    · have z1 : f_X3_readSum 10 uc3 0 = some (false, wc) := k1
      rw [z1, Option.bind_some, k2, Option.bind_some, if_neg k3.w]
      simp only []
      rw [if_neg (by decide)]
      unfold f_X8_clause_165 f_X8_clause_166
      rw [if_pos rfl]
      obtain ⟨xm, x1, x2, x3⟩ := c183_de (x := 0) k3 hk (by rw [k5.1 _ _ (by unfold Tps; omega)]; exact e179w)
      rw [x1]
      exact Or.inr ⟨wc, xm, rfl, rfl, x2.weak (Nat.zero_le _), k4, (tps_tcl k5).tr (tcl_mono (tk_tcl (c := 0) x3) (Nat.le_refl _) (Nat.zero_le _))⟩
  by_cases z3 : bt q a3 = 33
  · rw [if_pos z3, if_pos z3]; exact pC
  rw [if_neg z3, if_neg z3]
  by_cases z4 : bt q a3 = 40
  · rw [if_pos z4, if_pos z4]; exact pC
  · rw [if_neg z4, if_neg z4]; exact pS
/-! the clauses of a law -/
def LWs (q : Qy) (vc vm : rV) : List (List (Nat × Nat) × List (Nat × Nat)) → Nat → Nat → Nat → Prop
  | [], _, _, _ => True
  | x :: r, l, c, k => CLs q vc vm l c k x ∧ LWs q vc vm r (l + cL x) (c + cC x) (k + 1)
def tL : List (List (Nat × Nat) × List (Nat × Nat)) → Nat
  | [] => 0
  | x :: r => cL x + tL r
def tC : List (List (Nat × Nat) × List (Nat × Nat)) → Nat
  | [] => 0
  | x :: r => cC x + tC r
theorem LWs.snoc {q : Qy} {vc vm : rV} {x : List (Nat × Nat) × List (Nat × Nat)} : ∀ {cs l c k}, LWs q vc vm cs l c k → CLs q vc vm (l + tL cs) (c + tC cs) (k + cs.length) x → LWs q vc vm (cs ++ [x]) l c k
  | [], l, c, k, _, h => ⟨h, trivial⟩
  | y :: r, l, c, k, ⟨h1, h2⟩, h => ⟨h1, LWs.snoc h2 (by
      simp only [tL, tC, List.length_cons] at h
      rw [show l + cL y + tL r = l + (cL y + tL r) by omega, show c + cC y + tC r = c + (cC y + tC r) by omega, show k + 1 + r.length = k + (r.length + 1) by omega]
      exact h)⟩
theorem tL_s (cs : List (List (Nat × Nat) × List (Nat × Nat))) (x : List (Nat × Nat) × List (Nat × Nat)) : tL (cs ++ [x]) = tL cs + cL x := by
  induction cs with
  | nil => simp [tL]
  | cons y r ih => simp only [List.cons_append, tL, ih]; omega
theorem tC_s (cs : List (List (Nat × Nat) × List (Nat × Nat))) (x : List (Nat × Nat) × List (Nat × Nat)) : tC (cs ++ [x]) = tC cs + cC x := by
  induction cs with
  | nil => simp [tC]
  | cons y r ih => simp only [List.cons_append, tC, ih]; omega
theorem LWs.ch {q : Qy} {vc vm wc wm : rV} {l' c' k' : Nat} (hc : Ch (Sps l') vc wc) (hm : Ch (Tcl q.T c' k') vm wm) : ∀ {cs l c k}, LWs q vc vm cs l c k → l + tL cs ≤ l' → c + tC cs ≤ c' → k + cs.length ≤ k' → LWs q wc wm cs l c k
  | [], _, _, _, _, _, _, _ => trivial
  | y :: r, l, c, k, ⟨h1, h2⟩, e1, e2, e3 => by
    simp only [tL, tC, List.length_cons] at e1 e2 e3
    exact ⟨h1.ch hc hm (by omega) (by omega) (by omega), LWs.ch hc hm h2 (by omega) (by omega) (by omega)⟩
