/-! TEXTS: clauses -/
def Tcl (T c k : Nat) : Nat → Nat → Prop := fun k' j => Tps T c k' j ∨ (k' = 179 ∧ j = T) ∨ ((180 ≤ k' ∧ k' ≤ 182) ∧ 90 * T + k ≤ j ∧ j < 90 * T + 90)
theorem tps_tcl {T c k : Nat} {v w : rV} (h : Ch (Tps T c) v w) : Ch (Tcl T c k) v w := h.mono fun _ _ q => Or.inl q
theorem tcl_mono {T c c' k k' : Nat} {v w : rV} (h : Ch (Tcl T c' k') v w) (e : c ≤ c') (e2 : k ≤ k') : Ch (Tcl T c k) v w := h.mono fun a j q => by
  rcases q with q | q | q
  · exact Or.inl (by unfold Tps at *; omega)
  · exact Or.inr (Or.inl q)
  · exact Or.inr (Or.inr ⟨q.1, by omega, q.2.2⟩)
/-- cells of clauses alone -/
def Tk (T k : Nat) : Nat → Nat → Prop := fun k' j => (k' = 179 ∧ j = T) ∨ ((180 ≤ k' ∧ k' ≤ 182) ∧ 90 * T + k ≤ j ∧ j < 90 * T + 90)
theorem tk_tcl {T c k : Nat} {v w : rV} (h : Ch (Tk T k) v w) : Ch (Tcl T c k) v w := h.mono fun _ _ q => Or.inr q
theorem EV.mk {q : Qy} {k : Nat} {vc vm um : rV} (h : EV q vc vm) (hm : Ch (Tk q.T k) vm um) : EV q vc um := by
  obtain ⟨a, ⟨b1, b2⟩, d, e, f, g⟩ := h
  refine ⟨a, ⟨b1, ?_⟩, fun j hj => ⟨(d j hj).1, (d j hj).2.1, ?_⟩, e, ?_, ?_⟩
  · rw [hm.1 _ _ (by unfold Tk; omega)]; exact b2
  · rw [hm.1 _ _ (by unfold Tk; omega)]; exact (d j hj).2.2
  · rw [hm.1 _ _ (by unfold Tk; omega)]; exact f
  · rw [hm.1 _ _ (by unfold Tk; omega)]; exact g
theorem AL.mk {q : Qy} {a l c dp k : Nat} {vc vm um : rV} (h : AL q a l c dp vc vm) (hm : Ch (Tk q.T k) vm um) : AL q a l c dp vc um := by
  obtain ⟨e, ⟨p1, p2, p3⟩, w, d, x, y⟩ := h
  exact ⟨e.mk hm, ⟨p1, by rw [hm.1 _ _ (by unfold Tk; omega)]; exact p2, p3⟩, by rw [hm.1 _ _ (by unfold Tk; omega)]; exact w, by rw [hm.1 _ _ (by unfold Tk; omega)]; exact d, x, by rw [hm.1 _ _ (by unfold Tk; omega)]; exact y⟩
theorem DE.mk {q : Qy} {e F k : Nat} {vc vm um : rV} (h : DE q e F vc vm) (hm : Ch (Tk q.T k) vm um) : DE q e F vc um := by
  obtain ⟨ev, ⟨w, w1, w2, w3⟩, hl, ⟨a, c, a1, a2, a3, a4⟩⟩ := h
  exact ⟨ev.mk hm, ⟨w, w1, w2, by rw [hm.1 _ _ (by unfold Tk; omega)]; exact w3⟩, hl, ⟨a, c, by rw [hm.1 _ _ (by unfold Tk; omega)]; exact a1, by rw [hm.1 _ _ (by unfold Tk; omega)]; exact a2, a3, a4⟩⟩
theorem SG.mk {T k l c : Nat} {vc vm um : rV} {s : List (Nat × Nat)} (h : SG T vc vm l c s) (hm : Ch (Tk T k) vm um) : SG T vc um l c s := fun i x hx => by
  rw [hm.1 176 _ (by unfold Tk; omega), hm.1 177 _ (by unfold Tk; omega)]
  exact h i x hx
/-- the class alone adds -/
theorem AL.ad {q : Qy} {a l c dp : Nat} {vc vm : rV} (h : AL q a l c dp vc vm) (hl : l < 162) (x : Int32) : f_X2_add vc 4 x = some (ad5 vc x) ∧ AL q a (l + 1) c dp (ad5 vc x) vm ∧ (ad5 vc x).1 5 l = x ∧ Ch (Sps l) vc (ad5 vc x) := by
  obtain ⟨e, ⟨p1, p2, p3⟩, w, d, x1, y1⟩ := h
  obtain ⟨k1, -, k3, k4⟩ := add_eq (x := x) (by omega) x1
  exact ⟨k1, ⟨e.ch k4 (c := 0) Ch.rf, ⟨by rw [k3]; exact p1, p2, p3⟩, w, d, by rw [add_at hl x1, rI_at], y1⟩, by rw [add_at hl x1, rI_no (by omega), rI_at], k4⟩
theorem c250_eq {v : rV} {T c k : Nat} (hT : T < 9) (hk : k < 90) (e : v.1 174 15 = nI T) (e2 : v.1 178 T = nI c) (e3 : v.1 179 T = nI k) : f_X8_clause_250 v (nI (90 * T + k)) = some (rI (rI v 182 (90 * T + k) (nI c)) 179 T (nI (k + 1))) ∧ Ch (Tk T k) v (rI (rI v 182 (90 * T + k) (nI c)) 179 T (nI (k + 1))) := by
  refine ⟨?_, (Ch.rf.I (Or.inr ⟨by omega, by omega, by omega⟩)).I (Or.inl ⟨rfl, rfl⟩)⟩
  unfold f_X8_clause_250
  rw [e, if_pos (gin (show T < 9 by omega) (by omega)), if_pos (gin (show 90 * T + k < 810 by omega) (by omega)), niCl (show T < 2147483648 by omega), niCl (show 90 * T + k < 2147483648 by omega), e2, vlet_eq, rI_no (a := 174) (by omega), e, vlet_eq, if_pos (gin (show T < 9 by omega) (by omega)), niCl (show T < 2147483648 by omega), rI_no (a := 179) (by omega), e3, ad1, vlet_eq]
theorem c250_de {q : Qy} {e F k : Nat} {vc vm : rV} (h : DE q e F vc vm) (hk : k < 90) (e3 : vm.1 179 q.T = nI k) : ∃ wm, f_X8_clause_250 vm (nI (90 * q.T + k)) = some wm ∧ DE q e F vc wm ∧ Ch (Tk q.T k) vm wm := by
  have h0 := h
  obtain ⟨ev, -, -, ⟨a, c, a1, a2, a3, a4⟩⟩ := h
  obtain ⟨x1, x2⟩ := c250_eq ev.1.2.1 hk ev.2.2.2.2.1 a2 e3
  exact ⟨_, x1, h0.mk x2, x2⟩
theorem ty_ne {w m : Nat} {s : List (Nat × Nat)} (h : Ty w m [] [true] s) (hm : m ≤ 32) : s ≠ [] := fun z => by
  have := h [] (by simpa using hm)
  rw [z] at this
  simp [ck] at this
def CLs (q : Qy) (vc vm : rV) (l c k : Nat) (x : List (Nat × Nat) × List (Nat × Nat)) : Prop :=
  (vm.1 180 (90 * q.T + k) = nI c ∧ vm.1 181 (90 * q.T + k) = nI (c + x.1.length) ∧ vm.1 182 (90 * q.T + k) = nI (c + x.1.length + x.2.length)) ∧ Ty q.w 16 [] [false] x.2 ∧
  ((x.1 = [] ∧ SG q.T vc vm l c x.2 ∧ vc.1 5 (l + x.2.length) = -12) ∨ (x.1 ≠ [] ∧ Ty q.w 19 [] [true] x.1 ∧ SG q.T vc vm l c x.1 ∧ vc.1 5 (l + x.1.length) = -11 ∧ vc.1 5 (l + x.1.length + 1) = nI (x.2.length + 1) ∧ SG q.T vc vm (l + x.1.length + 2) (c + x.1.length) x.2 ∧ vc.1 5 (l + x.1.length + 2 + x.2.length) = -12))
def cL (x : List (Nat × Nat) × List (Nat × Nat)) : Nat := if x.1 = [] then x.2.length + 1 else x.1.length + x.2.length + 3
def cC (x : List (Nat × Nat) × List (Nat × Nat)) : Nat := x.1.length + x.2.length
theorem SG.tcl {q : Qy} {vc vm wc wm : rV} {l c l' c' k : Nat} {s : List (Nat × Nat)} (h : SG q.T vc vm l c s) (hc : Ch (Sps l') vc wc) (hm : Ch (Tcl q.T c' k) vm wm) (e1 : l + s.length ≤ l') (e2 : c + s.length ≤ c') : SG q.T wc wm l c s := fun i x hx => by
  have hi := (List.getElem?_eq_some_iff.mp hx).1
  rw [hc.1 _ _ (by unfold Sps; omega), hm.1 _ _ (by unfold Tcl Tps; omega), hm.1 _ _ (by unfold Tcl Tps; omega)]
  exact h i x hx
theorem CLs.ch {q : Qy} {vc vm wc wm : rV} {l c k l' c' k' : Nat} {x : List (Nat × Nat) × List (Nat × Nat)} (h : CLs q vc vm l c k x) (hc : Ch (Sps l') vc wc) (hm : Ch (Tcl q.T c' k') vm wm) (e1 : l + cL x ≤ l') (e2 : c + cC x ≤ c') (e3 : k + 1 ≤ k') : CLs q wc wm l c k x := by
  obtain ⟨⟨a1, a2, a3⟩, b, d⟩ := h
  unfold cC at e2
  unfold cL at e1
  refine ⟨⟨?_, ?_, ?_⟩, b, ?_⟩
  · rw [hm.1 _ _ (by unfold Tcl Tps; omega)]; exact a1
  · rw [hm.1 _ _ (by unfold Tcl Tps; omega)]; exact a2
  · rw [hm.1 _ _ (by unfold Tcl Tps; omega)]; exact a3
  · rcases d with ⟨d1, d2, d3⟩ | ⟨d1, d2, d3, d4, d5, d6, d7⟩
    · rw [if_pos d1] at e1
      exact Or.inl ⟨d1, d2.tcl hc hm (by omega) (by omega), by rw [hc.1 _ _ (by unfold Sps; omega)]; exact d3⟩
    · rw [if_neg d1] at e1
      exact Or.inr ⟨d1, d2, d3.tcl hc hm (by omega) (by omega), by rw [hc.1 _ _ (by unfold Sps; omega)]; exact d4, by rw [hc.1 _ _ (by unfold Sps; omega)]; exact d5, d6.tcl hc hm (by omega) (by omega), by rw [hc.1 _ _ (by unfold Sps; omega)]; exact d7⟩
/-- a clause is read: both have it, or both know the fault -/
def CP (q : Qy) (a δ l c k : Nat) (vc vm : rV) (f : Option (Bool × rV)) (g : Option rV) : Prop :=
  (∃ wc wm a' x, f = some (true, wc) ∧ g = some wm ∧ AL q a' (l + cL x) (c + cC x) 0 wc wm ∧ wm.1 179 q.T = nI (k + 1) ∧ CLs q wc wm l c k x ∧ a + δ ≤ a' ∧ (l + cL x ≤ a' ∧ c + cC x ≤ a') ∧ Ch (Sps l) vc wc ∧ Ch (Tcl q.T c k) vm wm) ∨
  (∃ wc wm, f = some (false, wc) ∧ g = some wm ∧ DE q 0 7 wc wm ∧ Ch (Sps 0) vc wc ∧ Ch (Tcl q.T 0 0) vm wm)
theorem CP.from {q : Qy} {a a1 δ δ' l c k : Nat} {vc vm uc um : rV} {f : Option (Bool × rV)} {g : Option rV} (h : CP q a1 δ' l c k uc um f g) (hc : Ch (Sps l) vc uc) (hm : Ch (Tcl q.T c k) vm um) (ha : a + δ ≤ a1 + δ') : CP q a δ l c k vc vm f g := by
  rcases h with ⟨wc, wm, a', x, k1, k2, k3, k4, k5, k6, k7, k8, k9⟩ | ⟨wc, wm, k1, k2, k3, k4, k5⟩
  · exact Or.inl ⟨wc, wm, a', x, k1, k2, k3, k4, k5, by omega, k7, hc.tr k8, hm.tr k9⟩
  · exact Or.inr ⟨wc, wm, k1, k2, k3, (sps_mono hc (Nat.zero_le _)).tr k4, (tcl_mono hm (Nat.zero_le _) (Nat.zero_le _)).tr k5⟩
/-- behind a condition: ? and a sum -/
def CR (w : rV) : Option (Bool × rV) := (f_X3_goesOnWith w (63 : Int32)).bind fun p5 =>
  if p5.1 = true then
  ((f_X2_add p5.2 4 (-11 : Int32)).bind fun p6 =>
  vlet (p6.1 4 2 : Int32) fun x7 =>
  (f_X2_add p6 4 (0 : Int32)).bind fun p8 =>
  (f_X3_readSum 10 p8 (0 : Int32)).bind fun p9 =>
  if p9.1 = true then
  ((f_X2_add p9.2 4 (-12 : Int32)).bind fun p10 =>
  (f_X2_endSkip p10 4 x7).bind fun p11 =>
  some (true, p11))
else
  (some (false, p9.2)))
else
  (some (false, p5.2))
theorem rest_go {q : Qy} {a l c k l0 c0 : Nat} {vc vm : rV} {t : List (Nat × Nat)} (hA : AL q a l c 0 vc vm) (h1 : l + 2 ≤ a) (h2 : c + 2 ≤ a) (hk : k < 90) (hl0 : l = l0 + t.length) (hc0 : c = c0 + t.length) (hT : Ty q.w 19 [] [true] t) (hS : SG q.T vc vm l0 c0 t) (e180 : vm.1 180 (90 * q.T + k) = nI c0) (e179 : vm.1 179 q.T = nI k) :
    CP q a 0 l0 c0 k vc vm (CR vc) (f_X8_clause_183 vm (nI (90 * q.T + k)) 1) := by
  have hlA := hA.l
  have hq := hA.1.1.2.1
  have tne := ty_ne hT (by omega)
  unfold f_X8_clause_183
  rw [if_pos (gin (show 90 * q.T + k < 810 by omega) (by omega)), niCl (show 90 * q.T + k < 2147483648 by omega), e180, vlet_eq, if_neg (by decide)]
  obtain ⟨v11, ev11⟩ : ∃ v, v = rI vm 181 (90 * q.T + k) (nI c0) := ⟨_, rfl⟩
  rw [← ev11]
  have m11 : Ch (Tk q.T k) vm v11 := by rw [ev11]; exact Ch.rf.I (Or.inr ⟨by omega, by omega, by omega⟩)
  have hA11 := hA.mk m11
  obtain ⟨a1, uc, um, n1, n2, hA1, ha, hb, s3, t3⟩ := nb_go hA11
  have hl1 := hA1.l
  rw [hA11.2.2.1, if_pos rfl, n2, Option.bind_some]
  simp only []
  unfold CR
  rw [gw_eq (show f_X3_nextByte vc = f_X3_nextByte uc by rw [n1, nb_st hA1 hb])]
  have hcu : Ch (Sps l) vc uc := s3_sps s3
  have hmu : Ch (Tcl q.T c k) vm um := (tk_tcl m11).tr (tps_tcl (t3_tps t3))
  have u179 : um.1 179 q.T = nI k := by rw [t3.1 _ _ (by unfold T3; omega), ev11, rI_no (by omega)]; exact e179
  have u180 : um.1 180 (90 * q.T + k) = nI c0 := by rw [t3.1 _ _ (by unfold T3; omega), ev11, rI_no (by omega)]; exact e180
  by_cases z : bt q a1 = 63
  rotate_left
  · obtain ⟨b1, b2, b3⟩ := bad_go (F := 7) (e := 0) hA1 (by omega) (by omega)
    rw [gw_n hA1 hb z, if_neg z, Option.bind_some, b1, Option.bind_some]
    simp only []
    rw [if_neg (by decide)]
    exact Or.inr ⟨_, _, rfl, rfl, b2, sps_mono hcu (Nat.zero_le _), tcl_mono (hmu.tr (tps_tcl (t3_tps b3))) (Nat.zero_le _) (Nat.zero_le _)⟩
  have han := bt_lt z (by decide)
  rw [gw_y hA1 hb z, if_pos z, Option.bind_some, vlet_eq, hA1.2.1.2.1, ad1]
  simp only []
  rw [if_pos trivial]
  have hA2 := hA1.at (a' := a1 + 1) (by omega)
  obtain ⟨p1, p2, p3, p4⟩ := hA2.ad (by omega) (-11)
  obtain ⟨r1, r2, r3, r4⟩ := p2.ad (by omega) 0
  obtain ⟨m2, em2⟩ : ∃ v, v = rI um 174 3 (nI (a1 + 1)) := ⟨_, rfl⟩
  rw [← em2] at hA2 p2 r2 ⊢
  have t2 : Ch T3 um m2 := by rw [em2]; exact t3_up (a1 + 1)
  obtain ⟨m3, em3⟩ : ∃ v, v = rI m2 181 (90 * q.T + k) (nI c) := ⟨_, rfl⟩
  have t3' : Ch (Tk q.T k) m2 m3 := by rw [em3]; exact Ch.rf.I (Or.inr ⟨by omega, by omega, by omega⟩)
  have hA3 := r2.mk t3'
  rw [p1, Option.bind_some, vlet_eq, p2.2.2.2.2.1, r1, Option.bind_some, hA2.1.2.2.2.2.1, if_pos (gin (show q.T < 9 by omega) (by omega)), niCl (show q.T < 2147483648 by omega), hA2.2.2.2.2.2, ← em3, vlet_eq]
  obtain ⟨wc3, ewc3⟩ : ∃ v, v = ad5 (ad5 (rI uc 3 3 (nI (a1 + 1))) (-11)) 0 := ⟨_, rfl⟩
  rw [← ewc3] at hA3 r3 r4 ⊢
  have cw3 : Ch (Sps l) vc wc3 := (hcu.tr (s3_sps (s3_up (a1 + 1)))).tr (p4.tr (sps_mono r4 (by omega)))
  have mw3 : Ch (Tcl q.T c k) vm m3 := (hmu.tr (tps_tcl (t3_tps t2))).tr (tk_tcl t3')
  have e11 : wc3.1 5 l = -11 := by rw [r4.1 _ _ (by unfold Sps; omega)]; exact p3
  have m3179 : m3.1 179 q.T = nI k := by rw [em3, rI_no (by omega), t2.1 _ _ (by unfold T3; omega)]; exact u179
  have m3180 : m3.1 180 (90 * q.T + k) = nI c0 := by rw [em3, rI_no (by omega), t2.1 _ _ (by unfold T3; omega)]; exact u180
  have m3181 : m3.1 181 (90 * q.T + k) = nI c := by rw [em3, rI_at]
  rcases sum_go 7 (by omega) 10 10 0 1 (a1 + 1) (l + 1 + 1) c wc3 m3 (by omega) (by omega) (by omega) hA3 (by omega) (by omega) with ⟨wc, wm, a', s, k1, k2, k3, k4, k5, k6, k7, k8, k9, k10⟩ | ⟨wc, wm, k1, k2, k3, k4, k5⟩
  · have hl3 := k3.l
    have w179 : wm.1 179 q.T = nI k := by rw [k10.1 _ _ (by unfold Tps; omega)]; exact m3179
    obtain ⟨x1, x2⟩ := c250_eq hq hk k3.1.2.2.2.2.1 k3.2.2.2.2.2 w179
    obtain ⟨y1, y2, y3, y4⟩ := k3.ad (by omega) (-12)
    have z1 : f_X3_readSum 10 wc3 0 = some (true, wc) := k1
    rw [z1, Option.bind_some, k2, Option.bind_some, x1]
    simp only []
    rw [if_pos trivial, y1, Option.bind_some]
    obtain ⟨w4, ew4⟩ : ∃ v, v = ad5 wc (-12) := ⟨_, rfl⟩
    rw [← ew4] at y2 y3 y4 ⊢
    obtain ⟨w5, ew5⟩ : ∃ v, v = rI w4 5 (l + 1) (nI (s.length + 1)) := ⟨_, rfl⟩
    have es : f_X2_endSkip w4 4 (nI (l + 1)) = some w5 := by
      unfold f_X2_endSkip
      rw [if_neg (niGe (by omega)), y2.2.2.2.2.1, if_neg (nle (by omega) (by omega)), if_pos (gin (show l + 1 < 162 by omega) (by omega)), niCl (by omega), show nI (l + 1 + 1 + s.length + 1) - nI (l + 1) = nI (s.length + 2) from by rw [niSub (by omega)]; congr 1; omega, show nI (s.length + 2) - 1 = nI (s.length + 1) from niSub (a := s.length + 2) (b := 1) (by omega), vlet_eq, ← ew5]
    rw [es, Option.bind_some]
    have c5 : Ch (Sps l) w4 w5 := by rw [ew5]; exact Ch.rf.I (Or.inr (Or.inr ⟨rfl, by omega, by omega⟩))
    have ca : Ch (Sps l) vc w5 := (cw3.tr (sps_mono k9 (by omega))).tr ((sps_mono y4 (by omega)).tr c5)
    obtain ⟨w6, ew6⟩ : ∃ v, v = rI (rI wm 182 (90 * q.T + k) (nI (c + s.length))) 179 q.T (nI (k + 1)) := ⟨_, rfl⟩
    rw [← ew6] at x2 ⊢
    have ma : Ch (Tcl q.T c k) vm w6 := (mw3.tr (tps_tcl k10)).tr (tk_tcl x2)
    have n5 : ∀ j, j ≠ l + 1 → w5.1 5 j = w4.1 5 j := fun j hj => by rw [ew5, rI_no (by omega)]
    have alx : AL q a' (l + 1 + 1 + s.length + 1) (c + s.length) 0 w5 w6 := by
      have := y2.mk x2
      obtain ⟨e, ⟨p1, p2, p3⟩, w, d, x, y⟩ := this
      exact ⟨e.ch (l := 0) (c := 0) (sps_mono c5 (Nat.zero_le _)) Ch.rf, ⟨by rw [ew5, rI_no (by omega)]; exact p1, p2, p3⟩, w, d, by rw [ew5, rI_no (by omega)]; exact x, y⟩
    have tl : t ≠ [] := tne
    refine Or.inl ⟨w5, w6, a', (t, s), rfl, rfl, ?_, by rw [ew6, rI_at], ⟨⟨?_, ?_, ?_⟩, k6, Or.inr ⟨tne, hT, ?_, ?_, ?_, ?_, ?_⟩⟩, by omega, ⟨?_, ?_⟩, sps_mono ca (by omega), tcl_mono ma (by omega) (Nat.le_refl _)⟩
    · unfold cL cC
      rw [if_neg tl]
      show AL q a' (l0 + (t.length + s.length + 3)) (c0 + (t.length + s.length)) 0 w5 w6
      rw [show l0 + (t.length + s.length + 3) = l + 1 + 1 + s.length + 1 by omega, show c0 + (t.length + s.length) = c + s.length by omega]
      exact alx
    · rw [ew6, rI_no (by omega), rI_no (by omega), k10.1 _ _ (by unfold Tps; omega)]; exact m3180
    · show w6.1 181 (90 * q.T + k) = nI (c0 + t.length)
      rw [ew6, rI_no (by omega), rI_no (by omega), k10.1 _ _ (by unfold Tps; omega), ← hc0]; exact m3181
    · show w6.1 182 (90 * q.T + k) = nI (c0 + t.length + s.length)
      rw [ew6, rI_no (by omega), rI_at, ← hc0]
    · exact hS.tcl ca ma (by omega) (by omega)
    · show w5.1 5 (l0 + t.length) = -11
      rw [← hl0, n5 _ (by omega), y4.1 _ _ (by unfold Sps; omega), k9.1 _ _ (by unfold Sps; omega)]; exact e11
    · show w5.1 5 (l0 + t.length + 1) = nI (s.length + 1)
      rw [← hl0, ew5, rI_at]
    · show SG q.T w5 w6 (l0 + t.length + 2) (c0 + t.length) s
      rw [← hl0, ← hc0]
      have g1 : SG q.T w4 wm (l + 2) c s := k5.ch y4 (c' := c + s.length) Ch.rf (by omega) (Nat.le_refl _)
      have g2 : SG q.T w4 w6 (l + 2) c s := g1.mk x2
      intro i x hx
      have := g2 i x hx
      rw [n5 _ (by omega)]
      exact this
    · show w5.1 5 (l0 + t.length + 2 + s.length) = -12
      rw [← hl0, n5 _ (by omega), show l + 2 + s.length = l + 1 + 1 + s.length by omega]; exact y3
    · unfold cL
      rw [if_neg tl]
      show l0 + (t.length + s.length + 3) ≤ a'
      omega
    · unfold cC
      show c0 + (t.length + s.length) ≤ a'
      omega
  · have w179 : wm.1 179 q.T = nI k := by rw [k5.1 _ _ (by unfold Tps; omega)]; exact m3179
    obtain ⟨xm, x1, x2, x3⟩ := c250_de k3 hk w179
    have z1 : f_X3_readSum 10 wc3 0 = some (false, wc) := k1
    rw [z1, Option.bind_some, k2, Option.bind_some, x1]
    simp only []
    rw [if_neg (by decide)]
    exact Or.inr ⟨wc, xm, rfl, rfl, x2.weak (Nat.zero_le _), (sps_mono cw3 (Nat.zero_le _)).tr k4, (tcl_mono mw3 (Nat.zero_le _) (Nat.zero_le _)).tr ((tps_tcl k5).tr (tcl_mono (tk_tcl (c := 0) x3) (Nat.le_refl _) (Nat.zero_le _)))⟩
