/-! TEXTS: the tape, bytes and codes, class against model -/
def Qy : Type := Nat × Nat × Nat × (Nat → Nat)
def Qy.n (q : Qy) : Nat := q.1
def Qy.T (q : Qy) : Nat := q.2.1
def Qy.W (q : Qy) : Nat := q.2.2.1
def Qy.tp (q : Qy) : Nat → Nat := q.2.2.2
def bt (q : Qy) (a : Nat) : Int32 := if a < q.n then nI (q.tp a) else -1
def EV (q : Qy) (vc vm : rV) : Prop := (q.n ≤ 160 ∧ q.T < 9 ∧ (q.W = 0 ∨ q.W = 1)) ∧ (vc.1 1 1 = nI q.n ∧ vm.1 174 2 = nI q.n) ∧ (∀ j, j < q.n → (1 ≤ q.tp j ∧ q.tp j ≤ 255) ∧ vc.1 2 j = nI (q.tp j) ∧ vm.1 175 j = nI (q.tp j)) ∧ vc.2.2 3 2 = some (1000010 + q.W) ∧ vm.1 174 15 = nI q.T ∧ vm.1 174 16 = nI q.W
/-- what reading changes: from a code on -/
def Sps (l : Nat) : Nat → Nat → Prop := fun k j => (k = 3 ∧ j = 3) ∨ (k = 4 ∧ j = 2) ∨ (k = 5 ∧ l ≤ j ∧ j < 162)
def Tps (T c : Nat) : Nat → Nat → Prop := fun k j => (k = 174 ∧ (j = 3 ∨ j = 4 ∨ j = 5)) ∨ ((k = 176 ∨ k = 177) ∧ 340 * T + c ≤ j ∧ j < 340 * T + 340) ∨ (k = 178 ∧ j = T)
theorem sps_mono {l l' : Nat} {v w : rV} (h : Ch (Sps l') v w) (e : l ≤ l') : Ch (Sps l) v w := h.mono fun k j q => by unfold Sps at *; omega
theorem tps_mono {T c c' : Nat} {v w : rV} (h : Ch (Tps T c') v w) (e : c ≤ c') : Ch (Tps T c) v w := h.mono fun k j q => by unfold Tps at *; omega
theorem EV.ch {q : Qy} {l c : Nat} {vc vm wc wm : rV} (h : EV q vc vm) (hc : Ch (Sps l) vc wc) (hm : Ch (Tps q.T c) vm wm) : EV q wc wm := by
  obtain ⟨a, ⟨b1, b2⟩, d, e, f, g⟩ := h
  refine ⟨a, ⟨?_, ?_⟩, fun j hj => ⟨(d j hj).1, ?_, ?_⟩, ?_, ?_, ?_⟩
  · rw [hc.1 _ _ (by unfold Sps; omega)]; exact b1
  · rw [hm.1 _ _ (by unfold Tps; omega)]; exact b2
  · rw [hc.1 _ _ (by unfold Sps; omega)]; exact (d j hj).2.1
  · rw [hm.1 _ _ (by unfold Tps; omega)]; exact (d j hj).2.2
  · rw [hc.2.2 3 2 (by unfold Sps; omega)]; exact e
  · rw [hm.1 _ _ (by unfold Tps; omega)]; exact f
  · rw [hm.1 _ _ (by unfold Tps; omega)]; exact g
theorem byteAt_eq {q : Qy} {vc vm : rV} {a : Nat} (h : EV q vc vm) (ha : a < 1000) : f_X6_byteAt vc (nI a) = some (bt q a) := by
  obtain ⟨⟨a1, a2, a3⟩, ⟨b1, b2⟩, d, e⟩ := h
  unfold f_X6_byteAt bt
  rw [if_neg (niGe (by omega)), b1]
  by_cases p : a < q.n
  · rw [if_neg (nle p (by omega)), if_neg (show ¬ (160 : Int32) ≤ nI a from nle (a := 160) (by omega) (by omega)), if_pos (gin (show a < 160 by omega) (by omega)), niCl (by omega), (d a p).2.1, if_pos p]
  · rw [if_pos (ple (by omega) (by omega)), if_neg p]
theorem here_eq {q : Qy} {vc vm : rV} {a : Nat} (h : EV q vc vm) (ha : a < 1000) (e3 : vm.1 174 3 = nI a) : f_X8_here vm = some (bt q a) := by
  obtain ⟨⟨a1, a2, a3⟩, ⟨b1, b2⟩, d, e⟩ := h
  unfold f_X8_here bt
  rw [b2, e3]
  by_cases p : a < q.n
  · rw [if_neg (nle p (by omega)), if_pos (gin (show a < 160 by omega) (by omega)), niCl (by omega), (d a p).2.2, if_pos p]
  · rw [if_pos (ple (by omega) (by omega)), if_neg p]
theorem bt_end {q : Qy} {a : Nat} (h : ¬ a < q.n) : bt q a = -1 := if_neg h
/-- alive: both at one place, so many codes -/
def AL (q : Qy) (a l c dp : Nat) (vc vm : rV) : Prop := EV q vc vm ∧ (vc.1 3 3 = nI a ∧ vm.1 174 3 = nI a ∧ a ≤ q.n) ∧ vm.1 174 4 = -1 ∧ vm.1 174 5 = nI dp ∧ vc.1 4 2 = nI l ∧ vm.1 178 q.T = nI c
/-- dead: the class has stopped, the model knows where -/
def DE (q : Qy) (e F : Nat) (vc vm : rV) : Prop := EV q vc vm ∧ (∃ w, w ≤ q.n ∧ vc.1 3 3 = nI w ∧ vm.1 174 4 = nI w) ∧ (∃ l, l ≤ 162 ∧ vc.1 4 2 = nI l) ∧ (∃ a c, vm.1 174 3 = nI a ∧ vm.1 178 q.T = nI c ∧ c + e ≤ a ∧ a ≤ q.n + F)
theorem AL.at {q : Qy} {a a' l c dp : Nat} {vc vm : rV} (h : AL q a l c dp vc vm) (ha : a' ≤ q.n) : AL q a' l c dp (rI vc 3 3 (nI a')) (rI vm 174 3 (nI a')) := by
  obtain ⟨e, ⟨p1, p2, p3⟩, w, d, x, y⟩ := h
  exact ⟨e.ch (l := 0) (c := 0) (Ch.rf.I (Or.inl ⟨rfl, rfl⟩)) (Ch.rf.I (Or.inl ⟨rfl, Or.inl rfl⟩)), ⟨rI_at _ _ _ _, rI_at _ _ _ _, ha⟩, by rw [rI_no (by omega)]; exact w, by rw [rI_no (by omega)]; exact d, by rw [rI_no (by omega)]; exact x, by rw [rI_no (by omega)]; exact y⟩
/-- the model alone goes deeper -/
theorem AL.dp {q : Qy} {a l c dp dp' : Nat} {vc vm : rV} (h : AL q a l c dp vc vm) : AL q a l c dp' vc (rI vm 174 5 (nI dp')) := by
  obtain ⟨e, ⟨p1, p2, p3⟩, w, d, x, y⟩ := h
  exact ⟨e.ch (l := 0) (c := 0) Ch.rf (Ch.rf.I (Or.inl ⟨rfl, by omega⟩)), ⟨p1, by rw [rI_no (by omega)]; exact p2, p3⟩, by rw [rI_no (by omega)]; exact w, rI_at _ _ _ _, x, by rw [rI_no (by omega)]; exact y⟩
def S3 : Nat → Nat → Prop := fun k j => k = 3 ∧ j = 3
def T3 : Nat → Nat → Prop := fun k j => k = 174 ∧ (j = 3 ∨ j = 4 ∨ j = 5)
theorem s3_sps {l : Nat} {v w : rV} (h : Ch S3 v w) : Ch (Sps l) v w := h.mono fun k j q => Or.inl q
theorem t3_tps {T c : Nat} {v w : rV} (h : Ch T3 v w) : Ch (Tps T c) v w := h.mono fun k j q => Or.inl q
theorem nb_lp {q : Qy} {l c dp : Nat} : ∀ (d a f g : Nat) (vc vm : rV), q.n - a ≤ d → d < f → d < g → AL q a l c dp vc vm → ∃ a' wc wm, f_X3_nextByte_0 f vc = some (bt q a', wc) ∧ f_X8_look_0 g vm = some (bt q a', wm) ∧ AL q a' l c dp wc wm ∧ a ≤ a' ∧ bt q a' ≠ 32 ∧ Ch S3 vc wc ∧ Ch T3 vm wm := by
  intro d
  induction d with
  | zero =>
    intro a f g vc vm hd hf hg h
    obtain ⟨f, rfl⟩ : ∃ n', f = n' + 1 := ⟨f - 1, by omega⟩
    obtain ⟨g, rfl⟩ : ∃ n', g = n' + 1 := ⟨g - 1, by omega⟩
    have h0 := h
    obtain ⟨e, ⟨p1, p2, p3⟩, w, dd, x, y⟩ := h
    have e160 := e.1.1
    have b1 : bt q a = -1 := bt_end (by omega)
    have n32 : ¬ (-1 : Int32) = 32 := by decide
    rw [f_X3_nextByte_0, f_X8_look_0, e.2.1.1, p1, if_pos (ple (by omega) (by omega)), here_eq e (by omega) p2, Option.bind_some, b1, if_neg n32, Option.bind_some]
    unfold f_X3_nextByte_43
    rw [p1, byteAt_eq e (by omega), Option.bind_some, b1]
    exact ⟨a, vc, vm, by rw [b1], by rw [b1], h0, Nat.le_refl _, by rw [b1]; exact n32, Ch.rf, Ch.rf⟩
  | succ d ih =>
    intro a f g vc vm hd hf hg h
    obtain ⟨f, rfl⟩ : ∃ n', f = n' + 1 := ⟨f - 1, by omega⟩
    obtain ⟨g, rfl⟩ : ∃ n', g = n' + 1 := ⟨g - 1, by omega⟩
    have h0 := h
    obtain ⟨e, ⟨p1, p2, p3⟩, w, dd, x, y⟩ := h
    have e160 := e.1.1
    by_cases z : a < q.n
    · rw [f_X3_nextByte_0, f_X8_look_0, e.2.1.1, p1, if_neg (nle z (by omega)), here_eq e (by omega) p2, byteAt_eq e (by omega), Option.bind_some, Option.bind_some]
      by_cases b32 : bt q a = 32
      · rw [if_pos b32, if_pos b32, vlet_eq, vlet_eq, p2, ad1]
        obtain ⟨a', wc, wm, j1, j2, j3, j4, j5, j6, j7⟩ := ih (a + 1) f g _ _ (by omega) (by omega) (by omega) (h0.at (show a + 1 ≤ q.n by omega))
        exact ⟨a', wc, wm, j1, j2, j3, by omega, j5, (show Ch S3 vc _ from Ch.rf.I ⟨rfl, rfl⟩).tr j6, (show Ch T3 vm _ from Ch.rf.I ⟨rfl, Or.inl rfl⟩).tr j7⟩
      · rw [if_neg b32, if_neg b32, Option.bind_some]
        unfold f_X3_nextByte_43
        rw [p1, byteAt_eq e (by omega), Option.bind_some]
        exact ⟨a, vc, vm, rfl, rfl, h0, Nat.le_refl _, b32, Ch.rf, Ch.rf⟩
    · exact ih a (f + 1) (g + 1) vc vm (by omega) (by omega) (by omega) h0
theorem nb_go {q : Qy} {a l c dp : Nat} {vc vm : rV} (h : AL q a l c dp vc vm) : ∃ a' wc wm, f_X3_nextByte vc = some (bt q a', wc) ∧ f_X8_look vm = some (bt q a', wm) ∧ AL q a' l c dp wc wm ∧ a ≤ a' ∧ bt q a' ≠ 32 ∧ Ch S3 vc wc ∧ Ch T3 vm wm := by
  have := h.1.1.1
  exact nb_lp (q.n - a) a 20000 20000 vc vm (Nat.le_refl _) (by omega) (by omega) h
/-- standing on no blank nothing moves -/
theorem nb_st {q : Qy} {a l c dp : Nat} {vc vm : rV} (h : AL q a l c dp vc vm) (hb : bt q a ≠ 32) : f_X3_nextByte vc = some (bt q a, vc) := by
  obtain ⟨e, ⟨p1, p2, p3⟩, -⟩ := h
  have e160 := e.1.1
  unfold f_X3_nextByte
  obtain ⟨f, hf⟩ : ∃ f, 20000 = f + 1 := ⟨19999, rfl⟩
  rw [hf, f_X3_nextByte_0, e.2.1.1, p1]
  unfold f_X3_nextByte_43
  rw [p1, byteAt_eq e (by omega), Option.bind_some, Option.bind_some]
  by_cases z : nI q.n ≤ nI a
  · rw [if_pos z]
  · rw [if_neg z, if_neg hb]
theorem lk_st {q : Qy} {a l c dp : Nat} {vc vm : rV} (h : AL q a l c dp vc vm) (hb : bt q a ≠ 32) : f_X8_look vm = some (bt q a, vm) := by
  obtain ⟨e, ⟨p1, p2, p3⟩, -⟩ := h
  have e160 := e.1.1
  unfold f_X8_look
  obtain ⟨f, hf⟩ : ∃ f, 20000 = f + 1 := ⟨19999, rfl⟩
  rw [hf, f_X8_look_0, here_eq e (by omega) p2, Option.bind_some, if_neg hb, Option.bind_some]
theorem gw_eq {v w : rV} (h : f_X3_nextByte v = f_X3_nextByte w) (x : Int32) : f_X3_goesOnWith v x = f_X3_goesOnWith w x := by
  unfold f_X3_goesOnWith
  rw [h]
theorem gw_y {q : Qy} {a l c dp : Nat} {vc vm : rV} {x : Int32} (h : AL q a l c dp vc vm) (hb : bt q a ≠ 32) (e : bt q a = x) : f_X3_goesOnWith vc x = some (true, rI vc 3 3 (nI (a + 1))) := by
  unfold f_X3_goesOnWith
  rw [nb_st h hb, Option.bind_some]
  simp only []
  rw [if_pos e, vlet_eq, h.2.1.1, ad1]
theorem gw_n {q : Qy} {a l c dp : Nat} {vc vm : rV} {x : Int32} (h : AL q a l c dp vc vm) (hb : bt q a ≠ 32) (e : bt q a ≠ x) : f_X3_goesOnWith vc x = some (false, vc) := by
  unfold f_X3_goesOnWith
  rw [nb_st h hb, Option.bind_some]
  simp only []
  rw [if_neg e]
theorem bt_lt {q : Qy} {a : Nat} {x : Int32} (e : bt q a = x) (hx : x ≠ -1) : a < q.n := by
  by_cases p : a < q.n
  · exact p
  · rw [bt_end p] at e
    exact absurd e.symm hx
/-! codes -/
def cl : Nat × Nat → Int32
  | (0, v) => nI v
  | (1, v) => -20 - nI v
  | (2, _) => -1
  | (3, _) => -2
  | (4, _) => -3
  | (5, _) => -4
  | (6, _) => -5
  | (7, _) => -6
  | (8, _) => -7
  | (9, _) => -10
  | (10, _) => -8
  | (_, _) => -9
def SG (T : Nat) (vc vm : rV) (l c : Nat) (s : List (Nat × Nat)) : Prop := ∀ (i : Nat) x, s[i]? = some x → vc.1 5 (l + i) = cl x ∧ vm.1 176 (340 * T + c + i) = nI x.1 ∧ vm.1 177 (340 * T + c + i) = nI x.2
theorem SG.nil {T : Nat} {vc vm : rV} {l c : Nat} : SG T vc vm l c [] := fun i x h => by simp at h
theorem SG.ch {T : Nat} {vc vm wc wm : rV} {l c l' c' : Nat} {s : List (Nat × Nat)} (h : SG T vc vm l c s) (hc : Ch (Sps l') vc wc) (hm : Ch (Tps T c') vm wm) (e1 : l + s.length ≤ l') (e2 : c + s.length ≤ c') : SG T wc wm l c s := fun i x hx => by
  have hi := (List.getElem?_eq_some_iff.mp hx).1
  rw [hc.1 _ _ (by unfold Sps; omega), hm.1 _ _ (by unfold Tps; omega), hm.1 _ _ (by unfold Tps; omega)]
  exact h i x hx
theorem SG.app {T : Nat} {vc vm : rV} {l c : Nat} {s t : List (Nat × Nat)} (h : SG T vc vm l c s) (g : SG T vc vm (l + s.length) (c + s.length) t) : SG T vc vm l c (s ++ t) := fun i x hx => by
  rw [List.getElem?_append] at hx
  by_cases z : i < s.length
  · rw [if_pos z] at hx; exact h i x hx
  · rw [if_neg z] at hx
    have := g _ x hx
    rwa [show l + s.length + (i - s.length) = l + i by omega, show 340 * T + (c + s.length) + (i - s.length) = 340 * T + c + i by omega] at this
/-- the class adds a code -/
def ad5 (v : rV) (x : Int32) : rV := if (162 : Int32) ≤ v.1 4 2 then v else rI (rI v 5 (v.1 4 2).toNatClampNeg x) 4 2 (v.1 4 2 + 1)
theorem add_eq {v : rV} {x : Int32} {l : Nat} (hl : l ≤ 162) (e : v.1 4 2 = nI l) : f_X2_add v 4 x = some (ad5 v x) ∧ (∃ l', l' ≤ 162 ∧ (ad5 v x).1 4 2 = nI l') ∧ (ad5 v x).1 3 3 = v.1 3 3 ∧ Ch (Sps l) v (ad5 v x) := by
  unfold f_X2_add ad5
  by_cases p : l = 162
  · have : (162 : Int32) ≤ v.1 4 2 := by rw [e, p]; decide
    rw [if_pos this, if_pos this]
    exact ⟨rfl, ⟨l, hl, e⟩, rfl, Ch.rf⟩
  · have : ¬ (162 : Int32) ≤ v.1 4 2 := by rw [e]; exact nle (a := 162) (by omega) (by omega)
    rw [if_neg this, if_neg this, e, if_pos (gin (show l < 162 by omega) (by omega)), niCl (by omega), vlet_eq, vlet_eq, rI_no (by omega), e, ad1]
    exact ⟨rfl, ⟨l + 1, by omega, rI_at _ _ _ _⟩, by rw [rI_no (by omega), rI_no (by omega)], (Ch.rf.I (Or.inr (Or.inr ⟨rfl, by omega, by omega⟩))).I (Or.inr (Or.inl ⟨rfl, rfl⟩))⟩
theorem add_at {v : rV} {x : Int32} {l : Nat} (hl : l < 162) (e : v.1 4 2 = nI l) : ad5 v x = rI (rI v 5 l x) 4 2 (nI (l + 1)) := by
  unfold ad5
  rw [if_neg (by rw [e]; exact nle (a := 162) (by omega) (by omega)), e, niCl (by omega), ad1]
/-- the model puts a code -/
def ptv (v : rV) (T c : Nat) (x y : Int32) : rV := rI (rI (rI v 176 (340 * T + c) x) 177 (340 * T + c) y) 178 T (nI (c + 1))
theorem put_eq {v : rV} {T c : Nat} {x y : Int32} (hT : T < 9) (hc : c < 340) (e : v.1 174 15 = nI T) (e2 : v.1 178 T = nI c) : f_X8_put v x y = some (ptv v T c x y) := by
  unfold f_X8_put ptv
  have i1 : (340 : Int32) * nI T + nI c = nI (340 * T + c) := by rw [show (340 : Int32) * nI T = nI (340 * T) from niMul 340 T, niAdd]
  rw [e, if_pos (gin (show T < 9 by omega) (by omega)), niCl (show T < 2147483648 by omega), e2, i1, if_pos (gin (show 340 * T + c < 3060 by omega) (by omega)), niCl (show 340 * T + c < 2147483648 by omega), vlet_eq, rI_no (k := 176) (a := 174) (by omega), e, if_pos (gin (show T < 9 by omega) (by omega)), niCl (show T < 2147483648 by omega), rI_no (k := 176) (a := 178) (by omega), e2, i1, if_pos (gin (show 340 * T + c < 3060 by omega) (by omega)), niCl (show 340 * T + c < 2147483648 by omega), vlet_eq, rI_no (k := 177) (a := 174) (by omega), rI_no (k := 176) (a := 174) (by omega), e, vlet_eq, if_pos (gin (show T < 9 by omega) (by omega)), niCl (show T < 2147483648 by omega), rI_no (k := 177) (a := 178) (by omega), rI_no (k := 176) (a := 178) (by omega), e2, ad1, vlet_eq]
theorem pt_ch {v : rV} {T c : Nat} {x y : Int32} (hc : c < 340) : Ch (Tps T c) v (ptv v T c x y) := by
  unfold ptv
  exact ((Ch.rf.I (Or.inr (Or.inl ⟨by omega, by omega, by omega⟩))).I (Or.inr (Or.inl ⟨by omega, by omega, by omega⟩))).I (Or.inr (Or.inr ⟨rfl, rfl⟩))
/-- both, alive -/
theorem cod_go {q : Qy} {a l c dp : Nat} {vc vm : rV} (h : AL q a l c dp vc vm) (hl : l < 162) (hc : c < 340) (x : Nat × Nat) : f_X2_add vc 4 (cl x) = some (ad5 vc (cl x)) ∧ f_X8_put vm (nI x.1) (nI x.2) = some (ptv vm q.T c (nI x.1) (nI x.2)) ∧ AL q a (l + 1) (c + 1) dp (ad5 vc (cl x)) (ptv vm q.T c (nI x.1) (nI x.2)) ∧ SG q.T (ad5 vc (cl x)) (ptv vm q.T c (nI x.1) (nI x.2)) l c [x] ∧ Ch (Sps l) vc (ad5 vc (cl x)) ∧ Ch (Tps q.T c) vm (ptv vm q.T c (nI x.1) (nI x.2)) := by
  obtain ⟨e, ⟨p1, p2, p3⟩, w, d, x1, y1⟩ := h
  obtain ⟨k1, -, k3, k4⟩ := add_eq (x := cl x) (by omega) x1
  have m1 := put_eq (x := nI x.1) (y := nI x.2) e.1.2.1 hc e.2.2.2.2.1 y1
  have m2 := pt_ch (v := vm) (T := q.T) (x := nI x.1) (y := nI x.2) hc
  refine ⟨k1, m1, ⟨e.ch k4 m2, ⟨by rw [k3]; exact p1, by unfold ptv; rw [rI_no (by omega), rI_no (by omega), rI_no (by omega)]; exact p2, p3⟩, ?_, ?_, ?_, ?_⟩, fun i y hy => ?_, k4, m2⟩
  · unfold ptv; rw [rI_no (by omega), rI_no (by omega), rI_no (by omega)]; exact w
  · unfold ptv; rw [rI_no (by omega), rI_no (by omega), rI_no (by omega)]; exact d
  · rw [add_at hl x1, rI_at]
  · unfold ptv; rw [rI_at]
  · cases i with
    | succ i => simp at hy
    | zero =>
      simp only [List.getElem?_cons_zero, Option.some.injEq] at hy
      rw [← hy, Nat.add_zero, Nat.add_zero, add_at hl x1]
      unfold ptv
      refine ⟨?_, ?_, ?_⟩
      · rw [rI_no (by omega), rI_at]
      · rw [rI_no (by omega), rI_no (by omega), rI_at]
      · rw [rI_no (by omega), rI_at]
/-- the class adds, dead -/
theorem DE.ad {q : Qy} {e F : Nat} {vc vm : rV} (h : DE q e F vc vm) (x : Int32) : f_X2_add vc 4 x = some (ad5 vc x) ∧ DE q e F (ad5 vc x) vm ∧ Ch (Sps 0) vc (ad5 vc x) := by
  obtain ⟨ev, ⟨w, w1, w2, w3⟩, ⟨l, l1, l2⟩, z⟩ := h
  obtain ⟨k1, k2, k3, k4⟩ := add_eq (x := x) l1 l2
  exact ⟨k1, ⟨ev.ch k4 (c := 0) Ch.rf, ⟨w, w1, by rw [k3]; exact w2, w3⟩, k2, z⟩, sps_mono k4 (Nat.zero_le _)⟩
/-- the model puts, dead -/
theorem DE.puts {q : Qy} {e F : Nat} {vc vm : rV} (h : DE q (e + 1) F vc vm) (hF : F ≤ 20) (x y : Int32) : ∃ wm, f_X8_put vm x y = some wm ∧ DE q e F vc wm ∧ Ch (Tps q.T 0) vm wm := by
  obtain ⟨ev, ⟨w, w1, w2, w3⟩, hl, ⟨a, c, a1, a2, a3, a4⟩⟩ := h
  have n160 := ev.1.1
  have m1 := put_eq (x := x) (y := y) ev.1.2.1 (show c < 340 by omega) ev.2.2.2.2.1 a2
  have m2 := pt_ch (v := vm) (T := q.T) (x := x) (y := y) (show c < 340 by omega)
  refine ⟨_, m1, ⟨ev.ch (l := 0) Ch.rf m2, ⟨w, w1, w2, ?_⟩, hl, ⟨a, c + 1, ?_, ?_, by omega, a4⟩⟩, tps_mono m2 (Nat.zero_le _)⟩
  · unfold ptv; rw [rI_no (by omega), rI_no (by omega), rI_no (by omega)]; exact w3
  · unfold ptv; rw [rI_no (by omega), rI_no (by omega), rI_no (by omega)]; exact a1
  · unfold ptv; rw [rI_at]
