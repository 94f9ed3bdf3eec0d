/-! LETTING GO -/
theorem fall_eq0 {v : rV} {c : Nat} {n : Int32} (hc : c < 24) : f_X8_fall v (nI c) 0 n = some (faV v c 0 n) := fall_eq (s := 0) hc (by omega)
theorem fall_eq1 {v : rV} {c : Nat} {n : Int32} (hc : c < 24) : f_X8_fall v (nI c) 1 n = some (faV v c 1 n) := fall_eq (s := 1) hc (by omega)
theorem rI_comm {v : rV} {k a b k2 : Nat} {x y : Int32} (h : k ≠ k2 ∨ a ≠ b) : rI (rI v k a x) k2 b y = rI (rI v k2 b y) k a x := by
  unfold rI
  refine Prod.ext ?_ rfl
  funext i j
  show (if i = k2 ∧ j = b then y else if i = k ∧ j = a then x else v.1 i j) = (if i = k ∧ j = a then x else if i = k2 ∧ j = b then y else v.1 i j)
  by_cases q : i = k2 ∧ j = b
  · rw [if_pos q, if_pos q, if_neg (by omega)]
  · rw [if_neg q, if_neg q]
theorem Ar.set {v : rV} {f l i : Nat} {A : Int} {x : Int32} (h : Ar v f l A) (h1 : f ≤ i) (h2 : i ≤ l) (hx : 0 ≤ x.toInt) : Ar (rI v 187 (0 + i) x) f l (A + x.toInt - (v.1 187 (0 + i)).toInt) := by
  refine ⟨fun c q1 q2 => ?_, ?_⟩
  · show 0 ≤ ((rI v 187 (0 + i) x).1 187 (0 + c)).toInt
    rw [rI_1]
    by_cases e : c = i
    · rw [if_pos ⟨rfl, by omega⟩]; exact hx
    · rw [if_neg (by omega)]; exact h.1 c q1 q2
  · rw [sm_set (g := am v 0) (h := am (rI v 187 (0 + i) x) 0) (i := i) (by omega) (by omega) (fun c hc => by
      show ((rI v 187 (0 + i) x).1 187 (0 + c)).toInt = _
      rw [rI_no (by omega)]
      rfl), h.2]
    show A + ((rI v 187 (0 + i) x).1 187 (0 + i)).toInt - _ = _
    rw [rI_at]
    rfl
theorem Ar.one {v : rV} {f l i : Nat} {A : Int} (h : Ar v f l A) (h1 : f ≤ i) (h2 : i ≤ l) : 0 ≤ (v.1 187 (0 + i)).toInt ∧ (v.1 187 (0 + i)).toInt ≤ A := by
  have := sm_one (g := am v 0) (a := f) (n := l + 1 - f) (c := i) (fun c z1 z2 => h.1 c z1 (by omega)) h1 (by omega)
  rw [h.2] at this
  exact ⟨h.1 i h1 h2, this⟩
theorem Ar.two {v : rV} {f l i j : Nat} {A : Int} (h : Ar v f l A) (h1 : f ≤ i) (h2 : i < j) (h3 : j ≤ l) : (v.1 187 (0 + i)).toInt + (v.1 187 (0 + j)).toInt ≤ A := by
  have e1 : sm (am v 0) f (l + 1 - f) = sm (am v 0) f (j - f) + sm (am v 0) j (l + 1 - j) := by
    have := sm_add (am v 0) f (j - f) (l + 1 - j)
    rw [show j - f + (l + 1 - j) = l + 1 - f by omega, show f + (j - f) = j by omega] at this
    exact this
  have q1 := sm_one (g := am v 0) (a := f) (n := j - f) (c := i) (fun c z1 z2 => h.1 c z1 (by omega)) h1 (by omega)
  have q2 := sm_one (g := am v 0) (a := j) (n := l + 1 - j) (c := j) (fun c z1 z2 => h.1 c (by omega) (by omega)) (by omega) (by omega)
  have := h.2
  show am v 0 i + am v 0 j ≤ A
  omega
theorem Ar.eq {v w : rV} {f l : Nat} {A : Int} (h : Ar v f l A) (e : ∀ c, f ≤ c → c ≤ l → w.1 187 (0 + c) = v.1 187 (0 + c)) : Ar w f l A := by
  have e1 : ∀ c, f ≤ c → c ≤ l → am w 0 c = am v 0 c := fun c q1 q2 => by
    show (w.1 187 (0 + c)).toInt = _
    rw [e c q1 q2]
    rfl
  exact ⟨fun c q1 q2 => by rw [e1 c q1 q2]; exact h.1 c q1 q2, by rw [sm_ext (fun c q1 q2 => e1 c q1 (by omega))]; exact h.2⟩
/-- an end's water goes in: all stays in the cells from f to l -/
theorem Ar.shed {v : rV} {f l i j : Nat} {A : Int} (h : Ar v f l A) (hA : A ≤ 12000) (h1 : f ≤ i) (h2 : i ≤ l) (h3 : f ≤ j) (h4 : j ≤ l) (hij : i ≠ j) : Ar (rI (rI v 187 (0 + j) (v.1 187 (0 + j) + v.1 187 (0 + i))) 187 (0 + i) 0) f l A := by
  have a1 := h.one h1 h2
  have a2 := h.one h3 h4
  have a3 : (v.1 187 (0 + i)).toInt + (v.1 187 (0 + j)).toInt ≤ A := by
    rcases Nat.lt_or_gt_of_ne hij with q | q
    · exact h.two h1 q h4
    · have := h.two h3 q h2; omega
  have e1 : (v.1 187 (0 + j) + v.1 187 (0 + i)).toInt = (v.1 187 (0 + j)).toInt + (v.1 187 (0 + i)).toInt := add_toInt (by omega) (by omega)
  have k := (h.set (i := j) (x := v.1 187 (0 + j) + v.1 187 (0 + i)) h3 h4 (by rw [e1]; omega)).set (i := i) (x := 0) h1 h2 (by decide)
  rw [rI_no (by omega), e1] at k
  have z : (0 : Int32).toInt = 0 := rfl
  have e3 : A + ((v.1 187 (0 + j)).toInt + (v.1 187 (0 + i)).toInt) - (v.1 187 (0 + j)).toInt + (0 : Int32).toInt - (v.1 187 (0 + i)).toInt = A := by omega
  rwa [e3] at k
/-- dry ends can be left away -/
theorem Ar.less {v : rV} {f l : Nat} {A : Int} (h : Ar v f l A) (hfl : f + 2 ≤ l) (z1 : v.1 187 (0 + f) = 0) (z2 : v.1 187 (0 + l) = 0) : Ar v (f + 1) (l - 1) A := by
  refine ⟨fun c q1 q2 => h.1 c (by omega) (by omega), ?_⟩
  have e := h.2
  rw [show l + 1 - f = (l - 1 + 1 - (f + 1)) + 1 + 1 by omega, sm_last] at e
  simp only [sm] at e
  have e1 : am v 0 f = 0 := by show (v.1 187 (0 + f)).toInt = 0; rw [z1]; rfl
  have e2 : am v 0 (f + (l - 1 + 1 - (f + 1) + 1)) = 0 := by
    rw [show f + (l - 1 + 1 - (f + 1) + 1) = l by omega]
    show (v.1 187 (0 + l)).toInt = 0
    rw [z2]
    rfl
  omega
def Sgo (B kd f l : Nat) : Nat → Nat → Prop := fun k j => ((k = B + 1 ∨ k = B + 5 ∨ k = B + 6 ∨ k = B + 8 ∨ k = B + 9 ∨ k = B + 10) ∧ f ≤ j ∧ j ≤ l) ∨ (k = B ∧ j = 3) ∨ (k = kd ∧ (j = 2 ∨ j = 3 ∨ j = 4))
def Tgo (f l : Nat) : Nat → Nat → Prop := fun k j => (k = 187 ∧ ((f ≤ j ∧ j ≤ l) ∨ (24 + f ≤ j ∧ j ≤ 24 + l) ∨ (48 + f ≤ j ∧ j ≤ 48 + l) ∨ (72 + f ≤ j ∧ j ≤ 72 + l) ∨ (96 + f ≤ j ∧ j ≤ 96 + l))) ∨ (k = 193 ∧ ((f ≤ j ∧ j ≤ l) ∨ (24 + f ≤ j ∧ j ≤ 24 + l))) ∨ (k = 174 ∧ (j = 37 ∨ j = 38))
theorem shed_eq {v : rV} {c t : Nat} (hc : c < 24) (ht : t < 24) (hct : c ≠ t) : ∃ m1 m2, m1 = rI (rI v 187 (0 + t) (v.1 187 (0 + t) + v.1 187 (0 + c))) 187 (0 + c) 0 ∧ m2 = faV (faV m1 c 0 (v.1 187 (24 + c))) c 1 (v.1 187 (48 + c)) ∧ f_X8_shed v (nI c) (nI t) = some m2 := by
  refine ⟨_, _, rfl, rfl, ?_⟩
  unfold f_X8_shed
  rw [show (0 : Int32) + nI t = nI (0 + t) from niAdd 0 t, show (0 : Int32) + nI c = nI (0 + c) from niAdd 0 c, show (24 : Int32) + nI c = nI (24 + c) from niAdd 24 c, show (48 : Int32) + nI c = nI (48 + c) from niAdd 48 c, vlet_eq, if_pos (gin (show 0 + t < 416 by omega) (by omega)), if_pos (gin (show 0 + c < 416 by omega) (by omega)), vlet_eq, vlet_eq, if_pos (gin (show 24 + c < 416 by omega) (by omega)), niCl (show 0 + t < 2147483648 by omega), niCl (show 0 + c < 2147483648 by omega), niCl (show 24 + c < 2147483648 by omega), fall_eq0 hc, Option.bind_some, if_pos (gin (show 48 + c < 416 by omega) (by omega)), niCl (show 48 + c < 2147483648 by omega), fall_eq1 hc, Option.bind_some]
  rw [rI_no (by omega), rI_no (by omega), fa_no (by omega), rI_no (by omega), rI_no (by omega)]
/-- one step inwards -/
theorem go1 {B kd own f l A n m : Nat} {pc i J : Int32} {S0 S1 : Int} {vc vm : rV} (h0 : S0 ≤ 12000) (h1 : S1 ≤ 12000) (hA : A ≤ 12000) (hpc : 0 ≤ pc) (hw : f + 2 ≤ l) (hJ : ¬ J ≤ i) (hb : BD B kd own f l vc vm) (hG : GG B pc S0 S1 vc vm) (hW : Rw vc (B + 1) vm 187 0 24) (hAr : Ar vm f l A) (hz : ∀ i, f ≤ i → i ≤ l → vm.1 193 i = 0 ∧ vm.1 193 (24 + i) = 0) :
    ∃ wc wm, f_X5_letGo_44 (n + 1) vc B kd pc J i = f_X5_letGo_44 n wc B kd pc J (i + 1) ∧ f_X8_letGo_2 (m + 1) vm J i = f_X8_letGo_2 m wm J (i + 1) ∧ BD B kd own (f + 1) (l - 1) wc wm ∧ GG B pc S0 S1 wc wm ∧ Rw wc (B + 1) wm 187 0 24 ∧ Ar wm (f + 1) (l - 1) A ∧ Ch (Sgo B kd f l) vc wc ∧ Ch (Tgo f l) vm wm ∧ wc.1 kd 4 = vc.1 kd 4 ∧ (∀ j, f < j → j < l → wm.1 193 j = vm.1 193 j ∧ wm.1 193 (24 + j) = vm.1 193 (24 + j)) := by
  have hb0 := hb
  obtain ⟨⟨x1, x2⟩, ⟨b1, b2, b3⟩, ⟨c0, hfl, hl, hkd⟩, hmade, htd⟩ := hb
  -- the model
  obtain ⟨m1, m2, em1, em2, es1⟩ := shed_eq (v := vm) (c := f) (t := f + 1) (by omega) (by omega) (by omega)
  have q1 : Ch (fun k j => k = 187 ∧ (j = 0 + (f + 1) ∨ j = 0 + f)) vm m1 := by rw [em1]; exact (Ch.rf.I ⟨rfl, Or.inl rfl⟩).I ⟨rfl, Or.inr rfl⟩
  have q2 : Ch (Tl f) m1 m2 := by rw [em2]; exact (fa_ch (by omega)).tr (fa_ch (by omega))
  obtain ⟨m3, em3⟩ : ∃ m3, m3 = rI m2 174 37 (nI (f + 1)) := ⟨_, rfl⟩
  have q3 : Ch (fun k j => k = 174 ∧ j = 37) m2 m3 := by rw [em3]; exact Ch.rf.I ⟨rfl, rfl⟩
  obtain ⟨m4, m5, em4, em5, es2⟩ := shed_eq (v := m3) (c := l) (t := l - 1) (by omega) (by omega) (by omega)
  have q4 : Ch (fun k j => k = 187 ∧ (j = 0 + (l - 1) ∨ j = 0 + l)) m3 m4 := by rw [em4]; exact (Ch.rf.I ⟨rfl, Or.inl rfl⟩).I ⟨rfl, Or.inr rfl⟩
  have q5 : Ch (Tl l) m4 m5 := by rw [em5]; exact (fa_ch (by omega)).tr (fa_ch (by omega))
  obtain ⟨wm, ewm⟩ : ∃ w, w = rI m5 174 38 (nI (l - 1)) := ⟨_, rfl⟩
  have q6 : Ch (fun k j => k = 174 ∧ j = 38) m5 wm := by rw [ewm]; exact Ch.rf.I ⟨rfl, rfl⟩
  -- the class
  have hG1 : GG B pc S0 S1 vc m1 := hG.ch Ch.rf (S := fun _ _ => False) q1 (fun _ _ _ _ _ => id) id (fun j z1 z2 => by omega) (fun j _ => by omega)
  have f1 : (m1.1 187 (24 + f)) = vm.1 187 (24 + f) := q1.1 _ _ (by omega)
  have f2 : (m1.1 187 (48 + f)) = vm.1 187 (48 + f) := q1.1 _ _ (by omega)
  obtain ⟨⟨g0, g1⟩, -, -, -, T0, U0, T1, U1, a0, u0, a1, u1, t0, t1⟩ := hG1
  have n0 := a0.one (c := f) (by omega)
  have n1 := a1.one (c := f) (by omega)
  have hG1 : GG B pc S0 S1 vc m1 := hG.ch Ch.rf (S := fun _ _ => False) q1 (fun _ _ _ _ _ => id) id (fun j z1 z2 => by omega) (fun j _ => by omega)
  obtain ⟨hG2, -, -⟩ := lie1 (c := f) (r := vm.1 187 (24 + f)) (s := vm.1 187 (48 + f)) h0 h1 (by omega) hpc hG1 (by rw [← f1]; exact n0.1) (by rw [f1]; exact Int.le_refl _) (by rw [← f2]; exact n1.1) (by rw [f2]; exact Int.le_refl _) (by rw [q1.1 _ _ (by omega)]; exact (hz f (by omega) (by omega)).1) (by rw [q1.1 _ _ (by omega)]; exact (hz f (by omega) (by omega)).2)
  rw [← em2] at hG2
  obtain ⟨v1, ev1⟩ : ∃ v1, v1 = liV vc B f (vm.1 187 (24 + f)) (vm.1 187 (48 + f)) pc := ⟨_, rfl⟩
  have p1 : Ch (Sl B f) vc v1 := by rw [ev1]; exact lie_ch
  rw [← ev1] at hG2
  have hG4 : GG B pc S0 S1 v1 m4 := (hG2.ch Ch.rf (S := fun _ _ => False) q3 (fun _ _ _ _ _ => id) id (fun j z1 z2 => by omega) (fun j _ => by omega)).ch Ch.rf (S := fun _ _ => False) q4 (fun _ _ _ _ _ => id) id (fun j z1 z2 => by omega) (fun j _ => by omega)
  have e24 : m3.1 187 (24 + l) = m4.1 187 (24 + l) := (q4.1 _ _ (by omega)).symm
  have e48 : m3.1 187 (48 + l) = m4.1 187 (48 + l) := (q4.1 _ _ (by omega)).symm
  have zz : ∀ j, j = l ∨ j = 24 + l → m4.1 193 j = vm.1 193 j := fun j hj => by rw [q4.1 _ _ (by omega), q3.1 _ _ (by omega), q2.1 _ _ (by unfold Tl; omega), q1.1 _ _ (by omega)]
  have hG4' := hG4
  obtain ⟨⟨g2, g3⟩, -, -, -, T2, U2, T3, U3, a2, u2, a3, u3, t2, t3⟩ := hG4'
  have n2 := a2.one (c := l) (by omega)
  have n3 := a3.one (c := l) (by omega)
  obtain ⟨hG5, -, -⟩ := lie1 (c := l) (r := m3.1 187 (24 + l)) (s := m3.1 187 (48 + l)) h0 h1 (by omega) hpc hG4 (by rw [e24]; exact n2.1) (by rw [e24]; exact Int.le_refl _) (by rw [e48]; exact n3.1) (by rw [e48]; exact Int.le_refl _) (by rw [zz l (Or.inl rfl)]; exact (hz l (by omega) (by omega)).1) (by rw [zz (24 + l) (Or.inr rfl)]; exact (hz l (by omega) (by omega)).2)
  rw [← em5] at hG5
  obtain ⟨v2, ev2⟩ : ∃ v2, v2 = liV v1 B l (m3.1 187 (24 + l)) (m3.1 187 (48 + l)) pc := ⟨_, rfl⟩
  have p2 : Ch (Sl B l) v1 v2 := by rw [ev2]; exact lie_ch
  rw [← ev2] at hG5
  obtain ⟨w1, ew1⟩ : ∃ w, w = rI v2 (B + 1) (f + 1) (v2.1 (B + 1) (f + 1) + v2.1 (B + 1) f) := ⟨_, rfl⟩
  obtain ⟨w2, ew2⟩ : ∃ w, w = rI w1 (B + 1) (l - 1) (w1.1 (B + 1) (l - 1) + w1.1 (B + 1) l) := ⟨_, rfl⟩
  obtain ⟨w3, ew3⟩ : ∃ w, w = rI w2 (B + 1) f 0 := ⟨_, rfl⟩
  obtain ⟨w4, ew4⟩ : ∃ w, w = rI w3 (B + 1) l 0 := ⟨_, rfl⟩
  obtain ⟨wc, ewc⟩ : ∃ w, w = rI (rI w4 kd 2 (nI (f + 1))) kd 3 (nI (l - 1)) := ⟨_, rfl⟩
  have p3 : Ch (fun k j => k = B + 1 ∧ f ≤ j ∧ j ≤ l) v2 w4 := by
    rw [ew4, ew3, ew2, ew1]
    exact (((Ch.rf.I ⟨rfl, by omega, by omega⟩).I ⟨rfl, by omega, by omega⟩).I ⟨rfl, by omega, by omega⟩).I ⟨rfl, by omega, by omega⟩
  have p4 : Ch (fun k j => k = kd ∧ (j = 2 ∨ j = 3)) w4 wc := by
    rw [ewc]
    exact (Ch.rf.I ⟨rfl, Or.inl rfl⟩).I ⟨rfl, Or.inr rfl⟩
  have s1 : f_X8_letGo_2 (m + 1) vm J i = f_X8_letGo_2 m wm J (i + 1) := by
    rw [f_X8_letGo_2, if_neg hJ, b1, ad1, es1, Option.bind_some, vlet_eq]
    have e37 : m2.1 174 37 = nI f := by rw [q2.1 _ _ (by unfold Tl; omega), q1.1 _ _ (by omega)]; exact b1
    have e38 : m3.1 174 38 = nI l := by rw [q3.1 _ _ (by omega), q2.1 _ _ (by unfold Tl; omega), q1.1 _ _ (by omega)]; exact b2
    have e38' : m5.1 174 38 = nI l := by rw [q5.1 _ _ (by unfold Tl; omega), q4.1 _ _ (by omega)]; exact e38
    rw [e37, ad1, ← em3, e38, show nI l - 1 = nI (l - 1) from niSub (a := l) (b := 1) (by omega), es2, Option.bind_some, vlet_eq, vlet_eq, e38', show nI l - 1 = nI (l - 1) from niSub (a := l) (b := 1) (by omega), ← ewm]
  have s2 : f_X5_letGo_44 (n + 1) vc B kd pc J i = f_X5_letGo_44 n wc B kd pc J (i + 1) := by
    have y2 : v1.1 kd 2 = nI f := by rw [p1.1 _ _ (by unfold Sl; omega)]; exact x1
    have y3 : v1.1 kd 3 = nI l := by rw [p1.1 _ _ (by unfold Sl; omega)]; exact x2
    have z2 : v2.1 kd 2 = nI f := by rw [p2.1 _ _ (by unfold Sl; omega)]; exact y2
    have z3 : v2.1 kd 3 = nI l := by rw [p2.1 _ _ (by unfold Sl; omega)]; exact y3
    have c5 : vc.1 (B + 5) f = vm.1 187 (24 + f) := hG.1.1 f (by omega)
    have c6 : vc.1 (B + 6) f = vm.1 187 (48 + f) := hG.1.2 f (by omega)
    have d5 : v1.1 (B + 5) l = m3.1 187 (24 + l) := (g2 l (by omega)).trans e24.symm
    have d6 : v1.1 (B + 6) l = m3.1 187 (48 + l) := (g3 l (by omega)).trans e48.symm
    rw [f_X5_letGo_44, if_neg hJ, x1, if_pos (gin (show f < 24 by omega) (by omega)), niCl (show f < 2147483648 by omega), show B + 5 + 0 = B + 5 from rfl, show B + 5 + 1 = B + 6 from rfl, c5, c6, lie_eq (by omega), Option.bind_some, ← ev1, y3, if_pos (gin (show l < 24 by omega) (by omega)), niCl (show l < 2147483648 by omega), d5, d6, lie_eq (by omega), Option.bind_some, ← ev2]
    rw [vlet_eq, z2, ad1, if_pos (gin (show f + 1 < 24 by omega) (by omega)), if_pos (gin (show f < 24 by omega) (by omega)), niCl (show f + 1 < 2147483648 by omega), niCl (show f < 2147483648 by omega), ← ew1]
    have u3 : w1.1 kd 3 = nI l := by rw [ew1, rI_no (by omega)]; exact z3
    have u2 : w2.1 kd 2 = nI f := by rw [ew2, rI_no (by omega), ew1, rI_no (by omega)]; exact z2
    have u4 : w3.1 kd 3 = nI l := by rw [ew3, rI_no (by omega), ew2, rI_no (by omega)]; exact u3
    have u5 : w4.1 kd 2 = nI f := by rw [ew4, rI_no (by omega), ew3, rI_no (by omega)]; exact u2
    have u6 : (rI w4 kd 2 (nI (f + 1))).1 kd 3 = nI l := by rw [rI_no (by omega), ew4, rI_no (by omega)]; exact u4
    rw [vlet_eq, vlet_eq, u3, show nI l - 1 = nI (l - 1) from niSub (a := l) (b := 1) (by omega), if_pos (gin (show l - 1 < 24 by omega) (by omega)), if_pos (gin (show l < 24 by omega) (by omega)), niCl (show l - 1 < 2147483648 by omega), niCl (show l < 2147483648 by omega), ← ew2]
    rw [vlet_eq, u2, if_pos (gin (show f < 24 by omega) (by omega)), niCl (show f < 2147483648 by omega), ← ew3, vlet_eq, u4, if_pos (gin (show l < 24 by omega) (by omega)), niCl (show l < 2147483648 by omega), ← ew4, vlet_eq, u5, ad1, vlet_eq, u6, show nI l - 1 = nI (l - 1) from niSub (a := l) (b := 1) (by omega), vlet_eq, vlet_eq, ← ewc]
  have t1' : Ch (Tgo f l) vm wm := (((((q1.mono fun k j q => by unfold Tgo; omega).tr (q2.mono fun k j q => by unfold Tl at q; unfold Tgo; omega)).tr (q3.mono fun k j q => by unfold Tgo; omega)).tr (q4.mono fun k j q => by unfold Tgo; omega)).tr (q5.mono fun k j q => by unfold Tl at q; unfold Tgo; omega)).tr (q6.mono fun k j q => by unfold Tgo; omega)
  have t2' : Ch (Sgo B kd f l) vc wc := (((p1.mono fun k j q => by unfold Sl at q; unfold Sgo; omega).tr (p2.mono fun k j q => by unfold Sl at q; unfold Sgo; omega)).tr (p3.mono fun k j q => by unfold Sgo; omega)).tr (p4.mono fun k j q => by unfold Sgo; omega)
  -- the water's rows
  have R0 : Rw v2 (B + 1) vm 187 0 24 := fun j hj => by rw [p2.1 _ _ (by unfold Sl; omega), p1.1 _ _ (by unfold Sl; omega)]; exact hW j hj
  have mrow : ∀ j, j < 24 → wm.1 187 (0 + j) = m4.1 187 (0 + j) := fun j hj => by rw [q6.1 _ _ (by omega), q5.1 _ _ (by unfold Tl; omega)]
  have m31 : ∀ j, j < 24 → m3.1 187 (0 + j) = m1.1 187 (0 + j) := fun j hj => by rw [q3.1 _ _ (by omega), q2.1 _ _ (by unfold Tl; omega)]
  -- the same rows over vm itself
  obtain ⟨V1, eV1⟩ : ∃ w, w = rI vm 187 (0 + (f + 1)) (vm.1 187 (0 + (f + 1)) + vm.1 187 (0 + f)) := ⟨_, rfl⟩
  obtain ⟨V2, eV2⟩ : ∃ w, w = rI V1 187 (0 + (l - 1)) (V1.1 187 (0 + (l - 1)) + V1.1 187 (0 + l)) := ⟨_, rfl⟩
  obtain ⟨V4, eV4⟩ : ∃ w, w = rI (rI V2 187 (0 + f) 0) 187 (0 + l) 0 := ⟨_, rfl⟩
  have eV : V4 = rI (rI m1 187 (0 + (l - 1)) (m1.1 187 (0 + (l - 1)) + m1.1 187 (0 + l))) 187 (0 + l) 0 := by
    rw [eV4, eV2, em1, ← eV1, rI_comm (a := 0 + (l - 1)) (b := 0 + f) (by omega)]
    rw [rI_no (v := V1) (a := 187) (b := 0 + (l - 1)) (by omega), rI_no (v := V1) (a := 187) (b := 0 + l) (by omega)]
  have m4row : ∀ j, j < 24 → m4.1 187 (0 + j) = V4.1 187 (0 + j) := fun j hj => by
    rw [em4, eV, m31 (l - 1) (by omega), m31 l (by omega)]
    simp only [rI_1]
    rw [m31 j hj]
  have R4 : Rw w4 (B + 1) V4 187 0 24 := by
    have R1 : Rw w1 (B + 1) V1 187 0 24 := by rw [ew1, eV1, R0 (f + 1) (by omega), R0 f (by omega)]; exact R0.up
    have R2 : Rw w2 (B + 1) V2 187 0 24 := by rw [ew2, eV2, R1 (l - 1) (by omega), R1 l (by omega)]; exact R1.up
    rw [ew4, ew3, eV4]
    exact R2.up.up
  have RW : Rw wc (B + 1) wm 187 0 24 := fun j hj => by
    rw [p4.1 _ _ (by omega), R4 j hj, mrow j hj, m4row j hj]
  have arV : Ar V4 f l A := by
    have k1 := hAr.shed (i := f) (j := f + 1) (by omega) (by omega) (by omega) (by omega) (by omega) (by omega)
    rw [← em1] at k1
    have k2 := k1.shed (i := l) (j := l - 1) (by omega) (by omega) (by omega) (by omega) (by omega) (by omega)
    rwa [← eV] at k2
  have arW : Ar wm (f + 1) (l - 1) A := by
    have z1 : V4.1 187 (0 + f) = 0 := by rw [eV4, rI_no (by omega), rI_at]
    have z2 : V4.1 187 (0 + l) = 0 := by rw [eV4, rI_at]
    exact (arV.less hw z1 z2).eq fun c z1 z2 => by rw [mrow c (by omega), m4row c (by omega)]
  have hGf : GG B pc S0 S1 wc wm := ((hG5.ch p3 (T := fun _ _ => False) Ch.rf (fun k c h9 h5 h6 => by omega) (by omega) (fun j z1 z2 => id) (fun j _ => id)).ch p4 (T := fun _ _ => False) Ch.rf (fun k c h9 h5 h6 => by omega) (by omega) (fun j z1 z2 => id) (fun j _ => id)).ch Ch.rf (S := fun _ _ => False) q6 (fun _ _ _ _ _ => id) id (fun j z1 z2 => by omega) (fun j _ => by omega)
  have hbd : BD B kd own (f + 1) (l - 1) wc wm := by
    refine ⟨⟨by rw [ewc, rI_no (by omega), rI_at], by rw [ewc, rI_at]⟩, ⟨?_, by rw [ewm, rI_at], ?_⟩, ⟨c0, by omega, by omega, hkd⟩, fun j z1 z2 => ?_, htd.ch t1' fun j _ => by unfold Tgo; omega⟩
    · rw [q6.1 _ _ (by omega), q5.1 _ _ (by unfold Tl; omega), q4.1 _ _ (by omega), em3, rI_at]
    · rw [t1'.1 _ _ (by unfold Tgo; omega)]; exact b3
    · rw [t2'.1 _ _ (by unfold Sgo; omega), t1'.1 _ _ (by unfold Tgo; omega)]
      exact hmade j z1 z2
  refine ⟨wc, wm, s2, s1, hbd, hGf, RW, arW, t2', t1', ?_, fun j z1 z2 => ?_⟩
  · rw [p4.1 _ _ (by omega), p3.1 _ _ (by omega), p2.1 _ _ (by unfold Sl; omega), p1.1 _ _ (by unfold Sl; omega)]
  · have e : ∀ i, i = j ∨ i = 24 + j → wm.1 193 i = vm.1 193 i := fun i hi => by
      rw [q6.1 _ _ (by omega), q5.1 _ _ (by unfold Tl; omega), q4.1 _ _ (by omega), q3.1 _ _ (by omega), q2.1 _ _ (by unfold Tl; omega), q1.1 _ _ (by omega)]
    exact ⟨e j (Or.inl rfl), e _ (Or.inr rfl)⟩
