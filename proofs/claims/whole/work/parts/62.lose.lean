/-! WATER GOES OFF by a law -/
theorem sm_setR {g h : Nat → Int} {a n i : Nat} (h1 : a ≤ i) (h2 : i < a + n) (e : ∀ c, a ≤ c → c < a + n → c ≠ i → h c = g c) : sm h a n = sm g a n + h i - g i := by
  have k := sm_set (g := g) (h := fun c => if a ≤ c ∧ c < a + n then h c else g c) (a := a) (n := n) (i := i) h1 h2 (fun c hc => by
    by_cases q : a ≤ c ∧ c < a + n
    · simp only [if_pos q]; exact e c q.1 q.2 hc
    · simp only [if_neg q])
  rw [sm_ext (g := fun c => if a ≤ c ∧ c < a + n then h c else g c) (h := h) (fun c q1 q2 => by simp only [if_pos (show a ≤ c ∧ c < a + n from ⟨q1, q2⟩)])] at k
  simp only [if_pos (show a ≤ i ∧ i < a + n from ⟨h1, h2⟩)] at k
  exact k
/-- a law of the shelf and one of the model's texts say the same of all letters, as long as their codes stay -/
def LawK (kf n : Nat) (vc0 vm0 : rV) : Prop := ∀ (vc vm : rV) (kl : Nat), (∀ j, vc.1 (kf + 1) j = vc0.1 (kf + 1) j) → vc.1 kf 2 = vc0.1 kf 2 → (∀ j, 340 * n ≤ j → j < 340 * n + 340 → vm.1 176 j = vm0.1 176 j ∧ vm.1 177 j = vm0.1 177 j) → vm.1 179 n = vm0.1 179 n → (∀ j, 90 * n ≤ j → j < 90 * n + 90 → vm.1 180 j = vm0.1 180 j ∧ vm.1 181 j = vm0.1 181 j ∧ vm.1 182 j = vm0.1 182 j) → (∀ j, j < 7 → vc.1 kl j = vm.1 183 j) → kl ≠ kf + 2 →
  ∃ r vc' vm', f_X2_worth vc kf kl = some (r, vc') ∧ f_X8_worth vm (nI n) = some (r, vm') ∧ Ch (fun k j => k = kf + 2 ∧ j < 1000) vc vc' ∧ Ch (fun k j => k = 184 ∧ j < 1000) vm vm'
theorem LawK.ch {S T : Nat → Nat → Prop} {kf n : Nat} {vc vm wc wm : rV} (h : LawK kf n vc vm) (hc : Ch S vc wc) (hm : Ch T vm wm) (s1 : ∀ j, ¬ S (kf + 1) j) (s2 : ¬ S kf 2) (t1 : ∀ k j, 176 ≤ k → k ≤ 182 → j < 3060 → ¬ T k j) (hn : n < 9) : LawK kf n wc wm := fun uc um kl a1 a2 a3 a4 a5 a6 a7 => by
  refine h uc um kl (fun j => (a1 j).trans (hc.1 _ _ (s1 j))) (a2.trans (hc.1 _ _ s2)) (fun j h1 h2 => ?_) ?_ (fun j h1 h2 => ?_) a6 a7
  · have := a3 j h1 h2
    rwa [hm.1 176 j (t1 _ _ (by omega) (by omega) (by omega)), hm.1 177 j (t1 _ _ (by omega) (by omega) (by omega))] at this
  · rwa [hm.1 179 n (t1 _ _ (by omega) (by omega) (by omega))] at a4
  · have := a5 j h1 h2
    rwa [hm.1 180 j (t1 _ _ (by omega) (by omega) (by omega)), hm.1 181 j (t1 _ _ (by omega) (by omega) (by omega)), hm.1 182 j (t1 _ _ (by omega) (by omega) (by omega))] at this
theorem worth_K {kf n kl : Nat} {vc vm : rV} (h : LawK kf n vc vm) (a6 : ∀ j, j < 7 → vc.1 kl j = vm.1 183 j) (a7 : kl ≠ kf + 2) : ∃ r vc' vm', f_X2_worth vc kf kl = some (r, vc') ∧ f_X8_worth vm (nI n) = some (r, vm') ∧ Ch (fun k j => k = kf + 2 ∧ j < 1000) vc vc' ∧ Ch (fun k j => k = 184 ∧ j < 1000) vm vm' :=
  h vc vm kl (fun _ => rfl) rfl (fun _ _ _ => ⟨rfl, rfl⟩) rfl (fun _ _ _ => ⟨rfl, rfl, rfl⟩) a6 a7
/-- the law's side of a strip -/
def LSt (B kf n : Nat) (vc vm : rV) : Prop := vc.2.2 B 13 = some kf ∧ isForm kf = true ∧ kf + 2 < B ∧ n < 4 ∧ vm.1 187 294 = nI n ∧ LawK kf n vc vm
theorem LSt.ch {S T : Nat → Nat → Prop} {B kf n : Nat} {vc vm wc wm : rV} (h : LSt B kf n vc vm) (hc : Ch S vc wc) (hm : Ch T vm wm) (s0 : ¬ S B 2000013) (s1 : ∀ j, ¬ S (kf + 1) j) (s2 : ¬ S kf 2) (t0 : ¬ T 187 294) (t1 : ∀ k j, 176 ≤ k → k ≤ 182 → j < 3060 → ¬ T k j) : LSt B kf n wc wm := by
  obtain ⟨a, b, c, d, e, g⟩ := h
  exact ⟨by rw [hc.2.2 _ _ s0]; exact a, b, c, d, by rw [hm.1 _ _ t0]; exact e, g.ch hc hm s1 s2 t1 (by omega)⟩
def lossV (r w a : Int32) : Int32 :=
  (if 0 < (if r < w then r else w) then (if r < w then r else w) else 0) - ((if 0 < (if r < w then r else w) then (if r < w then r else w) else 0) * a) / 100
theorem loss_num {r w a : Int32} (hw : 0 ≤ w.toInt) (hw2 : w.toInt ≤ 12000) (ha : 0 ≤ a.toInt) (ha2 : a.toInt ≤ 100) : 0 ≤ (lossV r w a).toInt ∧ (lossV r w a).toInt ≤ w.toInt := by
  unfold lossV
  obtain ⟨x, ex⟩ : ∃ x, x = (if 0 < (if r < w then r else w) then (if r < w then r else w) else 0) := ⟨_, rfl⟩
  rw [← ex]
  have z : (0 : Int32).toInt = 0 := rfl
  have hx : 0 ≤ x.toInt ∧ x.toInt ≤ w.toInt := by
    rw [ex]
    by_cases q : r < w
    · rw [if_pos q]
      by_cases p : 0 < r
      · rw [if_pos p]; rw [lt_toInt] at p q; omega
      · rw [if_neg p]; omega
    · rw [if_neg q]
      by_cases p : 0 < w
      · rw [if_pos p]; omega
      · rw [if_neg p]; omega
  have hxa : 0 ≤ x.toInt * a.toInt ∧ x.toInt * a.toInt ≤ x.toInt * 100 := ⟨Int.mul_nonneg hx.1 ha, Int.mul_le_mul_of_nonneg_left ha2 hx.1⟩
  have e2 : (x * a).toInt = x.toInt * a.toInt := mul_toInt (by omega) (by omega)
  have e3 : (x * a / 100).toInt = (x.toInt * a.toInt).tdiv 100 := by rw [div_toInt (by decide), e2]; rfl
  have e4 : 0 ≤ (x.toInt * a.toInt).tdiv 100 ∧ (x.toInt * a.toInt).tdiv 100 ≤ x.toInt := by
    rw [Int.tdiv_eq_ediv_of_nonneg hxa.1]
    omega
  rw [sub_toInt (by omega) (by omega), e3]
  omega
def Sev (B kf f l : Nat) : Nat → Nat → Prop := fun k j => (k = B + 1 ∧ f ≤ j ∧ j ≤ l) ∨ (k = B + 3 ∧ j < 7) ∨ (k = B ∧ j = 16) ∨ (k = kf + 2 ∧ j < 1000)
def Tev (f l : Nat) : Nat → Nat → Prop := fun k j => (k = 187 ∧ ((f ≤ j ∧ j ≤ l) ∨ j = 290)) ∨ (k = 183 ∧ j < 7) ∨ (k = 184 ∧ j < 1000)
theorem lose_go {B kd own kf N f l : Nat} {A0 : Int} (hA0 : A0 ≤ 12000) : ∀ (d c n m P : Nat) (vc vm : rV), f ≤ c → c + d = l + 1 → d < n → d < m → BD B kd own f l vc vm → LSt B kf N vc vm → Rw vc (B + 1) vm 187 0 24 → (∀ i, f ≤ i → i ≤ l → 0 ≤ am vm 0 i) → sm (am vm 0) f (c - f) = P → sm (am vm 0) f (l + 1 - f) ≤ A0 → FF B vc vm → vc.1 B 16 = vm.1 187 290 → (vc.1 (B + 3) 3 = vm.1 187 289 ∧ vc.1 (B + 3) 4 = vm.1 185 (12 * own + 5) ∧ vc.1 (B + 3) 5 = vm.1 185 (12 * own + 6) ∧ vc.1 (B + 3) 6 = nI (l - f + 1)) →
    ∃ (A : Nat) (vc' vm' : rV), f_X5_evaporate_59 n vc B kd (nI c) = some vc' ∧ f_X8_lose_7 m vm (nI P) (nI c) = some (nI A, vm') ∧ (A : Int) ≤ A0 ∧ Ar vm' f l A ∧ Rw vc' (B + 1) vm' 187 0 24 ∧ vc'.1 B 16 = vm'.1 187 290 ∧ Ch (Sev B kf f l) vc vc' ∧ Ch (Tev f l) vm vm' := by
  intro d
  induction d with
  | zero =>
    intro c n m P vc vm g1 g2 hn hm hb hL hW hWn hP hT hF hgo hlt
    obtain ⟨n, rfl⟩ : ∃ n', n = n' + 1 := ⟨n - 1, by omega⟩
    obtain ⟨m, rfl⟩ : ∃ m', m = m' + 1 := ⟨m - 1, by omega⟩
    obtain ⟨⟨x1, x2⟩, ⟨b1, b2, b3⟩, ⟨c0, hfl, hl, hkd⟩, -, -⟩ := hb
    rw [show c = l + 1 by omega] at hP
    refine ⟨P, vc, vm, ?_, ?_, by omega, ⟨hWn, hP⟩, hW, hgo, Ch.rf, Ch.rf⟩
    · rw [f_X5_evaporate_59, x2, if_pos (plt (by omega) (by omega))]
    · rw [f_X8_lose_7, b2, if_pos (plt (by omega) (by omega))]
  | succ d ih =>
    intro c n m P vc vm g1 g2 hn hm hb hL hW hWn hP hT hF hgo hlt
    obtain ⟨n, rfl⟩ : ∃ n', n = n' + 1 := ⟨n - 1, by omega⟩
    obtain ⟨m, rfl⟩ : ∃ m', m = m' + 1 := ⟨m - 1, by omega⟩
    have hb0 := hb
    have hL0 := hL
    obtain ⟨⟨x1, x2⟩, ⟨b1, b2, b3⟩, ⟨c0, hfl, hl, hkd⟩, hmade, htd⟩ := hb
    obtain ⟨l1, l2, l3, l4, l5, l6⟩ := hL
    -- letters
    obtain ⟨c1, ec1⟩ : ∃ w, w = rI vc (B + 3) 0 (if nI l - nI c < nI c - nI f then nI l - nI c else nI c - nI f) := ⟨_, rfl⟩
    obtain ⟨c2, ec2⟩ : ∃ w, w = rI c1 (B + 3) 1 (vm.1 187 (0 + c)) := ⟨_, rfl⟩
    obtain ⟨c3, ec3⟩ : ∃ w, w = rI c2 (B + 3) 2 (vm.1 187 (24 + c) + vm.1 187 (48 + c)) := ⟨_, rfl⟩
    obtain ⟨m1, em1⟩ : ∃ w, w = rI vm 183 0 (if nI l - nI c < nI c - nI f then nI l - nI c else nI c - nI f) := ⟨_, rfl⟩
    obtain ⟨m2, em2⟩ : ∃ w, w = rI m1 183 1 (vm.1 187 (0 + c)) := ⟨_, rfl⟩
    obtain ⟨m3, em3⟩ : ∃ w, w = rI m2 183 2 (vm.1 187 (24 + c) + vm.1 187 (48 + c)) := ⟨_, rfl⟩
    obtain ⟨m4, em4⟩ : ∃ w, w = rI m3 183 3 (vm.1 187 289) := ⟨_, rfl⟩
    obtain ⟨m5, em5⟩ : ∃ w, w = rI m4 183 4 (vm.1 185 (12 * own + 5)) := ⟨_, rfl⟩
    obtain ⟨m6, em6⟩ : ∃ w, w = rI m5 183 5 (vm.1 185 (12 * own + 6)) := ⟨_, rfl⟩
    obtain ⟨m7, em7⟩ : ∃ w, w = rI m6 183 6 (nI (l - f + 1)) := ⟨_, rfl⟩
    have q1 : Ch (fun k j => k = B + 3 ∧ j < 3) vc c3 := by rw [ec3, ec2, ec1]; exact ((Ch.rf.I ⟨rfl, by omega⟩).I ⟨rfl, by omega⟩).I ⟨rfl, by omega⟩
    have q1a : Ch (fun k j => k = B + 3 ∧ j < 3) vc c1 := by rw [ec1]; exact Ch.rf.I ⟨rfl, by omega⟩
    have q1b : Ch (fun k j => k = B + 3 ∧ j < 3) vc c2 := by rw [ec2]; exact q1a.I ⟨rfl, by omega⟩
    have p1 : Ch (fun k j => k = 183 ∧ j < 7) vm m1 := by rw [em1]; exact Ch.rf.I ⟨rfl, by omega⟩
    have p2 : Ch (fun k j => k = 183 ∧ j < 7) vm m2 := by rw [em2]; exact p1.I ⟨rfl, by omega⟩
    have p3 : Ch (fun k j => k = 183 ∧ j < 7) vm m3 := by rw [em3]; exact p2.I ⟨rfl, by omega⟩
    have p4 : Ch (fun k j => k = 183 ∧ j < 7) vm m4 := by rw [em4]; exact p3.I ⟨rfl, by omega⟩
    have p5 : Ch (fun k j => k = 183 ∧ j < 7) vm m5 := by rw [em5]; exact p4.I ⟨rfl, by omega⟩
    have p6 : Ch (fun k j => k = 183 ∧ j < 7) vm m6 := by rw [em6]; exact p5.I ⟨rfl, by omega⟩
    have p7 : Ch (fun k j => k = 183 ∧ j < 7) vm m7 := by rw [em7]; exact p6.I ⟨rfl, by omega⟩
    have hlet : ∀ j, j < 7 → c3.1 (B + 3) j = m7.1 183 j := fun j hj => by
      match j, hj with
      | 0, _ => rw [ec3, rI_no (by omega), ec2, rI_no (by omega), ec1, rI_at, em7, rI_no (by omega), em6, rI_no (by omega), em5, rI_no (by omega), em4, rI_no (by omega), em3, rI_no (by omega), em2, rI_no (by omega), em1, rI_at]
      | 1, _ => rw [ec3, rI_no (by omega), ec2, rI_at, em7, rI_no (by omega), em6, rI_no (by omega), em5, rI_no (by omega), em4, rI_no (by omega), em3, rI_no (by omega), em2, rI_at]
      | 2, _ => rw [ec3, rI_at, em7, rI_no (by omega), em6, rI_no (by omega), em5, rI_no (by omega), em4, rI_no (by omega), em3, rI_at]
      | 3, _ => rw [q1.1 _ _ (by omega), hlt.1, em7, rI_no (by omega), em6, rI_no (by omega), em5, rI_no (by omega), em4, rI_at]
      | 4, _ => rw [q1.1 _ _ (by omega), hlt.2.1, em7, rI_no (by omega), em6, rI_no (by omega), em5, rI_at]
      | 5, _ => rw [q1.1 _ _ (by omega), hlt.2.2.1, em7, rI_no (by omega), em6, rI_at]
      | 6, _ => rw [q1.1 _ _ (by omega), hlt.2.2.2, em7, rI_at]
    have lK : LawK kf N c3 m7 := l6.ch q1 p7 (fun j => by omega) (by omega) (fun k j _ _ _ => by omega) (by omega)
    obtain ⟨r, c4, m8, w1, w2, w3, w4⟩ := worth_K lK hlet (by omega)
    have lN : m7.1 187 294 = nI N := by rw [p7.1 _ _ (by omega)]; exact l5
    have h24 : vc.1 (B + 5) c = vm.1 187 (24 + c) := hF.1 c (by omega)
    have h48 : vc.1 (B + 6) c = vm.1 187 (48 + c) := hF.2 c (by omega)
    have hw0 : vc.1 (B + 1) c = vm.1 187 (0 + c) := hW c (by omega)
    obtain ⟨y, ey, -, hy⟩ := htd 6 (by omega)
    have hy2 : y ≤ 99 := hy
    obtain ⟨x, ex⟩ : ∃ x, x = lossV r (vm.1 187 (0 + c)) (nI y) := ⟨_, rfl⟩
    have hWc := sm_one (g := am vm 0) (a := f) (n := l + 1 - f) (c := c) (fun i z1 z2 => hWn i z1 (by omega)) g1 (by omega)
    have hW0 := hWn c g1 (by omega)
    have eW : am vm 0 c = (vm.1 187 (0 + c)).toInt := rfl
    have hx := loss_num (r := r) (w := vm.1 187 (0 + c)) (a := nI y) (by omega) (by omega) (by rw [niInt (by omega)]; omega) (by rw [niInt (by omega)]; omega)
    rw [← ex] at hx
    obtain ⟨c5, ec5⟩ : ∃ w, w = rI c4 (B + 1) c (vm.1 187 (0 + c) - x) := ⟨_, rfl⟩
    obtain ⟨c6, ec6⟩ : ∃ w, w = rI c5 B 16 (vm.1 187 290 + x) := ⟨_, rfl⟩
    obtain ⟨m9, em9⟩ : ∃ w, w = rI m8 187 (0 + c) (vm.1 187 (0 + c) - x) := ⟨_, rfl⟩
    obtain ⟨m10, em10⟩ : ∃ w, w = rI m9 187 290 (vm.1 187 290 + x) := ⟨_, rfl⟩
    have tc : Ch (Sev B kf f l) vc c6 := by
      rw [ec6, ec5]
      exact (((q1.mono fun k j q => by unfold Sev; omega).tr (w3.mono fun k j q => by unfold Sev; omega)).I (by unfold Sev; omega)).I (by unfold Sev; omega)
    have tm : Ch (Tev f l) vm m10 := by
      rw [em10, em9]
      exact (((p7.mono fun k j q => by unfold Tev; omega).tr (w4.mono fun k j q => by unfold Tev; omega)).I (by unfold Tev; omega)).I (by unfold Tev; omega)
    have m8row : ∀ k j, k ≠ 183 → k ≠ 184 → m8.1 k j = vm.1 k j := fun k j z1 z2 => by rw [w4.1 _ _ (by omega), p7.1 _ _ (by omega)]
    have c4row : ∀ k j, k ≠ B + 3 → k ≠ kf + 2 → c4.1 k j = vc.1 k j := fun k j z1 z2 => by rw [w3.1 _ _ (by omega), q1.1 _ _ (by omega)]
    have e10 : ∀ i, i ≠ c → i < 24 → am m10 0 i = am vm 0 i := fun i hi hi2 => by
      show (m10.1 187 (0 + i)).toInt = _
      rw [em10, rI_no (by omega), em9, rI_no (by omega), m8row _ _ (by omega) (by omega)]
      rfl
    have e11 : am m10 0 c = am vm 0 c - x.toInt := by
      show (m10.1 187 (0 + c)).toInt = _
      rw [em10, rI_no (by omega), em9, rI_at, sub_toInt (by omega) (by omega)]
      rfl
    have e12 : (m10.1 187 (0 + c)) = vm.1 187 (0 + c) - x := by rw [em10, rI_no (by omega), em9, rI_at]
    have hP0 : 0 ≤ sm (am vm 0) f (c - f) := sm_nn fun i z1 z2 => hWn i z1 (by omega)
    have hP1 := sm_part (g := am vm 0) (a := f) (n := l + 1 - f) (b := f) (m := c - f) (fun i z1 z2 => hWn i z1 (by omega)) (by omega) (by omega)
    obtain ⟨u, eu⟩ : ∃ u : Nat, (u : Int) = am vm 0 c - x.toInt := ⟨(am vm 0 c - x.toInt).toNat, by omega⟩
    have eu2 : m10.1 187 (0 + c) = nI u := by
      rw [niOf (x := m10.1 187 (0 + c)) (by show 0 ≤ am m10 0 c; omega)]
      congr 1
      show (am m10 0 c).toNat = u
      omega
    have hb6 : BD B kd own f l c6 m10 := hb0.ch tc tm (by unfold Sev; omega) (by unfold Sev; omega) (fun j _ _ => by unfold Sev; omega) (fun j _ _ => by unfold Tev; omega) (fun j => by unfold Tev; omega)
    have hL6 : LSt B kf N c6 m10 := hL0.ch tc tm (by unfold Sev; omega) (fun j => by unfold Sev; omega) (by unfold Sev; omega) (by unfold Tev; omega) (fun k j _ _ _ => by unfold Tev; omega)
    have hW6 : Rw c6 (B + 1) m10 187 0 24 := fun i hi => by
      by_cases z : i = c
      · rw [z, e12, ec6, rI_no (by omega), ec5, rI_at]
      · rw [em10, rI_no (by omega), em9, rI_no (by omega), m8row _ _ (by omega) (by omega), ec6, rI_no (by omega), ec5, rI_no (by omega), c4row _ _ (by omega) (by omega)]
        exact hW i hi
    obtain ⟨A, vc', vm', j1, j2, j3, j4, j5, j6, j7, j8⟩ := ih (c + 1) n m (P + u) c6 m10 (by omega) (by omega) (by omega) (by omega) hb6 hL6 hW6
      (fun i z1 z2 => by
        by_cases z : i = c
        · rw [z, e11]; omega
        · rw [e10 i z (by omega)]; exact hWn i z1 z2)
      (by
        rw [show c + 1 - f = (c - f) + 1 by omega, sm_last, show f + (c - f) = c by omega, e11, sm_ext (h := am vm 0) fun i z1 z2 => e10 i (by omega) (by omega)]
        omega)
      (by
        rw [sm_setR (g := am vm 0) (i := c) (by omega) (by omega) fun i z1 z2 z3 => e10 i z3 (by omega), e11]
        omega)
      ⟨hF.1.ch tc tm (fun i _ => by unfold Sev; omega) (fun i _ => by unfold Tev; omega), hF.2.ch tc tm (fun i _ => by unfold Sev; omega) (fun i _ => by unfold Tev; omega)⟩
      (by rw [ec6, rI_at, em10, rI_at])
      (by
        have e : ∀ j, 3 ≤ j → j < 7 → c6.1 (B + 3) j = vc.1 (B + 3) j := fun j z1 z2 => by rw [ec6, rI_no (by omega), ec5, rI_no (by omega), w3.1 _ _ (by omega), q1.1 _ _ (by omega)]
        rw [e 3 (by omega) (by omega), e 4 (by omega) (by omega), e 5 (by omega) (by omega), e 6 (by omega) (by omega), tm.1 187 289 (by unfold Tev; omega), tm.1 185 _ (by unfold Tev; omega), tm.1 185 _ (by unfold Tev; omega)]
        exact hlt)
    refine ⟨A, vc', vm', ?_, ?_, j3, j4, j5, j6, tc.tr j7, tm.tr j8⟩
    · have g16 : c5.1 B 16 = vm.1 187 290 := by rw [ec5, rI_no (by omega), c4row _ _ (by omega) (by omega)]; exact hgo
      rw [f_X5_evaporate_59, x2, if_neg (nlt (by omega) (by omega)), x1, vlet_eq, ← ec1, if_pos (gin (show c < 24 by omega) (by omega)), niCl (show c < 2147483648 by omega), vlet_eq, q1a.1 _ _ (show ¬ (B + 1 = B + 3 ∧ c < 3) by omega), hw0, ← ec2, vlet_eq, show B + 5 + 0 = B + 5 from rfl, show B + 5 + 1 = B + 6 from rfl, q1b.1 (B + 5) _ (by omega), q1b.1 (B + 6) _ (by omega), h24, h48, ← ec3, q1.2.2 B 13 (by omega), l1]
      dsimp only
      rw [if_pos l2, w1, Option.bind_some, vlet_eq, vlet_eq, q1.1 (B + 1) _ (by omega), hw0]
      rw [show c4.1 (kd + 1) 6 = nI y by rw [c4row _ _ (by omega) (by omega), hmade 6 (by omega) (by omega), ey], show c4.1 (B + 1) c = vm.1 187 (0 + c) by rw [c4row _ _ (by omega) (by omega), hw0]]
      have ex' := ex
      unfold lossV at ex'
      rw [← ex', vlet_eq, ← ec5, vlet_eq, g16, ← ec6, vlet_eq, ad1]
      exact j1
    · have o5 : f_X8_of m4 5 = some (vm.1 185 (12 * own + 5)) := by
        have := (hb0.ch (S := fun _ _ => False) Ch.rf p4 id id (fun _ _ _ => id) (fun j _ _ => by omega) (fun j => by omega)).of (j := 5) (by omega)
        rwa [p4.1 185 _ (by omega)] at this
      have o6 : f_X8_of m5 6 = some (vm.1 185 (12 * own + 6)) := by
        have := (hb0.ch (S := fun _ _ => False) Ch.rf p5 id id (fun _ _ _ => id) (fun j _ _ => by omega) (fun j => by omega)).of (j := 6) (by omega)
        rwa [p5.1 185 _ (by omega)] at this
      have o68 : f_X8_of m8 6 = some (nI y) := by
        have q78 : Ch (fun k j => k = 183 ∨ k = 184) vm m8 := (p7.mono fun k j q => by omega).tr (w4.mono fun k j q => by omega)
        have := (hb0.ch (S := fun _ _ => False) Ch.rf q78 id id (fun _ _ _ => id) (fun j _ _ => by omega) (fun j => by omega)).of (j := 6) (by omega)
        rwa [m8row _ _ (by omega) (by omega), ey] at this
      rw [f_X8_lose_7, b2, if_neg (nlt (by omega) (by omega)), b1, vlet_eq, ← em1, show (0 : Int32) + nI c = nI (0 + c) from niAdd 0 c, show (24 : Int32) + nI c = nI (24 + c) from niAdd 24 c, show (48 : Int32) + nI c = nI (48 + c) from niAdd 48 c, if_pos (gin (show 0 + c < 416 by omega) (by omega)), niCl (show 0 + c < 2147483648 by omega), vlet_eq, p1.1 187 _ (by omega), ← em2, if_pos (gin (show 24 + c < 416 by omega) (by omega)), if_pos (gin (show 48 + c < 416 by omega) (by omega)), niCl (show 24 + c < 2147483648 by omega), niCl (show 48 + c < 2147483648 by omega), vlet_eq, p2.1 187 _ (by omega), p2.1 187 _ (by omega), ← em3, vlet_eq, p3.1 187 _ (by omega), ← em4, o5, Option.bind_some, vlet_eq, ← em5, o6, Option.bind_some, vlet_eq, ← em6, vlet_eq, p6.1 174 _ (by omega), p6.1 174 _ (by omega), b1, b2, niSub (show f ≤ l by omega), ad1, ← em7, lN, w2, Option.bind_some, vlet_eq, p7.1 187 _ (by omega), o68, Option.bind_some, vlet_eq]
      have ex' := ex
      unfold lossV at ex'
      rw [← ex', vlet_eq, if_pos (gin (show 0 + c < 416 by omega) (by omega)), niCl (show 0 + c < 2147483648 by omega), vlet_eq, m8row 187 _ (by omega) (by omega), ← em9, vlet_eq, show m9.1 187 290 = vm.1 187 290 by rw [em9, rI_no (by omega), m8row _ _ (by omega) (by omega)], ← em10, vlet_eq, eu2, niAdd, vlet_eq, ad1]
      exact j2
