/-! WANDERING -/
theorem rL_at (v : rV) (k j : Nat) (x : Int64) : (rL v k j x).2.1 k j = x := by simp [rL]
theorem mv_self {v : rV} {k i a b : Nat} {z : Int32} : (mvr v k i i z).1 a b = v.1 a b := by
  unfold mvr
  rw [rI_1]
  by_cases h : a = k ∧ b = i
  · rw [if_pos h, rI_at, Int32.sub_add_cancel, h.1, h.2]
  · rw [if_neg h, rI_no h]
theorem Am.eq {v w : rV} {o : Nat} {T : Int} (h : Am v o T) (e : ∀ c, c < 24 → w.1 187 (o + c) = v.1 187 (o + c)) : Am w o T := by
  have e1 : ∀ c, c < 24 → am w o c = am v o c := fun c hc => by
    show (w.1 187 (o + c)).toInt = _
    rw [e c hc]
    rfl
  refine ⟨fun c hc => ?_, ?_⟩
  · rw [e1 c hc]; exact h.1 c hc
  · rw [sm_ext (fun c _ h2 => e1 c (by omega))]; exact h.2
def Swn (B : Nat) : Nat → Nat → Prop := fun k j => k = B + 5 ∨ (k = B ∧ j = 1000014)
def Twn : Nat → Nat → Prop := fun k j => (k = 187 ∧ 24 ≤ j ∧ j < 48) ∨ (k = 174 ∧ j = 1000027)
/-- one cell's round grain goes, or stays -/
theorem wan1 {q : rV → Nat → Nat → Int32 → Option rV} {q' : rV → Int32 → Option rV} {B kd own f l c : Nat} {t : Int32} {T0 T1 : Int} {vc vm : rV} (h0 : T0 ≤ 12000) (hb : BD B kd own f l vc vm) (hfc : f ≤ c) (hcl : c ≤ l) (ht : t = nI c - 1 ∨ t = nI c + 1 ∨ t = nI c) (hF : FF B vc vm) (a0 : Am vm 24 T0) (a1 : Am vm 48 T1) :
    ∃ vc' vm', f_X5_wander_65 q vc B kd (nI c) t = q vc' B kd (nI (c + 1)) ∧ f_X8_wander_41 q' vm (nI c) t = q' vm' (nI (c + 1)) ∧ FF B vc' vm' ∧ Am vm' 24 T0 ∧ Am vm' 48 T1 ∧ Ch (Swn B) vc vc' ∧ Ch Twn vm vm' ∧ vc'.2 = vc.2 ∧ vm'.2 = vm.2 := by
  obtain ⟨⟨x1, x2⟩, ⟨b1, b2, b3⟩, ⟨c0, hfl, hl, hkd⟩, -, -⟩ := hb
  have e0 := hF.1 c (by omega)
  have n1 : ∀ v, f_X5_wander_121 q v B kd (nI c) = q v B kd (nI (c + 1)) := fun v => by
    unfold f_X5_wander_121
    simp only [vlet_eq]
    rw [ad1]
  have n2 : ∀ v, f_X8_wander_96 q' v (nI c) = q' v (nI (c + 1)) := fun v => by
    unfold f_X8_wander_96
    simp only [vlet_eq]
    rw [ad1]
  unfold f_X5_wander_65 f_X8_wander_41
  rw [if_pos (gin (show c < 24 by omega) (by omega)), show (24 : Int32) + nI c = nI (24 + c) from niAdd 24 c, if_pos (gin (show 24 + c < 416 by omega) (by omega)), niCl (show c < 2147483648 by omega), niCl (show 24 + c < 2147483648 by omega), show B + 5 + 0 = B + 5 from rfl, e0, x1, x2, b1, b2]
  simp only [n1, n2, vlet_eq]
  by_cases p1 : vm.1 187 (24 + c) ≤ 0
  · rw [if_pos p1, if_pos p1]
    exact ⟨vc, vm, rfl, rfl, hF, a0, a1, Ch.rf, Ch.rf, rfl, rfl⟩
  rw [if_neg p1, if_neg p1]
  by_cases p2 : t < nI f
  · rw [if_pos p2, if_pos p2]
    exact ⟨vc, vm, rfl, rfl, hF, a0, a1, Ch.rf, Ch.rf, rfl, rfl⟩
  rw [if_neg p2, if_neg p2]
  by_cases p3 : nI l < t
  · rw [if_pos p3, if_pos p3]
    exact ⟨vc, vm, rfl, rfl, hF, a0, a1, Ch.rf, Ch.rf, rfl, rfl⟩
  rw [if_neg p3, if_neg p3]
  obtain ⟨j, ej, hj⟩ : ∃ j, t = nI j ∧ j < 24 := by
    have q1 : ¬ t.toInt < f := by rw [lt_toInt, niInt (by omega)] at p2; exact p2
    have q2 : ¬ (l : Int) < t.toInt := by rw [lt_toInt, niInt (by omega)] at p3; exact p3
    exact ⟨t.toInt.toNat, niOf (by omega), by omega⟩
  rw [ej, if_pos (gin hj (by omega)), if_pos (gin (show 24 + c < 416 by omega) (by omega)), show (24 : Int32) + nI j = nI (24 + j) from niAdd 24 j, if_pos (gin (show 24 + j < 416 by omega) (by omega)), niCl (show j < 2147483648 by omega), niCl (show 24 + j < 2147483648 by omega), niCl (show 24 + c < 2147483648 by omega), ← e0]
  have hpos : 1 ≤ (vm.1 187 (24 + c)).toInt := by
    rw [le_toInt] at p1
    have : (0 : Int32).toInt = 0 := rfl
    omega
  have r1 := a0.one hj
  refine ⟨mvr vc (B + 5) c j 1, mvr vm 187 (24 + c) (24 + j) 1, rfl, by unfold mvr; rw [e0], ⟨hF.1.mv (by omega) hj, hF.2.mvo (by omega) (by omega)⟩, ?_, a1.mvo (by omega), Ch.rf.mv (Or.inl rfl) (Or.inl rfl), Ch.rf.mv (Or.inl ⟨rfl, by omega, by omega⟩) (Or.inl ⟨rfl, by omega, by omega⟩), rfl, rfl⟩
  by_cases g : c = j
  · subst g
    exact a0.eq fun i hi => mv_self
  · have one : (1 : Int32).toInt = 1 := rfl
    exact a0.mv (by omega) (by omega) hj g (by omega) (by omega)
def nxS (s : Int64) : Int64 := s * 6364136223846793005 + 1442695040888963407
def drw (s : Int64) : Int32 := (((s.toUInt64 >>> ((33 : Int32).toInt64.toUInt64 &&& Int64.toUInt64 63)).toInt64) - ((s.toUInt64 >>> ((33 : Int32).toInt64.toUInt64 &&& Int64.toUInt64 63)).toInt64) / (4 : Int64) * (4 : Int64)).toInt32
theorem wanC {n B kd : Nat} {a : Int32} {vc : rV} (h : ¬ vc.1 kd 3 < a) : f_X5_wander_5 (n + 1) vc B kd a = f_X5_wander_65 (fun v k0 k1 a2 => f_X5_wander_5 n v k0 k1 a2) (rL vc B 14 (nxS (vc.2.1 B 14))) B kd a (if drw (nxS (vc.2.1 B 14)) = 1 then a - 1 else if drw (nxS (vc.2.1 B 14)) = 2 then a + 1 else a) := by
  rw [f_X5_wander_5, if_neg h]
  unfold nxS
  generalize vc.2.1 B 14 * 6364136223846793005 + 1442695040888963407 = sd
  rw [vlet_eq, vlet_eq, rL_at]
  unfold drw
  generalize (((sd.toUInt64 >>> ((33 : Int32).toInt64.toUInt64 &&& Int64.toUInt64 63)).toInt64) - ((sd.toUInt64 >>> ((33 : Int32).toInt64.toUInt64 &&& Int64.toUInt64 63)).toInt64) / (4 : Int64) * (4 : Int64)).toInt32 = x
  by_cases h1 : x = 1
  · rw [if_pos h1, if_pos h1]
  · rw [if_neg h1, if_neg h1]
    by_cases h2 : x = 2
    · rw [if_pos h2, if_pos h2]
    · rw [if_neg h2, if_neg h2]
theorem draw_eq (vm : rV) : f_X8_draw vm = some (drw (nxS (vm.2.1 174 27)), rL vm 174 27 (nxS (vm.2.1 174 27))) := by
  unfold f_X8_draw drw nxS
  generalize vm.2.1 174 27 * 6364136223846793005 + 1442695040888963407 = sd
  rw [vlet_eq, rL_at]
theorem wanM {n : Nat} {a : Int32} {vm : rV} (h : ¬ vm.1 174 38 < a) : f_X8_wander_5 (n + 1) vm a = f_X8_wander_41 (fun v a1 => f_X8_wander_5 n v a1) (rL vm 174 27 (nxS (vm.2.1 174 27))) a (if drw (nxS (vm.2.1 174 27)) = 1 then a - 1 else if drw (nxS (vm.2.1 174 27)) = 2 then a + 1 else a) := by
  rw [f_X8_wander_5, if_neg h, draw_eq, Option.bind_some]
  generalize drw (nxS (vm.2.1 174 27)) = x
  generalize rL vm 174 27 (nxS (vm.2.1 174 27)) = w
  by_cases h1 : x = 1
  · rw [if_pos h1, if_pos h1]
  · rw [if_neg h1, if_neg h1]
    by_cases h2 : x = 2
    · rw [if_pos h2, if_pos h2]
    · rw [if_neg h2, if_neg h2]
theorem wander_go {B kd own f l : Nat} {T0 T1 : Int} (h0 : T0 ≤ 12000) : ∀ (d c n m : Nat) (vc vm : rV), f ≤ c → c + d = l + 1 → d < n → d < m → BD B kd own f l vc vm → FF B vc vm → Am vm 24 T0 → Am vm 48 T1 → vc.2.1 B 14 = vm.2.1 174 27 →
    ∃ vc' vm', f_X5_wander_5 n vc B kd (nI c) = some vc' ∧ f_X8_wander_5 m vm (nI c) = some vm' ∧ FF B vc' vm' ∧ Am vm' 24 T0 ∧ Am vm' 48 T1 ∧ vc'.2.1 B 14 = vm'.2.1 174 27 ∧ Ch (Swn B) vc vc' ∧ Ch Twn vm vm' := by
  intro d
  induction d with
  | zero =>
    intro c n m vc vm g1 g2 hn hm hb hF a0 a1 hx
    obtain ⟨n, rfl⟩ : ∃ n', n = n' + 1 := ⟨n - 1, by omega⟩
    obtain ⟨m, rfl⟩ : ∃ m', m = m' + 1 := ⟨m - 1, by omega⟩
    obtain ⟨⟨x1, x2⟩, ⟨b1, b2, b3⟩, ⟨c0, hfl, hl, hkd⟩, -, -⟩ := hb
    refine ⟨vc, vm, ?_, ?_, hF, a0, a1, hx, Ch.rf, Ch.rf⟩
    · rw [f_X5_wander_5, x2, if_pos (plt (by omega) (by omega))]
    · rw [f_X8_wander_5, b2, if_pos (plt (by omega) (by omega))]
  | succ d ih =>
    intro c n m vc vm g1 g2 hn hm hb hF a0 a1 hx
    obtain ⟨n, rfl⟩ : ∃ n', n = n' + 1 := ⟨n - 1, by omega⟩
    obtain ⟨m, rfl⟩ : ∃ m', m = m' + 1 := ⟨m - 1, by omega⟩
    have hb0 := hb
    obtain ⟨⟨x1, x2⟩, ⟨b1, b2, b3⟩, ⟨c0, hfl, hl, hkd⟩, -, -⟩ := hb
    rw [wanC (by rw [x2]; exact nlt (by omega) (by omega)), wanM (by rw [b2]; exact nlt (by omega) (by omega)), hx]
    generalize nxS (vm.2.1 174 27) = sd
    have c1 : Ch (Swn B) vc (rL vc B 14 sd) := Ch.rf.L (Or.inr ⟨rfl, rfl⟩)
    have c2 : Ch Twn vm (rL vm 174 27 sd) := Ch.rf.L (Or.inr ⟨rfl, rfl⟩)
    have y3 : (rL vc B 14 sd).2.1 B 14 = (rL vm 174 27 sd).2.1 174 27 := by rw [rL_at, rL_at]
    have hb1 : BD B kd own f l (rL vc B 14 sd) (rL vm 174 27 sd) := hb0
    have hF1 : FF B (rL vc B 14 sd) (rL vm 174 27 sd) := hF
    have a0' : Am (rL vm 174 27 sd) 24 T0 := a0
    have a1' : Am (rL vm 174 27 sd) 48 T1 := a1
    generalize rL vc B 14 sd = wc at *
    generalize rL vm 174 27 sd = wm at *
    have fin : ∀ t, (t = nI c - 1 ∨ t = nI c + 1 ∨ t = nI c) → ∃ vc' vm', f_X5_wander_65 (fun v k0 k1 a2 => f_X5_wander_5 n v k0 k1 a2) wc B kd (nI c) t = some vc' ∧ f_X8_wander_41 (fun v a1 => f_X8_wander_5 m v a1) wm (nI c) t = some vm' ∧ FF B vc' vm' ∧ Am vm' 24 T0 ∧ Am vm' 48 T1 ∧ vc'.2.1 B 14 = vm'.2.1 174 27 ∧ Ch (Swn B) vc vc' ∧ Ch Twn vm vm' := fun t ht => by
      obtain ⟨uc, um, k1, k2, k3, k4, k5, k6, k7, k8, k9⟩ := wan1 (q := fun v k0 k1 a2 => f_X5_wander_5 n v k0 k1 a2) (q' := fun v a1 => f_X8_wander_5 m v a1) h0 hb1 g1 (show c ≤ l by omega) ht hF1 a0' a1'
      rw [k1, k2]
      obtain ⟨vc', vm', j1, j2, j3, j4, j5, j6, j7, j8⟩ := ih (c + 1) n m uc um (by omega) (by omega) (by omega) (by omega) (hb1.ch k6 k7 (by unfold Swn; omega) (by unfold Swn; omega) (fun j _ _ => by unfold Swn; omega) (fun j _ _ => by unfold Twn; omega) (fun j => by unfold Twn; omega)) k3 k4 k5 (by rw [k8, k9]; exact y3)
      exact ⟨vc', vm', j1, j2, j3, j4, j5, j6, (c1.tr k6).tr j7, (c2.tr k7).tr j8⟩
    by_cases q1 : drw sd = 1
    · rw [if_pos q1]
      exact fin _ (Or.inl rfl)
    · rw [if_neg q1]
      by_cases q2 : drw sd = 2
      · rw [if_pos q2]
        exact fin _ (Or.inr (Or.inl rfl))
      · rw [if_neg q2]
        exact fin _ (Or.inr (Or.inr rfl))
