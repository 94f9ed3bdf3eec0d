/-! A STRIP AT REST, class against model; a tick keeps it -/
/-- bits of the class, cells of the model -/
def BT (x : Int32) (vm : rV) (o : Nat) : Prop := ∀ c, c < 24 → vm.1 187 (o + c) = if f_X7_has x (nI c) = true then 1 else 0
def ST (M B tb : Nat) (vc vm : rV) : Prop := ∃ (ρ : Nat → Nat) (L : List En) (t : Nat) (S0 S1 : Int), (S0 ≤ 12000 ∧ S1 ≤ 12000 ∧ t ≤ tb) ∧
  (RF B vc ρ ∧ L.length ≤ 12 ∧ (∀ (i : Nat) e, L[i]? = some e → ρ i = e.1) ∧ (∀ e, e ∈ L → CEn B vc vm e) ∧ L.Pairwise Ap ∧ (∀ e, e ∈ L → e.2.2.2.1 < M)) ∧
  (vc.1 B 10 = nI L.length ∧ vm.1 187 288 = nI L.length ∧ (∀ (s : Nat) e, L[s]? = some e → MEn vc vm e s)) ∧
  (FF B vc vm ∧ Rw vc (B + 8) vm 187 72 24 ∧ Rw vc (B + 9) vm 187 96 24 ∧ Rw vc (B + 10) vm 187 144 24 ∧ Rw vc (B + 11) vm 187 168 24 ∧ Rw vc (B + 1) vm 187 0 24) ∧
  (AA vm S0 S1 ∧ (∀ c, c < 24 → vm.1 187 (120 + c) + vm.1 187 (144 + c) = vm.1 187 (72 + c) + vm.1 187 (96 + c))) ∧
  (vc.1 B 15 = nI t ∧ vm.1 187 289 = nI t ∧ vc.1 B 16 = vm.1 187 290 ∧ vc.1 B 17 = vm.1 187 293 ∧ vc.1 B 18 = vm.1 187 291 ∧ vc.1 B 19 = vm.1 187 292 ∧ vc.2.1 B 14 = vm.2.1 174 27) ∧
  (BT (vc.1 B 11) vm 216 ∧ BT (vc.1 B 12) vm 192 ∧ (∀ s, s < 120 → s < t → vc.1 (B + 12) s = vm.1 187 (296 + s)))
def Sst (B kf : Nat) : Nat → Nat → Prop := fun k j => (B ≤ k ∧ k ≤ B + 37 ∧ ¬ (k = B ∧ (j = 11 ∨ j = 12 ∨ j = 2000013)) ∧ ¬ (B + 14 ≤ k ∧ 5 ≤ j ∧ j < 12)) ∨ k = kf + 2
def Tst : Nat → Nat → Prop := fun k j => (k = 187 ∧ j < 416 ∧ j ≠ 294 ∧ j ≠ 295 ∧ ¬ (192 ≤ j ∧ j < 240)) ∨ (k = 174 ∧ (j = 37 ∨ j = 38 ∨ j = 39 ∨ j = 1000027)) ∨ k = 183 ∨ k = 184 ∨ k = 194 ∨ k = 193
theorem st_s {B kf : Nat} : ∀ k j, Stk B kf k j → Sst B kf k j := fun k j h => by
  unfold Stk at h; unfold Sst
  rcases h with h | h | h | h
  · exact Or.inl (by omega)
  · exact Or.inl (by omega)
  · exact Or.inl (by omega)
  · exact Or.inr h
theorem st_t : ∀ k j, Ttk k j → Tst k j := fun k j h => by
  unfold Ttk at h; unfold Tst
  rcases h with ⟨h, z⟩ | h
  · refine Or.inl ⟨h, ?_⟩
    rcases z with z | z | z | z | z <;> omega
  · exact Or.inr h
theorem sI_z {g : Nat → Int32} {a n : Nat} (e : ∀ c, a ≤ c → c < a + n → g c = 0) : sI g a n = 0 := by
  induction n generalizing a with
  | zero => rfl
  | succ n ih =>
    simp only [sI]
    rw [e a (by omega) (by omega), ih fun c h1 h2 => e c (by omega) (by omega)]
    rfl
theorem al_len {L : List En} : (al L).length ≤ L.length := List.length_filter_le _ _
theorem tick_go {M B kf N tb : Nat} {vc vm : rV} (hB : isStrip B = true) (htb : tb < 1000000) (hp0 : 0 ≤ vm.1 174 23) (hS : ST M B tb vc vm) (hL : LSt B kf N vc vm) :
    ∃ vc' vm', f_X5_oneTick vc B (vm.1 174 23) = some vc' ∧ f_X8_tickOnce vm = some vm' ∧ ST M B (tb + 1) vc' vm' ∧ LSt B kf N vc' vm' ∧ Ch (Sst B kf) vc vc' ∧ Ch Tst vm vm' ∧ vc'.1 B 15 = vc.1 B 15 + 1 := by
  obtain ⟨ρ, L, t, S0, S1, ⟨s0, s1, ht⟩, ⟨hR, hlen, hρ, hC, hA, hOw⟩, ⟨hN, hN2, hM⟩, ⟨F, R8, R9, R10, R11, R1⟩, ⟨hAA, hrow⟩, ⟨t1, t2, e16, e17, e18, e19, esd⟩, ⟨bt1, bt2, har⟩⟩ := hS
  obtain ⟨pc, epc⟩ : ∃ pc, pc = vm.1 174 23 := ⟨_, rfl⟩
  rw [← epc] at hp0 ⊢
  have kfB := hL.2.2.1
  -- the begin
  obtain ⟨c1, ec1⟩ : ∃ w, w = rI vc B 3 0 := ⟨_, rfl⟩
  obtain ⟨c2, ec2⟩ : ∃ w, w = rI c1 B 17 0 := ⟨_, rfl⟩
  obtain ⟨c3, g1, g2, g3, -⟩ := beg_c (B := B) (pc := pc) 24 0 20000 c2 (by omega) (by omega)
  obtain ⟨m1, h1, h2, h3, -⟩ := beg_m 24 0 20000 vm (by omega) (by omega)
  obtain ⟨m2, em2⟩ : ∃ w, w = rI m1 187 293 0 := ⟨_, rfl⟩
  have cc : Ch (fun k j => (k = B + 11 ∧ j < 24) ∨ (k = B ∧ (j = 3 ∨ j = 17))) vc c3 := by
    have : Ch (fun k j => (k = B + 11 ∧ j < 24) ∨ (k = B ∧ (j = 3 ∨ j = 17))) vc c2 := by
      rw [ec2, ec1]
      exact (Ch.rf.I (Or.inr ⟨rfl, Or.inl rfl⟩)).I (Or.inr ⟨rfl, Or.inr rfl⟩)
    exact this.tr (g2.mono fun k j q => Or.inl q)
  have cm : Ch (fun k j => (k = 187 ∧ ((168 ≤ j ∧ j < 192) ∨ j = 293)) ∨ (k = 193 ∧ j < 48)) vm m2 := by
    rw [em2]
    exact (h2.mono fun k j q => by unfold Ttb at q; omega).I (Or.inl ⟨rfl, Or.inr rfl⟩)
  have fz : ∀ i, i < 24 → m2.1 193 i = 0 ∧ m2.1 193 (24 + i) = 0 := fun i hi => by
    rw [em2, rI_no (by omega), rI_no (by omega)]
    exact ⟨(h3 i (by omega) hi).2.1, (h3 i (by omega) hi).2.2⟩
  have fe0 : ∀ i, i < 24 → fe m2 i = 0 := fun i hi => by unfold fe; rw [(fz i hi).1, (fz i hi).2]; rfl
  have c33 : c3.1 B 3 = 0 := by rw [g2.1 _ _ (by unfold Stb; omega), ec2, rI_no (by omega), ec1, rI_at]
  have c317 : c3.1 B 17 = 0 := by rw [g2.1 _ _ (by unfold Stb; omega), ec2, rI_at]
  have P0 : PP B pc S0 S1 c3 m2 := by
    refine ⟨⟨⟨F.1.ch cc cm (fun c _ => by omega) (fun c _ => by omega), F.2.ch cc cm (fun c _ => by omega) (fun c _ => by omega)⟩, R8.ch cc cm (fun c _ => by omega) (fun c _ => by omega), R9.ch cc cm (fun c _ => by omega) (fun c _ => by omega), ⟨fun c hc => ?_, ?_, fun c hc => ?_⟩, hAA.ch cm fun j _ _ => by omega⟩, R1.ch cc cm (fun c _ => by omega) (fun c _ => by omega), fun c hc => ?_, ?_, ?_, ?_, ?_⟩
    · rw [cc.1 _ _ (by omega), cm.1 _ _ (by omega), fe0 c hc, R10 c hc]
      unfold hp
      rw [if_pos hp0]
    · rw [c33, sI_z fun i _ z => fe0 i (by omega)]
    · rw [cm.1 _ _ (by omega), cm.1 187 (144 + c) (by omega), cm.1 187 (72 + c) (by omega), cm.1 187 (96 + c) (by omega), fe0 c hc, Int32.add_zero]
      exact hrow c hc
    · rw [g3 c (by omega) hc, em2, rI_no (by omega), (h3 c (by omega) hc).1]
    · rw [cc.1 _ _ (by omega), cm.1 _ _ (by omega)]; exact e16
    · rw [c317, em2, rI_at]
    · rw [cc.1 _ _ (by omega), cm.1 _ _ (by omega), t1, t2]
    · rw [cc.2.1 _ _ (by omega), cm.2.1 _ _ (by omega)]; exact esd
  have hL0 : LSt B kf N c3 m2 := hL.ch cc cm (by omega) (fun j => by omega) (by omega) (by omega) (fun k j _ _ _ => by omega)
  -- the turns
  obtain ⟨c4, m3, L', j1, j2, j3, j4, j5, j6, j7, j8, j9, j10, j11, j12, j13⟩ := turns_go (N := N) (kf := kf) hB s0 s1 hp0 L [] 20000 20000 c3 m2 (by simpa using hlen) (by omega) (by omega) (fun e he => (hC e (by simpa using he)).ch cc cm (by have := (hC e (by simpa using he)).2.1; omega) (by have := (hC e (by simpa using he)).2.1; omega) (fun j _ _ => by have := (hC e (by simpa using he)).2.1; omega) (fun j => by omega) (fun c _ _ => by have := (hC e (by simpa using he)).2.1; omega)) (by simpa using hA) (fun u e he => by
      have he' : L[u]? = some e := by simpa using he
      rw [cc.2.2 _ _ (by omega), (hR u (by have := (List.getElem?_eq_some_iff.mp he').1; omega)).1, hρ u e he']) (by rw [cc.1 _ _ (by omega), hN]; simp) (by rw [cm.1 _ _ (by omega), hN2]; simp [al]) (fun s e he => by
      have he' : L[s]? = some e := by simpa [al] using he
      have hs : s < L.length := (List.getElem?_eq_some_iff.mp he').1
      exact (hM s e he').ch cc cm (by have := (hC e (List.mem_of_getElem? he')).2.1; omega) (by omega) (by omega) (by omega) (by omega)) hL0 P0 (fun e he i z1 z2 => fz i (by have := (hC e he).2.1; omega))
  rw [List.nil_append] at j3
  have hL'12 : L'.length ≤ 12 := by omega
  -- what stands behind the turns
  have R4 : RF B c4 ρ := (hR.ch cc (fun i _ => by omega)).ch j11 (fun i _ => by unfold Stk; omega)
  have t15 : c4.1 B 15 = nI t := by rw [j11.1 _ _ (by unfold Stk; omega), cc.1 _ _ (by omega)]; exact t1
  have t289 : m3.1 187 289 = nI t := by rw [j12.1 _ _ (by unfold Ttk; omega), cm.1 _ _ (by omega)]; exact t2
  have e18' : c4.1 B 18 = m3.1 187 291 := by rw [j11.1 _ _ (by unfold Stk; omega), cc.1 _ _ (by omega), j12.1 _ _ (by unfold Ttk; omega), cm.1 _ _ (by omega)]; exact e18
  have e19' : c4.1 B 19 = m3.1 187 292 := by rw [j11.1 _ _ (by unfold Stk; omega), cc.1 _ _ (by omega), j12.1 _ _ (by unfold Ttk; omega), cm.1 _ _ (by omega)]; exact e19
  have n10 : c4.1 B 10 = nI L'.length := by rw [j11.1 _ _ (by unfold Stk; omega), cc.1 _ _ (by omega), hN, j3]
  obtain ⟨⟨F4, Q8, Q9, ⟨hh, ha, hr⟩, A4⟩, Q1, Q11, f16, f17, f15, fsd⟩ := j10
  obtain ⟨a, ea⟩ : ∃ a, a = sI (fe m3) 0 24 := ⟨_, rfl⟩
  rw [← ea] at ha
  -- the class's end: arrivals
  obtain ⟨c5, ec5, ec5'⟩ : ∃ w, w = (if t < 120 then rI c4 (B + 12) t a else c4) ∧ tkC c4 B = f_X5_oneTick_116 w B := by
    refine ⟨_, rfl, ?_⟩
    unfold tkC
    rw [t15]
    by_cases q : t < 120
    · rw [if_pos q, if_neg (show ¬ (120 : Int32) ≤ nI t from nle (a := 120) q (by omega)), if_pos (gin q (by omega)), niCl (by omega), ha]
    · rw [if_neg q, if_pos (show (120 : Int32) ≤ nI t from ple (a := 120) (by omega) (by omega))]
  have p5 : Ch (fun k j => k = B + 12 ∧ j = t ∧ t < 120) c4 c5 := by
    rw [ec5]
    by_cases q : t < 120
    · rw [if_pos q]; exact Ch.rf.I ⟨rfl, rfl, q⟩
    · rw [if_neg q]; exact Ch.rf
  obtain ⟨c6, ec6⟩ : ∃ w, w = rI c5 B 15 (nI (t + 1)) := ⟨_, rfl⟩
  have p6 : Ch (fun k j => (k = B + 12 ∧ j = t ∧ t < 120) ∨ (k = B ∧ j = 15)) c4 c6 := by
    rw [ec6]
    exact (p5.mono fun k j q => Or.inl q).I (Or.inr ⟨rfl, rfl⟩)
  have c63 : c6.1 B 3 = a := by rw [p6.1 _ _ (by omega)]; exact ha
  have c619 : c6.1 B 19 = m3.1 187 292 := by rw [p6.1 _ _ (by omega)]; exact e19'
  obtain ⟨c7, ec7, ec7'⟩ : ∃ w, w = (if a ≤ m3.1 187 292 then c6 else rI (rI c6 B 19 a) B 18 (nI (t + 1))) ∧ f_X5_oneTick_116 c5 B = f_X5_oneTick_153 w B := by
    refine ⟨_, rfl, ?_⟩
    unfold f_X5_oneTick_116
    rw [show c5.1 B 15 = nI t by rw [p5.1 _ _ (by omega)]; exact t15, ad1, ← ec6, vlet_eq, c63, c619]
    by_cases q : a ≤ m3.1 187 292
    · rw [if_pos q, if_pos q]
    · rw [if_neg q, if_neg q, vlet_eq, vlet_eq, show (rI c6 B 19 a).1 B 15 = nI (t + 1) by rw [rI_no (by omega), ec6, rI_at]]
  have p7 : Ch (fun k j => (k = B + 12 ∧ j = t ∧ t < 120) ∨ (k = B ∧ (j = 15 ∨ j = 18 ∨ j = 19))) c4 c7 := by
    rw [ec7]
    by_cases q : a ≤ m3.1 187 292
    · rw [if_pos q]; exact p6.mono fun k j q => by omega
    · rw [if_neg q]; exact ((p6.mono fun k j q => by omega).I (Or.inr ⟨rfl, by omega⟩)).I (Or.inr ⟨rfl, by omega⟩)
  have hCk : ∀ (S T : Nat → Nat → Prop) (wc wm uc um : rV), Ch S wc uc → Ch T wm um → (∀ k j, B + 14 ≤ k → k ≤ B + 37 → j < 12 → ¬ S k j) → (∀ j, ¬ T 185 j) → (∀ j, j < 24 → ¬ T 187 j) → ∀ e, CEn B wc wm e → CEn B uc um e := fun S T wc wm uc um q1 q2 z1 z2 z3 e he => by
    obtain ⟨o1, o2, o3, q, o4, o5⟩ := he.2.1
    exact he.ch q1 q2 (z1 _ _ (by omega) (by omega) (by omega)) (z1 _ _ (by omega) (by omega) (by omega)) (fun j _ _ => z1 _ _ (by omega) (by omega) (by omega)) z2 (fun c _ _ => z3 _ (by omega))
  obtain ⟨c8, ρ', d1, d2, d3, d4⟩ := dry_go (vm := m3) (L := L') hB hL'12 L'.length 0 20000 c7 ρ (by omega) (by omega) (R4.ch p7 fun i _ => by omega) (by rw [p7.1 _ _ (by omega)]; exact n10) (Q1.ch p7 (T := fun _ _ => False) Ch.rf (fun c _ => by omega) (fun _ _ => id)) (fun e he => hCk _ (fun _ _ => False) c4 m3 c7 m3 p7 Ch.rf (fun k j _ _ _ => by omega) (fun _ => id) (fun _ _ => id) e (j4 e he)) (fun u e he => by simp [al] at he) (fun u e _ he => by
      have h9 := (R4 u (by have := (List.getElem?_eq_some_iff.mp he).1; omega)).1
      rw [j6 u e he] at h9
      exact (Option.some.inj h9).symm)
  rw [List.take_zero] at d1
  obtain ⟨c9, ec9⟩ : ∃ w, w = rI c8 B 10 (nI (al L').length) := ⟨_, rfl⟩
  rw [← ec9] at d1
  have p9 : Ch (fun k j => (k = B + 12 ∧ j = t ∧ t < 120) ∨ (k = B ∧ (j = 10 ∨ j = 15 ∨ j = 18 ∨ j = 19)) ∨ (k = B + 13 ∧ 2000000 ≤ j)) c4 c9 := by
    rw [ec9]
    exact ((p7.mono fun k j q => by omega).tr (d4.mono fun k j q => Or.inr (Or.inr q))).I (Or.inr (Or.inl ⟨rfl, by omega⟩))
  -- the model's end
  obtain ⟨m4, em4⟩ : ∃ w, w = rI m3 187 289 (nI (t + 1)) := ⟨_, rfl⟩
  have q4 : Ch (fun k j => k = 187 ∧ j = 289) m3 m4 := by rw [em4]; exact Ch.rf.I ⟨rfl, rfl⟩
  have fe4 : ∀ i, fe m4 i = fe m3 i := fun i => by unfold fe; rw [q4.1 _ _ (by omega), q4.1 _ _ (by omega)]
  obtain ⟨m5, k1, k2, k3, -⟩ := mg_go (pc := pc) 24 0 20000 m4 0 (by omega) (by omega) (by rw [q4.1 _ _ (by omega), j12.1 _ _ (by unfold Ttk; omega), cm.1 _ _ (by omega)]; exact epc.symm)
  rw [sI_ext (fun i _ _ => fe4 i), ← ea, Int32.zero_add] at k1
  have t5 : m5.1 187 289 = nI (t + 1) := by rw [k2.1 _ _ (by unfold Tmg; omega), em4, rI_at]
  obtain ⟨m6, em6, em6'⟩ : ∃ w, w = (if t < 120 then rI m5 187 (296 + t) a else m5) ∧ mgM m5 a = f_X8_tickOnce_200 w a := by
    refine ⟨_, rfl, ?_⟩
    unfold mgM
    rw [t5]
    by_cases q : t < 120
    · have e : (296 : Int32) + nI (t + 1) - 1 = nI (296 + t) := by
        rw [show (296 : Int32) + nI (t + 1) = nI (296 + (t + 1)) from niAdd 296 (t + 1)]
        exact niSub (a := 296 + (t + 1)) (b := 1) (by omega)
      rw [if_pos q, if_neg (show ¬ (120 : Int32) < nI (t + 1) from nlt (b := t + 1) (a := 120) (by omega) (by omega)), e, if_pos (gin (show 296 + t < 416 by omega) (by omega)), niCl (by omega)]
    · rw [if_neg q, if_pos (show (120 : Int32) < nI (t + 1) from plt (a := 120) (by omega) (by omega))]
  have q6 : Ch (fun k j => k = 187 ∧ (j = 289 ∨ (120 ≤ j ∧ j < 168) ∨ (j = 296 + t ∧ t < 120))) m3 m6 := by
    have q5 : Ch (fun k j => k = 187 ∧ (j = 289 ∨ (120 ≤ j ∧ j < 168) ∨ (j = 296 + t ∧ t < 120))) m3 m5 := (q4.mono fun k j q => ⟨q.1, Or.inl q.2⟩).tr (k2.mono fun k j q => ⟨q.1, Or.inr (Or.inl q.2)⟩)
    rw [em6]
    by_cases q : t < 120
    · rw [if_pos q]; exact q5.I ⟨rfl, by omega⟩
    · rw [if_neg q]; exact q5
  have m692 : m6.1 187 292 = m3.1 187 292 := q6.1 _ _ (by omega)
  have m689 : m6.1 187 289 = nI (t + 1) := by
    rw [em6]
    by_cases q : t < 120
    · rw [if_pos q, rI_no (by omega)]; exact t5
    · rw [if_neg q]; exact t5
  obtain ⟨m7, em7, em7'⟩ : ∃ w, w = (if a ≤ m3.1 187 292 then m6 else rI (rI m6 187 292 a) 187 291 (nI (t + 1))) ∧ f_X8_tickOnce_200 m6 a = some w := by
    refine ⟨_, rfl, ?_⟩
    unfold f_X8_tickOnce_200
    rw [m692]
    by_cases q : a ≤ m3.1 187 292
    · rw [if_pos q, if_pos q]
    · rw [if_neg q, if_neg q, vlet_eq, vlet_eq, rI_no (by omega), m689]
  have q7 : Ch (fun k j => k = 187 ∧ (j = 289 ∨ j = 291 ∨ j = 292 ∨ (120 ≤ j ∧ j < 168) ∨ (j = 296 + t ∧ t < 120))) m3 m7 := by
    rw [em7]
    by_cases q : a ≤ m3.1 187 292
    · rw [if_pos q]; exact q6.mono fun k j q => by omega
    · rw [if_neg q]; exact ((q6.mono fun k j q => by omega).I ⟨rfl, by omega⟩).I ⟨rfl, by omega⟩
  have q57 : Ch (fun k j => k = 187 ∧ (j = 291 ∨ j = 292 ∨ (j = 296 + t ∧ t < 120))) m5 m7 := by
    have q56 : Ch (fun k j => k = 187 ∧ (j = 291 ∨ j = 292 ∨ (j = 296 + t ∧ t < 120))) m5 m6 := by
      rw [em6]
      by_cases q : t < 120
      · rw [if_pos q]; exact Ch.rf.I ⟨rfl, by omega⟩
      · rw [if_neg q]; exact Ch.rf
    rw [em7]
    by_cases q : a ≤ m3.1 187 292
    · rw [if_pos q]; exact q56
    · rw [if_neg q]; exact (q56.I ⟨rfl, by omega⟩).I ⟨rfl, by omega⟩
  have all_s : Ch (Sst B kf) vc c9 := ((cc.mono fun k j q => by unfold Sst; omega).tr (j11.mono st_s)).tr (p9.mono fun k j q => by unfold Sst; omega)
  have all_t : Ch Tst vm m7 := ((cm.mono fun k j q => by unfold Tst; omega).tr (j12.mono st_t)).tr (q7.mono fun k j q => by unfold Tst; omega)
  have f915 : c9.1 B 15 = nI (t + 1) := by
    rw [ec9, rI_no (by omega), d4.1 _ _ (by omega), ec7]
    by_cases q : a ≤ m3.1 187 292
    · rw [if_pos q, ec6, rI_at]
    · rw [if_neg q, rI_no (by omega), rI_no (by omega), ec6, rI_at]
  refine ⟨c9, m7, ?_, ?_, ⟨ρ', al L', t + 1, S0, S1, ⟨s0, s1, by omega⟩, ⟨?_, Nat.le_trans al_len hL'12, d3, fun e he => ?_, j5.filter _, fun e he => by
      obtain ⟨x, hx, ex⟩ := j13 e (List.mem_filter.mp he).1
      rw [← ex]
      exact hOw x (by simpa using hx)⟩, ⟨?_, ?_, fun s e he => ?_⟩, ⟨⟨F4.1.ch p9 q7 (fun c _ => by omega) (fun c _ => by omega), F4.2.ch p9 q7 (fun c _ => by omega) (fun c _ => by omega)⟩, Q8.ch p9 q7 (fun c _ => by omega) (fun c _ => by omega), Q9.ch p9 q7 (fun c _ => by omega) (fun c _ => by omega), fun c hc => ?_, Q11.ch p9 q7 (fun c _ => by omega) (fun c _ => by omega), Q1.ch p9 q7 (fun c _ => by omega) (fun c _ => by omega)⟩, ⟨A4.ch q7 fun j _ _ => by omega, fun c hc => ?_⟩, ⟨?_, ?_, ?_, ?_, ?_, ?_, ?_⟩, ⟨fun c hc => ?_, fun c hc => ?_, fun s z1 z2 => ?_⟩⟩, ?_, all_s, all_t, by rw [f915, t1, ad1]⟩
  · unfold f_X5_oneTick
    rw [← ec1, vlet_eq, ← ec2, vlet_eq]
    refine (show f_X5_oneTick_12 20000 c2 B pc 0 = _ from g1).trans ?_
    refine (show f_X5_oneTick_33 20000 c3 B pc 0 = _ from j1).trans ?_
    rw [ec5', ec7']
    unfold f_X5_oneTick_153 f_X5_dropTheDry
    rw [show f_X5_dropTheDry_4 20000 c7 B 0 0 = some c9 from d1, Option.bind_some]
  · unfold f_X8_tickOnce
    refine (show f_X8_tickOnce_2 20000 vm 0 = _ from h1).trans ?_
    rw [← em2]
    refine (show f_X8_tickOnce_53 20000 m2 0 = _ from j2).trans ?_
    unfold tkM
    rw [t289, ad1, ← em4]
    refine (show f_X8_tickOnce_103 20000 m4 0 0 = _ from k1).trans ?_
    rw [em6', em7']
  · rw [ec9]
    exact d2
  · exact hCk _ _ c4 m3 c9 m7 p9 q7 (fun k j _ _ _ => by omega) (fun j => by omega) (fun j _ => by omega) e (j4 e (List.mem_filter.mp he).1)
  · rw [ec9, rI_at]
  · rw [q7.1 _ _ (by omega)]; exact j7
  · have hs : s < (al L').length := (List.getElem?_eq_some_iff.mp he).1
    have : (al L').length ≤ L'.length := al_len
    have hr := (j4 e (List.mem_filter.mp (List.mem_of_getElem? he)).1).2.1
    exact (j8 s e he).ch p9 q7 (by omega) (by omega) (by omega) (by omega) (by omega)
  · rw [p9.1 _ _ (by omega), q57.1 _ _ (by omega), (k3 c (by omega) hc).1, fe4, q4.1 _ _ (by omega)]
    exact hh c hc
  · rw [q57.1 _ _ (by omega), q57.1 187 (144 + c) (by omega), (k3 c (by omega) hc).2, fe4, q4.1 _ _ (by omega), q4.1 _ _ (by omega), q7.1 187 (72 + c) (by omega), q7.1 187 (96 + c) (by omega)]
    exact hr c hc
  · exact f915
  · rw [em7]
    by_cases q : a ≤ m3.1 187 292
    · rw [if_pos q]; exact m689
    · rw [if_neg q, rI_no (by omega), rI_no (by omega)]; exact m689
  · rw [p9.1 _ _ (by omega), q7.1 _ _ (by omega)]; exact f16
  · rw [p9.1 _ _ (by omega), q7.1 _ _ (by omega)]; exact f17
  · rw [ec9, rI_no (by omega), d4.1 _ _ (by omega), ec7, em7]
    by_cases q : a ≤ m3.1 187 292
    · rw [if_pos q, if_pos q, p6.1 _ _ (by omega), q6.1 _ _ (by omega)]; exact e18'
    · rw [if_neg q, if_neg q, rI_at, rI_at]
  · rw [ec9, rI_no (by omega), d4.1 _ _ (by omega), ec7, em7]
    by_cases q : a ≤ m3.1 187 292
    · rw [if_pos q, if_pos q, p6.1 _ _ (by omega), q6.1 _ _ (by omega)]; exact e19'
    · rw [if_neg q, if_neg q, rI_no (by omega), rI_at, rI_no (by omega), rI_at]
  · rw [p9.2.1 _ _ (by omega), q7.2.1 _ _ (by omega)]; exact fsd
  · rw [all_s.1 B 11 (by unfold Sst; omega), all_t.1 _ _ (by unfold Tst; omega)]; exact bt1 c hc
  · rw [all_s.1 B 12 (by unfold Sst; omega), all_t.1 _ _ (by unfold Tst; omega)]; exact bt2 c hc
  · by_cases z : s = t
    · subst z
      rw [ec9, rI_no (by omega), d4.1 _ _ (by omega), ec7, em7]
      have y1 : c6.1 (B + 12) s = a := by rw [ec6, rI_no (by omega), ec5, if_pos z1, rI_at]
      have y2 : m6.1 187 (296 + s) = a := by rw [em6, if_pos z1, rI_at]
      by_cases q : a ≤ m3.1 187 292
      · rw [if_pos q, if_pos q, y1, y2]
      · rw [if_neg q, if_neg q, rI_no (by omega), rI_no (by omega), rI_no (by omega), rI_no (by omega), y1, y2]
    · rw [p9.1 _ _ (by omega), q7.1 _ _ (by omega), j11.1 _ _ (by unfold Stk; omega), j12.1 _ _ (by unfold Ttk; omega), cc.1 _ _ (by omega), cm.1 _ _ (by omega)]
      exact har s z1 (by omega)
  · exact (hL0.ch j11 j12 (by unfold Stk; omega) (fun j => by unfold Stk; omega) (by unfold Stk; omega) (by unfold Ttk; omega) (fun k j _ _ _ => by unfold Ttk; omega)).ch p9 q7 (by omega) (fun j => by omega) (by omega) (by omega) (fun k j _ _ _ => by omega)
