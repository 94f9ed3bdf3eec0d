/-! WHAT CLASS AND MODEL SHARE BETWEEN CALLS -/
def WantK (kf w : Nat) (vc0 vm0 : rV) : Prop := ∀ (vc vm : rV) (kl : Nat), (∀ j, vc.1 (kf + 1) j = vc0.1 (kf + 1) j) → vc.1 kf 2 = vc0.1 kf 2 → (∀ j, 340 * (4 + w) ≤ j → j < 340 * (4 + w) + 340 → vm.1 176 j = vm0.1 176 j ∧ vm.1 177 j = vm0.1 177 j) → vm.1 178 (4 + w) = vm0.1 178 (4 + w) → (∀ j, j < 6 → vc.1 kl j = vm.1 183 j) → kl ≠ kf + 2 →
  ∃ r vc' vm', f_X2_worth vc kf kl = some (r, vc') ∧ f_X8_workOut vm (nI (4 + w)) 0 (vm.1 178 (4 + w)) = some (r, vm') ∧ Ch (fun k j => k = kf + 2 ∧ j < 1000) vc vc' ∧ Ch (fun k j => k = 184 ∧ j < 1000) vm vm'
theorem WantK.ch {S T : Nat → Nat → Prop} {kf w : Nat} {vc vm wc wm : rV} (h : WantK kf w vc vm) (hc : Ch S vc wc) (hm : Ch T vm wm) (s1 : ∀ j, ¬ S (kf + 1) j) (s2 : ¬ S kf 2) (t1 : ∀ j, 340 * (4 + w) ≤ j → j < 340 * (4 + w) + 340 → ¬ T 176 j ∧ ¬ T 177 j) (t2 : ¬ T 178 (4 + w)) : WantK kf w wc wm := fun uc um kl a1 a2 a3 a4 a5 a6 => by
  refine h uc um kl (fun j => (a1 j).trans (hc.1 _ _ (s1 j))) (a2.trans (hc.1 _ _ s2)) (fun j h1 h2 => ?_) ?_ a5 a6
  · have := a3 j h1 h2
    rwa [hm.1 176 j (t1 j h1 h2).1, hm.1 177 j (t1 j h1 h2).2] at this
  · rwa [hm.1 178 _ t2] at a4
def Rt (vc vm : rV) : Prop := ∃ n, n ≤ 160 ∧ vc.1 1 1 = nI n ∧ vm.1 174 2 = nI n ∧ ∀ j, j < n → ∃ b, 1 ≤ b ∧ b ≤ 255 ∧ vc.1 2 j = nI b ∧ vm.1 175 j = nI b
def Rl (nl : Nat) (vc vm : rV) : Prop := nl ≤ 4 ∧ vc.1 9 1 = nI nl ∧ vm.1 174 13 = nI nl ∧ ∀ n, n < nl → LawK (11 + 3 * n) n vc vm
def Rwn (nw : Nat) (vc vm : rV) : Prop := nw ≤ 4 ∧ vc.1 23 1 = nI nw ∧ vm.1 174 14 = nI nw ∧ ∀ w, w < nw → WantK (25 + 3 * w) w vc vm
def Rd (nd : Nat) (vc vm : rV) : Prop := DR vm nd ∧ DC vc vm nd ∧ (∀ d, d < nd → vc.1 50 d = vm.1 186 d) ∧ (∀ d, nd ≤ d → d < 12 → vc.1 50 d = 1)
def Rs (vc vm : rV) : Prop := ∃ ns, ns ≤ 6 ∧ vc.1 0 14 = nI ns ∧ vm.1 174 41 = nI ns ∧ ∀ s, s < 6 → ∀ c, c < 24 → vc.1 (53 + s) c = vm.1 195 (24 * s + c) ∧ 0 ≤ (vm.1 195 (24 * s + c)).toInt ∧ (vm.1 195 (24 * s + c)).toInt ≤ 24000
def Rp (p : Nat) (vc vm : rV) : Prop := p ≤ 99 ∧ vc.1 0 15 = nI p ∧ vm.1 174 23 = nI p
/-- a strip's law, if it has begun -/
def LPq (B nl R : Nat) (vc vm : rV) : Prop := (vc.2.2 B 13 = none ∧ vm.1 R 295 = 0) ∨ ∃ n, n < nl ∧ vc.2.2 B 13 = some (11 + 3 * n) ∧ vm.1 R 294 = nI n ∧ vm.1 R 295 = 1
/-- a strip that the model keeps in another row -/
def IX (M B tb R s : Nat) (vc vm : rV) : Prop := ∃ wm, ST M B tb vc wm ∧ (∀ j, j < 416 → wm.1 187 j = vm.1 R j) ∧ wm.2.1 174 27 = vm.2.1 174 s ∧ (∀ j, j < 12 * M → wm.1 185 j = vm.1 185 j)
def Ri (M tb nl : Nat) (vc vm : rV) : Prop := (vc.1 0 16 = 0 ∧ vm.1 174 30 = 0) ∨ (vc.1 0 16 = 1 ∧ vm.1 174 30 = 1 ∧ IX M 136 tb 189 29 vc vm ∧ LPq 136 nl 189 vc vm)
def Rf (vc : rV) : Prop := (∃ ρ, RF 98 vc ρ) ∧ (∃ ρ, RF 136 vc ρ)
/-- all but the strip -/
def Re (nl nw nd p tb : Nat) (vc vm : rV) : Prop := Rt vc vm ∧ Rl nl vc vm ∧ Rwn nw vc vm ∧ Rd nd vc vm ∧ Rs vc vm ∧ Rp p vc vm ∧ Ri nd tb nl vc vm ∧ Rf vc
def Rel (tb : Nat) (vc vm : rV) : Prop := ∃ nl nw nd p, Re nl nw nd p tb vc vm ∧ ST nd 60 tb vc vm ∧ LPq 60 nl 187 vc vm
theorem ST.mono {M M' B tb tb' : Nat} {vc vm : rV} (h : ST M B tb vc vm) (e : tb ≤ tb') (e2 : M ≤ M') : ST M' B tb' vc vm := by
  obtain ⟨ρ, L, t, S0, S1, ⟨a, b, c⟩, ⟨d1, d2, d3, d4, d5, d6⟩, d⟩ := h
  exact ⟨ρ, L, t, S0, S1, ⟨a, b, by omega⟩, ⟨d1, d2, d3, d4, d5, fun e9 he => by have := d6 e9 he; omega⟩, d⟩
theorem LPq.mono {B nl nl' R : Nat} {vc vm : rV} (h : LPq B nl R vc vm) (e : nl ≤ nl') : LPq B nl' R vc vm := by
  rcases h with h | ⟨n, h1, h2⟩
  · exact Or.inl h
  · exact Or.inr ⟨n, by omega, h2⟩
theorem Ri.mono {M tb tb' nl nl' : Nat} {vc vm : rV} (h : Ri M tb nl vc vm) (e : tb ≤ tb') (e2 : nl ≤ nl') : Ri M tb' nl' vc vm := by
  rcases h with h | ⟨h1, h2, ⟨wm, a, b⟩, h4⟩
  · exact Or.inl h
  · exact Or.inr ⟨h1, h2, ⟨wm, a.mono e (Nat.le_refl _), b⟩, h4.mono e2⟩
theorem Re.mono {nl nw nd p tb tb' : Nat} {vc vm : rV} (h : Re nl nw nd p tb vc vm) (e : tb ≤ tb') : Re nl nw nd p tb' vc vm := by
  obtain ⟨a, b, c, d, f, g, i, j⟩ := h
  exact ⟨a, b, c, d, f, g, i.mono e (Nat.le_refl _), j⟩
theorem Rel.mono {tb tb' : Nat} {vc vm : rV} (h : Rel tb vc vm) (e : tb ≤ tb') : Rel tb' vc vm := by
  obtain ⟨nl, nw, nd, p, a, b, c⟩ := h
  exact ⟨nl, nw, nd, p, a.mono e, b.mono e (Nat.le_refl _), c⟩
/-! what does not touch a block keeps it -/
theorem Rt.ch {S T : Nat → Nat → Prop} {vc vm wc wm : rV} (h : Rt vc vm) (hc : Ch S vc wc) (hm : Ch T vm wm) (s1 : ¬ S 1 1) (s2 : ∀ j, ¬ S 2 j) (t1 : ¬ T 174 2) (t2 : ∀ j, ¬ T 175 j) : Rt wc wm := by
  obtain ⟨n, a, b, c, d⟩ := h
  exact ⟨n, a, by rw [hc.1 _ _ s1]; exact b, by rw [hm.1 _ _ t1]; exact c, fun j hj => by rw [hc.1 _ _ (s2 j), hm.1 _ _ (t2 j)]; exact d j hj⟩
theorem Rl.ch {S T : Nat → Nat → Prop} {nl : Nat} {vc vm wc wm : rV} (h : Rl nl vc vm) (hc : Ch S vc wc) (hm : Ch T vm wm) (s1 : ¬ S 9 1) (s2 : ∀ n j, n < 4 → ¬ S (12 + 3 * n) j ∧ ¬ S (11 + 3 * n) 2) (t1 : ¬ T 174 13) (t2 : ∀ k j, 176 ≤ k → k ≤ 182 → j < 3060 → ¬ T k j) : Rl nl wc wm := by
  obtain ⟨a, b, c, d⟩ := h
  exact ⟨a, by rw [hc.1 _ _ s1]; exact b, by rw [hm.1 _ _ t1]; exact c, fun n hn => (d n hn).ch hc hm (fun j => by rw [show 11 + 3 * n + 1 = 12 + 3 * n by omega]; exact (s2 n j (by omega)).1) (s2 n 0 (by omega)).2 t2 (by omega)⟩
theorem Rwn.ch {S T : Nat → Nat → Prop} {nw : Nat} {vc vm wc wm : rV} (h : Rwn nw vc vm) (hc : Ch S vc wc) (hm : Ch T vm wm) (s1 : ¬ S 23 1) (s2 : ∀ n j, n < 4 → ¬ S (26 + 3 * n) j ∧ ¬ S (25 + 3 * n) 2) (t1 : ¬ T 174 14) (t2 : ∀ k j, 176 ≤ k → k ≤ 182 → j < 3060 → ¬ T k j) : Rwn nw wc wm := by
  obtain ⟨a, b, c, d⟩ := h
  exact ⟨a, by rw [hc.1 _ _ s1]; exact b, by rw [hm.1 _ _ t1]; exact c, fun n hn => (d n hn).ch hc hm (fun j => by rw [show 25 + 3 * n + 1 = 26 + 3 * n by omega]; exact (s2 n j (by omega)).1) (s2 n 0 (by omega)).2 (fun j h1 h2 => ⟨t2 _ _ (by omega) (by omega) (by omega), t2 _ _ (by omega) (by omega) (by omega)⟩) (t2 _ _ (by omega) (by omega) (by omega))⟩
theorem DR.ch {T : Nat → Nat → Prop} {vm wm : rV} {N : Nat} (h : DR vm N) (hm : Ch T vm wm) (t1 : ¬ T 174 21) (t2 : ∀ j, ¬ T 185 j) : DR wm N := by
  obtain ⟨a, b, c⟩ := h
  exact ⟨a, by rw [hm.1 _ _ t1]; exact b, fun d hd => ⟨(c d hd).1.ch hm fun j _ => t2 _, by unfold tv; rw [hm.1 _ _ (t2 _), hm.1 _ _ (t2 _)]; exact (c d hd).2⟩⟩
theorem Rd.ch {S T : Nat → Nat → Prop} {nd : Nat} {vc vm wc wm : rV} (h : Rd nd vc vm) (hc : Ch S vc wc) (hm : Ch T vm wm) (s1 : ¬ S 0 13) (s2 : ∀ k j, 38 ≤ k → k ≤ 50 → j < 12 → ¬ S k j) (t1 : ¬ T 174 21) (t2 : ∀ j, ¬ T 185 j) (t3 : ∀ j, j < 12 → ¬ T 186 j) : Rd nd wc wm := by
  obtain ⟨a, b, c, d⟩ := h
  have := a.1
  exact ⟨a.ch hm t1 t2, ⟨by rw [hc.1 _ _ s1]; exact b.1, fun d hd j hj => by rw [hc.1 _ _ (s2 _ _ (by omega) (by omega) hj), hm.1 _ _ (t2 _)]; exact b.2 d hd j hj⟩, fun e he => by rw [hc.1 _ _ (s2 _ _ (by omega) (by omega) (by omega)), hm.1 _ _ (t3 _ (by omega))]; exact c e he, fun e h1 h2 => by rw [hc.1 _ _ (s2 _ _ (by omega) (by omega) h2)]; exact d e h1 h2⟩
theorem Rs.ch {S T : Nat → Nat → Prop} {vc vm wc wm : rV} (h : Rs vc vm) (hc : Ch S vc wc) (hm : Ch T vm wm) (s1 : ¬ S 0 14) (s2 : ∀ k j, 53 ≤ k → k < 59 → j < 24 → ¬ S k j) (t1 : ¬ T 174 41) (t2 : ∀ j, j < 144 → ¬ T 195 j) : Rs wc wm := by
  obtain ⟨n, a, b, c, d⟩ := h
  exact ⟨n, a, by rw [hc.1 _ _ s1]; exact b, by rw [hm.1 _ _ t1]; exact c, fun s hs e he => by rw [hc.1 _ _ (s2 _ _ (by omega) (by omega) he), hm.1 _ _ (t2 _ (by omega))]; exact d s hs e he⟩
theorem Rp.ch {S T : Nat → Nat → Prop} {p : Nat} {vc vm wc wm : rV} (h : Rp p vc vm) (hc : Ch S vc wc) (hm : Ch T vm wm) (s1 : ¬ S 0 15) (t1 : ¬ T 174 23) : Rp p wc wm := ⟨h.1, by rw [hc.1 _ _ s1]; exact h.2.1, by rw [hm.1 _ _ t1]; exact h.2.2⟩
/-- a strip at rest is kept by what doesn't touch it -/
theorem ST.ext {S : Nat → Nat → Prop} {M B tb : Nat} {vc vm wc wm : rV} (h : ST M B tb vc vm) (hc : Ch S vc wc) (s1 : ∀ k j, B ≤ k → k ≤ B + 37 → ¬ S k j) (m1 : ∀ j, j < 416 → wm.1 187 j = vm.1 187 j) (m2 : wm.2.1 174 27 = vm.2.1 174 27) (m3 : ∀ j, j < 12 * M → wm.1 185 j = vm.1 185 j) : ST M B tb wc wm := by
  obtain ⟨ρ, L, t, S0, S1, a, ⟨hR, hl, hρ, hC, hA, hO⟩, ⟨n1, n2, hM⟩, ⟨F, R8, R9, R10, R11, R1⟩, ⟨hAA, hrow⟩, ⟨u1, u2, u3, u4, u5, u6, u7⟩, ⟨b1, b2, b3⟩⟩ := h
  have rr : ∀ (k o n : Nat), k ≤ 37 → o + n ≤ 416 → Rw vc (B + k) vm 187 o n → Rw wc (B + k) wm 187 o n := fun k o n hk ho r c hc9 => by
    rw [hc.1 _ _ (s1 _ _ (by omega) (by omega)), m1 _ (by omega)]
    exact r c hc9
  have bt : ∀ j o, o + 24 ≤ 416 → BT (vc.1 B j) vm o → BT (wc.1 B j) wm o := fun j o ho r c hc9 => by rw [hc.1 _ _ (s1 _ _ (Nat.le_refl _) (by omega)), m1 _ (by omega)]; exact r c hc9
  refine ⟨ρ, L, t, S0, S1, a, ⟨hR.ch hc fun i _ => s1 _ _ (by omega) (by omega), hl, hρ, fun e he => ?_, hA, hO⟩, ⟨by rw [hc.1 _ _ (s1 _ _ (Nat.le_refl _) (by omega))]; exact n1, by rw [m1 _ (by omega)]; exact n2, fun s e he => ?_⟩, ⟨⟨rr 5 24 24 (by omega) (by omega) F.1, rr 6 48 24 (by omega) (by omega) F.2⟩, rr 8 72 24 (by omega) (by omega) R8, rr 9 96 24 (by omega) (by omega) R9, rr 10 144 24 (by omega) (by omega) R10, rr 11 168 24 (by omega) (by omega) R11, rr 1 0 24 (by omega) (by omega) R1⟩, ⟨?_, fun c hc9 => by rw [m1 (120 + c) (by omega), m1 (144 + c) (by omega), m1 (72 + c) (by omega), m1 (96 + c) (by omega)]; exact hrow c hc9⟩, ⟨?_, ?_, ?_, ?_, ?_, ?_, ?_⟩, ⟨bt 11 216 (by omega) b1, bt 12 192 (by omega) b2, fun s z1 z2 => by rw [hc.1 _ _ (s1 _ _ (by omega) (by omega)), m1 _ (by omega)]; exact b3 s z1 z2⟩⟩
  · obtain ⟨⟨x1, x2⟩, ⟨o1, o2, o3, q, o4, o5⟩, hm, htd, har, hA9⟩ := hC e he
    have hO9 := hO e he
    refine ⟨⟨by rw [hc.1 _ _ (s1 _ _ (by omega) (by omega))]; exact x1, by rw [hc.1 _ _ (s1 _ _ (by omega) (by omega))]; exact x2⟩, ⟨o1, o2, o3, q, o4, o5⟩, fun j z1 z2 => by rw [hc.1 _ _ (s1 _ _ (by omega) (by omega)), m3 _ (by omega)]; exact hm j z1 z2, fun j hj => by rw [m3 _ (by omega)]; exact htd j hj, har.eq fun c z1 z2 => m1 _ (by omega), hA9⟩
  · have hs : s < 12 := by have := (List.getElem?_eq_some_iff.mp he).1; omega
    obtain ⟨o1, o2, o3, q, o4, o5⟩ := (hC e (List.mem_of_getElem? he)).2.1
    obtain ⟨y1, y2, y3, y4⟩ := hM s e he
    exact ⟨by rw [m1 _ (by omega)]; exact y1, by rw [m1 _ (by omega)]; exact y2, by rw [m1 _ (by omega)]; exact y3, by rw [hc.1 _ _ (s1 _ _ (by omega) (by omega)), m1 _ (by omega)]; exact y4⟩
  · obtain ⟨T0, U0, T1, U1, a0, u0, a1, u1, t0, t1⟩ := hAA
    exact ⟨T0, U0, T1, U1, a0.eq fun c _ => m1 _ (by omega), u0.eq fun c _ => m1 _ (by omega), a1.eq fun c _ => m1 _ (by omega), u1.eq fun c _ => m1 _ (by omega), t0, t1⟩
  · rw [hc.1 _ _ (s1 _ _ (Nat.le_refl _) (by omega))]; exact u1
  · rw [m1 _ (by omega)]; exact u2
  · rw [hc.1 _ _ (s1 _ _ (Nat.le_refl _) (by omega)), m1 _ (by omega)]; exact u3
  · rw [hc.1 _ _ (s1 _ _ (Nat.le_refl _) (by omega)), m1 _ (by omega)]; exact u4
  · rw [hc.1 _ _ (s1 _ _ (Nat.le_refl _) (by omega)), m1 _ (by omega)]; exact u5
  · rw [hc.1 _ _ (s1 _ _ (Nat.le_refl _) (by omega)), m1 _ (by omega)]; exact u6
  · rw [hc.2.1 _ _ (s1 _ _ (Nat.le_refl _) (by omega)), m2]; exact u7
theorem ST.ch {S T : Nat → Nat → Prop} {M B tb : Nat} {vc vm wc wm : rV} (h : ST M B tb vc vm) (hc : Ch S vc wc) (hm : Ch T vm wm) (s1 : ∀ k j, B ≤ k → k ≤ B + 37 → ¬ S k j) (t1 : ∀ j, j < 416 → ¬ T 187 j) (t2 : ¬ T 174 1000027) (t3 : ∀ j, j < 12 * M → ¬ T 185 j) : ST M B tb wc wm := h.ext hc s1 (fun j hj => hm.1 _ _ (t1 j hj)) (hm.2.1 174 27 t2) fun j hj => hm.1 _ _ (t3 j hj)
theorem LPq.ch {S T : Nat → Nat → Prop} {B nl R : Nat} {vc vm wc wm : rV} (h : LPq B nl R vc vm) (hc : Ch S vc wc) (hm : Ch T vm wm) (s1 : ¬ S B 2000013) (t1 : ¬ T R 294) (t2 : ¬ T R 295) : LPq B nl R wc wm := by
  rcases h with ⟨a, b⟩ | ⟨n, h1, h2, h3, h4⟩
  · exact Or.inl ⟨by rw [hc.2.2 B 13 s1]; exact a, by rw [hm.1 _ _ t2]; exact b⟩
  · exact Or.inr ⟨n, h1, by rw [hc.2.2 B 13 s1]; exact h2, by rw [hm.1 _ _ t1]; exact h3, by rw [hm.1 _ _ t2]; exact h4⟩
theorem IX.ch {S T : Nat → Nat → Prop} {M B tb R s : Nat} {vc vm wc wm : rV} (h : IX M B tb R s vc vm) (hc : Ch S vc wc) (hm : Ch T vm wm) (s1 : ∀ k j, B ≤ k → k ≤ B + 37 → ¬ S k j) (t1 : ∀ j, j < 416 → ¬ T R j) (t2 : ¬ T 174 (1000000 + s)) (t3 : ∀ j, j < 12 * M → ¬ T 185 j) : IX M B tb R s wc wm := by
  obtain ⟨w, a, b, c, d⟩ := h
  exact ⟨w, a.ext hc s1 (fun _ _ => rfl) rfl (fun _ _ => rfl), fun j hj => by rw [hm.1 _ _ (t1 j hj)]; exact b j hj, by rw [hm.2.1 _ _ t2]; exact c, fun j hj => by rw [hm.1 _ _ (t3 j hj)]; exact d j hj⟩
theorem Rf.ch {S : Nat → Nat → Prop} {vc wc : rV} (h : Rf vc) (hc : Ch S vc wc) (s1 : ∀ i, i < 12 → ¬ S 111 (2000000 + i)) (s2 : ∀ i, i < 12 → ¬ S 149 (2000000 + i)) : Rf wc := by
  obtain ⟨⟨ρ, a⟩, ⟨σ, b⟩⟩ := h
  exact ⟨⟨ρ, a.ch hc s1⟩, ⟨σ, b.ch hc s2⟩⟩
/-- the whole of the rest is kept by what touches strips and scratch alone -/
theorem Re.ch2 {S T : Nat → Nat → Prop} {nl nw nd p tb : Nat} {vc vm wc wm : rV} (h : Re nl nw nd p tb vc vm) (hc : Ch S vc wc) (hm : Ch T vm wm) (s1 : ∀ k j, k < 60 → ¬ (∃ n, n < 4 ∧ (k = 13 + 3 * n ∨ k = 27 + 3 * n)) → k ≠ 51 → k ≠ 59 → ¬ S k j) (s2 : ∀ k j, 136 ≤ k → k < 174 → ¬ S k j) (hf : Rf wc) (t1 : ∀ j, j = 2 ∨ j = 13 ∨ j = 14 ∨ j = 21 ∨ j = 23 ∨ j = 30 ∨ j = 41 ∨ j = 1000029 → ¬ T 174 j) (t2 : ∀ k j, 175 ≤ k → k ≤ 182 → ¬ T k j) (t3 : ∀ j, ¬ T 185 j ∧ ¬ T 186 j ∧ ¬ T 189 j ∧ ¬ T 195 j) : Re nl nw nd p tb wc wm := by
  obtain ⟨a, b, c, d, f, g, i, j⟩ := h
  have sz : ∀ k j, k < 60 → (∀ n, n < 4 → k ≠ 13 + 3 * n ∧ k ≠ 27 + 3 * n) → k ≠ 51 → k ≠ 59 → ¬ S k j := fun k j h1 h2 h3 h4 => s1 k j h1 (fun ⟨n, hn, q⟩ => by have := h2 n hn; omega) h3 h4
  have hn12 : nd ≤ 12 := d.1.1
  refine ⟨a.ch hc hm (sz _ _ (by omega) (fun n _ => by omega) (by omega) (by omega)) (fun j => sz _ _ (by omega) (fun n _ => by omega) (by omega) (by omega)) (t1 _ (by omega)) (fun j => t2 _ _ (by omega) (by omega)), b.ch hc hm (sz _ _ (by omega) (fun n _ => by omega) (by omega) (by omega)) (fun n j hn => ⟨sz _ _ (by omega) (fun n _ => by omega) (by omega) (by omega), sz _ _ (by omega) (fun n _ => by omega) (by omega) (by omega)⟩) (t1 _ (by omega)) (fun k j h1 h2 _ => t2 k j (by omega) h2), c.ch hc hm (sz _ _ (by omega) (fun n _ => by omega) (by omega) (by omega)) (fun n j hn => ⟨sz _ _ (by omega) (fun n _ => by omega) (by omega) (by omega), sz _ _ (by omega) (fun n _ => by omega) (by omega) (by omega)⟩) (t1 _ (by omega)) (fun k j h1 h2 _ => t2 k j (by omega) h2), d.ch hc hm (sz _ _ (by omega) (fun n _ => by omega) (by omega) (by omega)) (fun k j h1 h2 _ => sz _ _ (by omega) (fun n _ => by omega) (by omega) (by omega)) (t1 _ (by omega)) (fun j => (t3 j).1) (fun j _ => (t3 j).2.1), f.ch hc hm (sz _ _ (by omega) (fun n _ => by omega) (by omega) (by omega)) (fun k j h1 h2 _ => sz _ _ (by omega) (fun n _ => by omega) (by omega) (by omega)) (t1 _ (by omega)) (fun j _ => (t3 j).2.2.2), g.ch hc hm (sz _ _ (by omega) (fun n _ => by omega) (by omega) (by omega)) (t1 _ (by omega)), ?_, hf⟩
  have z0 : wc.1 0 16 = vc.1 0 16 := hc.1 _ _ (sz _ _ (by omega) (fun n _ => by omega) (by omega) (by omega))
  have z1 : wm.1 174 30 = vm.1 174 30 := hm.1 _ _ (t1 _ (by omega))
  unfold Ri
  rw [z0, z1]
  rcases i with i | ⟨i1, i2, i3, i4⟩
  · exact Or.inl i
  · exact Or.inr ⟨i1, i2, i3.ch hc hm (fun k j h1 h2 => s2 _ _ (by omega) (by omega)) (fun j _ => (t3 j).2.2.1) (t1 _ (by omega)) (fun j _ => (t3 j).1), i4.ch hc hm (s2 _ _ (by omega) (by omega)) (t3 _).2.2.1 (t3 _).2.2.1⟩
theorem Re.ch {S T : Nat → Nat → Prop} {nl nw nd p tb : Nat} {vc vm wc wm : rV} (h : Re nl nw nd p tb vc vm) (hc : Ch S vc wc) (hm : Ch T vm wm) (s1 : ∀ k j, k < 60 → ¬ (∃ n, n < 4 ∧ (k = 13 + 3 * n ∨ k = 27 + 3 * n)) → k ≠ 51 → k ≠ 59 → ¬ S k j) (s2 : ∀ k j, 136 ≤ k → k < 174 → ¬ S k j) (s3 : ∀ i, i < 12 → ¬ S 111 (2000000 + i)) (t1 : ∀ j, j = 2 ∨ j = 13 ∨ j = 14 ∨ j = 21 ∨ j = 23 ∨ j = 30 ∨ j = 41 ∨ j = 1000029 → ¬ T 174 j) (t2 : ∀ k j, 175 ≤ k → k ≤ 182 → ¬ T k j) (t3 : ∀ j, ¬ T 185 j ∧ ¬ T 186 j ∧ ¬ T 189 j ∧ ¬ T 195 j) : Re nl nw nd p tb wc wm := h.ch2 hc hm s1 s2 (h.2.2.2.2.2.2.2.ch hc s3 fun i _ => s2 _ _ (by omega) (by omega)) t1 t2 t3
/-- the law of a strip that has begun -/
theorem LSt.of {B nl n : Nat} {vc vm : rV} (h : Rl nl vc vm) (hn : n < nl) (hB : 60 ≤ B) (h1 : vc.2.2 B 13 = some (11 + 3 * n)) (h2 : vm.1 187 294 = nI n) : LSt B (11 + 3 * n) n vc vm := by
  have fm : ∀ n, n < 4 → isForm (11 + 3 * n) = true := by decide
  obtain ⟨a, b, c, d⟩ := h
  exact ⟨h1, fm n (by omega), by omega, by omega, h2, d n hn⟩
