/-! BODIES IN A LIST: reference, first, last, whose, water -/
abbrev En : Type := Nat × Nat × Nat × Nat × Nat
def CEn (B : Nat) (vc vm : rV) (e : En) : Prop := (vc.1 e.1 2 = nI e.2.1 ∧ vc.1 e.1 3 = nI e.2.2.1) ∧ (e.2.2.2.1 < 13 ∧ e.2.1 ≤ e.2.2.1 ∧ e.2.2.1 < 24 ∧ (∃ q, q < 12 ∧ e.1 = B + 14 + 2 * q)) ∧ (∀ j, 5 ≤ j → j < 12 → vc.1 (e.1 + 1) j = vm.1 185 (12 * e.2.2.2.1 + j)) ∧ TD vm 185 (12 * e.2.2.2.1) ∧ Ar vm e.2.1 e.2.2.1 (e.2.2.2.2 : Nat) ∧ e.2.2.2.2 ≤ 12000
def MEn (vc vm : rV) (e : En) (s : Nat) : Prop := vm.1 187 (240 + s) = nI e.2.1 ∧ vm.1 187 (252 + s) = nI e.2.2.1 ∧ vm.1 187 (264 + s) = nI e.2.2.2.1 ∧ vc.1 e.1 4 = vm.1 187 (276 + s)
/-- two bodies apart -/
def Ap (a b : En) : Prop := a.2.2.1 < b.2.1 ∧ a.1 ≠ b.1
theorem CEn.ch {S T : Nat → Nat → Prop} {B : Nat} {vc vm wc wm : rV} {e : En} (h : CEn B vc vm e) (hc : Ch S vc wc) (hm : Ch T vm wm) (s1 : ¬ S e.1 2) (s2 : ¬ S e.1 3) (s3 : ∀ j, 5 ≤ j → j < 12 → ¬ S (e.1 + 1) j) (t1 : ∀ j, ¬ T 185 j) (t2 : ∀ c, e.2.1 ≤ c → c ≤ e.2.2.1 → ¬ T 187 (0 + c)) : CEn B wc wm e := by
  obtain ⟨⟨a1, a2⟩, b, c, d, f, g⟩ := h
  exact ⟨⟨by rw [hc.1 _ _ s1]; exact a1, by rw [hc.1 _ _ s2]; exact a2⟩, b, fun j z1 z2 => by rw [hc.1 _ _ (s3 j z1 z2), hm.1 _ _ (t1 _)]; exact c j z1 z2, d.ch hm fun j _ => t1 _, f.eq fun c z1 z2 => hm.1 _ _ (t2 c z1 z2), g⟩
theorem CEn.ch2 {S T : Nat → Nat → Prop} {B : Nat} {vc vm wc wm : rV} {e : En} (h : CEn B vc vm e) (hc : Ch S vc wc) (hm : Ch T vm wm) (s1 : ¬ S e.1 2) (s2 : ¬ S e.1 3) (s3 : ∀ j, 5 ≤ j → j < 12 → ¬ S (e.1 + 1) j) (t1 : ∀ j, j < 12 → ¬ T 185 (12 * e.2.2.2.1 + j)) (t2 : ∀ c, e.2.1 ≤ c → c ≤ e.2.2.1 → ¬ T 187 (0 + c)) : CEn B wc wm e := by
  obtain ⟨⟨a1, a2⟩, b, c, d, f, g⟩ := h
  exact ⟨⟨by rw [hc.1 _ _ s1]; exact a1, by rw [hc.1 _ _ s2]; exact a2⟩, b, fun j z1 z2 => by rw [hc.1 _ _ (s3 j z1 z2), hm.1 _ _ (t1 _ z2)]; exact c j z1 z2, d.ch hm fun j h9 => t1 _ h9, f.eq fun c z1 z2 => hm.1 _ _ (t2 c z1 z2), g⟩
theorem MEn.ch {S T : Nat → Nat → Prop} {vc vm wc wm : rV} {e : En} {s : Nat} (h : MEn vc vm e s) (hc : Ch S vc wc) (hm : Ch T vm wm) (s1 : ¬ S e.1 4) (t1 : ¬ T 187 (240 + s)) (t2 : ¬ T 187 (252 + s)) (t3 : ¬ T 187 (264 + s)) (t4 : ¬ T 187 (276 + s)) : MEn wc wm e s := by
  obtain ⟨a, b, c, d⟩ := h
  exact ⟨by rw [hm.1 _ _ t1]; exact a, by rw [hm.1 _ _ t2]; exact b, by rw [hm.1 _ _ t3]; exact c, by rw [hc.1 _ _ s1, hm.1 _ _ t4]; exact d⟩
/-- the turn of a body in a list -/
theorem turn1 {B kf N b : Nat} {pc : Int32} {S0 S1 : Int} {vc vm : rV} {e : En} (h0 : S0 ≤ 12000) (h1 : S1 ≤ 12000) (hpc : 0 ≤ pc) (hbb : b < 12) (hC : CEn B vc vm e) (hM : MEn vc vm e b) (hL : LSt B kf N vc vm) (hP : PP B pc S0 S1 vc vm) (hz : ∀ i, e.2.1 ≤ i → i ≤ e.2.2.1 → vm.1 193 i = 0 ∧ vm.1 193 (24 + i) = 0) :
    ∃ v1 v2 v3 v4 v5 v6 v7 vm' f' l' A, f_X5_evaporate vc B e.1 = some v1 ∧ f_X5_letGo v1 B e.1 pc = some v2 ∧ f_X5_reshape v2 B e.1 = some v3 ∧ f_X5_carryAll v3 B e.1 = some v4 ∧ f_X5_stir v4 B e.1 = some v5 ∧ f_X5_wander v5 B e.1 = some v6 ∧ f_X5_layDown v6 B e.1 pc = some v7 ∧ f_X8_goes vm (nI b) = some (decide (0 < A), vm') ∧
      PP B pc S0 S1 v7 vm' ∧ CEn B v7 vm' (e.1, f', l', e.2.2.2.1, A) ∧ MEn v7 vm' (e.1, f', l', e.2.2.2.1, A) b ∧ e.2.1 ≤ f' ∧ l' ≤ e.2.2.1 ∧ Ch (Sgo2 B e.1 kf e.2.1 e.2.2.1) vc v7 ∧ Ch (Tbd b e.2.1 e.2.2.1) vm vm' := by
  obtain ⟨r, f, l, own, A0⟩ := e
  obtain ⟨⟨a1, a2⟩, ⟨o1, o2, o3, q, o4, o5⟩, hmade, htd, har, hA⟩ := hC
  obtain ⟨y1, y2, y3, y4⟩ := hM
  dsimp only at *
  have kfB := hL.2.2.1
  obtain ⟨v1, v2, v3, v4, v5, v6, v7, vm', A, f', l', k1, k2, k3, k4, k5, k6, k7, k8, k9, k10, k11, k12, k13, k14, k15, k16, k17, k18, k19, k20, k21⟩ := goes_go (b := b) (A0 := A0) h0 h1 (by omega) hpc hbb a1 a2 y1 y2 y3 y4 ⟨o1, o2, o3, by omega⟩ hmade htd hL hP har hz
  refine ⟨v1, v2, v3, v4, v5, v6, v7, vm', f', l', A, k1, k2, k3, k4, k5, k6, k7, k8, k9, ⟨⟨k15, k16⟩, ⟨o1, k13, by show l' < 24; omega, q, o4, o5⟩, fun j z1 z2 => ?_, htd.ch k21 fun j _ => by unfold Tbd; omega, k10, by show A ≤ 12000; omega⟩, ⟨k17, k18, ?_, k19⟩, k12, k14, k20, k21⟩
  · show v7.1 (r + 1) j = vm'.1 185 (12 * own + j)
    rw [k20.1 _ _ (by unfold Sgo2 Sbd; omega), k21.1 _ _ (by unfold Tbd; omega)]
    exact hmade j z1 z2
  · show vm'.1 187 (264 + b) = nI own
    rw [k21.1 _ _ (by unfold Tbd; omega)]
    exact y3
/-- the model leaves a body out -/
theorem rm_go : ∀ (d a n N : Nat) (vm : rV), a + d = N → d < n → N < 12 → vm.1 187 288 = nI N → ∃ vm', f_X8_remove_14 n vm (nI a) = some vm' ∧ Ch (fun k j => k = 187 ∧ 240 ≤ j ∧ j < 288) vm vm' ∧ (∀ s, s < 12 → vm'.1 187 (240 + s) = (if a ≤ s ∧ s < N then vm.1 187 (240 + (s + 1)) else vm.1 187 (240 + s)) ∧ vm'.1 187 (252 + s) = (if a ≤ s ∧ s < N then vm.1 187 (252 + (s + 1)) else vm.1 187 (252 + s)) ∧ vm'.1 187 (264 + s) = (if a ≤ s ∧ s < N then vm.1 187 (264 + (s + 1)) else vm.1 187 (264 + s)) ∧ vm'.1 187 (276 + s) = (if a ≤ s ∧ s < N then vm.1 187 (276 + (s + 1)) else vm.1 187 (276 + s))) := by
  intro d
  induction d with
  | zero =>
    intro a n N vm h1 hn hN e
    obtain ⟨n, rfl⟩ : ∃ n', n = n' + 1 := ⟨n - 1, by omega⟩
    refine ⟨vm, by rw [f_X8_remove_14, e, if_pos (ple (by omega) (by omega))], Ch.rf, fun s hs => ?_⟩
    have q : ¬ (a ≤ s ∧ s < N) := by omega
    simp only [if_neg q, and_self]
  | succ d ih =>
    intro a n N vm h1 hn hN e
    obtain ⟨n, rfl⟩ : ∃ n', n = n' + 1 := ⟨n - 1, by omega⟩
    obtain ⟨m1, em1⟩ : ∃ w, w = rI vm 187 (240 + a) (vm.1 187 (240 + (a + 1))) := ⟨_, rfl⟩
    obtain ⟨m2, em2⟩ : ∃ w, w = rI m1 187 (252 + a) (vm.1 187 (252 + (a + 1))) := ⟨_, rfl⟩
    obtain ⟨m3, em3⟩ : ∃ w, w = rI m2 187 (264 + a) (vm.1 187 (264 + (a + 1))) := ⟨_, rfl⟩
    obtain ⟨m4, em4⟩ : ∃ w, w = rI m3 187 (276 + a) (vm.1 187 (276 + (a + 1))) := ⟨_, rfl⟩
    have q1 : Ch (fun k j => k = 187 ∧ j = 240 + a) vm m1 := by rw [em1]; exact Ch.rf.I ⟨rfl, rfl⟩
    have q2 : Ch (fun k j => k = 187 ∧ (j = 240 + a ∨ j = 252 + a)) vm m2 := by rw [em2]; exact (q1.mono fun k j q => by omega).I ⟨rfl, Or.inr rfl⟩
    have q3 : Ch (fun k j => k = 187 ∧ (j = 240 + a ∨ j = 252 + a ∨ j = 264 + a)) vm m3 := by rw [em3]; exact (q2.mono fun k j q => by omega).I ⟨rfl, Or.inr (Or.inr rfl)⟩
    have q4 : Ch (fun k j => k = 187 ∧ (j = 240 + a ∨ j = 252 + a ∨ j = 264 + a ∨ j = 276 + a)) vm m4 := by rw [em4]; exact (q3.mono fun k j q => by omega).I ⟨rfl, Or.inr (Or.inr (Or.inr rfl))⟩
    obtain ⟨vm', g1, g2, g3⟩ := ih (a + 1) n N m4 (by omega) (by omega) hN (by rw [q4.1 _ _ (by omega)]; exact e)
    have w : ∀ o, o = 240 ∨ o = 252 ∨ o = 264 ∨ o = 276 → m4.1 187 (o + a) = vm.1 187 (o + (a + 1)) := fun o ho => by
      rcases ho with rfl | rfl | rfl | rfl
      · rw [em4, rI_no (by omega), em3, rI_no (by omega), em2, rI_no (by omega), em1, rI_at]
      · rw [em4, rI_no (by omega), em3, rI_no (by omega), em2, rI_at]
      · rw [em4, rI_no (by omega), em3, rI_at]
      · rw [em4, rI_at]
    have w2 : ∀ o s, o = 240 ∨ o = 252 ∨ o = 264 ∨ o = 276 → s < 12 → s ≠ a → m4.1 187 (o + s) = vm.1 187 (o + s) := fun o s ho hs hsa => q4.1 _ _ (by omega)
    refine ⟨vm', ?_, (q4.mono fun k j q => by omega).tr g2, fun s hs => ?_⟩
    · rw [f_X8_remove_14, e, if_neg (nle (by omega) (by omega)), show (240 : Int32) + nI a + 1 = nI (240 + (a + 1)) from by rw [show (240 : Int32) + nI a = nI (240 + a) from niAdd 240 a]; exact ad1 _, show (252 : Int32) + nI a + 1 = nI (252 + (a + 1)) from by rw [show (252 : Int32) + nI a = nI (252 + a) from niAdd 252 a]; exact ad1 _, show (264 : Int32) + nI a + 1 = nI (264 + (a + 1)) from by rw [show (264 : Int32) + nI a = nI (264 + a) from niAdd 264 a]; exact ad1 _, show (276 : Int32) + nI a + 1 = nI (276 + (a + 1)) from by rw [show (276 : Int32) + nI a = nI (276 + a) from niAdd 276 a]; exact ad1 _, show (240 : Int32) + nI a = nI (240 + a) from niAdd 240 a, show (252 : Int32) + nI a = nI (252 + a) from niAdd 252 a, show (264 : Int32) + nI a = nI (264 + a) from niAdd 264 a, show (276 : Int32) + nI a = nI (276 + a) from niAdd 276 a]
      rw [if_pos (gin (show 240 + (a + 1) < 416 by omega) (by omega)), if_pos (gin (show 240 + a < 416 by omega) (by omega)), niCl (show 240 + (a + 1) < 2147483648 by omega), niCl (show 240 + a < 2147483648 by omega), ← em1, vlet_eq, if_pos (gin (show 252 + (a + 1) < 416 by omega) (by omega)), if_pos (gin (show 252 + a < 416 by omega) (by omega)), niCl (show 252 + (a + 1) < 2147483648 by omega), niCl (show 252 + a < 2147483648 by omega), q1.1 187 (252 + (a + 1)) (by omega), ← em2, vlet_eq, if_pos (gin (show 264 + (a + 1) < 416 by omega) (by omega)), if_pos (gin (show 264 + a < 416 by omega) (by omega)), niCl (show 264 + (a + 1) < 2147483648 by omega), niCl (show 264 + a < 2147483648 by omega), q2.1 187 (264 + (a + 1)) (by omega), ← em3, vlet_eq, if_pos (gin (show 276 + (a + 1) < 416 by omega) (by omega)), if_pos (gin (show 276 + a < 416 by omega) (by omega)), niCl (show 276 + (a + 1) < 2147483648 by omega), niCl (show 276 + a < 2147483648 by omega), q3.1 187 (276 + (a + 1)) (by omega), ← em4, vlet_eq, vlet_eq, ad1]
      exact g1
    · have k := g3 s hs
      by_cases z : s = a
      · subst z
        have n1 : ¬ (s + 1 ≤ s ∧ s < N) := by omega
        have p1 : s ≤ s ∧ s < N := by omega
        simp only [if_neg n1] at k
        simp only [if_pos p1]
        rw [← w 240 (by omega), ← w 252 (by omega), ← w 264 (by omega), ← w 276 (by omega)]
        exact k
      · by_cases z2 : a + 1 ≤ s ∧ s < N
        · have p1 : a ≤ s ∧ s < N := by omega
          simp only [if_pos z2] at k
          simp only [if_pos p1]
          rw [← w2 240 (s + 1) (by omega) (by omega) (by omega), ← w2 252 (s + 1) (by omega) (by omega) (by omega), ← w2 264 (s + 1) (by omega) (by omega) (by omega), ← w2 276 (s + 1) (by omega) (by omega) (by omega)]
          exact k
        · have p1 : ¬ (a ≤ s ∧ s < N) := by omega
          simp only [if_neg z2] at k
          simp only [if_neg p1]
          rw [← w2 240 s (by omega) (by omega) z, ← w2 252 s (by omega) (by omega) z, ← w2 264 s (by omega) (by omega) z, ← w2 276 s (by omega) (by omega) z]
          exact k
theorem remove_go {b N : Nat} {vm : rV} (hb : b < N) (hN : N ≤ 12) (e : vm.1 187 288 = nI N) : ∃ vm', f_X8_remove vm (nI b) = some vm' ∧ Ch (fun k j => k = 187 ∧ 240 ≤ j ∧ j ≤ 288) vm vm' ∧ vm'.1 187 288 = nI (N - 1) ∧ (∀ s, s < 11 → vm'.1 187 (240 + s) = (if b ≤ s ∧ s < N - 1 then vm.1 187 (240 + (s + 1)) else vm.1 187 (240 + s)) ∧ vm'.1 187 (252 + s) = (if b ≤ s ∧ s < N - 1 then vm.1 187 (252 + (s + 1)) else vm.1 187 (252 + s)) ∧ vm'.1 187 (264 + s) = (if b ≤ s ∧ s < N - 1 then vm.1 187 (264 + (s + 1)) else vm.1 187 (264 + s)) ∧ vm'.1 187 (276 + s) = (if b ≤ s ∧ s < N - 1 then vm.1 187 (276 + (s + 1)) else vm.1 187 (276 + s))) := by
  obtain ⟨m1, em1⟩ : ∃ w, w = rI vm 187 288 (nI (N - 1)) := ⟨_, rfl⟩
  have q1 : Ch (fun k j => k = 187 ∧ j = 288) vm m1 := by rw [em1]; exact Ch.rf.I ⟨rfl, rfl⟩
  obtain ⟨vm', g1, g2, g3⟩ := rm_go (N - 1 - b) b 20000 (N - 1) m1 (by omega) (by omega) (by omega) (by rw [em1, rI_at])
  refine ⟨vm', ?_, (q1.mono fun k j q => by omega).tr (g2.mono fun k j q => by omega), ?_, fun s hs => ?_⟩
  · unfold f_X8_remove
    rw [e, show nI N - 1 = nI (N - 1) from niSub (a := N) (b := 1) (by omega), ← em1, vlet_eq]
    exact g1
  · rw [g2.1 _ _ (by omega), em1, rI_at]
  · have k := g3 s (by omega)
    have w : ∀ j, j < 288 → m1.1 187 j = vm.1 187 j := fun j hj => q1.1 _ _ (by omega)
    rwa [w (240 + s) (by omega), w (240 + (s + 1)) (by omega), w (252 + s) (by omega), w (252 + (s + 1)) (by omega), w (264 + s) (by omega), w (264 + (s + 1)) (by omega), w (276 + s) (by omega), w (276 + (s + 1)) (by omega)] at k
