/-! FAULT AND TEXT -/
theorem LawK.rng {S T : Nat → Nat → Prop} {kf n : Nat} {vc vm wc wm : rV} (h : LawK kf n vc vm) (hc : Ch S vc wc) (hm : Ch T vm wm) (s1 : ∀ j, ¬ S (kf + 1) j) (s2 : ¬ S kf 2) (t1 : ∀ j, 340 * n ≤ j → j < 340 * n + 340 → ¬ T 176 j ∧ ¬ T 177 j) (t2 : ¬ T 179 n) (t3 : ∀ k j, 180 ≤ k → k ≤ 182 → 90 * n ≤ j → j < 90 * n + 90 → ¬ T k j) : LawK kf n wc wm := fun uc um kl a1 a2 a3 a4 a5 a6 a7 => by
  refine h uc um kl (fun j => (a1 j).trans (hc.1 _ _ (s1 j))) (a2.trans (hc.1 _ _ s2)) (fun j h1 h2 => ?_) ?_ (fun j h1 h2 => ?_) a6 a7
  · have := a3 j h1 h2
    rwa [hm.1 176 j (t1 j h1 h2).1, hm.1 177 j (t1 j h1 h2).2] at this
  · rwa [hm.1 179 n t2] at a4
  · have := a5 j h1 h2
    rwa [hm.1 180 j (t3 _ _ (by omega) (by omega) h1 h2), hm.1 181 j (t3 _ _ (by omega) (by omega) h1 h2), hm.1 182 j (t3 _ _ (by omega) (by omega) h1 h2)] at this
theorem Ri.ch {S T : Nat → Nat → Prop} {M tb nl : Nat} {vc vm wc wm : rV} (h : Ri M tb nl vc vm) (hc : Ch S vc wc) (hm : Ch T vm wm) (s0 : ¬ S 0 16) (s1 : ∀ k j, 136 ≤ k → k < 174 → ¬ S k j) (t0 : ¬ T 174 30) (t1 : ∀ j, ¬ T 189 j) (t2 : ¬ T 174 1000029) (t3 : ∀ j, j < 12 * M → ¬ T 185 j) : Ri M tb nl wc wm := by
  have z0 : wc.1 0 16 = vc.1 0 16 := hc.1 _ _ s0
  have z1 : wm.1 174 30 = vm.1 174 30 := hm.1 _ _ t0
  unfold Ri
  rw [z0, z1]
  rcases h with i | ⟨i1, i2, i3, i4⟩
  · exact Or.inl i
  · exact Or.inr ⟨i1, i2, i3.ch hc hm (fun k j h1 h2 => s1 _ _ (by omega) (by omega)) (fun j _ => t1 _) t2 t3, i4.ch hc hm (s1 _ _ (by omega) (by omega)) (t1 _) (t1 _)⟩
/-- what reading touches keeps all but laws, wants and the tape -/
theorem rest_ch {S T : Nat → Nat → Prop} {nl nw nd p tb : Nat} {vc vm wc wm : rV} (hE : Re nl nw nd p tb vc vm) (hS : ST nd 60 tb vc vm) (hL : LPq 60 nl 187 vc vm) (hc : Ch S vc wc) (hm : Ch T vm wm) (s : ∀ k j, S k j → k = 1 ∨ (3 ≤ k ∧ k ≤ 36)) (t : ∀ k j, T k j → (k = 174 ∧ j ≤ 16) ∨ (176 ≤ k ∧ k ≤ 182)) : Rd nd wc wm ∧ Rs wc wm ∧ Rp p wc wm ∧ Ri nd tb nl wc wm ∧ Rf wc ∧ ST nd 60 tb wc wm ∧ LPq 60 nl 187 wc wm := by
  have sn : ∀ k j, ¬ (k = 1 ∨ (3 ≤ k ∧ k ≤ 36)) → ¬ S k j := fun k j q z => q (s k j z)
  have tn : ∀ k j, ¬ ((k = 174 ∧ j ≤ 16) ∨ (176 ≤ k ∧ k ≤ 182)) → ¬ T k j := fun k j q z => q (t k j z)
  obtain ⟨-, -, -, d, f, g, i, j⟩ := hE
  exact ⟨d.ch hc hm (sn _ _ (by omega)) (fun k j _ _ _ => sn _ _ (by omega)) (tn _ _ (by omega)) (fun j => tn _ _ (by omega)) (fun j _ => tn _ _ (by omega)), f.ch hc hm (sn _ _ (by omega)) (fun k j _ _ _ => sn _ _ (by omega)) (tn _ _ (by omega)) (fun j _ => tn _ _ (by omega)), g.ch hc hm (sn _ _ (by omega)) (tn _ _ (by omega)), i.ch hc hm (sn _ _ (by omega)) (fun k j _ _ => sn _ _ (by omega)) (tn _ _ (by omega)) (fun j => tn _ _ (by omega)) (tn _ _ (by omega)) (fun j _ => tn _ _ (by omega)), j.ch hc (fun _ _ => sn _ _ (by omega)) (fun _ _ => sn _ _ (by omega)), hS.ch hc hm (fun k j _ _ => sn _ _ (by omega)) (fun j _ => tn _ _ (by omega)) (tn _ _ (by omega)) (fun j _ => tn _ _ (by omega)), hL.ch hc hm (sn _ _ (by omega)) (tn _ _ (by omega)) (tn _ _ (by omega))⟩
theorem srd_no {k j : Nat} (h : Srd k j) : 3 ≤ k ∧ k ≤ 5 := by unfold Srd at h; omega
theorem trd_no {T k j : Nat} (h : Trd T k j) : (k = 174 ∧ (j = 3 ∨ j = 4 ∨ j = 5 ∨ j = 15 ∨ j = 16)) ∨ ((k = 176 ∨ k = 177) ∧ 340 * T ≤ j ∧ j < 340 * T + 340) ∨ ((k = 178 ∨ k = 179) ∧ j = T) ∨ ((180 ≤ k ∧ k ≤ 182) ∧ 90 * T ≤ j ∧ j < 90 * T + 90) := h
/-- the laws and wants that are kept stay, whatever other text is read -/
theorem laws_rd {S : Nat → Nat → Prop} {nl T0 : Nat} {X : Nat → Nat → Prop} {vc vm wc wm : rV} (h : Rl nl vc vm) (hc : Ch S vc wc) (hm : Ch (fun k j => Trd T0 k j ∨ X k j) vm wm) (hX : ∀ k j, X k j → k = 174) (s : ∀ n j, n < nl → ¬ S (12 + 3 * n) j ∧ ¬ S (11 + 3 * n) 2) (hT : nl ≤ T0) : ∀ n, n < nl → LawK (11 + 3 * n) n wc wm := fun n hn => by
  have tn : ∀ k j, k ≠ 174 → ¬ Trd T0 k j → ¬ (Trd T0 k j ∨ X k j) := fun k j q1 q2 z => by
    rcases z with z | z
    · exact q2 z
    · exact q1 (hX k j z)
  exact (h.2.2.2 n hn).rng hc hm (fun j => by rw [show 11 + 3 * n + 1 = 12 + 3 * n by omega]; exact (s n j hn).1) (s n 0 hn).2 (fun j h1 h2 => ⟨tn _ _ (by omega) (by unfold Trd; omega), tn _ _ (by omega) (by unfold Trd; omega)⟩) (tn _ _ (by omega) (by unfold Trd; omega)) (fun k j h1 h2 h3 h4 => tn _ _ (by omega) (by unfold Trd; omega))
theorem wants_rd {S : Nat → Nat → Prop} {nw T0 : Nat} {X : Nat → Nat → Prop} {vc vm wc wm : rV} (h : Rwn nw vc vm) (hc : Ch S vc wc) (hm : Ch (fun k j => Trd T0 k j ∨ X k j) vm wm) (hX : ∀ k j, X k j → k = 174) (s : ∀ n j, n < nw → ¬ S (26 + 3 * n) j ∧ ¬ S (25 + 3 * n) 2) (hT : ∀ w, w < nw → 4 + w ≠ T0) : ∀ w, w < nw → WantK (25 + 3 * w) w wc wm := fun w hw => by
  have tn : ∀ k j, k ≠ 174 → ¬ Trd T0 k j → ¬ (Trd T0 k j ∨ X k j) := fun k j q1 q2 z => by
    rcases z with z | z
    · exact q2 z
    · exact q1 (hX k j z)
  have := hT w hw
  exact (h.2.2.2 w hw).ch hc hm (fun j => by rw [show 25 + 3 * w + 1 = 26 + 3 * w by omega]; exact (s w j hw).1) (s w 0 hw).2 (fun j h1 h2 => ⟨tn _ _ (by omega) (by unfold Trd; omega), tn _ _ (by omega) (by unfold Trd; omega)⟩) (tn _ _ (by omega) (by unfold Trd; omega))
/-- a law or a want read, nothing kept of it -/
theorem read_keeps {nl nw nd p tb T0 : Nat} {vc vm wc wm : rV} (hE : Re nl nw nd p tb vc vm) (hS : ST nd 60 tb vc vm) (hL : LPq 60 nl 187 vc vm) (hc : Ch Srd vc wc) (hm : Ch (Trd T0) vm wm) (h1 : nl ≤ T0) (h2 : ∀ w, w < nw → 4 + w ≠ T0) : Rel tb wc wm := by
  have sn : ∀ k j, ¬ (3 ≤ k ∧ k ≤ 5) → ¬ Srd k j := fun k j q z => q (srd_no z)
  have hm2 : Ch (fun k j => Trd T0 k j ∨ (fun _ _ => False) k j) vm wm := hm.mono fun _ _ q => Or.inl q
  obtain ⟨b1, b2, b3, b4, b5, b6, b7⟩ := rest_ch hE hS hL hc hm (fun k j q => by have := srd_no q; omega) (fun k j q => by have := trd_no q; omega)
  have l4 := hE.2.1.1
  have w4 := hE.2.2.1.1
  refine ⟨nl, nw, nd, p, ⟨hE.1.ch hc hm (sn _ _ (by omega)) (fun j => sn _ _ (by omega)) (by unfold Trd; omega) (fun j => by unfold Trd; omega), ⟨l4, ?_, ?_, laws_rd hE.2.1 hc hm2 (fun _ _ q => q.elim) (fun n j hn => ⟨sn _ _ (by omega), sn _ _ (by omega)⟩) h1⟩, ⟨w4, ?_, ?_, wants_rd hE.2.2.1 hc hm2 (fun _ _ q => q.elim) (fun n j hn => ⟨sn _ _ (by omega), sn _ _ (by omega)⟩) h2⟩, b1, b2, b3, b4, b5⟩, b6, b7⟩
  · rw [hc.1 _ _ (sn _ _ (by omega))]; exact hE.2.1.2.1
  · rw [hm.1 _ _ (by unfold Trd; omega)]; exact hE.2.1.2.2.1
  · rw [hc.1 _ _ (sn _ _ (by omega))]; exact hE.2.2.1.2.1
  · rw [hm.1 _ _ (by unfold Trd; omega)]; exact hE.2.2.1.2.2.1
theorem srd_cc {v w : rV} (h : Ch Srd v w) : Ch Cc v w := h.mono fun k j q => by have := srd_no q; unfold Cc; omega
theorem trd_cm {T : Nat} {v w : rV} (h : Ch (Trd T) v w) : Ch Cm v w := h.mono fun k j q => by have := trd_no q; unfold Cm; omega
theorem sdr_cc {v w : rV} (h : Ch Sdr v w) : Ch Cc v w := h.mono fun k j q => by unfold Sdr at q; unfold Cc; omega
theorem tdr_cm {d : Nat} {v w : rV} (h : Ch (Tdr d) v w) : Ch Cm v w := h.mono fun k j q => by unfold Tdr at q; unfold Cm; omega
theorem IX.up {M M' B tb R s : Nat} {vc vm : rV} (h : IX M B tb R s vc vm) (e : M ≤ M') : IX M' B tb R s vc vm := by
  obtain ⟨w, a, b, c, d⟩ := h
  refine ⟨(fun k j => if k = 185 then vm.1 185 j else w.1 k j, w.2.1, w.2.2), (a.ext (S := fun _ _ => False) (wm := (fun k j => if k = 185 then vm.1 185 j else w.1 k j, w.2.1, w.2.2)) Ch.rf (fun _ _ _ _ q => q) (fun j _ => ?_) rfl (fun j hj => ?_)).mono (Nat.le_refl _) e, fun j hj => ?_, c, fun j hj => ?_⟩
  · show (if 187 = 185 then vm.1 185 j else w.1 187 j) = w.1 187 j
    rw [if_neg (by decide)]
  · show (if 185 = 185 then vm.1 185 j else w.1 185 j) = w.1 185 j
    rw [if_pos rfl, d j hj]
  · show (if 187 = 185 then vm.1 185 j else w.1 187 j) = vm.1 R j
    rw [if_neg (by decide)]; exact b j hj
  · show (if 185 = 185 then vm.1 185 j else w.1 185 j) = vm.1 185 j
    rw [if_pos rfl]
theorem Ri.up {M M' tb nl : Nat} {vc vm : rV} (h : Ri M tb nl vc vm) (e : M ≤ M') : Ri M' tb nl vc vm := by
  rcases h with h | ⟨h1, h2, h3, h4⟩
  · exact Or.inl h
  · exact Or.inr ⟨h1, h2, h3.up e, h4⟩
theorem DR.rng {T : Nat → Nat → Prop} {vm wm : rV} {N : Nat} (h : DR vm N) (hm : Ch T vm wm) (t2 : ∀ j, j < 12 * N → ¬ T 185 j) : N ≤ 12 ∧ ∀ d, d < N → TD wm 185 (12 * d) ∧ tv wm d 0 + tv wm d 1 ≤ 24 := by
  obtain ⟨a, b, c⟩ := h
  exact ⟨a, fun d hd => ⟨(c d hd).1.ch hm fun j hj => t2 _ (by omega), by unfold tv; rw [hm.1 _ _ (t2 _ (by omega)), hm.1 _ _ (t2 _ (by omega))]; exact (c d hd).2⟩⟩
/-- a drop read, nothing kept of it -/
theorem dread_keeps {nl nw nd p tb d : Nat} {vc vm wc wm : rV} (hE : Re nl nw nd p tb vc vm) (hS : ST nd 60 tb vc vm) (hL : LPq 60 nl 187 vc vm) (hc : Ch Sdr vc wc) (hm : Ch (Tdr d) vm wm) (h1 : nd ≤ d) : Rel tb wc wm := by
  have sn : ∀ k j, ¬ (7 ≤ k ∧ k ≤ 8) → ¬ Sdr k j := fun k j q z => q (by unfold Sdr at z; omega)
  obtain ⟨a, b, c, dd, f, g, i, j⟩ := hE
  obtain ⟨r1, r2⟩ := dd.1.rng hm (fun j hj => by unfold Tdr; omega)
  refine ⟨nl, nw, nd, p, ⟨a.ch hc hm (sn _ _ (by omega)) (fun j => sn _ _ (by omega)) (by unfold Tdr; omega) (fun j => by unfold Tdr; omega), b.ch hc hm (sn _ _ (by omega)) (fun n j hn => ⟨sn _ _ (by omega), sn _ _ (by omega)⟩) (by unfold Tdr; omega) (fun k j _ _ _ => by unfold Tdr; omega), c.ch hc hm (sn _ _ (by omega)) (fun n j hn => ⟨sn _ _ (by omega), sn _ _ (by omega)⟩) (by unfold Tdr; omega) (fun k j _ _ _ => by unfold Tdr; omega), ⟨⟨r1, by rw [hm.1 _ _ (by unfold Tdr; omega)]; exact dd.1.2.1, r2⟩, ⟨by rw [hc.1 _ _ (sn _ _ (by omega))]; exact dd.2.1.1, fun e he j hj => by rw [hc.1 _ _ (sn _ _ (by omega)), hm.1 _ _ (by unfold Tdr; omega)]; exact dd.2.1.2 e he j hj⟩, fun e he => by rw [hc.1 _ _ (sn _ _ (by omega)), hm.1 _ _ (by unfold Tdr; omega)]; exact dd.2.2.1 e he, fun e h1 h2 => by rw [hc.1 _ _ (sn _ _ (by omega))]; exact dd.2.2.2 e h1 h2⟩, f.ch hc hm (sn _ _ (by omega)) (fun k j _ _ _ => sn _ _ (by omega)) (by unfold Tdr; omega) (fun j _ => by unfold Tdr; omega), g.ch hc hm (sn _ _ (by omega)) (by unfold Tdr; omega), i.ch hc hm (sn _ _ (by omega)) (fun k j _ _ => sn _ _ (by omega)) (by unfold Tdr; omega) (fun j => by unfold Tdr; omega) (by unfold Tdr; omega) (fun j hj => by unfold Tdr; omega), j.ch hc (fun _ _ => sn _ _ (by omega)) (fun _ _ => sn _ _ (by omega))⟩, hS.ch hc hm (fun k j _ _ => sn _ _ (by omega)) (fun j _ => by unfold Tdr; omega) (by unfold Tdr; omega) (fun j hj => by unfold Tdr; omega), hL.ch hc hm (sn _ _ (by omega)) (by unfold Tdr; omega) (by unfold Tdr; omega)⟩
theorem fault_op {tb : Nat} {vc vm : rV} (h : Rel tb vc vm) (a : Int32) : Agree tb vc vm (f_X7_fault vc a) (f_X8_fault vm a) := by
  obtain ⟨nl, nw, nd, p, hE, hS, hL⟩ := h
  have hR : Rel tb vc vm := ⟨nl, nw, nd, p, hE, hS, hL⟩
  have l4 := hE.2.1.1
  have w4 := hE.2.2.1.1
  have d12 := hE.2.2.2.1.1.1
  unfold f_X7_fault f_X8_fault
  by_cases c0 : a = 0
  · obtain ⟨q, r, wc, wm, -, -, x1, x2, x3, x4, -⟩ := law_go (T := 8) (by omega) hE.1
    rw [if_pos c0, if_pos c0, x1, show f_X8_readLaw vm 8 = some (r, wm) from x2, Option.bind_some, Option.bind_some]
    exact ⟨r, wc, wm, rfl, rfl, read_keeps hE hS hL x3 x4 (by omega) (fun w hw => by omega), srd_cc x3, trd_cm x4⟩
  rw [if_neg c0, if_neg c0]
  by_cases c1 : a = 1
  · obtain ⟨q, r, wc, wm, -, -, x1, x2, x3, x4, -⟩ := want_go (T := 8) (by omega) hE.1
    rw [if_pos c1, if_pos c1, x1, show f_X8_readWant vm 8 = some (r, wm) from x2, Option.bind_some, Option.bind_some]
    exact ⟨r, wc, wm, rfl, rfl, read_keeps hE hS hL x3 x4 (by omega) (fun w hw => by omega), srd_cc x3, trd_cm x4⟩
  rw [if_neg c1, if_neg c1]
  by_cases c2 : a = 2
  · obtain ⟨r, wc, wm, x1, x2, x3, x4, -⟩ := dropread_go (d := 12) (by omega) hE.1
    rw [if_pos c2, if_pos c2, x1, show f_X8_readDrop vm 12 = some (r, wm) from x2, Option.bind_some, Option.bind_some]
    exact ⟨r, wc, wm, rfl, rfl, dread_keeps hE hS hL x3 x4 d12, sdr_cc x3, tdr_cm x4⟩
  rw [if_neg c2, if_neg c2]
  exact Agree.same hR
theorem Rt0 {vc vm : rV} (e1 : vc.1 1 1 = 0) (e2 : vm.1 174 2 = 0) : Rt vc vm := ⟨0, by omega, by rw [e1]; rfl, by rw [e2]; rfl, fun j hj => by omega⟩
theorem keep_eq {b n : Nat} {v : rV} (hb : b = 9 ∨ b = 23) (hn : n < 4) (e : v.1 b 1 = nI n) : f_X4_keep v b 4 = some (nI n, rI (rI (rCp v (b + 2 + 3 * n + 1) 5 0 0 162) (b + 2 + 3 * n) 2 (v.1 4 2)) b 1 (nI (n + 1))) := by
  unfold f_X4_keep f_X2_copy
  rw [e, if_pos (show nI n < (4 : Int32) from plt (b := 4) hn (by omega)), if_pos (gin hn (by omega)), niCl (show n < 2147483648 by omega), vlet_eq, vlet_eq, Option.bind_some, vlet_eq]
  have e4 : (rCp v (b + 2 + 3 * n + 1) (4 + 1) 0 0 162).1 4 2 = v.1 4 2 := by rw [rCp_at, if_neg (by omega)]
  rw [e4, rI_no (k := b + 2 + 3 * n) (j := 2) (a := b) (b := 1) (by omega), rCp_at, if_neg (by omega), e, ad1, rI_at, show nI (n + 1) - 1 = nI n from niSub (a := n + 1) (b := 1) (by omega)]
theorem keep_no {b : Nat} {v : rV} (e : v.1 b 1 = nI 4) : f_X4_keep v b 4 = some (-1, v) := by
  unfold f_X4_keep
  rw [e, if_neg (by decide)]
theorem nI_n1 {n : Nat} (h : n < 1000) : ¬ nI n = (-1 : Int32) := fun y => by
  have := congrArg Int32.toInt y
  rw [niInt (by omega), show (-1 : Int32).toInt = -1 from rfl] at this
  omega
