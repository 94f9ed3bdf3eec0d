/-! TEXT: read, and kept on its shelf -/
def Skp (b n : Nat) : Nat → Nat → Prop := fun k j => Srd k j ∨ k = b + 2 + 3 * n + 1 ∨ (k = b + 2 + 3 * n ∧ j = 2) ∨ (k = b ∧ j = 1) ∨ (k = 1 ∧ j = 1)
theorem skp_no {b n k j : Nat} (h : Skp b n k j) : (3 ≤ k ∧ k ≤ 5) ∨ k = b + 2 + 3 * n + 1 ∨ (k = b + 2 + 3 * n ∧ j = 2) ∨ (k = b ∧ j = 1) ∨ (k = 1 ∧ j = 1) := h.imp (fun q => srd_no q) id
def kpt (b n : Nat) (w : rV) : rV := rI (rI (rI (rCp w (b + 2 + 3 * n + 1) 5 0 0 162) (b + 2 + 3 * n) 2 (w.1 4 2)) b 1 (nI (n + 1))) 1 1 0
theorem keep_ch {b n : Nat} {v w : rV} (h : Ch Srd v w) : Ch (Skp b n) v (kpt b n w) := by
  unfold kpt
  refine ((((h.mono fun k j q => Or.inl q).cp fun j _ => ?_).I ?_).I ?_).I ?_
  · exact Or.inr (Or.inl rfl)
  · exact Or.inr (Or.inr (Or.inl ⟨rfl, rfl⟩))
  · exact Or.inr (Or.inr (Or.inr (Or.inl ⟨rfl, rfl⟩)))
  · exact Or.inr (Or.inr (Or.inr (Or.inr ⟨rfl, rfl⟩)))
theorem keep_at {b n j : Nat} {w : rV} (hb : 3 ≤ b) (hj : j < 162) : (kpt b n w).1 (b + 2 + 3 * n + 1) j = w.1 5 j := by
  unfold kpt
  rw [rI_no (by omega), rI_no (by omega), rI_no (by omega), rCp_at, if_pos ⟨rfl, hj⟩]
theorem keep_l {b n : Nat} {w : rV} (hb : 3 ≤ b) : (kpt b n w).1 (b + 2 + 3 * n) 2 = w.1 4 2 := by
  unfold kpt
  rw [rI_no (by omega), rI_no (by omega), rI_at]
theorem keep_s {b n : Nat} {w : rV} (hb : 3 ≤ b) : (kpt b n w).1 b 1 = nI (n + 1) := by
  unfold kpt
  rw [rI_no (by omega), rI_at]
theorem text_c {vc wc : rV} {r a : Int32} (x : f_X7_fault vc a = some (r, wc)) : f_X7_text vc a = if r = (-1 : Int32) then (if a = (2 : Int32) then (f_X7_keepDrop wc).bind fun p6 => f_X7_text_48 p6.2 p6.1 else (if a = 0 then f_X7_text_38 wc 9 else f_X7_text_38 wc 23)) else some ((-1 : Int32), wc) := by
  unfold f_X7_text
  rw [x, Option.bind_some]
theorem text_no {b : Nat} {wc : rV} (e : wc.1 b 1 = nI 4) : f_X7_text_38 wc b = some (-1, wc) := by
  unfold f_X7_text_38
  rw [keep_no e, Option.bind_some]
  unfold f_X7_text_48
  exact if_pos rfl
theorem text_yes {b n : Nat} {wc : rV} (hb : b = 9 ∨ b = 23) (hn : n < 4) (e : wc.1 b 1 = nI n) : f_X7_text_38 wc b = some (nI n, kpt b n wc) := by
  unfold f_X7_text_38
  rw [keep_eq hb hn e, Option.bind_some]
  unfold f_X7_text_48
  rw [if_neg (nI_n1 (by omega)), vlet_eq]
  rfl
theorem tail_0 (v : rV) : f_X8_text_46 v 0 = some (-1, v) := by
  unfold f_X8_text_46 f_X8_text_95
  rw [if_neg (by decide), if_neg (by decide)]
theorem tail_1 (v : rV) : f_X8_text_95 v 1 = some (-1, v) := by
  unfold f_X8_text_95
  rw [if_neg (by decide)]
theorem nl4 {n : Nat} (h : n < 4) : ¬ (4 : Int32) ≤ nI n := Int32.not_le.mpr (plt (b := 4) h (by omega))
theorem text_law {tb : Nat} {vc vm : rV} (h : Rel tb vc vm) : Agree tb vc vm (f_X7_text vc 0) (f_X8_text vm 0) := by
  obtain ⟨nl, nw, nd, p, hE, hS, hL⟩ := h
  have l4 := hE.2.1.1
  have w4 := hE.2.2.1.1
  have l91 := hE.2.1.2.1
  have l13 := hE.2.1.2.2.1
  by_cases full : nl = 4
  · obtain ⟨q, r, wc, wm, -, -, x1, -, x3, x4, -⟩ := law_go (T := 8) (by omega) hE.1
    have hf : f_X7_fault vc 0 = some (r, wc) := by
      unfold f_X7_fault
      rw [if_pos rfl, x1, Option.bind_some]
    have hc : f_X7_text vc 0 = some (-1, wc) := by
      rw [text_c hf]
      by_cases hr : r = -1
      · rw [if_pos hr, if_neg (by decide), if_pos rfl]
        exact text_no (by rw [x3.1 9 1 (by unfold Srd; omega), l91, full])
      · rw [if_neg hr]
    have hm : f_X8_text vm 0 = some (-1, vm) := by
      unfold f_X8_text
      rw [if_pos rfl, l13, full, if_pos (by decide)]
      exact tail_0 vm
    exact ⟨-1, wc, vm, hc, hm, read_keeps hE hS hL x3 (Ch.rf : Ch (Trd 8) vm vm) (by omega) (fun w hw => by omega), srd_cc x3, Ch.rf⟩
  · have n4 : nl < 4 := by omega
    obtain ⟨q, r, wc, wm, qT, qW, x1, x2, x3, x4, x5⟩ := law_go (T := nl) (by omega) hE.1
    have hf : f_X7_fault vc 0 = some (r, wc) := by
      unfold f_X7_fault
      rw [if_pos rfl, x1, Option.bind_some]
    have hm0 : f_X8_text vm 0 = if r = (-1 : Int32) then (vlet (rI wm 174 2 (0 : Int32)) fun v16 => vlet (rI v16 174 13 ((v16.1 174 13) + (1 : Int32))) fun v17 => some ((v17.1 174 13) - (1 : Int32), v17)) else f_X8_text_46 wm 0 := by
      unfold f_X8_text
      rw [if_pos rfl, l13, if_neg (nl4 n4), x2, Option.bind_some]
    by_cases hr : r = -1
    · have e9 : wc.1 9 1 = nI nl := (x3.1 9 1 (by unfold Srd; omega)).trans l91
      have hc : f_X7_text vc 0 = some (nI nl, kpt 9 nl wc) := by
        rw [text_c hf, if_pos hr, if_neg (by decide), if_pos rfl]
        exact text_yes (Or.inl rfl) n4 e9
      have e13 : (rI wm 174 2 0).1 174 13 = nI nl := by
        rw [rI_no (by omega), x4.1 174 13 (by unfold Trd; omega)]
        exact l13
      have hm : f_X8_text vm 0 = some (nI nl, rI (rI wm 174 2 0) 174 13 (nI (nl + 1))) := by
        rw [hm0, if_pos hr, vlet_eq, e13, ad1, vlet_eq, rI_at, show nI (nl + 1) - 1 = nI nl from niSub (a := nl + 1) (b := 1) (by omega)]
      have hc3 : Ch (Skp 9 nl) vc (kpt 9 nl wc) := keep_ch x3
      have hm3 : Ch (fun k j => Trd nl k j ∨ (fun k j => k = 174 ∧ (j = 2 ∨ j = 13)) k j) vm (rI (rI wm 174 2 0) 174 13 (nI (nl + 1))) := ((x4.mono fun _ _ q => Or.inl q).I (Or.inr ⟨rfl, Or.inl rfl⟩)).I (Or.inr ⟨rfl, Or.inr rfl⟩)
      have hN : ∀ k j, k ≠ 174 → (rI (rI wm 174 2 0) 174 13 (nI (nl + 1))).1 k j = wm.1 k j := fun k j h => by rw [rI_no (by omega), rI_no (by omega)]
      have h13 : (rI (rI wm 174 2 0) 174 13 (nI (nl + 1))).1 174 13 = nI (nl + 1) := rI_at _ _ _ _
      have h2 : (rI (rI wm 174 2 0) 174 13 (nI (nl + 1))).1 174 2 = 0 := by rw [rI_no (by omega), rI_at]
      have hk : (kpt 9 nl wc).1 1 1 = 0 := rI_at _ _ _ _
      have hs := keep_s (b := 9) (n := nl) (w := wc) (by omega)
      have hat : ∀ j, j < 162 → (kpt 9 nl wc).1 (11 + 3 * nl + 1) j = wc.1 5 j := fun j hj => keep_at (b := 9) (n := nl) (w := wc) (by omega) hj
      have hal : (kpt 9 nl wc).1 (11 + 3 * nl) 2 = wc.1 4 2 := keep_l (b := 9) (n := nl) (w := wc) (by omega)
      obtain ⟨b1, b2, b3, b4, b5, b6, b7⟩ := rest_ch hE hS hL hc3 hm3 (fun k j q => by have := skp_no q; omega) (fun k j q => by
        rcases q with q | q
        · have := trd_no q; omega
        · exact Or.inl ⟨q.1, by omega⟩)
      generalize kpt 9 nl wc = w3 at hc hc3 hk hs hat hal b1 b2 b3 b4 b5 b6 b7
      generalize rI (rI wm 174 2 0) 174 13 (nI (nl + 1)) = m3 at hm hm3 hN h13 h2 b1 b2 b3 b4 b5 b6 b7
      have hlaws : ∀ n, n < nl + 1 → LawK (11 + 3 * n) n w3 m3 := fun n hn => by
        rcases Nat.lt_or_ge n nl with q1 | q1
        · exact laws_rd hE.2.1 hc3 hm3 (fun _ _ q => q.1) (fun n j hn => ⟨fun z => by have := skp_no z; omega, fun z => by have := skp_no z; omega⟩) (Nat.le_refl _) n q1
        · obtain rfl : n = nl := by omega
          have := lawK_of (kf := 11 + 3 * n) (vc0 := w3) (vm0 := m3) qW (by omega) (x5 hr) hat hal (fun k j _ _ => hN k j (by omega))
          rwa [qT] at this
      have hwants : ∀ w, w < nw → WantK (25 + 3 * w) w w3 m3 := wants_rd hE.2.2.1 hc3 hm3 (fun _ _ q => q.1) (fun n j hn => ⟨fun z => by have := skp_no z; omega, fun z => by have := skp_no z; omega⟩) (fun w hw => by omega)
      refine ⟨nI nl, w3, m3, hc, hm, ⟨nl + 1, nw, nd, p, ⟨Rt0 hk h2, ⟨by omega, hs, h13, hlaws⟩, ⟨w4, ?_, ?_, hwants⟩, b1, b2, b3, b4.mono (Nat.le_refl _) (by omega), b5⟩, b6, b7.mono (by omega)⟩, ?_, ?_⟩
      · rw [hc3.1 23 1 (fun z => by have := skp_no z; omega)]; exact hE.2.2.1.2.1
      · rw [hm3.1 174 14 (by unfold Trd; omega)]; exact hE.2.2.1.2.2.1
      · exact hc3.mono fun k j z => by have := skp_no z; unfold Cc; omega
      · exact hm3.mono fun k j z => by
          rcases z with z | z
          · have := trd_no z; unfold Cm; omega
          · unfold Cm; omega
    · have hc : f_X7_text vc 0 = some (-1, wc) := by rw [text_c hf, if_neg hr]
      have hm : f_X8_text vm 0 = some (-1, wm) := by rw [hm0, if_neg hr]; exact tail_0 wm
      exact ⟨-1, wc, wm, hc, hm, read_keeps hE hS hL x3 x4 (Nat.le_refl _) (fun w hw => by omega), srd_cc x3, trd_cm x4⟩
theorem text_want {tb : Nat} {vc vm : rV} (h : Rel tb vc vm) : Agree tb vc vm (f_X7_text vc 1) (f_X8_text vm 1) := by
  obtain ⟨nl, nw, nd, p, hE, hS, hL⟩ := h
  have l4 := hE.2.1.1
  have w4 := hE.2.2.1.1
  have l91 := hE.2.2.1.2.1
  have l13 := hE.2.2.1.2.2.1
  have hm9 : f_X8_text vm 1 = f_X8_text_46 vm 1 := by
    unfold f_X8_text
    exact if_neg (by decide)
  by_cases full : nw = 4
  · obtain ⟨q, r, wc, wm, -, -, x1, -, x3, x4, -⟩ := want_go (T := 8) (by omega) hE.1
    have hf : f_X7_fault vc 1 = some (r, wc) := by
      unfold f_X7_fault
      rw [if_neg (by decide), if_pos rfl, x1, Option.bind_some]
    have hc : f_X7_text vc 1 = some (-1, wc) := by
      rw [text_c hf]
      by_cases hr : r = -1
      · rw [if_pos hr, if_neg (by decide), if_neg (by decide)]
        exact text_no (by rw [x3.1 23 1 (by unfold Srd; omega), l91, full])
      · rw [if_neg hr]
    have hm : f_X8_text vm 1 = some (-1, vm) := by
      rw [hm9]
      unfold f_X8_text_46
      rw [if_pos rfl, l13, full, if_pos (by decide)]
      exact tail_1 vm
    exact ⟨-1, wc, vm, hc, hm, read_keeps hE hS hL x3 (Ch.rf : Ch (Trd 8) vm vm) (by omega) (fun w hw => by omega), srd_cc x3, Ch.rf⟩
  · have n4 : nw < 4 := by omega
    obtain ⟨q, r, wc, wm, qT, qW, x1, x2, x3, x4, x5⟩ := want_go (T := 4 + nw) (by omega) hE.1
    have hf : f_X7_fault vc 1 = some (r, wc) := by
      unfold f_X7_fault
      rw [if_neg (by decide), if_pos rfl, x1, Option.bind_some]
    have hm0 : f_X8_text vm 1 = if r = (-1 : Int32) then (vlet (rI wm 174 2 (0 : Int32)) fun v16 => vlet (rI v16 174 14 ((v16.1 174 14) + (1 : Int32))) fun v17 => some ((v17.1 174 14) - (1 : Int32), v17)) else f_X8_text_95 wm 1 := by
      rw [hm9]
      unfold f_X8_text_46
      rw [if_pos rfl, l13, if_neg (nl4 n4), show (4 : Int32) + nI nw = nI (4 + nw) from niAdd 4 nw, x2, Option.bind_some]
    by_cases hr : r = -1
    · have e9 : wc.1 23 1 = nI nw := (x3.1 23 1 (by unfold Srd; omega)).trans l91
      have hc : f_X7_text vc 1 = some (nI nw, kpt 23 nw wc) := by
        rw [text_c hf, if_pos hr, if_neg (by decide), if_neg (by decide)]
        exact text_yes (Or.inr rfl) n4 e9
      have e13 : (rI wm 174 2 0).1 174 14 = nI nw := by
        rw [rI_no (by omega), x4.1 174 14 (by unfold Trd; omega)]
        exact l13
      have hm : f_X8_text vm 1 = some (nI nw, rI (rI wm 174 2 0) 174 14 (nI (nw + 1))) := by
        rw [hm0, if_pos hr, vlet_eq, e13, ad1, vlet_eq, rI_at, show nI (nw + 1) - 1 = nI nw from niSub (a := nw + 1) (b := 1) (by omega)]
      have hc3 : Ch (Skp 23 nw) vc (kpt 23 nw wc) := keep_ch x3
      have hm3 : Ch (fun k j => Trd (4 + nw) k j ∨ (fun k j => k = 174 ∧ (j = 2 ∨ j = 14)) k j) vm (rI (rI wm 174 2 0) 174 14 (nI (nw + 1))) := ((x4.mono fun _ _ q => Or.inl q).I (Or.inr ⟨rfl, Or.inl rfl⟩)).I (Or.inr ⟨rfl, Or.inr rfl⟩)
      have hN : ∀ k j, k ≠ 174 → (rI (rI wm 174 2 0) 174 14 (nI (nw + 1))).1 k j = wm.1 k j := fun k j h => by rw [rI_no (by omega), rI_no (by omega)]
      have h13 : (rI (rI wm 174 2 0) 174 14 (nI (nw + 1))).1 174 14 = nI (nw + 1) := rI_at _ _ _ _
      have h2 : (rI (rI wm 174 2 0) 174 14 (nI (nw + 1))).1 174 2 = 0 := by rw [rI_no (by omega), rI_at]
      have hk : (kpt 23 nw wc).1 1 1 = 0 := rI_at _ _ _ _
      have hs := keep_s (b := 23) (n := nw) (w := wc) (by omega)
      have hat : ∀ j, j < 162 → (kpt 23 nw wc).1 (25 + 3 * nw + 1) j = wc.1 5 j := fun j hj => keep_at (b := 23) (n := nw) (w := wc) (by omega) hj
      have hal : (kpt 23 nw wc).1 (25 + 3 * nw) 2 = wc.1 4 2 := keep_l (b := 23) (n := nw) (w := wc) (by omega)
      obtain ⟨b1, b2, b3, b4, b5, b6, b7⟩ := rest_ch hE hS hL hc3 hm3 (fun k j q => by have := skp_no q; omega) (fun k j q => by
        rcases q with q | q
        · have := trd_no q; omega
        · exact Or.inl ⟨q.1, by omega⟩)
      generalize kpt 23 nw wc = w3 at hc hc3 hk hs hat hal b1 b2 b3 b4 b5 b6 b7
      generalize rI (rI wm 174 2 0) 174 14 (nI (nw + 1)) = m3 at hm hm3 hN h13 h2 b1 b2 b3 b4 b5 b6 b7
      have hlaws : ∀ n, n < nl → LawK (11 + 3 * n) n w3 m3 := laws_rd hE.2.1 hc3 hm3 (fun _ _ q => q.1) (fun n j hn => ⟨fun z => by have := skp_no z; omega, fun z => by have := skp_no z; omega⟩) (by omega)
      have hwants : ∀ w, w < nw + 1 → WantK (25 + 3 * w) w w3 m3 := fun n hn => by
        rcases Nat.lt_or_ge n nw with q1 | q1
        · exact wants_rd hE.2.2.1 hc3 hm3 (fun _ _ q => q.1) (fun n j hn => ⟨fun z => by have := skp_no z; omega, fun z => by have := skp_no z; omega⟩) (fun w hw => by omega) n q1
        · obtain rfl : n = nw := by omega
          exact wantK_of (kf := 25 + 3 * n) (vc0 := w3) (vm0 := m3) qW (by omega) qT (x5 hr) hat hal (fun k j _ _ => hN k j (by omega))
      refine ⟨nI nw, w3, m3, hc, hm, ⟨nl, nw + 1, nd, p, ⟨Rt0 hk h2, ⟨l4, ?_, ?_, hlaws⟩, ⟨by omega, hs, h13, hwants⟩, b1, b2, b3, b4, b5⟩, b6, b7⟩, ?_, ?_⟩
      · rw [hc3.1 9 1 (fun z => by have := skp_no z; omega)]; exact hE.2.1.2.1
      · rw [hm3.1 174 13 (by unfold Trd; omega)]; exact hE.2.1.2.2.1
      · exact hc3.mono fun k j z => by have := skp_no z; unfold Cc; omega
      · exact hm3.mono fun k j z => by
          rcases z with z | z
          · have := trd_no z; unfold Cm; omega
          · unfold Cm; omega
    · have hc : f_X7_text vc 1 = some (-1, wc) := by rw [text_c hf, if_neg hr]
      have hm : f_X8_text vm 1 = some (-1, wm) := by rw [hm0, if_neg hr]; exact tail_1 wm
      exact ⟨-1, wc, wm, hc, hm, read_keeps hE hS hL x3 x4 (by omega) (fun w hw => by omega), srd_cc x3, trd_cm x4⟩
def Skd (d : Nat) : Nat → Nat → Prop := fun k j => Sdr k j ∨ (k = 38 + d ∧ j < 12) ∨ (k = 0 ∧ j = 13) ∨ (k = 1 ∧ j = 1)
def Tkd (d : Nat) : Nat → Nat → Prop := fun k j => Tdr d k j ∨ (k = 174 ∧ (j = 2 ∨ j = 21)) ∨ (k = 186 ∧ j = d)
def kpd (d : Nat) (w : rV) : rV := rI (rI (rCp w (38 + d) 8 0 0 12) 0 13 (nI (d + 1))) 1 1 0
def kmd (d : Nat) (w : rV) : rV := rI (rI (rI w 174 2 0) 186 d 1) 174 21 (nI (d + 1))
theorem skd_no {d k j : Nat} (h : Skd d k j) : (7 ≤ k ∧ k ≤ 8) ∨ (k = 38 + d ∧ j < 12) ∨ (k = 0 ∧ j = 13) ∨ (k = 1 ∧ j = 1) := h.imp (fun q => by unfold Sdr at q; omega) id
theorem tkd_no {d k j : Nat} (h : Tkd d k j) : (k = 174 ∧ (j = 2 ∨ j = 3 ∨ j = 4 ∨ j = 22 ∨ j = 21)) ∨ (k = 185 ∧ 12 * d ≤ j ∧ j < 12 * d + 12) ∨ (k = 186 ∧ j = d) := by
  unfold Tkd Tdr at h
  omega
theorem drop_rd {nl nw nd p tb : Nat} {vc vm wc wm w3 m3 : rV} (hE : Re nl nw nd p tb vc vm) (hS : ST nd 60 tb vc vm) (hL : LPq 60 nl 187 vc vm) (h12 : nd < 12) (hx : DRX nd wc wm) (hc : Ch (Skd nd) vc w3) (hm : Ch (Tkd nd) vm m3) (hk : w3.1 1 1 = 0) (h2 : m3.1 174 2 = 0) (k13 : w3.1 0 13 = nI (nd + 1)) (m21 : m3.1 174 21 = nI (nd + 1)) (m186 : m3.1 186 nd = 1) (hN : ∀ j, m3.1 185 j = wm.1 185 j) (hat : ∀ j, j < 12 → w3.1 (38 + nd) j = wc.1 8 j) : Rel tb w3 m3 := by
  have sn : ∀ k j, ¬ ((7 ≤ k ∧ k ≤ 8) ∨ (k = 38 + nd ∧ j < 12) ∨ (k = 0 ∧ j = 13) ∨ (k = 1 ∧ j = 1)) → ¬ Skd nd k j := fun k j q z => q (skd_no z)
  have tn : ∀ k j, ¬ ((k = 174 ∧ (j = 2 ∨ j = 3 ∨ j = 4 ∨ j = 22 ∨ j = 21)) ∨ (k = 185 ∧ 12 * nd ≤ j ∧ j < 12 * nd + 12) ∨ (k = 186 ∧ j = nd)) → ¬ Tkd nd k j := fun k j q z => q (tkd_no z)
  obtain ⟨a, b, c, dd, f, g, i, j⟩ := hE
  obtain ⟨q1, q2, q3⟩ := hx
  obtain ⟨-, r2⟩ := dd.1.rng hm (fun j hj => tn _ _ (by omega))
  have hd : Rd (nd + 1) w3 m3 := by
    refine ⟨⟨by omega, m21, fun e he => ?_⟩, ⟨k13, fun e he j hj => ?_⟩, fun e he => ?_, fun e h1 h2 => ?_⟩
    · rcases Nat.lt_or_ge e nd with z | z
      · exact r2 e z
      · obtain rfl : e = nd := by omega
        exact ⟨fun j hj => by rw [hN]; exact q2 j hj, by unfold tv at q3 ⊢; rw [hN, hN]; exact q3⟩
    · rcases Nat.lt_or_ge e nd with z | z
      · rw [hc.1 _ _ (sn _ _ (by omega)), hm.1 _ _ (tn _ _ (by omega))]
        exact dd.2.1.2 e z j hj
      · obtain rfl : e = nd := by omega
        rw [hat j hj, hN]
        exact q1 j hj
    · rcases Nat.lt_or_ge e nd with z | z
      · rw [hc.1 _ _ (sn _ _ (by omega)), hm.1 _ _ (tn _ _ (by omega))]
        exact dd.2.2.1 e z
      · obtain rfl : e = nd := by omega
        rw [hc.1 _ _ (sn _ _ (by omega)), m186]
        exact dd.2.2.2 e (Nat.le_refl _) h12
    · rw [hc.1 _ _ (sn _ _ (by omega))]
      exact dd.2.2.2 e (by omega) h2
  exact ⟨nl, nw, nd + 1, p, ⟨Rt0 hk h2, b.ch hc hm (sn _ _ (by omega)) (fun n j hn => ⟨sn _ _ (by omega), sn _ _ (by omega)⟩) (tn _ _ (by omega)) (fun k j _ _ _ => tn _ _ (by omega)), c.ch hc hm (sn _ _ (by omega)) (fun n j hn => ⟨sn _ _ (by omega), sn _ _ (by omega)⟩) (tn _ _ (by omega)) (fun k j _ _ _ => tn _ _ (by omega)), hd, f.ch hc hm (sn _ _ (by omega)) (fun k j _ _ _ => sn _ _ (by omega)) (tn _ _ (by omega)) (fun j _ => tn _ _ (by omega)), g.ch hc hm (sn _ _ (by omega)) (tn _ _ (by omega)), (i.ch hc hm (sn _ _ (by omega)) (fun k j _ _ => sn _ _ (by omega)) (tn _ _ (by omega)) (fun j => tn _ _ (by omega)) (tn _ _ (by omega)) (fun j hj => tn _ _ (by omega))).up (by omega), j.ch hc (fun _ _ => sn _ _ (by omega)) (fun _ _ => sn _ _ (by omega))⟩, (hS.ch hc hm (fun k j _ _ => sn _ _ (by omega)) (fun j _ => tn _ _ (by omega)) (tn _ _ (by omega)) (fun j hj => tn _ _ (by omega))).mono (Nat.le_refl _) (by omega), hL.ch hc hm (sn _ _ (by omega)) (tn _ _ (by omega)) (tn _ _ (by omega))⟩
theorem text_drop {tb : Nat} {vc vm : rV} (h : Rel tb vc vm) : Agree tb vc vm (f_X7_text vc 2) (f_X8_text vm 2) := by
  obtain ⟨nl, nw, nd, p, hE, hS, hL⟩ := h
  have d12 := hE.2.2.2.1.1.1
  have e21 : vm.1 174 21 = nI nd := hE.2.2.2.1.1.2.1
  have e13 : vc.1 0 13 = nI nd := hE.2.2.2.1.2.1.1
  have hm9 : f_X8_text vm 2 = f_X8_text_95 vm 2 := by
    unfold f_X8_text f_X8_text_46
    rw [if_neg (by decide), if_neg (by decide)]
  by_cases full : nd = 12
  · obtain ⟨r, wc, wm, x1, -, x3, x4, -⟩ := dropread_go (d := 12) (by omega) hE.1
    have hf : f_X7_fault vc 2 = some (r, wc) := by
      unfold f_X7_fault
      rw [if_neg (by decide), if_neg (by decide), if_pos rfl, x1, Option.bind_some]
    have hc : f_X7_text vc 2 = some (-1, wc) := by
      rw [text_c hf]
      by_cases hr : r = -1
      · rw [if_pos hr, if_pos rfl]
        have : f_X7_keepDrop wc = some (-1, wc) := by
          unfold f_X7_keepDrop
          rw [x3.1 0 13 (by unfold Sdr; omega), e13, full, if_neg (by decide)]
        rw [this, Option.bind_some]
        unfold f_X7_text_48
        exact if_pos rfl
      · rw [if_neg hr]
    have hm : f_X8_text vm 2 = some (-1, vm) := by
      rw [hm9]
      unfold f_X8_text_95
      rw [if_pos rfl, e21, full, if_pos (by decide)]
    exact ⟨-1, wc, vm, hc, hm, dread_keeps hE hS hL x3 (Ch.rf : Ch (Tdr 12) vm vm) d12, sdr_cc x3, Ch.rf⟩
  · have n12 : nd < 12 := by omega
    obtain ⟨r, wc, wm, x1, x2, x3, x4, x5⟩ := dropread_go (d := nd) (by omega) hE.1
    have hf : f_X7_fault vc 2 = some (r, wc) := by
      unfold f_X7_fault
      rw [if_neg (by decide), if_neg (by decide), if_pos rfl, x1, Option.bind_some]
    have q12 : nI nd < (12 : Int32) := plt (b := 12) n12 (by omega)
    by_cases hr : r = -1
    · have c13 : wc.1 0 13 = nI nd := (x3.1 0 13 (by unfold Sdr; omega)).trans e13
      have hkd : f_X7_keepDrop wc = some (nI nd, rI (rCp wc (38 + nd) 8 0 0 12) 0 13 (nI (nd + 1))) := by
        unfold f_X7_keepDrop
        rw [c13, if_pos q12, if_pos (gin n12 (by omega)), niCl (show nd < 2147483648 by omega), vlet_eq, show (rCp wc (38 + nd) 8 0 0 12).1 0 13 = nI nd by rw [rCp_at, if_neg (by omega)]; exact c13, ad1, vlet_eq, rI_at, show nI (nd + 1) - 1 = nI nd from niSub (a := nd + 1) (b := 1) (by omega)]
      have hc : f_X7_text vc 2 = some (nI nd, kpd nd wc) := by
        rw [text_c hf, if_pos hr, if_pos rfl, hkd, Option.bind_some]
        unfold f_X7_text_48
        rw [if_neg (nI_n1 (by omega)), vlet_eq]
        rfl
      have m21 : (rI wm 174 2 0).1 174 21 = nI nd := by
        rw [rI_no (by omega), x4.1 174 21 (by unfold Tdr; omega)]
        exact e21
      have hm : f_X8_text vm 2 = some (nI nd, kmd nd wm) := by
        rw [hm9]
        unfold f_X8_text_95
        rw [if_pos rfl, e21, if_neg (Int32.not_le.mpr q12), x2, Option.bind_some, if_pos hr, vlet_eq, m21, if_pos (gin n12 (by omega)), niCl (show nd < 2147483648 by omega), vlet_eq, show (rI (rI wm 174 2 0) 186 nd 1).1 174 21 = nI nd by rw [rI_no (by omega)]; exact m21, ad1, vlet_eq, rI_at, show nI (nd + 1) - 1 = nI nd from niSub (a := nd + 1) (b := 1) (by omega)]
        rfl
      have hc3 : Ch (Skd nd) vc (kpd nd wc) := by
        have q0 : Ch (Skd nd) vc wc := x3.mono fun _ _ q => Or.inl q
        exact ((q0.cp (k := 38 + nd) (k0 := 8) (n := 12) fun j hj => Or.inr (Or.inl ⟨rfl, hj⟩)).I (k := 0) (j := 13) (x := nI (nd + 1)) (Or.inr (Or.inr (Or.inl ⟨rfl, rfl⟩)))).I (k := 1) (j := 1) (x := 0) (Or.inr (Or.inr (Or.inr ⟨rfl, rfl⟩)))
      have hm3 : Ch (Tkd nd) vm (kmd nd wm) := by
        have q0 : Ch (Tkd nd) vm wm := x4.mono fun _ _ q => Or.inl q
        exact ((q0.I (k := 174) (j := 2) (x := 0) (Or.inr (Or.inl ⟨rfl, Or.inl rfl⟩))).I (k := 186) (j := nd) (x := 1) (Or.inr (Or.inr ⟨rfl, rfl⟩))).I (k := 174) (j := 21) (x := nI (nd + 1)) (Or.inr (Or.inl ⟨rfl, Or.inr rfl⟩))
      refine ⟨nI nd, kpd nd wc, kmd nd wm, hc, hm, drop_rd hE hS hL n12 (x5 hr) hc3 hm3 (rI_at _ _ _ _) ?_ ?_ (rI_at _ _ _ _) ?_ (fun j => ?_) (fun j hj => ?_), hc3.mono fun k j z => by have := skd_no z; unfold Cc; omega, hm3.mono fun k j z => by have := tkd_no z; unfold Cm; omega⟩
      · unfold kmd; rw [rI_no (by omega), rI_no (by omega), rI_at]
      · unfold kpd; rw [rI_no (by omega), rI_at]
      · unfold kmd; rw [rI_no (by omega), rI_at]
      · unfold kmd; rw [rI_no (by omega), rI_no (by omega), rI_no (by omega)]
      · unfold kpd; rw [rI_no (by omega), rI_no (by omega), rCp_at, if_pos ⟨rfl, hj⟩]
    · have hc : f_X7_text vc 2 = some (-1, wc) := by rw [text_c hf, if_neg hr]
      have hm : f_X8_text vm 2 = some (-1, wm) := by
        rw [hm9]
        unfold f_X8_text_95
        rw [if_pos rfl, e21, if_neg (Int32.not_le.mpr q12), x2, Option.bind_some, if_neg hr]
      exact ⟨-1, wc, wm, hc, hm, dread_keeps hE hS hL x3 x4 (Nat.le_refl _), sdr_cc x3, tdr_cm x4⟩
theorem text_op {tb : Nat} {vc vm : rV} (h : Rel tb vc vm) (a : Int32) : Agree tb vc vm (f_X7_text vc a) (f_X8_text vm a) := by
  by_cases c0 : a = 0
  · subst c0; exact text_law h
  by_cases c1 : a = 1
  · subst c1; exact text_want h
  by_cases c2 : a = 2
  · subst c2; exact text_drop h
  have hf : f_X7_fault vc a = some (-2, vc) := by
    unfold f_X7_fault
    rw [if_neg c0, if_neg c1, if_neg c2]
  refine ⟨-1, vc, vm, ?_, ?_, h, Ch.rf, Ch.rf⟩
  · rw [text_c hf, if_neg (by decide)]
  · unfold f_X8_text f_X8_text_46 f_X8_text_95
    rw [if_neg c0, if_neg c1, if_neg c2]
