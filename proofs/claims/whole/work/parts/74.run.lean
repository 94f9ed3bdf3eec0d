/-! ONE RUN OF PIECES LANDS -/
def mE (vm : rV) (nb f l o : Nat) : rV := rI (rI (rI (rI (rI (rI vm 187 288 (nI (nb + 1))) 187 (240 + nb) (nI f)) 187 (252 + nb) (nI l)) 187 (264 + nb) (nI o)) 187 (192 + f) 1) 187 (192 + l) 1
theorem land_s {vm : rV} {f l nb : Nat} (hl : l < 24) (hf : f < 24) (hnb : nb < 12) (hN : vm.1 187 288 = nI nb) : ∀ (z : List Pz) (a n o w g h to : Nat), (∀ (i : Nat) p, z[i]? = some p → vm.1 192 (a + i) = nI p.2.2.2.2 ∧ p.2.2.2.2 < 13 ∧ TD vm 185 (12 * p.2.2.2.2)) → a + z.length = to → to ≤ 12 → z.length < n → o ≤ 100 → f_X8_land_48 n vm (nI to) (nI f) (nI l) (nI o) (nI w) (nI g) (nI h) (nI a) = f_X8_land_226 20000 (mE vm nb f l (min o (ow z))) (nI f) (nI l) (nI (min o (ow z))) (nI (w + sW vm 2 z)) (nI (g + sW vm 3 z)) (nI (h + sW vm 4 z)) (nI f) := by
  intro z
  induction z with
  | nil =>
    intro a n o w g h to hz e hto hn ho
    obtain ⟨n, rfl⟩ : ∃ n', n = n' + 1 := ⟨n - 1, by omega⟩
    simp only [List.length_nil, Nat.add_zero] at e
    have e1 : min o (ow []) = o := by simp only [ow]; omega
    rw [f_X8_land_48, if_pos (ple (by omega) (by omega)), e1]
    simp only [sW, Nat.add_zero]
    rw [vlet_eq, hN, ad1, vlet_eq, show (240 : Int32) + nI nb = nI (240 + nb) from niAdd 240 nb, if_pos (gin (show 240 + nb < 416 by omega) (by omega)), niCl (by omega), vlet_eq, show (252 : Int32) + nI nb = nI (252 + nb) from niAdd 252 nb, if_pos (gin (show 252 + nb < 416 by omega) (by omega)), niCl (by omega), vlet_eq, show (264 : Int32) + nI nb = nI (264 + nb) from niAdd 264 nb, if_pos (gin (show 264 + nb < 416 by omega) (by omega)), niCl (by omega), vlet_eq, show (192 : Int32) + nI f = nI (192 + f) from niAdd 192 f, if_pos (gin (show 192 + f < 416 by omega) (by omega)), niCl (by omega), vlet_eq, show (192 : Int32) + nI l = nI (192 + l) from niAdd 192 l, if_pos (gin (show 192 + l < 416 by omega) (by omega)), niCl (by omega), vlet_eq]
    unfold mE
    with_reducible rfl
  | cons p z ih =>
    intro a n o w g h to hz e hto hn ho
    obtain ⟨n, rfl⟩ : ∃ n', n = n' + 1 := ⟨n - 1, by omega⟩
    simp only [List.length_cons] at e hn
    obtain ⟨hd, hdl, htd⟩ := hz 0 p rfl
    rw [Nat.add_zero] at hd
    have t2 := (tv_eq htd (j := 2) (by omega)).1
    have t3 := (tv_eq htd (j := 3) (by omega)).1
    have t4 := (tv_eq htd (j := 4) (by omega)).1
    have hmin : (if nI p.2.2.2.2 < nI o then nI p.2.2.2.2 else nI o) = nI (min o p.2.2.2.2) := by
      by_cases q : p.2.2.2.2 < o
      · rw [if_pos (plt q (by omega))]; congr 1; omega
      · rw [if_neg (nlt (by omega) (by omega))]; congr 1; omega
    have idx : ∀ j, (12 : Int32) * nI p.2.2.2.2 + nI j = nI (12 * p.2.2.2.2 + j) := fun j => by rw [show (12 : Int32) = nI 12 from rfl, niMul, niAdd]
    have := ih (a + 1) n (min o p.2.2.2.2) (w + tv vm p.2.2.2.2 2) (g + tv vm p.2.2.2.2 3) (h + tv vm p.2.2.2.2 4) to (fun i q hq => by
      have := hz (i + 1) q (by simpa using hq)
      rwa [show a + (i + 1) = a + 1 + i by omega] at this) (by omega) hto (by omega) (by omega)
    rw [f_X8_land_48, if_neg (nle (by omega) (by omega)), if_pos (gin (show a < 12 by omega) (by omega)), niCl (show a < 2147483648 by omega), hd, hmin, vlet_eq, show (2 : Int32) = nI 2 from rfl, idx, if_pos (gin (show 12 * p.2.2.2.2 + 2 < 156 by omega) (by omega)), niCl (show 12 * p.2.2.2.2 + 2 < 2147483648 by omega), t2, niAdd, vlet_eq, show (3 : Int32) = nI 3 from rfl, idx, if_pos (gin (show 12 * p.2.2.2.2 + 3 < 156 by omega) (by omega)), niCl (show 12 * p.2.2.2.2 + 3 < 2147483648 by omega), t3, niAdd, vlet_eq, show (4 : Int32) = nI 4 from rfl, idx, if_pos (gin (show 12 * p.2.2.2.2 + 4 < 156 by omega) (by omega)), niCl (show 12 * p.2.2.2.2 + 4 < 2147483648 by omega), t4, niAdd, vlet_eq, vlet_eq, ad1, this]
    simp only [ow, sW]
    rw [show min (min o p.2.2.2.2) (ow z) = min o (min p.2.2.2.2 (ow z)) by omega, Nat.add_assoc, Nat.add_assoc, Nat.add_assoc]
/-- cells that were a drop's -/
theorem wet_go {f l o w g h : Nat} (hl : l < 24) (hfl : f ≤ l) (ho : o < 13) : ∀ (d c n : Nat) (vm : rV), f ≤ c → c + d = l + 1 → d < n → ∃ m, f_X8_land_226 n vm (nI f) (nI l) (nI o) (nI w) (nI g) (nI h) (nI c) = ((f_X8_shape m (nI f) (nI l) (nI w) (m.1 185 (12 * o + 11))).bind fun p => f_X8_land_276 20000 p (nI f) (nI l) (nI g) (nI h) 0) ∧ Ch (fun k j => k = 187 ∧ 216 + f ≤ j ∧ j ≤ 216 + l) vm m ∧ (∀ i, c ≤ i → i ≤ l → m.1 187 (216 + i) = 1) ∧ (∀ i, i < c → m.1 187 (216 + i) = vm.1 187 (216 + i)) := by
  intro d
  induction d with
  | zero =>
    intro c n vm h1 h2 hn
    obtain ⟨n, rfl⟩ : ∃ n', n = n' + 1 := ⟨n - 1, by omega⟩
    refine ⟨vm, ?_, Ch.rf, fun i q1 q2 => by omega, fun _ _ => rfl⟩
    rw [f_X8_land_226, if_pos (plt (by omega) (by omega)), show (12 : Int32) * nI o + 11 = nI (12 * o + 11) from by rw [show (12 : Int32) = nI 12 from rfl, niMul]; exact niAdd _ 11, if_pos (gin (show 12 * o + 11 < 156 by omega) (by omega)), niCl (by omega)]
  | succ d ih =>
    intro c n vm h1 h2 hn
    obtain ⟨n, rfl⟩ : ∃ n', n = n' + 1 := ⟨n - 1, by omega⟩
    obtain ⟨m, g1, g2, g3, g4⟩ := ih (c + 1) n (rI vm 187 (216 + c) 1) (by omega) (by omega) (by omega)
    refine ⟨m, ?_, (Ch.rf.I ⟨rfl, by omega, by omega⟩).tr g2, fun i q1 q2 => ?_, fun i q1 => by rw [g4 i (by omega), rI_no (by omega)]⟩
    · rw [f_X8_land_226, if_neg (nlt (by omega) (by omega)), show (216 : Int32) + nI c = nI (216 + c) from niAdd 216 c, if_pos (gin (show 216 + c < 416 by omega) (by omega)), niCl (by omega), vlet_eq, vlet_eq, ad1]
      exact g1
    · by_cases z : i = c
      · rw [z, g4 c (by omega), rI_at]
      · exact g3 i (by omega) q2
/-- the class's bits -/
def bgT (q2 : rV → Nat → Int32 → Option rV) (v4 : rV) (B r : Nat) (i : Int32) : Option rV := (f_X5_shape v4 B r (v4.1 (r + 1) 2)).bind fun p5 => (f_X5_layOut p5 B r 0 (p5.1 (r + 1) 3)).bind fun p6 => (f_X5_layOut p6 B r 1 (p6.1 (r + 1) 4)).bind fun p7 => q2 p7 B (i + 1)
theorem bits_go {q2 : rV → Nat → Int32 → Option rV} {B r f l : Nat} {a : Int32} (hl : l < 24) (hfl : f ≤ l) (hr : B < r) : ∀ (d c n : Nat) (vc : rV), f ≤ c → c + d = l + 1 → d < n → vc.1 r 2 = nI f → vc.1 r 3 = nI l → ∃ w, f_X5_begin_22 q2 n vc B a r (nI c) = bgT q2 w B r a ∧ Ch (fun k j => k = B ∧ (j = 11 ∨ j = 12)) vc w ∧ (∀ e, e < 24 → f_X7_has (w.1 B 11) (nI e) = (f_X7_has (vc.1 B 11) (nI e) || decide (c ≤ e ∧ e ≤ l))) ∧ (∀ e, e < 24 → f_X7_has (w.1 B 12) (nI e) = (f_X7_has (vc.1 B 12) (nI e) || (decide (e = f) || decide (e = l)))) := by
  intro d
  induction d with
  | zero =>
    intro c n vc h1 h2 hn x1 x2
    obtain ⟨n, rfl⟩ : ∃ n', n = n' + 1 := ⟨n - 1, by omega⟩
    refine ⟨rI vc B 12 (vc.1 B 12 ||| (((1 : Int32) <<< (nI f &&& 31)) ||| ((1 : Int32) <<< (nI l &&& 31)))), ?_, Ch.rf.I ⟨rfl, Or.inr rfl⟩, fun e he => ?_, fun e he => ?_⟩
    · rw [f_X5_begin_22, x2, if_pos (plt (by omega) (by omega)), x1, vlet_eq]
      unfold bgT
      simp only [vlet_eq]
    · rw [rI_no (by omega), decide_eq_false (by omega), Bool.or_false]
    · rw [rI_at, has_or _ _ (by omega), has_or _ _ (by omega), has_one f (by omega) e (by omega), has_one l (by omega) e (by omega)]
  | succ d ih =>
    intro c n vc h1 h2 hn x1 x2
    obtain ⟨n, rfl⟩ : ∃ n', n = n' + 1 := ⟨n - 1, by omega⟩
    obtain ⟨w, g1, g2, g3, g4⟩ := ih (c + 1) n (rI vc B 11 (vc.1 B 11 ||| ((1 : Int32) <<< (nI c &&& 31)))) (by omega) (by omega) (by omega) (by rw [rI_no (by omega)]; exact x1) (by rw [rI_no (by omega)]; exact x2)
    refine ⟨w, ?_, (Ch.rf.I ⟨rfl, Or.inl rfl⟩).tr g2, fun e he => ?_, fun e he => by rw [g4 e he, rI_no (by omega)]⟩
    · rw [f_X5_begin_22, x2, if_neg (nlt (by omega) (by omega)), vlet_eq, vlet_eq, ad1]
      exact g1
    · rw [g3 e he, rI_at, has_or _ _ (by omega), has_one c (by omega) e (by omega), Bool.or_assoc]
      congr 1
      by_cases z : e = c
      · rw [decide_eq_true z, Bool.true_or, decide_eq_true (by omega)]
      · rw [decide_eq_false z, Bool.false_or]
        by_cases z2 : c + 1 ≤ e ∧ e ≤ l
        · rw [decide_eq_true z2, decide_eq_true (by omega)]
        · rw [decide_eq_false z2, decide_eq_false (by omega)]
def Srn (B f l : Nat) : Nat → Nat → Prop := fun k j => (k = B ∧ (j = 11 ∨ j = 12)) ∨ ((k = B + 1 ∨ k = B + 5 ∨ k = B + 6) ∧ f ≤ j ∧ j ≤ l)
def Trn (b f l : Nat) : Nat → Nat → Prop := fun k j => k = 187 ∧ ((f ≤ j ∧ j ≤ l) ∨ (24 + f ≤ j ∧ j ≤ 24 + l) ∨ (48 + f ≤ j ∧ j ≤ 48 + l) ∨ j = 240 + b ∨ j = 252 + b ∨ j = 264 + b ∨ j = 288 ∨ j = 192 + f ∨ j = 192 + l ∨ (216 + f ≤ j ∧ j ≤ 216 + l))
theorem h276 {f l g h : Nat} (n : Nat) (v : rV) (a : Int32) : f_X8_land_276 (n + 1) v (nI f) (nI l) (nI g) (nI h) a = if nI g ≤ a then f_X8_land_315 20000 v (nI f) (nI l) (nI h) 0 else if (nI l - nI f) + 1 = 0 then none else vlet ((nI 24 + nI f) + (a - a / ((nI l - nI f) + 1) * ((nI l - nI f) + 1)) : Int32) fun x => if ¬ x < 0 ∧ x.toNatClampNeg < 416 then (vlet (rI v 187 x.toNatClampNeg (v.1 187 x.toNatClampNeg + 1)) fun v2 => vlet (a + 1) fun y => f_X8_land_276 n v2 (nI f) (nI l) (nI g) (nI h) y) else none := by
  rw [f_X8_land_276]
  rfl
theorem h315 {f l h : Nat} (n : Nat) (v : rV) (a : Int32) : f_X8_land_315 (n + 1) v (nI f) (nI l) (nI h) a = if nI h ≤ a then some v else if (nI l - nI f) + 1 = 0 then none else vlet ((nI 48 + nI f) + (a - a / ((nI l - nI f) + 1) * ((nI l - nI f) + 1)) : Int32) fun x => if ¬ x < 0 ∧ x.toNatClampNeg < 416 then (vlet (rI v 187 x.toNatClampNeg (v.1 187 x.toNatClampNeg + 1)) fun v2 => vlet (a + 1) fun y => f_X8_land_315 n v2 (nI f) (nI l) (nI h) y) else none := by
  rw [f_X8_land_315]
  rfl
