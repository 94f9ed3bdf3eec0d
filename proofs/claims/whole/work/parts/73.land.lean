/-! BITS, and grains laid out -/
theorem has_bit (x : Int32) {e : Nat} (he : e < 32) : f_X7_has x (nI e) = x.toBitVec.getLsbD e := by
  have h1 : ∀ e, e < 32 → (nI e &&& 31) = nI e := by decide +kernel
  have h2 : ∀ e, e < 32 → (((nI e).toBitVec.smod 32).toNat) = e := by decide +kernel
  unfold f_X7_has
  rw [h1 e he]
  have h3 : (x >>> nI e).toBitVec = x.toBitVec.sshiftRight e := by
    show x.toBitVec.sshiftRight' ((nI e).toBitVec.smod 32) = _
    rw [BitVec.sshiftRight', h2 e he]
  have h4 : ((x >>> nI e) &&& 1 = (1 : Int32)) ↔ x.toBitVec.getLsbD e = true := by
    rw [← Int32.toBitVec_inj, Int32.toBitVec_and, h3]
    have e1 : (1 : Int32).toBitVec = 1#32 := rfl
    rw [e1, BitVec.and_one_eq_setWidth_ofBool_getLsbD, BitVec.getLsbD_sshiftRight]
    have : (!decide (32 ≤ 0)) = true := by decide
    simp only [this, Bool.true_and, Nat.add_zero, if_pos he]
    cases x.toBitVec.getLsbD e <;> decide
  by_cases p : x.toBitVec.getLsbD e = true
  · rw [if_pos (h4.mpr p), p]
  · rw [if_neg (fun q => p (h4.mp q))]
    cases hq : x.toBitVec.getLsbD e
    · rfl
    · exact absurd hq p
theorem has_or (x y : Int32) {e : Nat} (he : e < 32) : f_X7_has (x ||| y) (nI e) = (f_X7_has x (nI e) || f_X7_has y (nI e)) := by
  rw [has_bit _ he, has_bit _ he, has_bit _ he, Int32.toBitVec_or, BitVec.getLsbD_or]
theorem has_one : ∀ c, c < 32 → ∀ e, e < 32 → f_X7_has ((1 : Int32) <<< (nI c &&& 31)) (nI e) = decide (e = c) := by decide +kernel
theorem has_0 {e : Nat} (he : e < 32) : f_X7_has 0 (nI e) = false := by
  rw [has_bit _ he]
  simp
/-- so many of g fall to the place i of w -/
def cn (g w i : Nat) : Nat := g / w + (if i < g % w then 1 else 0)
theorem cn_0 {w i : Nat} (hw : 0 < w) : cn 0 w i = 0 := by
  unfold cn
  rw [Nat.zero_div, Nat.zero_mod]
  rfl
theorem cn_s {g w i : Nat} (hi : i < w) : cn (g + 1) w i = cn g w i + (if i = g % w then 1 else 0) := by
  unfold cn
  have hw : 0 < w := by omega
  have hd := Nat.div_add_mod g w
  have hr := Nat.mod_lt g hw
  by_cases q : g % w + 1 < w
  · have e1 : (g + 1) / w = g / w := by
      have : g + 1 = w * (g / w) + (g % w + 1) := by omega
      rw [this, Nat.mul_add_div hw, Nat.div_eq_of_lt q, Nat.add_zero]
    have e2 : (g + 1) % w = g % w + 1 := by
      have : g + 1 = w * (g / w) + (g % w + 1) := by omega
      rw [this, Nat.mul_add_mod, Nat.mod_eq_of_lt q]
    rw [e1, e2]
    by_cases z : i = g % w
    · rw [if_pos (by omega), if_neg (by omega), if_pos z]
    · rw [if_neg z]
      by_cases z2 : i < g % w
      · rw [if_pos (by omega), if_pos z2]
      · rw [if_neg (by omega), if_neg z2]
  · have e0 : g + 1 = w * (g / w + 1) := by rw [Nat.mul_add]; omega
    have e1 : (g + 1) / w = g / w + 1 := by rw [e0, Nat.mul_div_cancel_left _ hw]
    have e2 : (g + 1) % w = 0 := by rw [e0, Nat.mul_mod_right]
    rw [e1, e2, if_neg (by omega)]
    by_cases z : i = g % w
    · rw [if_neg (by omega), if_pos z]
    · rw [if_pos (show i < g % w by omega), if_neg z]
/-- the model lays one by one -/
theorem laM {o f l : Nat} (ho : o = 24 ∨ o = 48) (hl : l < 24) (hfl : f ≤ l) {G : Nat} (hG : G ≤ 12000) {F : Nat → rV → Int32 → Option rV} {K : rV → Option rV} (hF : ∀ n v a, F (n + 1) v a = if nI G ≤ a then K v else if (nI l - nI f) + 1 = 0 then none else vlet ((nI o + nI f) + (a - a / ((nI l - nI f) + 1) * ((nI l - nI f) + 1)) : Int32) fun x => if ¬ x < 0 ∧ x.toNatClampNeg < 416 then (vlet (rI v 187 x.toNatClampNeg (v.1 187 x.toNatClampNeg + 1)) fun v2 => vlet (a + 1) fun y => F n v2 y) else none) :
    ∀ (d g n : Nat) (vm : rV) (T : Int), g + d = G → d < n → Am vm o T → T + d ≤ 12000 → (∀ i, i < l + 1 - f → vm.1 187 (o + (f + i)) = nI (cn g (l + 1 - f) i)) → ∃ vm', F n vm (nI g) = K vm' ∧ Am vm' o (T + d) ∧ (∀ i, i < l + 1 - f → vm'.1 187 (o + (f + i)) = nI (cn G (l + 1 - f) i)) ∧ Ch (fun k j => k = 187 ∧ o + f ≤ j ∧ j ≤ o + l) vm vm' := by
  intro d
  induction d with
  | zero =>
    intro g n vm T h hn hA hT hv
    obtain ⟨n, rfl⟩ : ∃ n', n = n' + 1 := ⟨n - 1, by omega⟩
    have hg : g = G := by omega
    subst hg
    exact ⟨vm, by rw [hF, if_pos (ple (Nat.le_refl _) (by omega))], by simpa using hA, hv, Ch.rf⟩
  | succ d ih =>
    intro g n vm T h hn hA hT hv
    obtain ⟨n, rfl⟩ : ∃ n', n = n' + 1 := ⟨n - 1, by omega⟩
    have hw : (nI l - nI f) + 1 = nI (l + 1 - f) := by
      rw [niSub hfl, ad1]
      congr 1
      omega
    have hmod : g % (l + 1 - f) < l + 1 - f := Nat.mod_lt _ (by omega)
    have hrem : nI g - nI g / nI (l + 1 - f) * nI (l + 1 - f) = nI (g % (l + 1 - f)) := by
      have hd := Nat.div_add_mod g (l + 1 - f)
      have h2 : g / (l + 1 - f) * (l + 1 - f) ≤ g := Nat.div_mul_le_self _ _
      rw [niDiv (by omega) (by omega), niMul, niSub h2]
      congr 1
      rw [Nat.mul_comm] at hd
      omega
    have hx := hv (g % (l + 1 - f)) hmod
    have hcell : f + g % (l + 1 - f) < 24 := by omega
    have hone := hA.one hcell
    obtain ⟨w, ew⟩ : ∃ w, w = rI vm 187 (o + (f + g % (l + 1 - f))) (vm.1 187 (o + (f + g % (l + 1 - f))) + 1) := ⟨_, rfl⟩
    have e1 : (vm.1 187 (o + (f + g % (l + 1 - f))) + 1).toInt = (vm.1 187 (o + (f + g % (l + 1 - f)))).toInt + 1 := by
      have one : (1 : Int32).toInt = 1 := rfl
      rw [add_toInt (by omega) (by omega), one]
    have hA' : Am w o (T + 1) := by
      have := hA.set (x := vm.1 187 (o + (f + g % (l + 1 - f))) + 1) hcell (by rw [e1]; omega)
      rw [e1] at this
      rw [ew]
      have e3 : T + ((vm.1 187 (o + (f + g % (l + 1 - f)))).toInt + 1) - (vm.1 187 (o + (f + g % (l + 1 - f)))).toInt = T + 1 := by omega
      rwa [e3] at this
    obtain ⟨vm', k1, k2, k3, k4⟩ := ih (g + 1) n w (T + 1) (by omega) (by omega) hA' (by omega) (fun i hi => by
      rw [cn_s hi, ew]
      by_cases q : i = g % (l + 1 - f)
      · rw [q, rI_at, hx, if_pos rfl, ad1]
      · rw [rI_no (by omega), hv i hi, if_neg q, Nat.add_zero (cn g (l + 1 - f) i)])
    refine ⟨vm', ?_, by rw [show T + ((d + 1 : Nat) : Int) = T + 1 + d by omega]; exact k2, k3, (show Ch (fun k j => k = 187 ∧ o + f ≤ j ∧ j ≤ o + l) vm w by rw [ew]; exact Ch.rf.I ⟨rfl, by omega, by omega⟩).tr k4⟩
    rw [hF, if_neg (nle (by omega) (by omega)), hw, if_neg (show ¬ nI (l + 1 - f) = 0 from nne (b := 0) (by omega) (by omega) (by omega)), hrem, niAdd, niAdd, vlet_eq, if_pos (gin (show o + f + g % (l + 1 - f) < 416 by omega) (by omega)), niCl (by omega), Nat.add_assoc, ← ew, vlet_eq, vlet_eq, ad1]
    exact k1
theorem laC {B r f l s G : Nat} (hs : s < 2) (hl : l < 24) (hG : G ≤ 12000) (hr : B + 12 < r) : ∀ (d c n : Nat) (vc : rV), f ≤ c → c + d = l + 1 → d < n → vc.1 r 2 = nI f → vc.1 r 3 = nI l → (∀ i, f ≤ i → i < c → vc.1 (B + 5 + s) i = nI (cn G (l + 1 - f) (i - f))) → ∃ vc', f_X5_layOut_19 n vc B r (nI s) (nI G) (nI (l + 1 - f)) (nI c) = some vc' ∧ Ch (fun k j => k = B + 5 + s ∧ f ≤ j ∧ j ≤ l) vc vc' ∧ (∀ i, f ≤ i → i ≤ l → vc'.1 (B + 5 + s) i = nI (cn G (l + 1 - f) (i - f))) := by
  intro d
  induction d with
  | zero =>
    intro c n vc h1 h2 hn x1 x2 hv
    obtain ⟨n, rfl⟩ : ∃ n', n = n' + 1 := ⟨n - 1, by omega⟩
    exact ⟨vc, by rw [f_X5_layOut_19, x2, if_pos (plt (by omega) (by omega))], Ch.rf, fun i q1 q2 => hv i q1 (by omega)⟩
  | succ d ih =>
    intro c n vc h1 h2 hn x1 x2 hv
    obtain ⟨n, rfl⟩ : ∃ n', n = n' + 1 := ⟨n - 1, by omega⟩
    have hwn : ¬ nI (l + 1 - f) = 0 := nne (b := 0) (by omega) (by omega) (by omega)
    have hrem : nI G - nI G / nI (l + 1 - f) * nI (l + 1 - f) = nI (G % (l + 1 - f)) := by
      have hd := Nat.div_add_mod G (l + 1 - f)
      have h2 : G / (l + 1 - f) * (l + 1 - f) ≤ G := Nat.div_mul_le_self _ _
      rw [niDiv (by omega) (by omega), niMul, niSub h2]
      congr 1
      rw [Nat.mul_comm] at hd
      omega
    have hmod : G % (l + 1 - f) < l + 1 - f := Nat.mod_lt _ (by omega)
    have hdl : G / (l + 1 - f) ≤ G := Nat.div_le_self _ _
    obtain ⟨vc', k1, k2, k3⟩ := ih (c + 1) n (rI vc (B + 5 + s) c (nI (cn G (l + 1 - f) (c - f)))) (by omega) (by omega) (by omega) (by rw [rI_no (by omega)]; exact x1) (by rw [rI_no (by omega)]; exact x2) (fun i q1 q2 => by
      by_cases z : i = c
      · rw [z, rI_at]
      · rw [rI_no (by omega)]; exact hv i q1 (by omega))
    refine ⟨vc', ?_, (Ch.rf.I ⟨rfl, by omega, by omega⟩).tr k2, k3⟩
    have fin : ∀ (b : Nat), cn G (l + 1 - f) (c - f) = G / (l + 1 - f) + b → f_X5_layOut_63 (fun v k0 k1 a2 a3 a4 a5 => f_X5_layOut_19 n v k0 k1 a2 a3 a4 a5) vc B r (nI s) (nI G) (nI (l + 1 - f)) (nI c) (nI b) (nI G / nI (l + 1 - f)) (nI c) (B + 5 + s) = some vc' := fun b hb => by
      unfold f_X5_layOut_63
      rw [if_pos (gin (show c < 24 by omega) (by omega)), niCl (by omega), niDiv (by omega) (by omega), niAdd, ← hb, vlet_eq, vlet_eq, ad1]
      exact k1
    rw [f_X5_layOut_19, x2, if_neg (nlt (by omega) (by omega)), x1, niSub h1, vlet_eq, if_pos (gin hs (by omega)), if_neg hwn, if_neg hwn, hrem, niCl (by omega)]
    by_cases q : G % (l + 1 - f) ≤ c - f
    · rw [if_pos (ple q (by omega))]
      exact fin 0 (by unfold cn; rw [if_neg (by omega)])
    · rw [if_neg (nle (by omega) (by omega))]
      exact fin 1 (by unfold cn; rw [if_pos (by omega)])
theorem layOut_go {B r f l s G : Nat} {vc : rV} (hs : s < 2) (hl : l < 24) (hfl : f ≤ l) (hG : G ≤ 12000) (hr : B + 12 < r) (x1 : vc.1 r 2 = nI f) (x2 : vc.1 r 3 = nI l) : ∃ vc', f_X5_layOut vc B r (nI s) (nI G) = some vc' ∧ Ch (fun k j => k = B + 5 + s ∧ f ≤ j ∧ j ≤ l) vc vc' ∧ (∀ i, f ≤ i → i ≤ l → vc'.1 (B + 5 + s) i = nI (cn G (l + 1 - f) (i - f))) := by
  obtain ⟨vc', k1, k2, k3⟩ := laC (B := B) (r := r) (s := s) (G := G) hs hl hG hr (l + 1 - f) f 20000 vc (Nat.le_refl _) (by omega) (by omega) x1 x2 (fun i q1 q2 => by omega)
  refine ⟨vc', ?_, k2, k3⟩
  unfold f_X5_layOut f_X0_width
  rw [x1, x2, niSub hfl, ad1, vlet_eq, if_pos (show (1 : Int32) ≤ nI (l - f + 1) from ple (a := 1) (by omega) (by omega)), vlet_eq, show l - f + 1 = l + 1 - f by omega]
  exact k1
