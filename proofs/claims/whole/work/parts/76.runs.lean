/-! ALL RUNS -/
def RP (vm : rV) (z : List Pz) : Prop := z ≠ [] ∧ tch z ∧ (∀ p, p ∈ z → 2 ≤ p.2.1 ∧ p.1 + p.2.1 ≤ 24 ∧ p.2.2.2.2 < 13 ∧ TD vm 185 (12 * p.2.2.2.2))
theorem run_ord : ∀ z : List Pz, z ≠ [] → tch z → (∀ p, p ∈ z → 2 ≤ p.2.1 ∧ p.1 + p.2.1 ≤ 24) → fs z + 1 ≤ ls z ∧ ls z < 24 := by
  intro z
  induction z with
  | nil => intro h; exact absurd rfl h
  | cons p z ih =>
    intro _ ht hk
    have hp := hk p (by simp)
    cases z with
    | nil => simp only [fs, ls]; omega
    | cons q z =>
      have := ih (by simp) ht.2 (fun p hp => hk p (List.mem_cons_of_mem _ hp))
      have h1 := ht.1
      simp only [fs, ls] at this ⊢
      omega
theorem ls_last : ∀ (z : List Pz) p, z[z.length - 1]? = some p → ls z = p.1 + p.2.1 - 1 := by
  intro z
  induction z with
  | nil => intro p h; simp at h
  | cons q z ih =>
    intro p h
    cases z with
    | nil => simp at h; rw [h]; rfl
    | cons y z =>
      have := ih p (by simpa using h)
      exact this
theorem ow_mem : ∀ z : List Pz, z ≠ [] → (∀ p, p ∈ z → p.2.2.2.2 < 13) → ∃ p, p ∈ z ∧ ow z = p.2.2.2.2 := by
  intro z
  induction z with
  | nil => intro h; exact absurd rfl h
  | cons q z ih =>
    intro _ h
    have hq := h q (by simp)
    cases z with
    | nil => exact ⟨q, by simp, by simp only [ow]; omega⟩
    | cons y z =>
      obtain ⟨p, hp, e⟩ := ih (by simp) (fun p hp => h p (List.mem_cons_of_mem _ hp))
      by_cases g : q.2.2.2.2 ≤ ow (y :: z)
      · exact ⟨q, by simp, by rw [show ow (q :: y :: z) = min q.2.2.2.2 (ow (y :: z)) from rfl]; omega⟩
      · exact ⟨p, List.mem_cons_of_mem _ hp, by rw [show ow (q :: y :: z) = min q.2.2.2.2 (ow (y :: z)) from rfl]; omega⟩
/-- the model looks how far pieces touch -/
theorem scan_go {Q : rV → Int32 → Option rV} {vm : rV} {a : Int32} {N : Nat} (hN : vm.1 174 34 = nI N) (hN12 : N ≤ 12) : ∀ (y : List Pz) (q : Pz) (j n : Nat), 0 < j → vm.1 190 (j - 1) = nI q.1 → vm.1 191 (j - 1) = nI q.2.1 → q.1 + q.2.1 ≤ 24 → (∀ (i : Nat) p, y[i]? = some p → vm.1 190 (j + i) = nI p.1 ∧ vm.1 191 (j + i) = nI p.2.1 ∧ p.1 + p.2.1 ≤ 24) → tch (q :: y) → j + y.length ≤ N → y.length < n → (j + y.length < N → ∃ x, vm.1 190 (j + y.length) = nI x ∧ x < 100 ∧ x ≠ ls (q :: y) + 1) → (∀ p, p ∈ q :: y → 2 ≤ p.2.1) → f_X8_begin_66 Q n vm a (nI j) = f_X8_begin_110 Q vm a (nI (j + y.length)) := by
  intro y
  induction y with
  | nil =>
    intro q j n hj e1 e2 hq hy ht hl hn hnx hk
    obtain ⟨n, rfl⟩ : ∃ n', n = n' + 1 := ⟨n - 1, by omega⟩
    simp only [List.length_nil, Nat.add_zero] at *
    have hkq := hk q (by simp)
    rw [f_X8_begin_66, hN]
    by_cases g : N ≤ j
    · rw [if_pos (ple g (by omega))]
    · rw [if_neg (nle (by omega) (by omega)), show nI j - 1 = nI (j - 1) from niSub (a := j) (b := 1) (by omega), if_pos (gin (show j - 1 < 12 by omega) (by omega)), if_pos (gin (show j < 12 by omega) (by omega)), niCl (by omega), niCl (by omega), e1, e2, niAdd]
      obtain ⟨x, ex, hx, hx2⟩ := hnx (by omega)
      rw [ex, if_neg (nne (by simp only [ls] at hx2; omega) (by omega) (by omega))]
  | cons p y ih =>
    intro q j n hj e1 e2 hq hy ht hl hn hnx hk
    obtain ⟨n, rfl⟩ : ∃ n', n = n' + 1 := ⟨n - 1, by omega⟩
    simp only [List.length_cons] at *
    obtain ⟨p1, p2, p3⟩ := hy 0 p rfl
    rw [Nat.add_zero] at p1 p2
    have := ih p (j + 1) n (by omega) (by rw [Nat.add_sub_cancel]; exact p1) (by rw [Nat.add_sub_cancel]; exact p2) p3 (fun i w hw => by
      have := hy (i + 1) w (by simpa using hw)
      rwa [show j + (i + 1) = j + 1 + i by omega] at this) ht.2 (by omega) (by omega) (fun h9 => by
      obtain ⟨x, ex, hx, hx2⟩ := hnx (by omega)
      exact ⟨x, by rw [show j + 1 + y.length = j + (y.length + 1) by omega]; exact ex, hx, hx2⟩) (fun w hw => hk w (List.mem_cons_of_mem _ hw))
    rw [f_X8_begin_66, hN, if_neg (nle (by omega) (by omega)), show nI j - 1 = nI (j - 1) from niSub (a := j) (b := 1) (by omega), if_pos (gin (show j - 1 < 12 by omega) (by omega)), if_pos (gin (show j < 12 by omega) (by omega)), niCl (by omega), niCl (by omega), e1, e2, niAdd, p1, if_pos (by rw [ht.1]), vlet_eq, ad1, this, show j + 1 + y.length = j + (y.length + 1) by omega]
def sR (vm : rV) (j : Nat) : List (List Pz) → Nat
  | [] => 0
  | z :: R => sW vm j z + sR vm j R
theorem sW_ch {T : Nat → Nat → Prop} {vm wm : rV} {j : Nat} (h : Ch T vm wm) (t : ∀ j, ¬ T 185 j) : ∀ z : List Pz, sW wm j z = sW vm j z := by
  intro z
  induction z with
  | nil => rfl
  | cons p z ih => simp only [sW, tv]; rw [h.1 _ _ (t _), ih]
theorem sR_ch {T : Nat → Nat → Prop} {vm wm : rV} {j : Nat} (h : Ch T vm wm) (t : ∀ j, ¬ T 185 j) : ∀ R : List (List Pz), sR wm j R = sR vm j R := by
  intro R
  induction R with
  | nil => rfl
  | cons z R ih => simp only [sR]; rw [sW_ch h t, ih]
def Sbg (B : Nat) : Nat → Nat → Prop := fun k j => (k = B ∧ (j = 11 ∨ j = 12)) ∨ k = B + 1 ∨ k = B + 5 ∨ k = B + 6
def Tbg : Nat → Nat → Prop := fun k j => k = 187 ∧ (j < 72 ∨ (192 ≤ j ∧ j < 276) ∨ j = 288)
theorem bg_s {B f l : Nat} : ∀ k j, Srn B f l k j → Sbg B k j := fun k j h => by
  unfold Srn at h; unfold Sbg
  rcases h with h | ⟨h, -⟩
  · exact Or.inl h
  · exact Or.inr h
theorem bg_t {b f l : Nat} (hl : l < 24) (hfl : f ≤ l) (hb : b < 12) : ∀ k j, Trn b f l k j → Tbg k j := fun k j h => by
  unfold Trn at h; unfold Tbg
  obtain ⟨h, z⟩ := h
  refine ⟨h, ?_⟩
  rcases z with z | z | z | z | z | z | z | z | z | z <;> omega
theorem runs_go {B : Nat} {A : Bool} {ρ : Nat → Nat} (hB : isStrip B = true) : ∀ (R : List (List Pz)) (L : List En) (n m i0 : Nat) (vc vm : rV) (T0 T1 : Int), R.length < n → R.length < m → RF B vc ρ → L.length + R.length ≤ 12 → vc.1 B 10 = nI (L.length + R.length) → (∀ (i : Nat) e, L[i]? = some e → ρ i = e.1) → (∀ e, e ∈ L → CEn B vc vm e) → L.Pairwise Ap → vm.1 187 288 = nI L.length → (∀ (s : Nat) e, L[s]? = some e → MEn vc vm e s) →
    (∀ (i : Nat) z, R[i]? = some z → BI A vc vm (ρ (L.length + i)) z) → (∀ z, z ∈ R → RP vm z) → R.Pairwise (fun z y => ls z + 1 < fs y) → (∀ e, e ∈ L → ∀ z, z ∈ R → e.2.2.1 < fs z) → vm.1 174 34 = nI (i0 + R.flatten.length) → i0 + R.flatten.length ≤ 12 → (∀ (k : Nat) p, R.flatten[k]? = some p → vm.1 190 (i0 + k) = nI p.1 ∧ vm.1 191 (i0 + k) = nI p.2.1 ∧ vm.1 192 (i0 + k) = nI p.2.2.2.2) →
    Rw vc (B + 1) vm 187 0 24 → FF B vc vm → Am vm 24 T0 → Am vm 48 T1 → T0 + (sR vm 3 R : Nat) ≤ 12000 → T1 + (sR vm 4 R : Nat) ≤ 12000 → (∀ z, z ∈ R → ∀ i, fs z ≤ i → i ≤ ls z → vm.1 187 (24 + i) = 0 ∧ vm.1 187 (48 + i) = 0) → (∀ s, s < 12 → vm.1 187 (276 + s) = 0) → BT (vc.1 B 11) vm 216 → BT (vc.1 B 12) vm 192 →
    ∃ (vc' vm' : rV) (L' : List En), f_X5_begin_2 n vc B (nI L.length) = some vc' ∧ f_X8_begin_51 m vm (nI i0) = some vm' ∧ L'.length = L.length + R.length ∧ (∀ (i : Nat) e, L'[i]? = some e → ρ i = e.1) ∧ (∀ e, e ∈ L' → CEn B vc' vm' e) ∧ L'.Pairwise Ap ∧ vm'.1 187 288 = nI L'.length ∧ (∀ (s : Nat) e, L'[s]? = some e → MEn vc' vm' e s) ∧ Rw vc' (B + 1) vm' 187 0 24 ∧ FF B vc' vm' ∧ Am vm' 24 (T0 + (sR vm 3 R : Nat)) ∧ Am vm' 48 (T1 + (sR vm 4 R : Nat)) ∧ BT (vc'.1 B 11) vm' 216 ∧ BT (vc'.1 B 12) vm' 192 ∧ Ch (Sbg B) vc vc' ∧ Ch Tbg vm vm' ∧ (∀ e, e ∈ L' → (∃ x, x ∈ L ∧ x.2.2.2.1 = e.2.2.2.1) ∨ ∃ z, z ∈ R ∧ ow z = e.2.2.2.1) := by
  intro R
  induction R with
  | nil =>
    intro L n m i0 vc vm T0 T1 hn hm hR hlen hN hρ hC hA hN2 hM hBI hRP hRs hLR hPn hPl hPM hW hF a24 a48 ht0 ht1 hz hlet b1 b2
    obtain ⟨n, rfl⟩ : ∃ n', n = n' + 1 := ⟨n - 1, by simp at hn; omega⟩
    obtain ⟨m, rfl⟩ : ∃ m', m = m' + 1 := ⟨m - 1, by simp at hm; omega⟩
    simp only [List.length_nil, Nat.add_zero, List.flatten_nil] at *
    refine ⟨vc, vm, L, ?_, ?_, rfl, hρ, hC, hA, hN2, hM, hW, hF, by simpa [sR] using a24, by simpa [sR] using a48, b1, b2, Ch.rf, Ch.rf, fun e he => Or.inl ⟨e, he, rfl⟩⟩
    · rw [f_X5_begin_2, hN, if_pos (ple (Nat.le_refl _) (by omega))]
    · rw [f_X8_begin_51, hPn, if_pos (ple (Nat.le_refl _) (by omega))]
  | cons z R ih =>
    intro L n m i0 vc vm T0 T1 hn hm hR hlen hN hρ hC hA hN2 hM hBI hRP hRs hLR hPn hPl hPM hW hF a24 a48 ht0 ht1 hz hlet b1 b2
    obtain ⟨n, rfl⟩ : ∃ n', n = n' + 1 := ⟨n - 1, by simp at hn; omega⟩
    obtain ⟨m, rfl⟩ : ∃ m', m = m' + 1 := ⟨m - 1, by simp at hm; omega⟩
    simp only [List.length_cons, List.flatten_cons, List.length_append, sR] at *
    have B60 : 60 ≤ B := is_mem (p := fun k => 60 ≤ k) hB (by decide)
    have hzR := hRP z (by simp)
    obtain ⟨hzne, hzt, hzp⟩ := hzR
    have hord := run_ord z hzne hzt (fun p hp => ⟨(hzp p hp).1, (hzp p hp).2.1⟩)
    have hzl : 0 < z.length := List.length_pos_iff.mpr hzne
    have hBz := hBI 0 z rfl
    rw [Nat.add_zero] at hBz
    obtain ⟨r1, ⟨q, hq, eq⟩, inj⟩ := hR L.length (by omega)
    obtain ⟨p9, hp9, eow⟩ := ow_mem z hzne (fun p hp => (hzp p hp).2.2.1)
    have howl : ow z < 13 := by rw [eow]; exact (hzp p9 hp9).2.2.1
    have howt : TD vm 185 (12 * ow z) := by rw [eow]; exact (hzp p9 hp9).2.2.2
    have sw : ∀ j, j < 12 → sW vm j z ≤ 12 * 999 := fun j hj => Nat.le_trans (sW_le hj z fun p hp => (hzp p hp).2.2.2) (Nat.mul_le_mul_right _ (by omega))
    have arr : ∀ (k : Nat) p, z[k]? = some p → vm.1 190 (i0 + k) = nI p.1 ∧ vm.1 191 (i0 + k) = nI p.2.1 ∧ vm.1 192 (i0 + k) = nI p.2.2.2.2 := fun k p hk => hPM k p (by
      rw [List.getElem?_append, if_pos (List.getElem?_eq_some_iff.mp hk).1]; exact hk)
    obtain ⟨p0, hp0⟩ : ∃ p, z[0]? = some p := ⟨z[0]'hzl, List.getElem?_eq_getElem hzl⟩
    obtain ⟨pl, hpl⟩ : ∃ p, z[z.length - 1]? = some p := ⟨z[z.length - 1]'(by omega), List.getElem?_eq_getElem (by omega)⟩
    have hfs : fs z = p0.1 := by
      cases z with
      | nil => exact absurd rfl hzne
      | cons p z => simp only [List.getElem?_cons_zero, Option.some.injEq] at hp0; rw [← hp0]; rfl
    have hls := ls_last z pl hpl
    have hplm := hzp pl (List.mem_of_getElem? hpl)
    obtain ⟨wc, wm, k1, k2, k3, k4, k5, k6, k7, k8, k9, k10, ⟨k11, k12, k13⟩, k14, k15⟩ := run1 (q2 := fun v k0 a1 => f_X5_begin_2 n v k0 a1) (a := nI L.length) (a0 := i0) (to := i0 + z.length) (nb := L.length) (T0 := T0) (T1 := T1) (by omega) hBz (by omega) hord.2 howl howt (fun i p hi => ⟨(arr i p hi).2.2, (hzp p (List.mem_of_getElem? hi)).2.2⟩) rfl (by omega) (by
        have := (arr 0 p0 hp0).1
        rw [Nat.add_zero] at this
        rw [this, hfs]) (by
        have h9 := arr (z.length - 1) pl hpl
        rw [show i0 + z.length - 1 = i0 + (z.length - 1) by omega, h9.1, h9.2.1, niAdd, show nI (pl.1 + pl.2.1) - 1 = nI (pl.1 + pl.2.1 - 1) from niSub (a := pl.1 + pl.2.1) (b := 1) (by omega), hls]) (by have := sw 2 (by omega); omega) (by omega) hN2 hW hF a24 a48 (by omega) (by omega) (hz z (by simp)) b1 b2
    -- the model's look
    have hsc : f_X8_begin_66 (fun v a4 => f_X8_begin_51 m v a4) 20000 vm (nI i0) (nI (i0 + 1)) = f_X8_begin_110 (fun v a4 => f_X8_begin_51 m v a4) vm (nI i0) (nI (i0 + z.length)) := by
      cases z with
      | nil => exact absurd rfl hzne
      | cons p y =>
        have hs := scan_go (Q := fun v a4 => f_X8_begin_51 m v a4) (vm := vm) (a := nI i0) hPn (by omega) y p (i0 + 1) 20000 (by omega) (by have := (arr 0 p rfl).1; rwa [Nat.add_zero] at this) (by have := (arr 0 p rfl).2.1; rwa [Nat.add_zero] at this) (hzp p (by simp)).2.1 (fun i w hw => by
          have h9 := arr (i + 1) w (by simpa using hw)
          rw [show i0 + 1 + i = i0 + (i + 1) by omega]
          exact ⟨h9.1, h9.2.1, (hzp w (List.mem_cons_of_mem _ (List.mem_of_getElem? hw))).2.1⟩) hzt (by simp only [List.length_cons]; omega) (by simp only [List.length_cons] at hPl; omega) (fun h9 => by
          cases R with
          | nil => simp at h9; omega
          | cons u R =>
            have hu := hRP u (by simp)
            obtain ⟨w, hw⟩ : ∃ w, u[0]? = some w := ⟨u[0]'(List.length_pos_iff.mpr hu.1), List.getElem?_eq_getElem _⟩
            have hw0 := hPM ((p :: y).length) w (by
              rw [List.getElem?_append_right (Nat.le_refl _), Nat.sub_self, List.flatten_cons, List.getElem?_append, if_pos (List.length_pos_iff.mpr hu.1)]
              exact hw)
            have hfu : fs u = w.1 := by
              cases u with
              | nil => exact absurd rfl hu.1
              | cons x u => simp only [List.getElem?_cons_zero, Option.some.injEq] at hw; rw [← hw]; rfl
            have hgap := (List.pairwise_cons.mp hRs).1 u (by simp)
            have hwx := (hu.2.2 w (List.mem_of_getElem? hw)).2.1
            refine ⟨w.1, ?_, by omega, by omega⟩
            rw [show i0 + 1 + y.length = i0 + (p :: y).length by simp only [List.length_cons]; omega]
            exact hw0.1) (fun w hw => (hzp w hw).1)
        rw [hs]
        congr 2
        simp only [List.length_cons]
        omega
    have mods : ∀ (T : Nat → Nat → Prop), True := fun _ => trivial
    have hzR' : ∀ y, y ∈ R → ls z + 1 < fs y := (List.pairwise_cons.mp hRs).1
    have ordR : ∀ y, y ∈ R → fs y + 1 ≤ ls y ∧ ls y < 24 := fun y hy => run_ord y (hRP y (by simp [hy])).1 (hRP y (by simp [hy])).2.1 (fun p hp => ⟨((hRP y (by simp [hy])).2.2 p hp).1, ((hRP y (by simp [hy])).2.2 p hp).2.1⟩)
    have un : ∀ i, i < 12 → i ≠ L.length → ρ i ≠ ρ L.length ∧ ρ i ≠ ρ L.length + 1 ∧ ρ L.length ≠ ρ i + 1 := fun i hi h9 => ⟨(hR.uniq hi (by omega) h9).1, (hR.uniq hi (by omega) h9).2, (hR.uniq (by omega) hi (Ne.symm h9)).2⟩
    have q30 : ∀ i, i < 12 → ∃ q, q < 12 ∧ ρ i = B + 14 + 2 * q := fun i hi => (hR i hi).2.1
    obtain ⟨vc', vm', L', j1, j2, j3, j4, j5, j6, j7, j8, j9, j10, j11, j12, j13, j14, j15, j16, j17⟩ := ih (L ++ [((ρ L.length, fs z, ls z, ow z, sW vm 2 z) : En)]) n m (i0 + z.length) wc wm (T0 + (sW vm 3 z : Nat)) (T1 + (sW vm 4 z : Nat)) (by omega) (by omega) (hR.ch k14 fun i _ => by unfold Srn; omega) (by simp only [List.length_append, List.length_cons, List.length_nil]; omega) (by
        rw [k14.1 _ _ (by unfold Srn; omega), hN]
        congr 1
        simp only [List.length_append, List.length_cons, List.length_nil]
        omega) (fun i e he => by
        rw [List.getElem?_append] at he
        by_cases g : i < L.length
        · rw [if_pos g] at he; exact hρ i e he
        · rw [if_neg g] at he
          by_cases g2 : i = L.length
          · rw [g2, Nat.sub_self] at he
            simp only [List.getElem?_cons_zero, Option.some.injEq] at he
            rw [← he, g2]
          · obtain ⟨u, hu⟩ : ∃ u, i - L.length = u + 1 := ⟨i - L.length - 1, by omega⟩
            rw [hu] at he
            simp at he) (fun e he => by
        rcases List.mem_append.mp he with h9 | h9
        · have he0 := hC e h9
          obtain ⟨o1, o2, o3, q3, o4, o5⟩ := he0.2.1
          have := hLR e h9 z (by simp)
          exact he0.ch k14 k15 (by unfold Srn; omega) (by unfold Srn; omega) (fun j _ _ => by unfold Srn; omega) (fun j => by unfold Trn; omega) (fun c _ _ => by unfold Trn; omega)
        · rw [List.mem_singleton] at h9
          rw [h9]
          obtain ⟨-, -, ⟨y2, y3, y4⟩, ym, -⟩ := hBz
          refine ⟨⟨?_, ?_⟩, ⟨howl, by show fs z ≤ ls z; omega, hord.2, q, hq, eq⟩, fun j z1 z2 => ?_, howt.ch k15 fun j _ => by unfold Trn; omega, k7, by show sW vm 2 z ≤ 12000; have := sw 2 (by omega); omega⟩
          · show wc.1 (ρ L.length) 2 = _
            rw [k14.1 _ _ (by unfold Srn; omega)]; exact y2
          · show wc.1 (ρ L.length) 3 = _
            rw [k14.1 _ _ (by unfold Srn; omega)]; exact y3
          · show wc.1 (ρ L.length + 1) j = wm.1 185 (12 * ow z + j)
            rw [k14.1 _ _ (by unfold Srn; omega), k15.1 _ _ (by unfold Trn; omega)]; exact ym j z1 z2) (by
        refine List.pairwise_append.mpr ⟨hA, List.pairwise_singleton _ _, fun e he y hy => ?_⟩
        rw [List.mem_singleton] at hy
        rw [hy]
        refine ⟨hLR e he z (by simp), ?_⟩
        obtain ⟨i, hi⟩ := List.getElem?_of_mem he
        have hil := (List.getElem?_eq_some_iff.mp hi).1
        rw [← hρ i e hi]
        exact (un i (by omega) (by omega)).1) (by rw [k10]; congr 1; simp) (fun s e he => by
        rw [List.getElem?_append] at he
        by_cases g : s < L.length
        · rw [if_pos g] at he
          have heL := List.mem_of_getElem? he
          obtain ⟨o1, o2, o3, q3, o4, o5⟩ := (hC e heL).2.1
          exact (hM s e he).ch k14 k15 (by unfold Srn; omega) (by unfold Trn; omega) (by unfold Trn; omega) (by unfold Trn; omega) (by unfold Trn; omega)
        · rw [if_neg g] at he
          by_cases g2 : s = L.length
          · rw [g2, Nat.sub_self] at he
            simp only [List.getElem?_cons_zero, Option.some.injEq] at he
            rw [← he, g2]
            refine ⟨k11, k12, k13, ?_⟩
            show wc.1 (ρ L.length) 4 = wm.1 187 (276 + L.length)
            rw [k14.1 _ _ (by unfold Srn; omega), hBz.2.2.1.2.2, k15.1 _ _ (by unfold Trn; omega), hlet _ (by omega)]
          · obtain ⟨u, hu⟩ : ∃ u, s - L.length = u + 1 := ⟨s - L.length - 1, by omega⟩
            rw [hu] at he
            simp at he) (fun i y hy => by
        have h9 := hBI (i + 1) y (by simpa using hy)
        have hil := (List.getElem?_eq_some_iff.mp hy).1
        rw [show (L ++ [((ρ L.length, fs z, ls z, ow z, sW vm 2 z) : En)]).length + i = L.length + (i + 1) by simp only [List.length_append, List.length_cons, List.length_nil]; omega]
        obtain ⟨q3, hq3, e3⟩ := q30 (L.length + (i + 1)) (by omega)
        have h10 := h9.ch (wc := wc) k14 (fun j _ => by unfold Srn; omega) (fun j _ => by unfold Srn; omega)
        have h11 : ∀ y : List Pz, ow y = ow y := fun _ => rfl
        obtain ⟨d1, d2, d3, d4, d5, d6, d7⟩ := h10
        refine ⟨d1, d2, d3, fun j z1 z2 => by rw [k15.1 _ _ (by unfold Trn; omega)]; exact d4 j z1 z2, ?_, ?_, ?_⟩
        · rw [sW_ch k15 fun j => by unfold Trn; omega]; exact d5
        · rw [sW_ch k15 fun j => by unfold Trn; omega]; exact d6
        · rw [sW_ch k15 fun j => by unfold Trn; omega]; exact d7) (fun y hy => by
        obtain ⟨d1, d2, d3⟩ := hRP y (by simp [hy])
        exact ⟨d1, d2, fun p hp => ⟨(d3 p hp).1, (d3 p hp).2.1, (d3 p hp).2.2.1, (d3 p hp).2.2.2.ch k15 fun j _ => by unfold Trn; omega⟩⟩) (List.pairwise_cons.mp hRs).2 (fun e he y hy => by
        rcases List.mem_append.mp he with h9 | h9
        · have h8 := hLR e h9 z (by simp)
          have := hzR' y hy
          omega
        · rw [List.mem_singleton] at h9
          rw [h9]
          have := hzR' y hy
          show ls z < fs y
          omega) (by rw [k15.1 _ _ (by unfold Trn; omega), hPn, Nat.add_assoc]) (by omega) (fun k p hk => by
        rw [k15.1 190 _ (by unfold Trn; omega), k15.1 191 _ (by unfold Trn; omega), k15.1 192 _ (by unfold Trn; omega)]
        have := hPM (z.length + k) p (by rw [List.getElem?_append_right (by omega), Nat.add_sub_cancel_left]; exact hk)
        rwa [← Nat.add_assoc] at this) k3 k4 k5 k6 (by rw [sR_ch k15 fun j => by unfold Trn; omega]; omega) (by rw [sR_ch k15 fun j => by unfold Trn; omega]; omega) (fun y hy i z1 z2 => by
        have o1 := ordR y hy
        have o2 := hzR' y hy
        rw [k15.1 _ _ (by unfold Trn; omega), k15.1 _ _ (by unfold Trn; omega)]
        exact hz y (by simp [hy]) i z1 z2) (fun s hs => by rw [k15.1 _ _ (by unfold Trn; omega)]; exact hlet s hs) k8 k9
    refine ⟨vc', vm', L', ?_, ?_, by rw [j3]; simp only [List.length_append, List.length_cons, List.length_nil]; omega, j4, j5, j6, j7, j8, j9, j10, ?_, ?_, j13, j14, (k14.mono bg_s).tr j15, (k15.mono (bg_t hord.2 (by omega) (by omega))).tr j16, fun e he => ?_⟩
    · rw [f_X5_begin_2, hN, if_neg (nle (by omega) (by omega)), if_pos (gin (show L.length < 12 by omega) (by omega)), niCl (by omega), r1, Option.bind_some, if_pos (by rw [eq]; exact bodyB hB hq), hBz.2.2.1.1, vlet_eq, k1, ad1]
      rw [← j1]
      congr 2
      simp
    · rw [f_X8_begin_51, hPn, if_neg (nle (by omega) (by omega)), ad1, vlet_eq, hsc]
      unfold f_X8_begin_110
      rw [k2, Option.bind_some]
      exact j2
    · have e3 : sR wm 3 R = sR vm 3 R := sR_ch k15 (fun j => by unfold Trn; omega) R
      rw [e3] at j11
      rw [show T0 + ((sW vm 3 z + sR vm 3 R : Nat) : Int) = T0 + (sW vm 3 z : Nat) + (sR vm 3 R : Nat) by omega]
      exact j11
    · have e3 : sR wm 4 R = sR vm 4 R := sR_ch k15 (fun j => by unfold Trn; omega) R
      rw [e3] at j12
      rw [show T1 + ((sW vm 4 z + sR vm 4 R : Nat) : Int) = T1 + (sW vm 4 z : Nat) + (sR vm 4 R : Nat) by omega]
      exact j12
    · rcases j17 e he with ⟨x, hx, ex⟩ | ⟨y, hy, ey⟩
      · rcases List.mem_append.mp hx with h9 | h9
        · exact Or.inl ⟨x, h9, ex⟩
        · rw [List.mem_singleton] at h9
          exact Or.inr ⟨z, by simp, by rw [← ex, h9]⟩
      · exact Or.inr ⟨y, by simp [hy], ey⟩
