/-! LETTING GO, all steps -/
theorem Sgo_mono {B kd f l f' l' : Nat} (h1 : f ≤ f') (h2 : l' ≤ l) : ∀ k j, Sgo B kd f' l' k j → Sgo B kd f l k j := fun k j q => by
  unfold Sgo at q ⊢
  omega
theorem Tgo_mono {f l f' l' : Nat} (h1 : f ≤ f') (h2 : l' ≤ l) : ∀ k j, Tgo f' l' k j → Tgo f l k j := fun k j q => by
  unfold Tgo at q ⊢
  omega
theorem go_all {B kd own A J : Nat} {pc : Int32} {S0 S1 : Int} (h0 : S0 ≤ 12000) (h1 : S1 ≤ 12000) (hA : A ≤ 12000) (hpc : 0 ≤ pc) (hJ : J ≤ 9) : ∀ (d i n m f l : Nat) (vc vm : rV), i + d = J → d < n → d < m → f + 2 * d ≤ l → BD B kd own f l vc vm → GG B pc S0 S1 vc vm → Rw vc (B + 1) vm 187 0 24 → Ar vm f l A → (∀ i, f ≤ i → i ≤ l → vm.1 193 i = 0 ∧ vm.1 193 (24 + i) = 0) →
    ∃ vc' vm', f_X5_letGo_44 n vc B kd pc (nI J) (nI i) = some vc' ∧ f_X8_letGo_2 m vm (nI J) (nI i) = some vm' ∧ BD B kd own (f + d) (l - d) vc' vm' ∧ GG B pc S0 S1 vc' vm' ∧ Rw vc' (B + 1) vm' 187 0 24 ∧ Ar vm' (f + d) (l - d) A ∧ Ch (Sgo B kd f l) vc vc' ∧ Ch (Tgo f l) vm vm' ∧ vc'.1 kd 4 = vc.1 kd 4 + 1 ∧ (∀ i, f + d ≤ i → i ≤ l - d → vm'.1 193 i = 0 ∧ vm'.1 193 (24 + i) = 0) := by
  intro d
  induction d with
  | zero =>
    intro i n m f l vc vm g1 hn hm hw hb hG hW hAr hz
    obtain ⟨n, rfl⟩ : ∃ n', n = n' + 1 := ⟨n - 1, by omega⟩
    obtain ⟨m, rfl⟩ : ∃ m', m = m' + 1 := ⟨m - 1, by omega⟩
    have hkd := hb.2.2.1
    have c1 : Ch (fun k j => k = kd ∧ j = 4) vc (rI vc kd 4 (vc.1 kd 4 + 1)) := Ch.rf.I ⟨rfl, rfl⟩
    refine ⟨rI vc kd 4 (vc.1 kd 4 + 1), vm, ?_, ?_, hb.ch c1 (T := fun _ _ => False) Ch.rf (by omega) (by omega) (fun j _ _ => by omega) (fun j _ _ => id) (fun j => id), hG.ch c1 (T := fun _ _ => False) Ch.rf (fun k c _ _ _ => by omega) (by omega) (fun j _ _ => id) (fun j _ => id), hW.ch c1 (T := fun _ _ => False) Ch.rf (fun c _ => by omega) (fun c _ => id), hAr, c1.mono fun k j q => by unfold Sgo; omega, Ch.rf, rI_at _ _ _ _, hz⟩
    · rw [f_X5_letGo_44, if_pos (ple (by omega) (by omega)), vlet_eq]
    · rw [f_X8_letGo_2, if_pos (ple (by omega) (by omega))]
  | succ d ih =>
    intro i n m f l vc vm g1 hn hm hw hb hG hW hAr hz
    obtain ⟨n, rfl⟩ : ∃ n', n = n' + 1 := ⟨n - 1, by omega⟩
    obtain ⟨m, rfl⟩ : ∃ m', m = m' + 1 := ⟨m - 1, by omega⟩
    obtain ⟨wc, wm, k1, k2, k3, k4, k5, k6, k7, k8, k9, k10⟩ := go1 (n := n) (m := m) (i := nI i) (J := nI J) h0 h1 hA hpc (by omega) (nle (by omega) (by omega)) hb hG hW hAr hz
    rw [k1, k2, ad1]
    obtain ⟨vc', vm', j1, j2, j3, j4, j5, j6, j7, j8, j9, j10⟩ := ih (i + 1) n m (f + 1) (l - 1) wc wm (by omega) (by omega) (by omega) (by omega) k3 k4 k5 k6 (fun j z1 z2 => by
      rw [(k10 j (by omega) (by omega)).1, (k10 j (by omega) (by omega)).2]
      exact hz j (by omega) (by omega))
    rw [show f + 1 + d = f + (d + 1) by omega, show l - 1 - d = l - (d + 1) by omega] at j3 j6 j10
    exact ⟨vc', vm', j1, j2, j3, j4, j5, j6, k7.tr (j7.mono (Sgo_mono (by omega) (by omega))), k8.tr (j8.mono (Tgo_mono (by omega) (by omega))), by rw [j9, k9], j10⟩
