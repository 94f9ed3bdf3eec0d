/-! ALL BODIES' TURNS of a tick -/
def al (L : List En) : List En := L.filter fun e => decide (0 < e.2.2.2.2)
theorem al_add (D : List En) (e : En) : al (D ++ [e]) = al D ++ (if 0 < e.2.2.2.2 then [e] else []) := by
  unfold al
  rw [List.filter_append]
  congr 1
  by_cases h : 0 < e.2.2.2.2
  · simp [h]
  · simp [h]
def tkC (vc : rV) (B : Nat) : Option rV := if (120 : Int32) ≤ vc.1 B 15 then f_X5_oneTick_116 vc B else if ¬ vc.1 B 15 < 0 ∧ (vc.1 B 15).toNatClampNeg < 120 then f_X5_oneTick_116 (rI vc (B + 12) ((vc.1 B 15).toNatClampNeg) (vc.1 B 3)) B else none
def tkM (vm : rV) : Option rV := f_X8_tickOnce_103 20000 (rI vm 187 289 (vm.1 187 289 + 1)) 0 0
def Stk (B kf : Nat) : Nat → Nat → Prop := fun k j => (B + 1 ≤ k ∧ k ≤ B + 11) ∨ (k = B ∧ (j = 3 ∨ j = 16 ∨ j = 17 ∨ j = 1000014)) ∨ (B + 14 ≤ k ∧ k ≤ B + 37 ∧ 2 ≤ j ∧ j ≤ 4) ∨ k = kf + 2
def Ttk : Nat → Nat → Prop := fun k j => (k = 187 ∧ (j < 120 ∨ (168 ≤ j ∧ j < 192) ∨ (240 ≤ j ∧ j ≤ 288) ∨ j = 290 ∨ j = 293)) ∨ (k = 174 ∧ (j = 37 ∨ j = 38 ∨ j = 39 ∨ j = 1000027)) ∨ k = 183 ∨ k = 184 ∨ k = 194 ∨ k = 193
theorem tk_s {B kd kf f l q : Nat} (hq : q < 12) (hk : kd = B + 14 + 2 * q) : ∀ k j, Sgo2 B kd kf f l k j → Stk B kf k j := fun k j h => by
  unfold Sgo2 Sbd at h; unfold Stk
  rcases h with (h | h | h | h | h | h) | h
  · exact Or.inl (by omega)
  · exact Or.inl (by omega)
  · exact Or.inl (by omega)
  · exact Or.inl (by omega)
  · exact Or.inr (Or.inl h)
  · exact Or.inr (Or.inr (Or.inl (by omega)))
  · exact Or.inr (Or.inr (Or.inr h))
theorem tk_t {b f l : Nat} (hl : l < 24) (hb : b < 12) : ∀ k j, Tbd b f l k j → Ttk k j := fun k j h => by
  unfold Tbd at h; unfold Ttk
  rcases h with ⟨h, z⟩ | h | h | h | h | h
  · refine Or.inl ⟨h, ?_⟩
    rcases z with z | z | z | z | z | z
    · exact Or.inl (by omega)
    · exact Or.inl (by omega)
    · exact Or.inr (Or.inl z)
    · exact Or.inr (Or.inr (Or.inr (Or.inl z)))
    · exact Or.inr (Or.inr (Or.inr (Or.inr z)))
    · exact Or.inr (Or.inr (Or.inl (by omega)))
  · exact Or.inr (Or.inl h)
  · exact Or.inr (Or.inr (Or.inl h))
  · exact Or.inr (Or.inr (Or.inr (Or.inl h)))
  · exact Or.inr (Or.inr (Or.inr (Or.inr (Or.inl h))))
  · exact Or.inr (Or.inr (Or.inr (Or.inr (Or.inr h.1))))
theorem tk_r : ∀ k j, (k = 187 ∧ 240 ≤ j ∧ j ≤ 288) → Ttk k j := fun k j h => Or.inl ⟨h.1, Or.inr (Or.inr (Or.inl h.2))⟩
theorem bodyB {B q : Nat} (hB : isStrip B = true) (hq : q < 12) : isBody (B + 14 + 2 * q) = true := by
  have h1 : B = 60 ∨ B = 98 ∨ B = 136 := is_mem (p := fun k => k = 60 ∨ k = 98 ∨ k = 136) hB (by decide)
  have h2 : ∀ q, q < 12 → isBody (60 + 14 + 2 * q) = true ∧ isBody (98 + 14 + 2 * q) = true ∧ isBody (136 + 14 + 2 * q) = true := by decide
  have := h2 q hq
  rcases h1 with rfl | rfl | rfl
  · exact this.1
  · exact this.2.1
  · exact this.2.2
theorem oth {B kf b f l : Nat} {vc vm wc wm : rV} {e x : En} (hC : CEn B vc vm x) (hq : ∃ q, q < 12 ∧ e.1 = B + 14 + 2 * q) (hkf : kf + 2 < B) (hl : e.2.2.1 < 24) (hb : b < 12) (ha : x.2.2.1 < e.2.1 ∨ e.2.2.1 < x.2.1) (hr : x.1 ≠ e.1) (hc : Ch (Sgo2 B e.1 kf e.2.1 e.2.2.1) vc wc) (hm : Ch (Tbd b e.2.1 e.2.2.1) vm wm) : CEn B wc wm x := by
  obtain ⟨q, hq, eq⟩ := hq
  obtain ⟨o1, o2, o3, q2, o4, o5⟩ := hC.2.1
  refine hC.ch hc hm (by unfold Sgo2 Sbd; omega) (by unfold Sgo2 Sbd; omega) (fun j _ _ => by unfold Sgo2 Sbd; omega) (fun j => by unfold Tbd; omega) (fun c _ _ => by unfold Tbd; omega)
theorem othM {B kf b s : Nat} {vc vm wc wm : rV} {e x : En} (hM : MEn vc vm x s) (hx : ∃ q, q < 12 ∧ x.1 = B + 14 + 2 * q) (hkf : kf + 2 < B) (hl : e.2.2.1 < 24) (hb : b < 12) (hs : s < 12) (hsb : s ≠ b) (hr : x.1 ≠ e.1) (hc : Ch (Sgo2 B e.1 kf e.2.1 e.2.2.1) vc wc) (hm : Ch (Tbd b e.2.1 e.2.2.1) vm wm) : MEn wc wm x s := by
  obtain ⟨q, hq, eq⟩ := hx
  exact hM.ch hc hm (by unfold Sgo2 Sbd; omega) (by unfold Tbd; omega) (by unfold Tbd; omega) (by unfold Tbd; omega) (by unfold Tbd; omega)
theorem exC {n B : Nat} {pc a : Int32} {vc : rV} (h : vc.1 B 10 ≤ a) : f_X5_oneTick_33 (n + 1) vc B pc a = tkC vc B := by
  rw [f_X5_oneTick_33, if_pos h]
  unfold tkC
  rw [vlet_eq]
theorem exM {n : Nat} {a : Int32} {vm : rV} (h : vm.1 187 288 ≤ a) : f_X8_tickOnce_53 (n + 1) vm a = tkM vm := by
  rw [f_X8_tickOnce_53, if_pos h, vlet_eq]
  unfold tkM
  with_reducible rfl
theorem turns_go {B kf N : Nat} {pc : Int32} {S0 S1 : Int} (hB : isStrip B = true) (h0 : S0 ≤ 12000) (h1 : S1 ≤ 12000) (hpc : 0 ≤ pc) : ∀ (R D : List En) (n m : Nat) (vc vm : rV), (D ++ R).length ≤ 12 → R.length < n → R.length < m → (∀ e, e ∈ D ++ R → CEn B vc vm e) → (D ++ R).Pairwise Ap → (∀ (t : Nat) e, (D ++ R)[t]? = some e → vc.2.2 (B + 13) t = some e.1) → vc.1 B 10 = nI (D ++ R).length → vm.1 187 288 = nI (al D ++ R).length → (∀ (s : Nat) e, (al D ++ R)[s]? = some e → MEn vc vm e s) → LSt B kf N vc vm → PP B pc S0 S1 vc vm → (∀ e, e ∈ R → ∀ i, e.2.1 ≤ i → i ≤ e.2.2.1 → vm.1 193 i = 0 ∧ vm.1 193 (24 + i) = 0) →
    ∃ (vc' vm' : rV) (L' : List En), f_X5_oneTick_33 n vc B pc (nI D.length) = tkC vc' B ∧ f_X8_tickOnce_53 m vm (nI (al D).length) = tkM vm' ∧ L'.length = (D ++ R).length ∧ (∀ e, e ∈ L' → CEn B vc' vm' e) ∧ L'.Pairwise Ap ∧ (∀ (t : Nat) e, L'[t]? = some e → vc'.2.2 (B + 13) t = some e.1) ∧ vm'.1 187 288 = nI (al L').length ∧ (∀ (s : Nat) e, (al L')[s]? = some e → MEn vc' vm' e s) ∧ LSt B kf N vc' vm' ∧ PP B pc S0 S1 vc' vm' ∧ Ch (Stk B kf) vc vc' ∧ Ch Ttk vm vm' ∧ (∀ e, e ∈ L' → ∃ x, x ∈ D ++ R ∧ x.2.2.2.1 = e.2.2.2.1) := by
  intro R
  induction R with
  | nil =>
    intro D n m vc vm hlen hn hm hC hA hr hN hN2 hM hL hP hz
    obtain ⟨n, rfl⟩ : ∃ n', n = n' + 1 := ⟨n - 1, by simp at hn; omega⟩
    obtain ⟨m, rfl⟩ : ∃ m', m = m' + 1 := ⟨m - 1, by simp at hm; omega⟩
    rw [List.append_nil] at *
    refine ⟨vc, vm, D, ?_, ?_, rfl, hC, hA, hr, hN2, hM, hL, hP, Ch.rf, Ch.rf, fun e he => ⟨e, he, rfl⟩⟩
    · exact exC (by rw [hN]; exact ple (Nat.le_refl _) (by omega))
    · have : (al D).length ≤ 12 := Nat.le_trans (List.length_filter_le _ _) hlen
      exact exM (by rw [hN2]; exact ple (Nat.le_refl _) (by omega))
  | cons e R ih =>
    intro D n m vc vm hlen hn hm hC hA hr hN hN2 hM hL hP hz
    obtain ⟨n, rfl⟩ : ∃ n', n = n' + 1 := ⟨n - 1, by simp at hn; omega⟩
    obtain ⟨m, rfl⟩ : ∃ m', m = m' + 1 := ⟨m - 1, by simp at hm; omega⟩
    have hlen2 : D.length + (R.length + 1) ≤ 12 := by simpa using hlen
    have haD : (al D).length ≤ D.length := List.length_filter_le _ _
    simp only [List.length_cons] at hn hm
    have hCe : CEn B vc vm e := hC e (by simp)
    have hMe : MEn vc vm e (al D).length := hM _ e (by rw [List.getElem?_append_right (Nat.le_refl _)]; simp)
    have hre : vc.2.2 (B + 13) D.length = some e.1 := hr _ e (by rw [List.getElem?_append_right (Nat.le_refl _)]; simp)
    have hap := List.pairwise_append.mp hA
    have hap2 := List.pairwise_cons.mp hap.2.1
    obtain ⟨v1, v2, v3, v4, v5, v6, v7, vm', f', l', A, k1, k2, k3, k4, k5, k6, k7, k8, k9, k10, k11, k12, k13, k14, k15⟩ := turn1 (b := (al D).length) h0 h1 hpc (by omega) hCe hMe hL hP (hz e (by simp))
    have hqe := hCe.2.1.2.2.2
    have hle := hCe.2.1.2.2.1
    have kfB := hL.2.2.1
    have bod : isBody e.1 = true := by
      obtain ⟨q, hq, eq⟩ := hqe
      rw [eq]
      exact bodyB hB hq
    have sC : f_X5_oneTick_33 (n + 1) vc B pc (nI D.length) = f_X5_oneTick_33 n v7 B pc (nI (D.length + 1)) := by
      rw [f_X5_oneTick_33, hN, if_neg (nle (by simp) (by omega)), if_pos (gin (show D.length < 12 by omega) (by omega)), niCl (by omega), hre, Option.bind_some, if_pos bod, k1, Option.bind_some, k2, Option.bind_some, k3, Option.bind_some, k4, Option.bind_some, k5, Option.bind_some, k6, Option.bind_some, k7, Option.bind_some, vlet_eq, ad1]
    have xa : ∀ x, x ∈ D ++ R → (x.2.2.1 < e.2.1 ∨ e.2.2.1 < x.2.1) ∧ x.1 ≠ e.1 := fun x hx => by
      rcases List.mem_append.mp hx with h | h
      · have := hap.2.2 x h e (by simp)
        exact ⟨Or.inl this.1, this.2⟩
      · have := hap2.1 x h
        exact ⟨Or.inr this.1, this.2.symm⟩
    have xC : ∀ x, x ∈ D ++ R → CEn B vc vm x := fun x hx => hC x (by
      rcases List.mem_append.mp hx with h | h
      · exact List.mem_append_left _ h
      · exact List.mem_append_right _ (List.mem_cons_of_mem _ h))
    have hC' : ∀ x, x ∈ (D ++ [(e.1, f', l', e.2.2.2.1, A)]) ++ R → CEn B v7 vm' x := fun x hx => by
      rw [List.append_assoc] at hx
      rcases List.mem_append.mp hx with h | h
      · exact oth (f := f') (l := l') (xC x (List.mem_append_left _ h)) hqe kfB hle (by omega) (xa x (List.mem_append_left _ h)).1 (xa x (List.mem_append_left _ h)).2 k14 k15
      · rcases List.mem_cons.mp h with h | h
        · rw [h]; exact k10
        · exact oth (f := f') (l := l') (xC x (List.mem_append_right _ h)) hqe kfB hle (by omega) (xa x (List.mem_append_right _ h)).1 (xa x (List.mem_append_right _ h)).2 k14 k15
    have hA' : ((D ++ [(e.1, f', l', e.2.2.2.1, A)]) ++ R).Pairwise Ap := by
      rw [List.append_assoc]
      refine List.pairwise_append.mpr ⟨hap.1, List.pairwise_cons.mpr ⟨fun x hx => ?_, hap2.2⟩, fun a ha x hx => ?_⟩
      · have := hap2.1 x hx
        exact ⟨Nat.lt_of_le_of_lt k13 this.1, this.2⟩
      · rcases List.mem_cons.mp hx with h | h
        · have := hap.2.2 a ha e (by simp)
          rw [h]
          exact ⟨Nat.lt_of_lt_of_le this.1 k12, this.2⟩
        · exact hap.2.2 a ha x (List.mem_cons_of_mem _ h)
    have hr' : ∀ (t : Nat) x, ((D ++ [(e.1, f', l', e.2.2.2.1, A)]) ++ R)[t]? = some x → v7.2.2 (B + 13) t = some x.1 := fun t x hx => by
      rw [k14.2.2 _ _ (by unfold Sgo2 Sbd; obtain ⟨q, hq, eq⟩ := hqe; omega)]
      rw [List.append_assoc, List.getElem?_append] at hx
      by_cases z : t < D.length
      · rw [if_pos z] at hx
        exact hr t x (by rw [List.getElem?_append, if_pos z]; exact hx)
      · rw [if_neg z] at hx
        by_cases z2 : t = D.length
        · subst z2
          simp only [Nat.sub_self, List.singleton_append, List.getElem?_cons_zero, Option.some.injEq] at hx
          rw [← hx]
          exact hre
        · refine hr t x (by
            rw [List.getElem?_append, if_neg z]
            obtain ⟨u, hu⟩ : ∃ u, t - D.length = u + 1 := ⟨t - D.length - 1, by omega⟩
            rw [hu] at hx ⊢
            simpa using hx)
    have hN' : v7.1 B 10 = nI ((D ++ [(e.1, f', l', e.2.2.2.1, A)]) ++ R).length := by
      rw [k14.1 _ _ (by unfold Sgo2 Sbd; obtain ⟨q, hq, eq⟩ := hqe; omega), hN]
      congr 1
      simp
    have hL' : LSt B kf N v7 vm' := hL.ch k14 k15 (by unfold Sgo2 Sbd; obtain ⟨q, hq, eq⟩ := hqe; omega) (fun j => by unfold Sgo2 Sbd; obtain ⟨q, hq, eq⟩ := hqe; omega) (by unfold Sgo2 Sbd; obtain ⟨q, hq, eq⟩ := hqe; omega) (by unfold Tbd; omega) (fun k j _ _ _ => by unfold Tbd; omega)
    have hz' : ∀ x, x ∈ R → ∀ i, x.2.1 ≤ i → i ≤ x.2.2.1 → vm'.1 193 i = 0 ∧ vm'.1 193 (24 + i) = 0 := fun x hx i z1 z2 => by
      have q1 := (xa x (List.mem_append_right _ hx)).1
      have q2 := (xC x (List.mem_append_right _ hx)).2.1
      rw [k15.1 _ _ (by unfold Tbd; omega), k15.1 _ _ (by unfold Tbd; omega)]
      exact hz x (List.mem_cons_of_mem _ hx) i z1 z2
    have hN3 : vm'.1 187 288 = nI ((al D).length + (R.length + 1)) := by
      rw [k15.1 _ _ (by unfold Tbd; omega), hN2]
      simp
    have mem_al : ∀ (s : Nat) x, (al D)[s]? = some x → x ∈ D := fun s x h => (List.mem_filter.mp (List.mem_of_getElem? h)).1
    have qx : ∀ x, x ∈ D ++ R → ∃ q, q < 12 ∧ x.1 = B + 14 + 2 * q := fun x hx => (xC x hx).2.1.2.2.2
    have own9 : ∀ L' : List En, (∀ x, x ∈ L' → ∃ y, y ∈ (D ++ [(e.1, f', l', e.2.2.2.1, A)]) ++ R ∧ y.2.2.2.1 = x.2.2.2.1) → ∀ x, x ∈ L' → ∃ y, y ∈ D ++ e :: R ∧ y.2.2.2.1 = x.2.2.2.1 := fun L' H x hx => by
      obtain ⟨y, hy, ey⟩ := H x hx
      rw [List.append_assoc] at hy
      rcases List.mem_append.mp hy with h | h
      · exact ⟨y, List.mem_append_left _ h, ey⟩
      · rcases List.mem_cons.mp h with h | h
        · exact ⟨e, by simp, by rw [← ey, h]⟩
        · exact ⟨y, List.mem_append_right _ (List.mem_cons_of_mem _ (show y ∈ R from h)), ey⟩
    rw [sC]
    by_cases p : 0 < A
    · -- it stays
      have ea : al (D ++ [(e.1, f', l', e.2.2.2.1, A)]) = al D ++ [(e.1, f', l', e.2.2.2.1, A)] := by rw [al_add, if_pos p]
      obtain ⟨vc'', vm'', L', j1, j2, j3, j4, j5, j6, j7, j8, j9, j10, j11, j12, j13⟩ := ih (D ++ [(e.1, f', l', e.2.2.2.1, A)]) n m v7 vm' (by simpa using hlen) (by omega) (by omega) hC' hA' hr' hN' (by rw [ea, hN3]; congr 1; simp) (fun s x hx => by
        rw [ea, List.append_assoc, List.getElem?_append] at hx
        by_cases z : s < (al D).length
        · rw [if_pos z] at hx
          have hxD := mem_al s x hx
          exact othM (hM s x (by rw [List.getElem?_append, if_pos z]; exact hx)) (qx x (List.mem_append_left _ hxD)) kfB hle (by omega) (by omega) (by omega) (xa x (List.mem_append_left _ hxD)).2 k14 k15
        · rw [if_neg z] at hx
          by_cases z2 : s = (al D).length
          · subst z2
            simp only [Nat.sub_self, List.singleton_append, List.getElem?_cons_zero, Option.some.injEq] at hx
            rw [← hx]
            exact k11
          · obtain ⟨u, hu⟩ : ∃ u, s - (al D).length = u + 1 := ⟨s - (al D).length - 1, by omega⟩
            rw [hu] at hx
            simp only [List.singleton_append, List.getElem?_cons_succ] at hx
            have hxR : x ∈ R := List.mem_of_getElem? hx
            have hul : u < R.length := (List.getElem?_eq_some_iff.mp hx).1
            exact othM (hM s x (by rw [List.getElem?_append, if_neg z, hu]; simpa using hx)) (qx x (List.mem_append_right _ hxR)) kfB hle (by omega) (by omega) (by omega) (xa x (List.mem_append_right _ hxR)).2 k14 k15) hL' k9 hz'
      obtain ⟨q, hq, eq⟩ := hqe
      refine ⟨vc'', vm'', L', by rw [← j1]; simp, ?_, by rw [j3]; simp, j4, j5, j6, j7, j8, j9, j10, (k14.mono (tk_s hq eq)).tr j11, (k15.mono (tk_t hle (by omega))).tr j12, own9 L' j13⟩
      rw [← j2, ea, f_X8_tickOnce_53, hN2, if_neg (nle (by simp) (by simp; omega)), k8, Option.bind_some, decide_eq_true p, if_pos rfl, vlet_eq, ad1]
      simp
    · -- it is gone
      have ea : al (D ++ [(e.1, f', l', e.2.2.2.1, A)]) = al D := by rw [al_add, if_neg p, List.append_nil]
      obtain ⟨vm2, g1, g2, g3, g4⟩ := remove_go (b := (al D).length) (N := (al D).length + (R.length + 1)) (vm := vm') (by omega) (by omega) hN3
      have hP2 : PP B pc S0 S1 v7 vm2 := k9.ch (S := fun _ _ => False) Ch.rf g2 (fun _ _ _ _ _ => id) (fun _ _ => id) id (fun j _ => by omega) (fun j _ _ => by omega) (fun c _ => by omega) (by omega)
      have hL2 : LSt B kf N v7 vm2 := hL'.ch (S := fun _ _ => False) Ch.rf g2 id (fun _ => id) id (by omega) (fun k j _ _ _ => by omega)
      obtain ⟨vc'', vm'', L', j1, j2, j3, j4, j5, j6, j7, j8, j9, j10, j11, j12, j13⟩ := ih (D ++ [(e.1, f', l', e.2.2.2.1, A)]) n m v7 vm2 (by simpa using hlen) (by omega) (by omega) (fun x hx => (hC' x hx).ch (S := fun _ _ => False) Ch.rf g2 id id (fun _ _ _ => id) (fun j => by omega) (fun c _ z2 => by have := (hC' x hx).2.1; omega)) hA' hr' hN' (by rw [ea, g3]; congr 1; simp) (fun s x hx => by
        rw [ea, List.getElem?_append] at hx
        by_cases z : s < (al D).length
        · rw [if_pos z] at hx
          have hxD := mem_al s x hx
          have hm0 := othM (hM s x (by rw [List.getElem?_append, if_pos z]; exact hx)) (qx x (List.mem_append_left _ hxD)) kfB hle (b := (al D).length) (by omega) (by omega) (by omega) (xa x (List.mem_append_left _ hxD)).2 k14 k15
          have hg := g4 s (by omega)
          have n1 : ¬ ((al D).length ≤ s ∧ s < (al D).length + (R.length + 1) - 1) := by omega
          simp only [if_neg n1] at hg
          unfold MEn at hm0 ⊢
          rw [hg.1, hg.2.1, hg.2.2.1, hg.2.2.2]
          exact hm0
        · rw [if_neg z] at hx
          have hxR : x ∈ R := List.mem_of_getElem? hx
          have hul : s - (al D).length < R.length := (List.getElem?_eq_some_iff.mp hx).1
          have hm0 := othM (hM (s + 1) x (by
            rw [List.getElem?_append, if_neg (by omega), show s + 1 - (al D).length = (s - (al D).length) + 1 by omega]
            simpa using hx)) (qx x (List.mem_append_right _ hxR)) kfB hle (b := (al D).length) (by omega) (by omega) (by omega) (xa x (List.mem_append_right _ hxR)).2 k14 k15
          have hg := g4 s (by omega)
          have p1 : (al D).length ≤ s ∧ s < (al D).length + (R.length + 1) - 1 := by omega
          simp only [if_pos p1] at hg
          unfold MEn at hm0 ⊢
          rw [hg.1, hg.2.1, hg.2.2.1, hg.2.2.2]
          exact hm0) hL2 hP2 (fun x hx i z1 z2 => by
            rw [g2.1 _ _ (by omega), g2.1 _ _ (by omega)]
            exact hz' x hx i z1 z2)
      obtain ⟨q, hq, eq⟩ := hqe
      refine ⟨vc'', vm'', L', by rw [← j1]; simp, ?_, by rw [j3]; simp, j4, j5, j6, j7, j8, j9, j10, (k14.mono (tk_s hq eq)).tr j11, ((k15.mono (tk_t hle (by omega))).tr (g2.mono tk_r)).tr j12, own9 L' j13⟩
      rw [← j2, ea, f_X8_tickOnce_53, hN2, if_neg (nle (by simp) (by simp; omega)), k8, Option.bind_some, decide_eq_false p, if_neg Bool.false_ne_true, g1, Option.bind_some]
