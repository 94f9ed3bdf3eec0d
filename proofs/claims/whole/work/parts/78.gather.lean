/-! THE MODEL GATHERS PIECES -/
def Tad : Nat → Nat → Prop := fun k j => ((k = 190 ∨ k = 191 ∨ k = 192) ∧ j < 12) ∨ (k = 174 ∧ j = 34)
theorem add6 {x k d : Nat} {pre : List Pz} {N : Nat} (hpre : ∀ p, p ∈ pre → p.1 ≤ x) (hx : x < 100) : ∀ (m : Nat) (s1 s2 : List Pz) (n : Nat) (vm : rV), s1.length = m → m < n → pre.length + s1.length + s2.length = N → N < 12 → (∀ p, p ∈ s1 → x < p.1 ∧ p.1 < 100) → vm.1 174 34 = nI N → (∀ (i : Nat) p, (pre ++ s1)[i]? = some p → vm.1 190 i = nI p.1 ∧ vm.1 191 i = nI p.2.1 ∧ vm.1 192 i = nI p.2.2.2.2) → (∀ (i : Nat) p, s2[i]? = some p → vm.1 190 (pre.length + s1.length + 1 + i) = nI p.1 ∧ vm.1 191 (pre.length + s1.length + 1 + i) = nI p.2.1 ∧ vm.1 192 (pre.length + s1.length + 1 + i) = nI p.2.2.2.2) →
    ∃ vm', f_X8_addPiece_6 n vm (nI x) (nI k) (nI d) (nI (pre.length + s1.length)) = some vm' ∧ vm'.1 174 34 = nI (N + 1) ∧ (vm'.1 190 pre.length = nI x ∧ vm'.1 191 pre.length = nI k ∧ vm'.1 192 pre.length = nI d) ∧ (∀ (i : Nat) p, pre[i]? = some p → vm'.1 190 i = nI p.1 ∧ vm'.1 191 i = nI p.2.1 ∧ vm'.1 192 i = nI p.2.2.2.2) ∧ (∀ (i : Nat) p, (s1 ++ s2)[i]? = some p → vm'.1 190 (pre.length + 1 + i) = nI p.1 ∧ vm'.1 191 (pre.length + 1 + i) = nI p.2.1 ∧ vm'.1 192 (pre.length + 1 + i) = nI p.2.2.2.2) ∧ Ch Tad vm vm' := by
  intro m
  induction m with
  | zero =>
    intro s1 s2 n vm hs hn hN hN12 hsx h34 h1 h2
    obtain ⟨n, rfl⟩ : ∃ n', n = n' + 1 := ⟨n - 1, by omega⟩
    have : s1 = [] := List.length_eq_zero_iff.mp hs
    subst this
    simp only [List.length_nil, Nat.add_zero, List.append_nil, List.nil_append] at *
    obtain ⟨w, ew⟩ : ∃ w, w = rI (rI (rI (rI vm 190 pre.length (nI x)) 191 pre.length (nI k)) 192 pre.length (nI d)) 174 34 (nI (N + 1)) := ⟨_, rfl⟩
    have e78 : f_X8_addPiece_78 vm (nI x) (nI k) (nI d) (nI pre.length) = some w := by
      unfold f_X8_addPiece_78
      rw [if_pos (gin (show pre.length < 12 by omega) (by omega)), niCl (by omega), vlet_eq, vlet_eq, vlet_eq, rI_no (a := 174) (by omega), rI_no (a := 174) (by omega), rI_no (a := 174) (by omega), h34, ad1, ← ew, vlet_eq]
    have cw : Ch (fun a j => ((a = 190 ∨ a = 191 ∨ a = 192) ∧ j = pre.length) ∨ (a = 174 ∧ j = 34)) vm w := by
      rw [ew]
      exact (((Ch.rf.I (Or.inl ⟨by omega, rfl⟩)).I (Or.inl ⟨by omega, rfl⟩)).I (Or.inl ⟨by omega, rfl⟩)).I (Or.inr ⟨rfl, rfl⟩)
    refine ⟨w, ?_, by rw [ew, rI_at], ⟨?_, ?_, ?_⟩, fun i p hp => ?_, fun i p hp => ?_, cw.mono fun a j q => by unfold Tad; omega⟩
    · rw [f_X8_addPiece_6]
      by_cases q : pre.length = 0
      · rw [if_pos (show nI pre.length ≤ 0 from ple (b := 0) (by omega) (by omega))]
        exact e78
      · rw [if_neg (show ¬ nI pre.length ≤ 0 from nle (b := 0) (by omega) (by omega)), show nI pre.length - 1 = nI (pre.length - 1) from niSub (a := pre.length) (b := 1) (by omega), if_pos (gin (show pre.length - 1 < 12 by omega) (by omega)), niCl (by omega)]
        obtain ⟨p, hp⟩ : ∃ p, pre[pre.length - 1]? = some p := ⟨pre[pre.length - 1]'(by omega), List.getElem?_eq_getElem (by omega)⟩
        rw [(h1 _ p hp).1, if_pos (ple (hpre p (List.mem_of_getElem? hp)) (by omega))]
        exact e78
    · rw [ew, rI_no (by omega), rI_no (by omega), rI_no (by omega), rI_at]
    · rw [ew, rI_no (by omega), rI_no (by omega), rI_at]
    · rw [ew, rI_no (by omega), rI_at]
    · have hi := (List.getElem?_eq_some_iff.mp hp).1
      rw [cw.1 190 i (by omega), cw.1 191 i (by omega), cw.1 192 i (by omega)]
      exact h1 i p hp
    · rw [cw.1 190 _ (by omega), cw.1 191 _ (by omega), cw.1 192 _ (by omega)]
      exact h2 i p hp
  | succ m ih =>
    intro s1 s2 n vm hs hn hN hN12 hsx h34 h1 h2
    obtain ⟨n, rfl⟩ : ∃ n', n = n' + 1 := ⟨n - 1, by omega⟩
    rcases List.eq_nil_or_concat s1 with rfl | ⟨s0, q, rfl⟩
    · simp at hs
    rw [List.concat_eq_append] at *
    simp only [List.length_append, List.length_cons, List.length_nil, Nat.zero_add] at *
    obtain ⟨j, ej⟩ : ∃ j, j = pre.length + s0.length := ⟨_, rfl⟩
    have hq := h1 j q (by rw [← List.append_assoc, List.getElem?_append_right (by simp; omega)]; simp [ej])
    have hqx := hsx q (by simp)
    obtain ⟨w1, e1⟩ : ∃ w, w = rI vm 190 (j + 1) (nI q.1) := ⟨_, rfl⟩
    obtain ⟨w2, e2⟩ : ∃ w, w = rI w1 191 (j + 1) (nI q.2.1) := ⟨_, rfl⟩
    obtain ⟨w3, e3⟩ : ∃ w, w = rI w2 192 (j + 1) (nI q.2.2.2.2) := ⟨_, rfl⟩
    have cw : Ch (fun a b => (a = 190 ∨ a = 191 ∨ a = 192) ∧ b = j + 1) vm w3 := by
      rw [e3, e2, e1]
      exact ((Ch.rf.I ⟨by omega, rfl⟩).I ⟨by omega, rfl⟩).I ⟨by omega, rfl⟩
    obtain ⟨vm', k1, k2, k3, k4, k5, k6⟩ := ih s0 (q :: s2) n w3 (by omega) (by omega) (by simp only [List.length_cons]; omega) hN12 (fun p hp => hsx p (by simp [hp])) (by rw [cw.1 _ _ (by omega)]; exact h34) (fun i p hp => by
        have hi := (List.getElem?_eq_some_iff.mp hp).1
        simp only [List.length_append] at hi
        rw [cw.1 190 i (by omega), cw.1 191 i (by omega), cw.1 192 i (by omega)]
        exact h1 i p (by rw [← List.append_assoc, List.getElem?_append, if_pos (by simpa using hi)]; exact hp)) (fun i p hp => by
        by_cases z : i = 0
        · subst z
          simp only [List.getElem?_cons_zero, Option.some.injEq] at hp
          rw [← hp, Nat.add_zero, ← ej]
          refine ⟨?_, ?_, ?_⟩
          · rw [e3, rI_no (by omega), e2, rI_no (by omega), e1, rI_at]
          · rw [e3, rI_no (by omega), e2, rI_at]
          · rw [e3, rI_at]
        · obtain ⟨u, rfl⟩ : ∃ u, i = u + 1 := ⟨i - 1, by omega⟩
          rw [cw.1 190 _ (by omega), cw.1 191 _ (by omega), cw.1 192 _ (by omega)]
          have := h2 u p (by simpa using hp)
          rwa [show pre.length + (s0.length + 1) + 1 + u = pre.length + s0.length + 1 + (u + 1) by omega] at this)
    refine ⟨vm', ?_, k2, k3, k4, fun i p hp => k5 i p (by simpa using hp), (cw.mono fun a b z => by unfold Tad; omega).tr k6⟩
    rw [show pre.length + (s0.length + 1) = j + 1 by omega, f_X8_addPiece_6, if_neg (show ¬ nI (j + 1) ≤ 0 from nle (b := 0) (by omega) (by omega)), show nI (j + 1) - 1 = nI j from niSub (a := j + 1) (b := 1) (by omega), if_pos (gin (show j < 12 by omega) (by omega)), niCl (show j < 2147483648 by omega), hq.1, if_neg (nle hqx.1 (by omega)), if_pos (gin (show j + 1 < 12 by omega) (by omega)), niCl (show j + 1 < 2147483648 by omega), ← e1, vlet_eq, show w1.1 191 j = nI q.2.1 by rw [e1, rI_no (by omega)]; exact hq.2.1, ← e2, vlet_eq, show w2.1 192 j = nI q.2.2.2.2 by rw [e2, rI_no (by omega), e1, rI_no (by omega)]; exact hq.2.2, ← e3, vlet_eq, vlet_eq, sb1 (by omega), Nat.add_sub_cancel, ej]
    exact k1
theorem addPiece_go {vm : rV} {pre suf : List Pz} {p : Pz} (hP : PM vm (pre ++ suf)) (hpre : ∀ q, q ∈ pre → q.1 ≤ p.1) (hsuf : ∀ q, q ∈ suf → p.1 < q.1 ∧ q.1 < 100) (hx : p.1 < 100) (hl : (pre ++ suf).length < 12) : ∃ vm', f_X8_addPiece vm (nI p.1) (nI p.2.1) (nI p.2.2.2.2) = some vm' ∧ PM vm' (pre ++ p :: suf) ∧ Ch Tad vm vm' := by
  obtain ⟨p1, p2, p3⟩ := hP
  simp only [List.length_append] at *
  obtain ⟨vm', k1, k2, ⟨k3, k3', k3''⟩, k4, k5, k6⟩ := add6 (k := p.2.1) (d := p.2.2.2.2) (N := pre.length + suf.length) hpre hx suf.length suf [] 20000 vm rfl (by omega) (by simp) hl hsuf p1 p3 (fun i q h => by simp at h)
  refine ⟨vm', ?_, ⟨by rw [k2]; congr 1; simp; omega, by simp; omega, fun i q hq => ?_⟩, k6⟩
  · unfold f_X8_addPiece
    rw [vlet_eq, p1]
    exact k1
  · rw [List.getElem?_append] at hq
    by_cases z : i < pre.length
    · rw [if_pos z] at hq; exact k4 i q hq
    · rw [if_neg z] at hq
      by_cases z2 : i = pre.length
      · rw [z2, Nat.sub_self] at hq
        simp only [List.getElem?_cons_zero, Option.some.injEq] at hq
        rw [← hq, z2]
        exact ⟨k3, k3', k3''⟩
      · obtain ⟨u, hu⟩ : ∃ u, i - pre.length = u + 1 := ⟨i - pre.length - 1, by omega⟩
        rw [hu] at hq
        have := k5 u q (by simpa using hq)
        rwa [show pre.length + 1 + u = i by omega] at this
/-- whether neighbours lie apart -/
theorem apart_go {vm : rV} {P : List Pz} (hP : PM vm P) (hb : ∀ p, p ∈ P → p.1 + p.2.1 ≤ 100) : ∀ (d i n : Nat), i + d = P.length → 0 < i → d < n → ∃ b : Bool, f_X8_gather_58 n vm (nI i) = some (b, vm) ∧ (b = true ↔ ∀ j, i ≤ j → ∀ p q, P[j - 1]? = some p → P[j]? = some q → p.1 + p.2.1 ≤ q.1) := by
  obtain ⟨p1, p2, p3⟩ := hP
  intro d
  induction d with
  | zero =>
    intro i n h hi hn
    obtain ⟨n, rfl⟩ : ∃ n', n = n' + 1 := ⟨n - 1, by omega⟩
    refine ⟨true, by rw [f_X8_gather_58, p1, if_pos (ple (by omega) (by omega))], ⟨fun _ j hj p q _ hq => ?_, fun _ => rfl⟩⟩
    have := (List.getElem?_eq_some_iff.mp hq).1
    omega
  | succ d ih =>
    intro i n h hi hn
    obtain ⟨n, rfl⟩ : ∃ n', n = n' + 1 := ⟨n - 1, by omega⟩
    obtain ⟨p, hp⟩ : ∃ p, P[i - 1]? = some p := ⟨P[i - 1]'(by omega), List.getElem?_eq_getElem (by omega)⟩
    obtain ⟨q, hq⟩ : ∃ q, P[i]? = some q := ⟨P[i]'(by omega), List.getElem?_eq_getElem (by omega)⟩
    have h1 := p3 _ p hp
    have h2 := p3 _ q hq
    have b1 := hb p (List.mem_of_getElem? hp)
    have b2 := hb q (List.mem_of_getElem? hq)
    rw [f_X8_gather_58, p1, if_neg (nle (by omega) (by omega)), show nI i - 1 = nI (i - 1) from niSub (a := i) (b := 1) (by omega), if_pos (gin (show i - 1 < 12 by omega) (by omega)), if_pos (gin (show i < 12 by omega) (by omega)), niCl (by omega), niCl (by omega), h1.1, h1.2.1, h2.1, niAdd]
    by_cases g : p.1 + p.2.1 ≤ q.1
    · obtain ⟨b, k1, k2⟩ := ih (i + 1) n (by omega) (by omega) (by omega)
      rw [if_pos (ple g (by omega)), vlet_eq, ad1]
      refine ⟨b, k1, k2.trans ⟨fun H j hj u w hu hw => ?_, fun H j hj u w hu hw => H j (by omega) u w hu hw⟩⟩
      by_cases z : j = i
      · subst z
        rw [hp] at hu
        rw [hq] at hw
        rw [← Option.some.inj hu, ← Option.some.inj hw]
        exact g
      · exact H j (by omega) u w hu hw
    · rw [if_neg (nle (by omega) (by omega))]
      exact ⟨false, rfl, ⟨fun h9 => absurd h9 Bool.false_ne_true, fun H => absurd (H i (Nat.le_refl _) p q hp hq) g⟩⟩
