/-! SOME DROPS, in the order of their first cells -/
def pz (vm : rV) (d : Nat) : Pz := (tv vm d 0, tv vm d 1, 38 + d, d, d)
def sel (vm : rV) (set : Int32) (m c : Nat) : List Nat := (List.range m).filter fun d => f_X7_has set (nI d) && decide (tv vm d 0 = c)
def bl (vm : rV) (set : Int32) (m lo n : Nat) : List Nat := (List.range' lo n).flatMap (sel vm set m)
def blist (vm : rV) (set : Int32) (m : Nat) : List Pz := (bl vm set m 0 24).map (pz vm)
theorem sel_s (vm : rV) (set : Int32) (m c : Nat) : sel vm set (m + 1) c = sel vm set m c ++ (if f_X7_has set (nI m) = true ∧ tv vm m 0 = c then [m] else []) := by
  unfold sel
  rw [List.range_succ, List.filter_append]
  congr 1
  by_cases h : f_X7_has set (nI m) = true ∧ tv vm m 0 = c
  · simp [h]
  · rw [if_neg h, List.filter_eq_nil_iff]
    intro a ha
    rw [List.mem_singleton] at ha
    rw [ha]
    simpa using h
theorem fm_congr {l : List Nat} {f g : Nat → List Nat} (h : ∀ c, c ∈ l → f c = g c) : l.flatMap f = l.flatMap g := by
  induction l with
  | nil => rfl
  | cons a l ih => rw [List.flatMap_cons, List.flatMap_cons, h a (by simp), ih fun c hc => h c (by simp [hc])]
theorem bl_add (vm : rV) (set : Int32) (m lo n k : Nat) : bl vm set m lo (n + k) = bl vm set m lo n ++ bl vm set m (lo + n) k := by
  unfold bl
  rw [← List.range'_append_1, List.flatMap_append]
theorem bl_not {vm : rV} {set : Int32} {m lo n : Nat} (h : ¬ f_X7_has set (nI m) = true) : bl vm set (m + 1) lo n = bl vm set m lo n := fm_congr fun c _ => by
  rw [sel_s, if_neg (fun q => h q.1), List.append_nil]
theorem bl_out {vm : rV} {set : Int32} {m lo n : Nat} (h : tv vm m 0 < lo ∨ lo + n ≤ tv vm m 0) : bl vm set (m + 1) lo n = bl vm set m lo n := fm_congr fun c hc => by
  have := List.mem_range'_1.mp hc
  rw [sel_s, if_neg (fun q => by omega), List.append_nil]
theorem bl_has {vm : rV} {set : Int32} {m x : Nat} (h : f_X7_has set (nI m) = true) (hx : tv vm m 0 = x) (hx24 : x < 24) : bl vm set (m + 1) 0 24 = bl vm set m 0 (x + 1) ++ m :: bl vm set m (x + 1) (23 - x) ∧ bl vm set m 0 24 = bl vm set m 0 (x + 1) ++ bl vm set m (x + 1) (23 - x) := by
  have e : 24 = (x + 1) + (23 - x) := by omega
  have e2 : bl vm set m 0 24 = bl vm set m 0 (x + 1) ++ bl vm set m (x + 1) (23 - x) := by
    have := bl_add vm set m 0 (x + 1) (23 - x)
    rwa [← e, Nat.zero_add] at this
  refine ⟨?_, e2⟩
  have e3 : bl vm set (m + 1) 0 24 = bl vm set (m + 1) 0 (x + 1) ++ bl vm set (m + 1) (x + 1) (23 - x) := by
    have := bl_add vm set (m + 1) 0 (x + 1) (23 - x)
    rwa [← e, Nat.zero_add] at this
  rw [e3, bl_out (lo := x + 1) (n := 23 - x) (by omega), bl_add vm set (m + 1) 0 x 1, bl_out (lo := 0) (n := x) (by omega), bl_add vm set m 0 x 1]
  have e4 : bl vm set (m + 1) (0 + x) 1 = bl vm set m (0 + x) 1 ++ [m] := by
    unfold bl
    rw [Nat.zero_add]
    simp only [List.range'_succ, List.range'_zero, List.flatMap_cons, List.flatMap_nil, List.append_nil]
    rw [sel_s, if_pos ⟨h, hx⟩]
  rw [e4]
  simp
theorem mem_bl {vm : rV} {set : Int32} {m lo n d : Nat} : d ∈ bl vm set m lo n ↔ d < m ∧ f_X7_has set (nI d) = true ∧ lo ≤ tv vm d 0 ∧ tv vm d 0 < lo + n := by
  unfold bl sel
  rw [List.mem_flatMap]
  constructor
  · rintro ⟨c, h1, h2⟩
    have := List.mem_range'_1.mp h1
    rw [List.mem_filter, List.mem_range] at h2
    simp only [Bool.and_eq_true, decide_eq_true_eq] at h2
    obtain ⟨h3, h4, h5⟩ := h2
    exact ⟨h3, h4, by omega, by omega⟩
  · rintro ⟨h1, h2, h3, h4⟩
    refine ⟨tv vm d 0, List.mem_range'_1.mpr ⟨h3, h4⟩, ?_⟩
    rw [List.mem_filter, List.mem_range]
    simp only [Bool.and_eq_true, decide_eq_true_eq]
    exact ⟨h1, h2, trivial⟩
theorem bl_len {vm : rV} {set : Int32} (hx : ∀ d, d < 12 → True) : ∀ m, (∀ d, d < m → tv vm d 0 < 24) → (bl vm set m 0 24).length ≤ m := by
  intro m
  induction m with
  | zero =>
    intro _
    have : bl vm set 0 0 24 = [] := by
      apply List.eq_nil_iff_forall_not_mem.mpr
      intro d hd
      have := (mem_bl.mp hd).1
      omega
    rw [this]
    exact Nat.le_refl _
  | succ m ih =>
    intro h
    have := ih fun d hd => h d (by omega)
    by_cases g : f_X7_has set (nI m) = true
    · obtain ⟨e1, e2⟩ := bl_has (vm := vm) g rfl (h m (by omega))
      rw [e1]
      rw [e2] at this
      simp only [List.length_append, List.length_cons] at *
      omega
    · rw [bl_not g]; omega
/-- in order of first cells, no drop twice -/
theorem bl_pw {vm : rV} {set : Int32} {m lo : Nat} : ∀ n, (bl vm set m lo n).Pairwise (fun a b => tv vm a 0 ≤ tv vm b 0 ∧ a ≠ b) := by
  intro n
  induction n with
  | zero => exact List.Pairwise.nil
  | succ n ih =>
    rw [bl_add]
    refine List.pairwise_append.mpr ⟨ih, ?_, fun a ha b hb => ?_⟩
    · unfold bl sel
      simp only [List.range'_succ, List.range'_zero, List.flatMap_cons, List.flatMap_nil, List.append_nil]
      have h1 : (List.range m).Pairwise (· < ·) := List.pairwise_lt_range
      refine List.Pairwise.imp_of_mem ?_ (h1.filter _)
      intro a b ha hb hab
      rw [List.mem_filter] at ha hb
      simp only [Bool.and_eq_true, decide_eq_true_eq] at ha hb
      omega
    · have h1 := mem_bl.mp ha
      have h2 := mem_bl.mp hb
      exact ⟨by omega, fun e => by rw [e] at h1; omega⟩
/-- the drops of these lie apart -/
def DJ (vm : rV) (set : Int32) (m : Nat) : Prop := ∀ a b, a < m → b < m → f_X7_has set (nI a) = true → f_X7_has set (nI b) = true → a ≠ b → tv vm a 0 + tv vm a 1 ≤ tv vm b 0 ∨ tv vm b 0 + tv vm b 1 ≤ tv vm a 0
theorem pw_mem {α : Type} {R : α → α → Prop} : ∀ {l : List α}, l.Pairwise R → ∀ a b, a ∈ l → b ∈ l → a ≠ b → R a b ∨ R b a := by
  intro l
  induction l with
  | nil => intro _ a b ha; simp at ha
  | cons x l ih =>
    intro h a b ha hb hab
    obtain ⟨h1, h2⟩ := List.pairwise_cons.mp h
    rcases List.mem_cons.mp ha with e | ha' <;> rcases List.mem_cons.mp hb with e' | hb'
    · exact absurd (e.trans e'.symm) hab
    · rw [e]; exact Or.inl (h1 b hb')
    · rw [e']; exact Or.inr (h1 a ha')
    · exact ih h2 a b ha' hb' hab
theorem pw_chain {α : Type} {R : α → α → Prop} (tr : ∀ a b c, R a b → R b c → R a c) : ∀ {l : List α}, (∀ j, 1 ≤ j → ∀ p q, l[j - 1]? = some p → l[j]? = some q → R p q) → l.Pairwise R := by
  intro l
  induction l with
  | nil => intro _; exact List.Pairwise.nil
  | cons x l ih =>
    intro h
    have h2 : l.Pairwise R := ih fun j hj p q hp hq => h (j + 1) (by omega) p q (by
      obtain ⟨u, rfl⟩ : ∃ u, j = u + 1 := ⟨j - 1, by omega⟩
      simpa using hp) (by simpa using hq)
    refine List.pairwise_cons.mpr ⟨fun y hy => ?_, h2⟩
    cases l with
    | nil => simp at hy
    | cons z l =>
      have hxz := h 1 (by omega) x z rfl rfl
      rcases List.mem_cons.mp hy with e | hy'
      · rw [e]; exact hxz
      · exact tr x z y hxz ((List.pairwise_cons.mp h2).1 y hy')
theorem SP_DJ {vm : rV} {set : Int32} {m : Nat} (hx : ∀ d, d < m → tv vm d 0 < 24 ∧ 2 ≤ tv vm d 1 ∧ tv vm d 0 + tv vm d 1 ≤ 24) : (blist vm set m).Pairwise (fun p q => p.1 + p.2.1 ≤ q.1) ↔ DJ vm set m := by
  unfold blist
  rw [List.pairwise_map]
  constructor
  · intro h a b ha hb h1 h2 hab
    exact pw_mem h a b (mem_bl.mpr ⟨ha, h1, Nat.zero_le _, by have := hx a ha; omega⟩) (mem_bl.mpr ⟨hb, h2, Nat.zero_le _, by have := hx b hb; omega⟩) hab
  · intro h
    refine List.Pairwise.imp_of_mem ?_ (bl_pw (vm := vm) (set := set) (m := m) (lo := 0) 24)
    intro a b ha hb hab
    have h1 := mem_bl.mp ha
    have h2 := mem_bl.mp hb
    have h3 := hx a h1.1
    have h4 := hx b h2.1
    rcases h a b h1.1 h2.1 h1.2.1 h2.2.1 hab.2 with q | q
    · exact q
    · exfalso; omega
theorem chain_pw {P : List Pz} (hk : ∀ p, p ∈ P → 2 ≤ p.2.1) : (∀ j, 1 ≤ j → ∀ p q, P[j - 1]? = some p → P[j]? = some q → p.1 + p.2.1 ≤ q.1) ↔ P.Pairwise (fun p q => p.1 + p.2.1 ≤ q.1) := by
  constructor
  · intro h
    exact pw_chain (fun a b c h1 h2 => by omega) h
  · intro h j hj p q hp hq
    have h1 := (List.getElem?_eq_some_iff.mp hp)
    have h2 := (List.getElem?_eq_some_iff.mp hq)
    have := List.pairwise_iff_getElem.mp h (j - 1) j h1.1 h2.1 (by omega)
    rw [h1.2, h2.2] at this
    exact this
theorem has_eq (a b : Int32) : f_X8_has a b = f_X7_has a b := rfl
/-- the drops that both have: told rows within bounds, and on the strip -/
def DR (vm : rV) (m : Nat) : Prop := m ≤ 12 ∧ vm.1 174 21 = nI m ∧ ∀ d, d < m → TD vm 185 (12 * d) ∧ tv vm d 0 + tv vm d 1 ≤ 24
theorem DR.x {vm : rV} {m d : Nat} (h : DR vm m) (hd : d < m) : tv vm d 0 < 24 ∧ 2 ≤ tv vm d 1 ∧ tv vm d 0 + tv vm d 1 ≤ 24 := by
  obtain ⟨h1, h2⟩ := h.2.2 d hd
  have a := (tv_eq h1 (j := 0) (by omega)).2.2
  have b := (tv_eq h1 (j := 1) (by omega)).2.1
  exact ⟨by have : tHi 0 = 23 := rfl; omega, b, h2⟩
theorem gat_go {vm0 : rV} {set : Int32} {N : Nat} (hD : DR vm0 N) : ∀ (d m n : Nat) (vm : rV), m + d = N → d < n → (∀ j, vm.1 185 j = vm0.1 185 j) → vm.1 174 21 = nI N → PM vm (blist vm0 set m) → ∃ (b : Bool) (vm' : rV), f_X8_gather_7 n vm set (nI m) = some (b, vm') ∧ (b = true ↔ DJ vm0 set N) ∧ PM vm' (blist vm0 set N) ∧ Ch Tad vm vm' := by
  intro d
  induction d with
  | zero =>
    intro m n vm h hn ht hN hP
    obtain ⟨n, rfl⟩ : ∃ n', n = n' + 1 := ⟨n - 1, by omega⟩
    have hm : m = N := by omega
    subst hm
    have hk : ∀ p, p ∈ blist vm0 set m → 2 ≤ p.2.1 ∧ p.1 + p.2.1 ≤ 24 := fun p hp => by
      unfold blist at hp
      rw [List.mem_map] at hp
      obtain ⟨e, he, rfl⟩ := hp
      have := hD.x (mem_bl.mp he).1
      exact ⟨this.2.1, this.2.2⟩
    have fin : ∃ b : Bool, f_X8_gather_58 20000 vm 1 = some (b, vm) ∧ (b = true ↔ ∀ j, 1 ≤ j → ∀ p q, (blist vm0 set m)[j - 1]? = some p → (blist vm0 set m)[j]? = some q → p.1 + p.2.1 ≤ q.1) := by
      by_cases z : (blist vm0 set m).length = 0
      · refine ⟨true, ?_, ⟨fun _ j hj p q hp hq => ?_, fun _ => rfl⟩⟩
        · rw [f_X8_gather_58, hP.1, z, if_pos (show nI 0 ≤ 1 by decide)]
        · have := (List.getElem?_eq_some_iff.mp hq).1
          omega
      · exact apart_go hP (fun p hp => by have := hk p hp; omega) ((blist vm0 set m).length - 1) 1 20000 (by omega) (by omega) (by have := hP.2.1; omega)
    obtain ⟨b, k1, k2⟩ := fin
    refine ⟨b, vm, ?_, k2.trans ((chain_pw fun p hp => (hk p hp).1).trans (SP_DJ fun d hd => hD.x hd)), hP, Ch.rf⟩
    rw [f_X8_gather_7, hN, if_pos (ple (by omega) (by have := hD.1; omega))]
    exact k1
  | succ d ih =>
    intro m n vm h hn ht hN hP
    obtain ⟨n, rfl⟩ : ∃ n', n = n' + 1 := ⟨n - 1, by omega⟩
    have hN12 := hD.1
    have hxm := hD.x (d := m) (by omega)
    rw [f_X8_gather_7, hN, if_neg (nle (by omega) (by omega)), has_eq]
    unfold f_X8_gather_50
    by_cases g : f_X7_has set (nI m) = true
    · obtain ⟨e1, e2⟩ := bl_has (vm := vm0) g rfl hxm.1
      have hT := (hD.2.2 m (by omega)).1
      have t0 : vm.1 185 (12 * m + 0) = nI (tv vm0 m 0) := by rw [ht]; exact (tv_eq hT (j := 0) (by omega)).1
      have t1 : vm.1 185 (12 * m + 1) = nI (tv vm0 m 1) := by rw [ht]; exact (tv_eq hT (j := 1) (by omega)).1
      have i0 : (12 : Int32) * nI m + 0 = nI (12 * m + 0) := by rw [show (12 : Int32) = nI 12 from rfl, niMul]; exact niAdd _ 0
      have i1 : (12 : Int32) * nI m + 1 = nI (12 * m + 1) := by rw [show (12 : Int32) = nI 12 from rfl, niMul]; exact niAdd _ 1
      have hl : (bl vm0 set m 0 24).length ≤ m := bl_len (fun _ _ => trivial) m fun d hd => (hD.x (by omega)).1
      have hP' : PM vm ((bl vm0 set m 0 (tv vm0 m 0 + 1)).map (pz vm0) ++ (bl vm0 set m (tv vm0 m 0 + 1) (23 - tv vm0 m 0)).map (pz vm0)) := by
        have : blist vm0 set m = _ := rfl
        unfold blist at hP
        rw [e2, List.map_append] at hP
        exact hP
      obtain ⟨w, k1, k2, k3⟩ := addPiece_go (p := pz vm0 m) hP' (fun q hq => by
        rw [List.mem_map] at hq
        obtain ⟨e, he, rfl⟩ := hq
        have := mem_bl.mp he
        show tv vm0 e 0 ≤ tv vm0 m 0
        omega) (fun q hq => by
        rw [List.mem_map] at hq
        obtain ⟨e, he, rfl⟩ := hq
        have := mem_bl.mp he
        show tv vm0 m 0 < tv vm0 e 0 ∧ tv vm0 e 0 < 100
        omega) (by show tv vm0 m 0 < 100; omega) (by
        rw [← List.map_append, ← e2, List.length_map]
        omega)
      obtain ⟨b, vm', j1, j2, j3, j4⟩ := ih (m + 1) n w (by omega) (by omega) (fun j => by rw [k3.1 _ _ (by unfold Tad; omega)]; exact ht j) (by rw [k3.1 _ _ (by unfold Tad; omega)]; exact hN) (by
        unfold blist
        rw [e1, List.map_append, List.map_cons]
        exact k2)
      refine ⟨b, vm', ?_, j2, j3, k3.tr j4⟩
      rw [if_pos g, i0, i1, if_pos (gin (show 12 * m + 0 < 156 by omega) (by omega)), if_pos (gin (show 12 * m + 1 < 156 by omega) (by omega)), niCl (show 12 * m + 0 < 2147483648 by omega), niCl (show 12 * m + 1 < 2147483648 by omega), t0, t1, show f_X8_addPiece vm (nI (tv vm0 m 0)) (nI (tv vm0 m 1)) (nI m) = some w from k1, Option.bind_some, vlet_eq, ad1]
      exact j1
    · obtain ⟨b, vm', j1, j2, j3, j4⟩ := ih (m + 1) n vm (by omega) (by omega) ht hN (by unfold blist; rw [bl_not g]; exact hP)
      refine ⟨b, vm', ?_, j2, j3, j4⟩
      rw [if_neg g, vlet_eq, ad1]
      exact j1
theorem gather_go {vm : rV} {set : Int32} {N : Nat} (hD : DR vm N) : ∃ (b : Bool) (vm' : rV), f_X8_gather vm set = some (b, vm') ∧ (b = true ↔ DJ vm set N) ∧ PM vm' (blist vm set N) ∧ Ch Tad vm vm' := by
  have h0 : blist vm set 0 = [] := by
    unfold blist
    have : bl vm set 0 0 24 = [] := List.eq_nil_iff_forall_not_mem.mpr fun d hd => by have := (mem_bl.mp hd).1; omega
    rw [this]
    rfl
  have c1 : Ch Tad vm (rI vm 174 34 0) := Ch.rf.I (Or.inr ⟨rfl, rfl⟩)
  obtain ⟨b, vm', k1, k2, k3, k4⟩ := gat_go (set := set) hD N 0 20000 (rI vm 174 34 0) (by omega) (by have := hD.1; omega) (fun j => c1.1 _ _ (by unfold Tad; omega)) (by rw [c1.1 _ _ (by unfold Tad; omega)]; exact hD.2.1) (by
    rw [h0]
    exact ⟨rI_at _ _ _ _, by simp, fun k p h => by simp at h⟩)
  refine ⟨b, vm', ?_, k2, k3, c1.tr k4⟩
  unfold f_X8_gather
  rw [vlet_eq]
  exact k1
