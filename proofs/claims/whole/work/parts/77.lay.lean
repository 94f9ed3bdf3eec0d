/-! FROM PIECES TO A STRIP -/
/-- pieces in order, none over another -/
def SP (P : List Pz) : Prop := P.Pairwise (fun p q => p.1 + p.2.1 ≤ q.1) ∧ ∀ p, p ∈ P → 2 ≤ p.2.1 ∧ p.1 + p.2.1 ≤ 24
def grp (P : List Pz) : List (List Pz) := P.foldl addP []
theorem grp_sn (P : List Pz) (p : Pz) : grp (P ++ [p]) = addP (grp P) p := by
  unfold grp
  rw [List.foldl_append]
  rfl
theorem snoc_ind {α : Type} {M : List α → Prop} (h0 : M []) (h1 : ∀ l a, M l → M (l ++ [a])) : ∀ l, M l := by
  have : ∀ n, ∀ l : List α, l.length = n → M l := by
    intro n
    induction n with
    | zero => intro l h; rw [List.length_eq_zero_iff.mp h]; exact h0
    | succ n ih =>
      intro l h
      rcases List.eq_nil_or_concat l with rfl | ⟨l', a, rfl⟩
      · exact h0
      · rw [List.concat_eq_append] at *
        exact h1 l' a (ih l' (by simp at h; exact h))
  exact fun l => this l.length l rfl
theorem grp_ok : ∀ P : List Pz, SP P → (grp P).flatten = P ∧ (∀ z, z ∈ grp P → z ≠ [] ∧ tch z) ∧ (grp P).Pairwise (fun z y => ls z + 1 < fs y) ∧ (∀ (Ra : List (List Pz)) z, grp P = Ra ++ [z] → ∀ p, P.getLast? = some p → ls z = p.1 + p.2.1 - 1) := by
  refine snoc_ind ?_ ?_
  · intro _
    refine ⟨rfl, fun z h => by simp [grp] at h, by simp [grp], fun Ra z h => by simp [grp] at h⟩
  · intro P p ih hS
    have hSP : SP P := ⟨(List.pairwise_append.mp hS.1).1, fun q hq => hS.2 q (List.mem_append_left _ hq)⟩
    obtain ⟨g1, g2, g3, g4⟩ := ih hSP
    have hp := hS.2 p (by simp)
    rw [grp_sn]
    have memk : ∀ z, z ∈ grp P → ∀ q, q ∈ z → q ∈ P := fun z hz q hq => by rw [← g1]; exact List.mem_flatten.mpr ⟨z, hz, hq⟩
    have kz : ∀ z, z ∈ grp P → ∀ q, q ∈ z → 2 ≤ q.2.1 := fun z hz q hq => (hSP.2 q (memk z hz q hq)).1
    rcases List.eq_nil_or_concat (grp P) with e | ⟨Ra, z, e⟩
    · rw [e]
      have hP : P = [] := by rw [← g1, e]; rfl
      subst hP
      refine ⟨rfl, fun y hy => ?_, by simp [addP], fun Ra z h q hq => ?_⟩
      · simp only [addP, List.mem_singleton] at hy
        rw [hy]
        exact ⟨by simp, trivial⟩
      · simp only [addP] at h
        have : z = [p] := by
          rcases Ra with _ | ⟨x, Ra⟩
          · simpa using h.symm
          · simp at h
        simp at hq
        rw [this, ← hq]
        rfl
    · rw [List.concat_eq_append] at e
      rw [e, addP_sn]
      rw [e] at g1 g2 g3 memk kz
      have hzm : z ∈ Ra ++ [z] := by simp
      obtain ⟨hzne, hzt⟩ := g2 z hzm
      have hPne : P ≠ [] := by
        rw [← g1]
        intro h
        have := List.flatten_eq_nil_iff.mp h z hzm
        exact hzne this
      obtain ⟨w, hw⟩ : ∃ w, P.getLast? = some w := ⟨P.getLast hPne, List.getLast?_eq_some_getLast hPne⟩
      have hlz := g4 Ra z e w hw
      have hwP : w ∈ P := List.mem_of_getLast? hw
      have hwp : w.1 + w.2.1 ≤ p.1 := (List.pairwise_append.mp hS.1).2.2 w hwP p (by simp)
      have hwk := (hSP.2 w hwP).1
      have lastp : (P ++ [p]).getLast? = some p := by simp
      by_cases q : ls z + 1 = p.1
      · rw [if_pos q]
        refine ⟨?_, fun y hy => ?_, ?_, fun Rb y h u hu => ?_⟩
        · rw [← g1]; simp
        · rcases List.mem_append.mp hy with h | h
          · exact g2 y (List.mem_append_left _ h)
          · rw [List.mem_singleton] at h
            rw [h]
            exact ⟨by simp, tch_sn hzt (kz z hzm) fun _ => q⟩
        · have h9 := List.pairwise_append.mp g3
          refine List.pairwise_append.mpr ⟨h9.1, List.pairwise_singleton _ _, fun a ha b hb => ?_⟩
          rw [List.mem_singleton] at hb
          rw [hb, fs_sn _ hzne]
          exact h9.2.2 a ha z (by simp)
        · have hyz : y = z ++ [p] := by
            have := congrArg List.getLast? h
            simp at this
            exact this.symm
          rw [lastp] at hu
          rw [hyz, ls_sn, Option.some.inj hu]
      · rw [if_neg q]
        refine ⟨?_, fun y hy => ?_, ?_, fun Rb y h u hu => ?_⟩
        · rw [← g1]; simp
        · rcases List.mem_append.mp hy with h | h
          · exact g2 y h
          · rw [List.mem_singleton] at h
            rw [h]
            exact ⟨by simp, trivial⟩
        · refine List.pairwise_append.mpr ⟨g3, List.pairwise_singleton _ _, fun a ha b hb => ?_⟩
          rw [List.mem_singleton] at hb
          rw [hb]
          show ls a + 1 < p.1
          rcases List.mem_append.mp ha with h | h
          · have h9 := (List.pairwise_append.mp g3).2.2 a h z (by simp)
            have ho := run_ord z hzne hzt (fun v hv => hSP.2 v (memk z hzm v hv))
            omega
          · rw [List.mem_singleton] at h
            rw [h]
            omega
        · have hyz : y = [p] := by
            have := congrArg List.getLast? h
            simp at this
            exact this.symm
          rw [lastp] at hu
          rw [hyz]
          show p.1 + p.2.1 - 1 = _
          rw [Option.some.inj hu]
/-! the model begins: all cells 0 -/
theorem begz_go {law : Int32} {x : Int64} : ∀ (d j n : Nat) (vm : rV), j + d = 416 → d < n → ∃ w, f_X8_begin_3 n vm law x (nI j) = f_X8_begin_51 20000 (rL (rI (rI w 187 294 law) 187 295 1) 174 27 x) 0 ∧ Ch (fun k i => k = 187 ∧ i < 416) vm w ∧ (∀ i, j ≤ i → i < 416 → w.1 187 i = 0) ∧ (∀ i, i < j → w.1 187 i = vm.1 187 i) := by
  intro d
  induction d with
  | zero =>
    intro j n vm h hn
    obtain ⟨n, rfl⟩ : ∃ n', n = n' + 1 := ⟨n - 1, by omega⟩
    refine ⟨vm, ?_, Ch.rf, fun i h1 h2 => by omega, fun _ _ => rfl⟩
    rw [f_X8_begin_3, if_pos (show (416 : Int32) ≤ nI j from ple (a := 416) (by omega) (by omega)), vlet_eq, vlet_eq, vlet_eq]
  | succ d ih =>
    intro j n vm h hn
    obtain ⟨n, rfl⟩ : ∃ n', n = n' + 1 := ⟨n - 1, by omega⟩
    obtain ⟨w, g1, g2, g3, g4⟩ := ih (j + 1) n (rI vm 187 j 0) (by omega) (by omega)
    refine ⟨w, ?_, (Ch.rf.I ⟨rfl, by omega⟩).tr g2, fun i h1 h2 => ?_, fun i h1 => by rw [g4 i (by omega), rI_no (by omega)]⟩
    · rw [f_X8_begin_3, if_neg (show ¬ (416 : Int32) ≤ nI j from nle (a := 416) (by omega) (by omega)), if_pos (gin (show j < 416 by omega) (by omega)), niCl (by omega), vlet_eq, vlet_eq, ad1]
      exact g1
    · by_cases q : i = j
      · rw [q, g4 j (by omega), rI_at]
      · exact g3 i (by omega) h2
def Tlb : Nat → Nat → Prop := fun k j => (k = 187 ∧ j < 416) ∨ (k = 174 ∧ j = 1000027)
theorem begin_m {law : Int32} {x : Int64} (vm : rV) : ∃ w, f_X8_begin vm law x = f_X8_begin_51 20000 w 0 ∧ Ch Tlb vm w ∧ (∀ i, i < 416 → i ≠ 294 → i ≠ 295 → w.1 187 i = 0) ∧ w.1 187 294 = law ∧ w.1 187 295 = 1 ∧ w.2.1 174 27 = x := by
  obtain ⟨w, g1, g2, g3, -⟩ := begz_go (law := law) (x := x) 416 0 20000 vm (by omega) (by omega)
  refine ⟨_, g1, (((g2.mono (T := Tlb) fun k j q => Or.inl q).I (Or.inl ⟨rfl, by omega⟩)).I (Or.inl ⟨rfl, by omega⟩)).L (Or.inr ⟨rfl, rfl⟩), fun i h1 h2 h3 => ?_, ?_, ?_, rL_at _ _ _ _⟩
  · show (rI (rI w 187 294 law) 187 295 1).1 187 i = 0
    rw [rI_no (by omega), rI_no (by omega)]; exact g3 i (by omega) h1
  · show (rI (rI w 187 294 law) 187 295 1).1 187 294 = law
    rw [rI_no (by omega), rI_at]
  · show (rI (rI w 187 294 law) 187 295 1).1 187 295 = 1
    rw [rI_at]
theorem am_0 {w : rV} {o : Nat} (h : ∀ c, c < 24 → w.1 187 (o + c) = 0) : Am w o 0 := by
  have z : (0 : Int32).toInt = 0 := rfl
  have e : ∀ c, c < 24 → am w o c = 0 := fun c hc => by unfold am; rw [h c hc, z]
  refine ⟨fun c hc => by rw [e c hc]; exact Int.le_refl _, ?_⟩
  rw [sm_ext (h := fun _ => 0) fun c _ h2 => e c (by omega)]
  have : ∀ n a, sm (fun _ => 0) a n = 0 := by
    intro n
    induction n with
    | zero => intro a; rfl
    | succ n ih => intro a; simp only [sm]; rw [ih]; rfl
  exact this 24 0
theorem sR_le {vm : rV} {j : Nat} (hj : j < 12) : ∀ R : List (List Pz), (∀ z, z ∈ R → ∀ p, p ∈ z → TD vm 185 (12 * p.2.2.2.2)) → sR vm j R ≤ R.flatten.length * 999 := by
  intro R
  induction R with
  | nil => intro _; simp [sR]
  | cons z R ih =>
    intro h
    have h1 := sW_le hj z (h z (by simp))
    have h2 := ih fun y hy => h y (by simp [hy])
    simp only [sR, List.flatten_cons, List.length_append]
    omega
/-- the model's arrays hold these pieces -/
def PM (vm : rV) (P : List Pz) : Prop := vm.1 174 34 = nI P.length ∧ P.length ≤ 12 ∧ (∀ (k : Nat) p, P[k]? = some p → vm.1 190 k = nI p.1 ∧ vm.1 191 k = nI p.2.1 ∧ vm.1 192 k = nI p.2.2.2.2)
/-- the class has cleared the strip -/
def CL0 (B kf : Nat) (x : Int64) (v : rV) : Prop := (∀ k, (k = B + 1 ∨ k = B + 5 ∨ k = B + 6 ∨ k = B + 8 ∨ k = B + 9 ∨ k = B + 10 ∨ k = B + 11) → ∀ i, i < 24 → v.1 k i = 0) ∧ (∀ j, 11 ≤ j → j < 20 → j ≠ 13 → j ≠ 14 → v.1 B j = 0) ∧ v.2.2 B 13 = some kf ∧ v.2.1 B 14 = x
theorem CL0.ch {S : Nat → Nat → Prop} {B kf : Nat} {x : Int64} {v w : rV} (h : CL0 B kf x v) (hc : Ch S v w) (s1 : ∀ k i, 1 ≤ k → k ≤ 11 → i < 24 → ¬ S (B + k) i) (s2 : ∀ j, 11 ≤ j → j < 20 → ¬ S B j) (s3 : ¬ S B 2000013) (s4 : ¬ S B 1000014) : CL0 B kf x w := by
  obtain ⟨a, b, c, d⟩ := h
  refine ⟨fun k hk i hi => ?_, fun j h1 h2 h3 h4 => ?_, ?_, ?_⟩
  · rw [hc.1 _ _ (by
      rcases hk with rfl | rfl | rfl | rfl | rfl | rfl | rfl
      · exact s1 1 i (by omega) (by omega) hi
      · exact s1 5 i (by omega) (by omega) hi
      · exact s1 6 i (by omega) (by omega) hi
      · exact s1 8 i (by omega) (by omega) hi
      · exact s1 9 i (by omega) (by omega) hi
      · exact s1 10 i (by omega) (by omega) hi
      · exact s1 11 i (by omega) (by omega) hi)]
    exact a k hk i hi
  · rw [hc.1 _ _ (s2 j h1 h2)]; exact b j h1 h2 h3 h4
  · rw [hc.2.2 _ _ s3]; exact c
  · rw [hc.2.1 _ _ s4]; exact d
theorem lay_go {M B kf N : Nat} {A : Bool} {x : Int64} {vc vm : rV} {P : List Pz} (hB : isStrip B = true) (hC : CI B A vc vm (grp P)) (hSP : SP P) (hM : M ≤ 13) (hPd : ∀ p, p ∈ P → p.2.2.2.2 < M ∧ TD vm 185 (12 * p.2.2.2.2)) (hPM : PM vm P) (hcl : CL0 B kf x vc) (hkf : isForm kf = true ∧ kf + 2 < B) (hN : N < 4) (hK : LawK kf N vc vm) :
    ∃ vc' vm', f_X5_begin vc B = some vc' ∧ f_X8_begin vm (nI N) x = some vm' ∧ ST M B 0 vc' vm' ∧ LSt B kf N vc' vm' ∧ vm'.1 187 295 = 1 ∧ vc'.1 B 10 = nI (grp P).length ∧ vm'.1 187 288 = nI (grp P).length ∧ Ch (Sbg B) vc vc' ∧ Ch Tlb vm vm' := by
  obtain ⟨ρ, hR, hN10, hRl, hBI⟩ := hC
  obtain ⟨g1, g2, g3, -⟩ := grp_ok P hSP
  obtain ⟨w, k1, k2, k3, k4, k5, k6⟩ := begin_m (law := nI N) (x := x) vm
  have B60 : 60 ≤ B := is_mem (p := fun k => 60 ≤ k) hB (by decide)
  have memk : ∀ z, z ∈ grp P → ∀ q, q ∈ z → q ∈ P := fun z hz q hq => by rw [← g1]; exact List.mem_flatten.mpr ⟨z, hz, hq⟩
  have hRP : ∀ z, z ∈ grp P → RP w z := fun z hz => ⟨(g2 z hz).1, (g2 z hz).2, fun p hp => ⟨(hSP.2 p (memk z hz p hp)).1, (hSP.2 p (memk z hz p hp)).2, by have := (hPd p (memk z hz p hp)).1; omega, (hPd p (memk z hz p hp)).2.ch k2 fun j _ => by unfold Tlb; omega⟩⟩
  obtain ⟨p1, p2, p3⟩ := hPM
  have hz0 : ∀ o c, o + 24 ≤ 294 → c < 24 → w.1 187 (o + c) = 0 := fun o c h1 h2 => k3 _ (by omega) (by omega) (by omega)
  have sr : ∀ j, j < 12 → sR w j (grp P) ≤ 12 * 999 := fun j hj => Nat.le_trans (sR_le hj (grp P) fun z hz p hp => (hRP z hz).2.2 p hp |>.2.2.2) (by rw [g1]; exact Nat.mul_le_mul_right _ p2)
  have ordR : ∀ y, y ∈ grp P → fs y + 1 ≤ ls y ∧ ls y < 24 := fun y hy => run_ord y (hRP y hy).1 (hRP y hy).2.1 (fun p hp => ⟨((hRP y hy).2.2 p hp).1, ((hRP y hy).2.2 p hp).2.1⟩)
  have rowz : ∀ k o, (k = B + 1 ∨ k = B + 5 ∨ k = B + 6 ∨ k = B + 8 ∨ k = B + 9 ∨ k = B + 10 ∨ k = B + 11) → o + 24 ≤ 294 → Rw vc k w 187 o 24 := fun k o hk ho c hc => by rw [hcl.1 k hk c hc, hz0 o c ho hc]
  have hbit : ∀ j o, (j = 11 ∨ j = 12) → o + 24 ≤ 294 → BT (vc.1 B j) w o := fun j o hj ho c hc => by
    rw [hz0 o c ho hc, hcl.2.1 j (by omega) (by omega) (by omega) (by omega), has_0 (by omega)]
    rfl
  obtain ⟨vc', vm', L', j1, j2, j3, j4, j5, j6, j7, j8, j9, j10, j11, j12, j13, j14, j15, j16, j17⟩ := runs_go (A := A) (ρ := ρ) hB (grp P) [] 20000 20000 0 vc w 0 0 (by omega) (by omega) hR (by simpa using hRl) (by simpa using hN10) (fun i e h => by simp at h) (fun e h => by simp at h) List.Pairwise.nil (k3 288 (by omega) (by omega) (by omega)) (fun s e h => by simp at h) (fun i z hz => by
      obtain ⟨d1, d2, d3, d4, d5, d6, d7⟩ := hBI i z hz
      rw [show ([] : List En).length + i = i by simp]
      refine ⟨d1, d2, d3, fun j z1 z2 => by rw [k2.1 _ _ (by unfold Tlb; omega)]; exact d4 j z1 z2, ?_, ?_, ?_⟩
      · rw [sW_ch k2 fun j => by unfold Tlb; omega]; exact d5
      · rw [sW_ch k2 fun j => by unfold Tlb; omega]; exact d6
      · rw [sW_ch k2 fun j => by unfold Tlb; omega]; exact d7) hRP g3 (fun e h => by simp at h) (by rw [k2.1 _ _ (by unfold Tlb; omega), g1, Nat.zero_add]; exact p1) (by rw [g1]; omega) (fun k p hk => by
      rw [g1] at hk
      rw [k2.1 190 _ (by unfold Tlb; omega), k2.1 191 _ (by unfold Tlb; omega), k2.1 192 _ (by unfold Tlb; omega), Nat.zero_add]
      exact p3 k p hk) (rowz _ 0 (Or.inl rfl) (by omega)) ⟨rowz _ 24 (by omega) (by omega), rowz _ 48 (by omega) (by omega)⟩ (am_0 fun c hc => hz0 24 c (by omega) hc) (am_0 fun c hc => hz0 48 c (by omega) hc) (by have := sr 3 (by omega); omega) (by have := sr 4 (by omega); omega) (fun z hz i z1 z2 => by
      have := ordR z hz
      exact ⟨hz0 24 i (by omega) (by omega), hz0 48 i (by omega) (by omega)⟩) (fun s hs => k3 _ (by omega) (by omega) (by omega)) (hbit 11 216 (by omega) (by omega)) (hbit 12 192 (by omega) (by omega))
  simp only [List.length_nil, Nat.zero_add] at j3
  have c2 : Ch Tlb vm vm' := k2.tr (j16.mono fun k j q => by unfold Tbg at q; unfold Tlb; omega)
  have n10 : vc'.1 B 10 = nI (grp P).length := by rw [j15.1 _ _ (by unfold Sbg; omega)]; exact hN10
  have zz : ∀ j, j < 416 → j ≠ 294 → j ≠ 295 → ¬ (j < 72 ∨ (192 ≤ j ∧ j < 276) ∨ j = 288) → vm'.1 187 j = 0 := fun j h1 h2 h3 h4 => by rw [j16.1 _ _ (by unfold Tbg; omega)]; exact k3 j h1 h2 h3
  have cz : ∀ j, 15 ≤ j → j < 20 → vc'.1 B j = 0 := fun j h1 h2 => by rw [j15.1 _ _ (by unfold Sbg; omega)]; exact hcl.2.1 j (by omega) h2 (by omega) (by omega)
  have czr : ∀ k i, (k = B + 8 ∨ k = B + 9 ∨ k = B + 10 ∨ k = B + 11) → i < 24 → vc'.1 k i = 0 := fun k i hk hi => by rw [j15.1 _ _ (by unfold Sbg; omega)]; exact hcl.1 k (by omega) i hi
  rw [Int.zero_add] at j11 j12
  refine ⟨vc', vm', ?_, ?_, ⟨ρ, L', 0, (sR w 3 (grp P) : Nat), (sR w 4 (grp P) : Nat), ⟨by have := sr 3 (by omega); omega, by have := sr 4 (by omega); omega, Nat.le_refl _⟩, ⟨hR.ch j15 fun i _ => by unfold Sbg; omega, by omega, j4, j5, j6, fun e he => by
      rcases j17 e he with ⟨x, hx, -⟩ | ⟨z, hz, ez⟩
      · simp at hx
      · obtain ⟨p, hp, ep⟩ := ow_mem z (hRP z hz).1 fun p hp => ((hRP z hz).2.2 p hp).2.2.1
        rw [← ez, ep]
        exact (hPd p (memk z hz p hp)).1⟩, ⟨by rw [n10, j3], j7, j8⟩, ⟨j10, fun c hc => ?_, fun c hc => ?_, fun c hc => ?_, fun c hc => ?_, j9⟩, ⟨⟨_, 0, _, 0, j11, am_0 fun c hc => zz _ (by omega) (by omega) (by omega) (by omega), j12, am_0 fun c hc => zz _ (by omega) (by omega) (by omega) (by omega), by omega, by omega⟩, fun c hc => ?_⟩, ⟨?_, ?_, ?_, ?_, ?_, ?_, ?_⟩, ⟨j13, j14, fun s _ h9 => by omega⟩⟩, ⟨?_, hkf.1, hkf.2, hN, ?_, hK.ch j15 c2 (fun j => by unfold Sbg; omega) (by unfold Sbg; omega) (fun k j _ _ _ => by unfold Tlb; omega) (by omega)⟩, ?_, n10, by rw [j7, j3], j15, c2⟩
  · exact j1
  · rw [k1]; exact j2
  · rw [czr _ _ (by omega) hc, zz _ (by omega) (by omega) (by omega) (by omega)]
  · rw [czr _ _ (by omega) hc, zz _ (by omega) (by omega) (by omega) (by omega)]
  · rw [czr _ _ (by omega) hc, zz _ (by omega) (by omega) (by omega) (by omega)]
  · rw [czr _ _ (by omega) hc, zz _ (by omega) (by omega) (by omega) (by omega)]
  · rw [zz _ (by omega) (by omega) (by omega) (by omega), zz _ (by omega) (by omega) (by omega) (by omega), zz _ (by omega) (by omega) (by omega) (by omega), zz _ (by omega) (by omega) (by omega) (by omega)]
  · rw [cz 15 (by omega) (by omega)]; rfl
  · rw [zz _ (by omega) (by omega) (by omega) (by omega)]; rfl
  · rw [cz 16 (by omega) (by omega), zz _ (by omega) (by omega) (by omega) (by omega)]
  · rw [cz 17 (by omega) (by omega), zz _ (by omega) (by omega) (by omega) (by omega)]
  · rw [cz 18 (by omega) (by omega), zz _ (by omega) (by omega) (by omega) (by omega)]
  · rw [cz 19 (by omega) (by omega), zz _ (by omega) (by omega) (by omega) (by omega)]
  · rw [j15.2.1 _ _ (by unfold Sbg; omega), j16.2.1 _ _ (by unfold Tbg; omega), hcl.2.2.2, k6]
  · rw [j15.2.2 _ _ (by unfold Sbg; omega)]; exact hcl.2.2.1
  · rw [j16.1 _ _ (by unfold Tbg; omega)]; exact k4
  · rw [j16.1 _ _ (by unfold Tbg; omega)]; exact k5
