/-! STARTING, class against model -/
theorem sh_amt : ∀ e, e < 32 → (nI e &&& 31) = nI e ∧ ((nI e).toBitVec.smod 32).toNat = e := by decide +kernel
theorem one_msk : ∀ k, k ≤ 24 → ∀ e, e < 32 → (((1 : Int32) <<< (nI k &&& 31)) - 1).toBitVec.getLsbD e = decide (e < k) := by decide +kernel
theorem msk_bit {x k e : Nat} (hx : x < 32) (hk : k ≤ 24) (he : e < 32) : ((((1 : Int32) <<< (nI k &&& 31)) - 1) <<< (nI x &&& 31)).toBitVec.getLsbD e = decide (x ≤ e ∧ e < x + k) := by
  have h3 : ∀ M : Int32, (M <<< nI x).toBitVec = M.toBitVec <<< x := fun M => by
    show M.toBitVec <<< ((nI x).toBitVec.smod 32) = _
    rw [BitVec.shiftLeft_eq', (sh_amt x hx).2]
  rw [(sh_amt x hx).1, h3, BitVec.getLsbD_shiftLeft]
  by_cases q : e < x
  · rw [decide_eq_true q, decide_eq_false (show ¬ (x ≤ e ∧ e < x + k) by omega)]
    simp
  · rw [decide_eq_false q, one_msk k hk (e - x) (by omega), decide_eq_true he]
    simp only [Bool.not_false, Bool.and_true, Bool.true_and]
    apply decide_eq_decide.mpr
    omega
theorem and_z {a b : Int32} : a &&& b = 0 ↔ ∀ e, e < 32 → ¬ (a.toBitVec.getLsbD e = true ∧ b.toBitVec.getLsbD e = true) := by
  rw [← Int32.toBitVec_inj, Int32.toBitVec_and]
  have z : (0 : Int32).toBitVec = 0#32 := rfl
  rw [z]
  constructor
  · intro h e _ hh
    have := congrArg (fun t => BitVec.getLsbD t e) h
    simp only [BitVec.getLsbD_and, hh.1, hh.2, BitVec.getLsbD_zero] at this
    exact absurd this (by decide)
  · intro h
    apply BitVec.eq_of_getLsbD_eq
    intro e he
    rw [BitVec.getLsbD_and, BitVec.getLsbD_zero]
    have := h e he
    cases h1 : a.toBitVec.getLsbD e <;> cases h2 : b.toBitVec.getLsbD e <;> simp [h1, h2] at this ⊢
/-- the class's drops are the model's -/
def DC (vc vm : rV) (N : Nat) : Prop := vc.1 0 13 = nI N ∧ ∀ d, d < N → ∀ j, j < 12 → vc.1 (38 + d) j = vm.1 185 (12 * d + j)
theorem ap_go {vc vm : rV} {set : Int32} {N : Nat} (hD : DR vm N) (hC : DC vc vm N) : ∀ (r d n : Nat) (t : Int32), d + r = N → r < n → DJ vm set d → (∀ e, e < 32 → (t.toBitVec.getLsbD e = true ↔ ∃ a, a < d ∧ f_X7_has set (nI a) = true ∧ tv vm a 0 ≤ e ∧ e < tv vm a 0 + tv vm a 1)) → ∃ b : Bool, f_X7_areApart_4 vc n set t (nI d) = some b ∧ (b = true ↔ DJ vm set N) := by
  have hN := hD.1
  intro r
  induction r with
  | zero =>
    intro d n t h hn hJ ht
    obtain ⟨n, rfl⟩ : ∃ n', n = n' + 1 := ⟨n - 1, by omega⟩
    have hd : d = N := by omega
    subst hd
    exact ⟨true, by rw [f_X7_areApart_4, hC.1, if_pos (ple (Nat.le_refl _) (by omega))], fun _ => hJ, fun _ => rfl⟩
  | succ r ih =>
    intro d n t h hn hJ ht
    obtain ⟨n, rfl⟩ : ∃ n', n = n' + 1 := ⟨n - 1, by omega⟩
    have hx := hD.x (d := d) (by omega)
    have hT := (hD.2.2 d (by omega)).1
    have hk := (tv_eq hT (j := 1) (by omega)).2.2
    have hk24 : tv vm d 1 ≤ 24 := hk
    rw [f_X7_areApart_4, hC.1, if_neg (nle (by omega) (by omega))]
    unfold f_X7_areApart_57
    by_cases g : f_X7_has set (nI d) = true
    · have t0 : vc.1 (38 + d) 0 = nI (tv vm d 0) := by rw [hC.2 d (by omega) 0 (by omega)]; exact (tv_eq hT (j := 0) (by omega)).1
      have t1 : vc.1 (38 + d) 1 = nI (tv vm d 1) := by rw [hC.2 d (by omega) 1 (by omega)]; exact (tv_eq hT (j := 1) (by omega)).1
      rw [if_pos g, if_pos (gin (show d < 12 by omega) (by omega)), niCl (by omega), t0, t1, vlet_eq]
      have mb : ∀ e, e < 32 → (((((1 : Int32) <<< (nI (tv vm d 1) &&& 31)) - 1) <<< (nI (tv vm d 0) &&& 31)).toBitVec.getLsbD e = true ↔ tv vm d 0 ≤ e ∧ e < tv vm d 0 + tv vm d 1) := fun e he => by
        rw [msk_bit (by omega) hk24 he, decide_eq_true_eq]
      by_cases z : t &&& ((((1 : Int32) <<< (nI (tv vm d 1) &&& 31)) - 1) <<< (nI (tv vm d 0) &&& 31)) = 0
      · rw [if_pos z, vlet_eq, vlet_eq, ad1]
        rw [and_z] at z
        refine ih (d + 1) n _ (by omega) (by omega) (fun a b ha hb h1 h2 hab => ?_) (fun e he => ?_)
        · have key : ∀ a, a < d → f_X7_has set (nI a) = true → tv vm a 0 + tv vm a 1 ≤ tv vm d 0 ∨ tv vm d 0 + tv vm d 1 ≤ tv vm a 0 := fun a ha h1 => by
            have hxa := hD.x (d := a) (by omega)
            by_cases q : tv vm a 0 + tv vm a 1 ≤ tv vm d 0
            · exact Or.inl q
            · by_cases q2 : tv vm d 0 + tv vm d 1 ≤ tv vm a 0
              · exact Or.inr q2
              · exfalso
                by_cases q3 : tv vm a 0 ≤ tv vm d 0
                · exact z (tv vm d 0) (by omega) ⟨(ht _ (by omega)).mpr ⟨a, ha, h1, q3, by omega⟩, (mb _ (by omega)).mpr ⟨Nat.le_refl _, by omega⟩⟩
                · exact z (tv vm a 0) (by omega) ⟨(ht _ (by omega)).mpr ⟨a, ha, h1, Nat.le_refl _, by omega⟩, (mb _ (by omega)).mpr ⟨by omega, by omega⟩⟩
          by_cases ea : a = d
          · subst ea
            exact (key b (by omega) h2).symm
          · by_cases eb : b = d
            · subst eb
              exact key a (by omega) h1
            · exact hJ a b (by omega) (by omega) h1 h2 hab
        · rw [Int32.toBitVec_or, BitVec.getLsbD_or, Bool.or_eq_true, ht e he, mb e he]
          constructor
          · rintro (⟨a, h1, h2, h3⟩ | h1)
            · exact ⟨a, by omega, h2, h3⟩
            · exact ⟨d, by omega, g, h1⟩
          · rintro ⟨a, h1, h2, h3⟩
            by_cases ea : a = d
            · subst ea; exact Or.inr h3
            · exact Or.inl ⟨a, by omega, h2, h3⟩
      · rw [if_neg z]
        refine ⟨false, rfl, fun h9 => absurd h9 Bool.false_ne_true, fun hJN => ?_⟩
        exfalso
        apply z
        rw [and_z]
        intro e he hh
        obtain ⟨a, h1, h2, h3, h4⟩ := (ht e he).mp hh.1
        have h5 := (mb e he).mp hh.2
        have := hJN a d (by omega) (by omega) h2 g (by omega)
        omega
    · rw [if_neg g, vlet_eq, ad1]
      refine ih (d + 1) n t (by omega) (by omega) (fun a b ha hb h1 h2 hab => ?_) (fun e he => ?_)
      · refine hJ a b ?_ ?_ h1 h2 hab
        · rcases Nat.lt_or_ge a d with q | q
          · exact q
          · rw [show a = d by omega] at h1; exact absurd h1 g
        · rcases Nat.lt_or_ge b d with q | q
          · exact q
          · rw [show b = d by omega] at h2; exact absurd h2 g
      · rw [ht e he]
        constructor
        · rintro ⟨a, h1, h2, h3⟩
          exact ⟨a, by omega, h2, h3⟩
        · rintro ⟨a, h1, h2, h3⟩
          refine ⟨a, ?_, h2, h3⟩
          rcases Nat.lt_or_ge a d with q | q
          · exact q
          · rw [show a = d by omega] at h2; exact absurd h2 g
theorem apart_eq {vc vm : rV} {set : Int32} {N : Nat} (hD : DR vm N) (hC : DC vc vm N) : ∃ b : Bool, f_X7_areApart vc set = some b ∧ (b = true ↔ DJ vm set N) := by
  unfold f_X7_areApart
  have := ap_go (set := set) hD hC N 0 20000 0 (by omega) (by have := hD.1; omega) (fun a b ha => by omega) (fun e he => by
    rw [show (0 : Int32).toBitVec = 0#32 from rfl, BitVec.getLsbD_zero]
    constructor
    · intro h; exact absurd h Bool.false_ne_true
    · rintro ⟨a, h, -⟩; omega)
  exact this
/-! the class puts drop by drop -/
def selF (vm : rV) (set : Int32) (c d r : Nat) : List Nat := (List.range' d r).filter fun d => f_X7_has set (nI d) && decide (tv vm d 0 = c)
theorem selF_0 (vm : rV) (set : Int32) (c m : Nat) : selF vm set c 0 m = sel vm set m c := by
  unfold selF sel
  rw [List.range_eq_range']
theorem selF_s (vm : rV) (set : Int32) (c d r : Nat) : selF vm set c d (r + 1) = (if f_X7_has set (nI d) = true ∧ tv vm d 0 = c then [d] else []) ++ selF vm set c (d + 1) r := by
  unfold selF
  rw [List.range'_succ, List.filter_cons]
  by_cases h : f_X7_has set (nI d) = true ∧ tv vm d 0 = c
  · rw [if_pos h, if_pos (by simpa using h)]
    rfl
  · rw [if_neg h, if_neg (by simpa using h)]
    rfl
theorem SP_pre {P Q : List Pz} (h : SP (P ++ Q)) : SP P := ⟨(List.pairwise_append.mp h.1).1, fun p hp => h.2 p (List.mem_append_left _ hp)⟩
theorem PD_of {B N d : Nat} {vc vm : rV} (hD : DR vm N) (hC : DC vc vm N) (hd : d < N) : PD B vc vm (pz vm d) := by
  have hx := hD.x hd
  have hT := (hD.2.2 d hd).1
  have := hD.1
  exact ⟨⟨by show 38 + d < 60; omega, fun j hj => hC.2 d hd j hj⟩, hT, ⟨by show d < 13; omega, hx.2.1, hx.2.2, by show d < 100; omega⟩, (tv_eq hT (j := 1) (by omega)).1⟩
/-- what must hold of the pieces put so far -/
theorem put_ok {B : Nat} {vc vm : rV} {P : List Pz} {p : Pz} (hB : isStrip B = true) (hC : CI B true vc vm (grp P)) (hS : SP (P ++ [p])) (hl : P.length < 12) (hPD : PD B vc vm p) (hn : p.2.2.2.1 = p.2.2.2.2) (hT : ∀ q, q ∈ P → TD vm 185 (12 * q.2.2.2.2)) : ∃ vc', f_X5_put vc B p.2.2.1 (nI p.2.2.2.1) (nI p.1) = some vc' ∧ CI B true vc' vm (grp (P ++ [p])) ∧ Ch (Spt B) vc vc' := by
  have hSP := SP_pre hS
  obtain ⟨g1, g2, g3, -⟩ := grp_ok P hSP
  have memk : ∀ z, z ∈ grp P → ∀ q, q ∈ z → q ∈ P := fun z hz q hq => by rw [← g1]; exact List.mem_flatten.mpr ⟨z, hz, hq⟩
  rw [grp_sn]
  exact put_go hB hC hPD (by rw [g1]; exact hl) (fun z hz => (run_ord z (g2 z hz).1 (g2 z hz).2 fun q hq => hSP.2 q (memk z hz q hq)).2) (fun _ => hn) (fun h => by cases h) fun z hz => ⟨(g2 z hz).1, fun q hq => hT q (memk z hz q hq)⟩
theorem DC.ch {S : Nat → Nat → Prop} {vc wc vm : rV} {N : Nat} (h : DC vc vm N) (hc : Ch S vc wc) (s1 : ¬ S 0 13) (s2 : ∀ k j, 38 ≤ k → k < 50 → ¬ S k j) (hN : N ≤ 12) : DC wc vm N := ⟨by rw [hc.1 _ _ s1]; exact h.1, fun d hd j hj => by rw [hc.1 _ _ (s2 _ _ (by omega) (by omega))]; exact h.2 d hd j hj⟩
theorem son27 {B N c : Nat} {set : Int32} {vm : rV} {BL : List Pz} (hB : isStrip B = true) (hD : DR vm N) (hBL : SP BL) (hBl : BL.length ≤ 12) (hBT : ∀ q, q ∈ BL → TD vm 185 (12 * q.2.2.2.2)) (hc24 : c < 24) {q17 : rV → Nat → Int32 → Int32 → Option rV} : ∀ (r d n : Nat) (P T : List Pz) (vc : rV), d + r = N → r < n → P ++ ((selF vm set c d r).map (pz vm) ++ T) = BL → DC vc vm N → CI B true vc vm (grp P) → ∃ vc', f_X7_startOn_27 q17 n vc B set (nI c) (nI d) = q17 vc' B set (nI (c + 1)) ∧ CI B true vc' vm (grp (P ++ (selF vm set c d r).map (pz vm))) ∧ DC vc' vm N ∧ Ch (Spt B) vc vc' := by
  have hN := hD.1
  have B60 : 60 ≤ B := is_mem (p := fun k => 60 ≤ k) hB (by decide)
  intro r
  induction r with
  | zero =>
    intro d n P T vc h hn hP hC hI
    obtain ⟨n, rfl⟩ : ∃ n', n = n' + 1 := ⟨n - 1, by omega⟩
    refine ⟨vc, ?_, ?_, hC, Ch.rf⟩
    · rw [f_X7_startOn_27, hC.1, if_pos (ple (by omega) (by omega)), vlet_eq, ad1]
    · have : selF vm set c d 0 = [] := rfl
      rw [this, List.map_nil, List.append_nil]
      exact hI
  | succ r ih =>
    intro d n P T vc h hn hP hC hI
    obtain ⟨n, rfl⟩ : ∃ n', n = n' + 1 := ⟨n - 1, by omega⟩
    rw [selF_s] at hP ⊢
    have hx := hD.x (d := d) (by omega)
    have hT := (hD.2.2 d (by omega)).1
    rw [f_X7_startOn_27, hC.1, if_neg (nle (by omega) (by omega))]
    unfold f_X7_startOn_74
    by_cases g : f_X7_has set (nI d) = true
    · have t0 : vc.1 (38 + d) 0 = nI (tv vm d 0) := by rw [hC.2 d (by omega) 0 (by omega)]; exact (tv_eq hT (j := 0) (by omega)).1
      rw [if_pos g, if_pos (gin (show d < 12 by omega) (by omega)), niCl (by omega), t0]
      by_cases z : tv vm d 0 = c
      · rw [if_pos (show f_X7_has set (nI d) = true ∧ tv vm d 0 = c from ⟨g, z⟩)] at hP ⊢
        rw [List.map_append, List.map_cons, List.map_nil] at hP ⊢
        have hP2 : (P ++ [pz vm d]) ++ ((selF vm set c (d + 1) r).map (pz vm) ++ T) = BL := by rw [← hP]; simp
        have hlen : P.length < 12 := by
          rw [← hP] at hBl
          simp only [List.length_append, List.length_cons, List.length_nil] at hBl
          omega
        obtain ⟨w, k1, k2, k3⟩ := put_ok (p := pz vm d) hB hI (SP_pre (by rw [hP2]; exact hBL)) hlen (PD_of hD hC (by omega)) rfl (fun q hq => hBT q (by rw [← hP2]; simp [hq]))
        have kk : f_X5_put vc B (38 + d) (nI d) (nI c) = some w := by rw [← z]; exact k1
        obtain ⟨vc', j1, j2, j3, j4⟩ := ih (d + 1) n (P ++ [pz vm d]) T w (by omega) (by omega) hP2 (hC.ch k3 (by unfold Spt; omega) (fun k j _ _ => by unfold Spt; omega) hN) k2
        refine ⟨vc', ?_, by rw [← List.append_assoc]; exact j2, j3, k3.tr j4⟩
        rw [if_pos (show nI (tv vm d 0) = nI c by rw [z]), kk, Option.bind_some, vlet_eq, ad1]
        exact j1
      · rw [if_neg (show ¬ (f_X7_has set (nI d) = true ∧ tv vm d 0 = c) from fun q => z q.2)] at hP ⊢
        rw [List.nil_append] at hP ⊢
        obtain ⟨vc', j1, j2, j3, j4⟩ := ih (d + 1) n P T vc (by omega) (by omega) hP hC hI
        refine ⟨vc', ?_, j2, j3, j4⟩
        rw [if_neg (nne z (by omega) (by omega)), vlet_eq, ad1]
        exact j1
    · rw [if_neg (show ¬ (f_X7_has set (nI d) = true ∧ tv vm d 0 = c) from fun q => g q.1)] at hP ⊢
      rw [List.nil_append] at hP ⊢
      obtain ⟨vc', j1, j2, j3, j4⟩ := ih (d + 1) n P T vc (by omega) (by omega) hP hC hI
      refine ⟨vc', ?_, j2, j3, j4⟩
      rw [if_neg g, vlet_eq, ad1]
      exact j1
theorem son17 {B N : Nat} {set : Int32} {vm : rV} (hB : isStrip B = true) (hD : DR vm N) (hBL : SP (blist vm set N)) : ∀ (r c n : Nat) (P : List Pz) (vc : rV), c + r = 24 → r < n → P ++ (bl vm set N c r).map (pz vm) = blist vm set N → DC vc vm N → CI B true vc vm (grp P) → ∃ vc', f_X7_startOn_17 n vc B set (nI c) = f_X5_begin vc' B ∧ CI B true vc' vm (grp (blist vm set N)) ∧ Ch (Spt B) vc vc' := by
  have hN := hD.1
  have hBl : (blist vm set N).length ≤ 12 := by
    unfold blist
    rw [List.length_map]
    exact Nat.le_trans (bl_len (fun _ _ => trivial) N fun d hd => (hD.x hd).1) hN
  have hBT : ∀ q, q ∈ blist vm set N → TD vm 185 (12 * q.2.2.2.2) := fun q hq => by
    unfold blist at hq
    rw [List.mem_map] at hq
    obtain ⟨e, he, rfl⟩ := hq
    exact (hD.2.2 e (mem_bl.mp he).1).1
  intro r
  induction r with
  | zero =>
    intro c n P vc h hn hP hC hI
    obtain ⟨n, rfl⟩ : ∃ n', n = n' + 1 := ⟨n - 1, by omega⟩
    have e : P = blist vm set N := by
      have : bl vm set N c 0 = [] := rfl
      rw [this, List.map_nil, List.append_nil] at hP
      exact hP
    refine ⟨vc, ?_, by rw [← e]; exact hI, Ch.rf⟩
    rw [f_X7_startOn_17, if_pos (show (24 : Int32) ≤ nI c from ple (a := 24) (by omega) (by omega))]
    cases f_X5_begin vc B <;> rfl
  | succ r ih =>
    intro c n P vc h hn hP hC hI
    obtain ⟨n, rfl⟩ : ∃ n', n = n' + 1 := ⟨n - 1, by omega⟩
    have eb : bl vm set N c (r + 1) = sel vm set N c ++ bl vm set N (c + 1) r := by
      unfold bl
      rw [List.range'_succ, List.flatMap_cons]
    rw [eb, List.map_append] at hP
    have hP' : P ++ ((selF vm set c 0 N).map (pz vm) ++ (bl vm set N (c + 1) r).map (pz vm)) = blist vm set N := by rw [selF_0]; exact hP
    obtain ⟨w, k1, k2, k3, k4⟩ := son27 (c := c) (q17 := fun v k1 a3 a6 => f_X7_startOn_17 n v k1 a3 a6) hB hD hBL hBl hBT (by omega) N 0 20000 P _ vc (by omega) (by omega) hP' hC hI
    obtain ⟨vc', j1, j2, j3⟩ := ih (c + 1) n _ w (by omega) (by omega) (by rw [← hP', List.append_assoc]) k3 k2
    refine ⟨vc', ?_, j2, k4.tr j3⟩
    rw [f_X7_startOn_17, if_neg (show ¬ (24 : Int32) ≤ nI c from nle (a := 24) (by omega) (by omega))]
    exact k1.trans j1
def Sall (B : Nat) : Nat → Nat → Prop := fun k j => B ≤ k ∧ k ≤ B + 37 ∧ ¬ (k = B + 13)
theorem startOn_go {B N n nl : Nat} {set : Int32} {x : Int64} {vc vm : rV} {ρ : Nat → Nat} (hB : isStrip B = true) (hR : RF B vc ρ) (hD : DR vm N) (hC : DC vc vm N) (hJ : DJ vm set N) (hP : PM vm (blist vm set N)) (hn : n < nl) (hnl : nl ≤ 4) (h91 : vc.1 9 1 = nI nl) (hK : LawK (11 + 3 * n) n vc vm) :
    ∃ vc' vm', f_X7_startOn vc B (nI n) set x = some vc' ∧ f_X8_begin vm (nI n) x = some vm' ∧ ST N B 0 vc' vm' ∧ LSt B (11 + 3 * n) n vc' vm' ∧ vm'.1 187 295 = 1 ∧ (∃ c, vc'.1 B 10 = nI c ∧ vm'.1 187 288 = nI c) ∧ Ch (Sall B) vc vc' ∧ Ch Tlb vm vm' := by
  have B60 : 60 ≤ B := is_mem (p := fun k => 60 ≤ k) hB (by decide)
  have fm : isForm (11 + 3 * n) = true := by
    have : ∀ n, n < 4 → isForm (11 + 3 * n) = true := by decide
    exact this n (by omega)
  have at1 : f_X4_at vc 9 (nI n) = some (11 + 3 * n) := by
    unfold f_X4_at f_X4_has
    rw [h91, if_neg (niGe (by omega)), if_neg (nle (by omega) (by omega)), if_neg (show ¬ (4 : Int32) ≤ nI n from nle (a := 4) (by omega) (by omega)), if_pos rfl, if_pos (gin (show n < 4 by omega) (by omega)), niCl (by omega)]
  obtain ⟨w, k1, k2, k3, k4, k5, k6⟩ := clear_go (B := B) (kf := 11 + 3 * n) (x := x) vc
  have cl : CL0 B (11 + 3 * n) x w := ⟨k3, fun j h1 h2 h3 h4 => k4 j (by omega) h2 h3 h4, k5, k6⟩
  have hBx : ∀ q, q ∈ blist vm set N → 2 ≤ q.2.1 ∧ q.1 + q.2.1 ≤ 24 := fun q hq => by
    unfold blist at hq
    rw [List.mem_map] at hq
    obtain ⟨e, he, rfl⟩ := hq
    have := hD.x (mem_bl.mp he).1
    exact ⟨this.2.1, this.2.2⟩
  have hSP : SP (blist vm set N) := ⟨(SP_DJ fun d hd => hD.x hd).mpr hJ, hBx⟩
  obtain ⟨u, j1, j2, j3⟩ := son17 (set := set) hB hD hSP 24 0 20000 [] w (by omega) (by omega) rfl (hC.ch k2 (by unfold Scl; omega) (fun k j _ _ => by unfold Scl; omega) hD.1) ⟨ρ, hR.ch k2 fun i _ => by unfold Scl; omega, by rw [k4 10 (by omega) (by omega) (by omega) (by omega)]; rfl, by simp [grp], fun i z h => by simp [grp] at h⟩
  have hKu : LawK (11 + 3 * n) n u vm := (hK.ch k2 (T := fun _ _ => False) Ch.rf (fun j => by unfold Scl; omega) (by unfold Scl; omega) (fun _ _ _ _ _ => id) (by omega)).ch j3 (T := fun _ _ => False) Ch.rf (fun j => by unfold Spt; omega) (by unfold Spt; omega) (fun _ _ _ _ _ => id) (by omega)
  obtain ⟨vc', vm', g1, g2, g3, g4, g5, g6, g7, g8, g9⟩ := lay_go (M := N) (N := n) (x := x) hB j2 hSP (by have := hD.1; omega) (fun p hp => by
    unfold blist at hp
    rw [List.mem_map] at hp
    obtain ⟨e, he, rfl⟩ := hp
    have := (mem_bl.mp he).1
    have := hD.1
    exact ⟨by show e < N; omega, (hD.2.2 e (by omega)).1⟩) hP (cl.ch j3 (fun k i _ _ _ => by unfold Spt; omega) (fun j _ _ => by unfold Spt; omega) (by unfold Spt; omega) (by unfold Spt; omega)) ⟨fm, by omega⟩ (by omega) hKu
  refine ⟨vc', vm', ?_, g2, g3, g4, g5, ⟨_, g6, g7⟩, ((k2.mono fun k j q => by unfold Scl at q; unfold Sall; omega).tr (j3.mono fun k j q => by unfold Spt at q; unfold Sall; omega)).tr (g8.mono fun k j q => by unfold Sbg at q; unfold Sall; omega), g9⟩
  unfold f_X7_startOn
  rw [at1, Option.bind_some, if_pos fm, k1, Option.bind_some]
  exact j1.trans g1
