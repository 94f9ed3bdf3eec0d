/-! A TICK: its begin and its end -/
def Stb (B : Nat) : Nat → Nat → Prop := fun k j => k = B + 11 ∧ j < 24
def Ttb : Nat → Nat → Prop := fun k j => (k = 187 ∧ 168 ≤ j ∧ j < 192) ∨ (k = 193 ∧ j < 48)
theorem beg_c {B : Nat} {pc : Int32} : ∀ (d c n : Nat) (vc : rV), c + d = 24 → d < n → ∃ vc', f_X5_oneTick_12 n vc B pc (nI c) = f_X5_oneTick_33 20000 vc' B pc 0 ∧ Ch (Stb B) vc vc' ∧ (∀ i, c ≤ i → i < 24 → vc'.1 (B + 11) i = 0) ∧ (∀ i, i < c → vc'.1 (B + 11) i = vc.1 (B + 11) i) := by
  intro d
  induction d with
  | zero =>
    intro c n vc h hn
    obtain ⟨n, rfl⟩ : ∃ n', n = n' + 1 := ⟨n - 1, by omega⟩
    exact ⟨vc, by rw [f_X5_oneTick_12, if_pos (show (24 : Int32) ≤ nI c from ple (a := 24) (by omega) (by omega))], Ch.rf, fun i h1 h2 => by omega, fun _ _ => rfl⟩
  | succ d ih =>
    intro c n vc h hn
    obtain ⟨n, rfl⟩ : ∃ n', n = n' + 1 := ⟨n - 1, by omega⟩
    obtain ⟨vc', g1, g2, g3, g4⟩ := ih (c + 1) n (rI vc (B + 11) c 0) (by omega) (by omega)
    refine ⟨vc', ?_, (Ch.rf.I ⟨rfl, by omega⟩).tr g2, fun i h1 h2 => ?_, fun i h1 => by rw [g4 i (by omega), rI_no (by omega)]⟩
    · rw [f_X5_oneTick_12, if_neg (show ¬ (24 : Int32) ≤ nI c from nle (a := 24) (by omega) (by omega)), if_pos (gin (show c < 24 by omega) (by omega)), niCl (by omega), vlet_eq, vlet_eq, ad1]
      exact g1
    · by_cases q : i = c
      · rw [q, g4 c (by omega), rI_at]
      · exact g3 i (by omega) h2
theorem beg_m : ∀ (d c n : Nat) (vm : rV), c + d = 24 → d < n → ∃ vm', f_X8_tickOnce_2 n vm (nI c) = f_X8_tickOnce_53 20000 (rI vm' 187 293 0) 0 ∧ Ch Ttb vm vm' ∧ (∀ i, c ≤ i → i < 24 → vm'.1 187 (168 + i) = 0 ∧ vm'.1 193 i = 0 ∧ vm'.1 193 (24 + i) = 0) ∧ (∀ i, i < c → vm'.1 187 (168 + i) = vm.1 187 (168 + i) ∧ vm'.1 193 i = vm.1 193 i ∧ vm'.1 193 (24 + i) = vm.1 193 (24 + i)) := by
  intro d
  induction d with
  | zero =>
    intro c n vm h hn
    obtain ⟨n, rfl⟩ : ∃ n', n = n' + 1 := ⟨n - 1, by omega⟩
    refine ⟨vm, ?_, Ch.rf, fun i h1 h2 => by omega, fun _ _ => ⟨rfl, rfl, rfl⟩⟩
    rw [f_X8_tickOnce_2, if_pos (show (24 : Int32) ≤ nI c from ple (a := 24) (by omega) (by omega)), vlet_eq]
  | succ d ih =>
    intro c n vm h hn
    obtain ⟨n, rfl⟩ : ∃ n', n = n' + 1 := ⟨n - 1, by omega⟩
    obtain ⟨m1, em1⟩ : ∃ w, w = rI vm 187 (168 + c) 0 := ⟨_, rfl⟩
    obtain ⟨m2, em2⟩ : ∃ w, w = rI m1 193 c 0 := ⟨_, rfl⟩
    obtain ⟨m3, em3⟩ : ∃ w, w = rI m2 193 (24 + c) 0 := ⟨_, rfl⟩
    obtain ⟨vm', g1, g2, g3, g4⟩ := ih (c + 1) n m3 (by omega) (by omega)
    have q3 : Ch Ttb vm m3 := by
      rw [em3, em2, em1]
      exact ((Ch.rf.I (Or.inl ⟨rfl, by omega, by omega⟩)).I (Or.inr ⟨rfl, by omega⟩)).I (Or.inr ⟨rfl, by omega⟩)
    have w : ∀ i, i < c → m3.1 187 (168 + i) = vm.1 187 (168 + i) ∧ m3.1 193 i = vm.1 193 i ∧ m3.1 193 (24 + i) = vm.1 193 (24 + i) := fun i hi => by
      rw [em3, rI_no (by omega), rI_no (by omega), rI_no (by omega), em2, rI_no (by omega), rI_no (by omega), rI_no (by omega), em1, rI_no (by omega), rI_no (by omega), rI_no (by omega)]
      exact ⟨rfl, rfl, rfl⟩
    refine ⟨vm', ?_, q3.tr g2, fun i h1 h2 => ?_, fun i h1 => by rw [(g4 i (by omega)).1, (g4 i (by omega)).2.1, (g4 i (by omega)).2.2]; exact w i h1⟩
    · rw [f_X8_tickOnce_2, if_neg (show ¬ (24 : Int32) ≤ nI c from nle (a := 24) (by omega) (by omega)), show (168 : Int32) + nI c = nI (168 + c) from niAdd 168 c, if_pos (gin (show 168 + c < 416 by omega) (by omega)), niCl (show 168 + c < 2147483648 by omega), ← em1, vlet_eq, if_pos (gin (show c < 48 by omega) (by omega)), niCl (show c < 2147483648 by omega), ← em2, vlet_eq, show (24 : Int32) + nI c = nI (24 + c) from niAdd 24 c, if_pos (gin (show 24 + c < 48 by omega) (by omega)), niCl (show 24 + c < 2147483648 by omega), ← em3, vlet_eq, vlet_eq, ad1]
      exact g1
    · by_cases q : i = c
      · rw [q, (g4 c (by omega)).1, (g4 c (by omega)).2.1, (g4 c (by omega)).2.2]
        refine ⟨?_, ?_, ?_⟩
        · rw [em3, rI_no (by omega), em2, rI_no (by omega), em1, rI_at]
        · rw [em3, rI_no (by omega), em2, rI_at]
        · rw [em3, rI_at]
      · exact g3 i (by omega) h2
/-- the model's end of a tick: what fell goes to the rows or to the heap -/
def mgM (vm : rV) (x : Int32) : Option rV := if (120 : Int32) < vm.1 187 289 then f_X8_tickOnce_200 vm x else if ¬ (296 + vm.1 187 289 - 1) < 0 ∧ (296 + vm.1 187 289 - 1).toNatClampNeg < 416 then f_X8_tickOnce_200 (rI vm 187 ((296 + vm.1 187 289 - 1).toNatClampNeg) x) x else none
def Tmg : Nat → Nat → Prop := fun k j => k = 187 ∧ 120 ≤ j ∧ j < 168
theorem mg_go {pc : Int32} : ∀ (d c n : Nat) (vm : rV) (x : Int32), c + d = 24 → d < n → vm.1 174 23 = pc → ∃ vm', f_X8_tickOnce_103 n vm x (nI c) = mgM vm' (x + sI (fe vm) c d) ∧ Ch Tmg vm vm' ∧ (∀ i, c ≤ i → i < 24 → vm'.1 187 (144 + i) = hp pc (vm.1 187 (144 + i)) (fe vm i) ∧ vm'.1 187 (120 + i) + vm'.1 187 (144 + i) = vm.1 187 (120 + i) + vm.1 187 (144 + i) + fe vm i) ∧ (∀ i, i < c → vm'.1 187 (144 + i) = vm.1 187 (144 + i) ∧ vm'.1 187 (120 + i) = vm.1 187 (120 + i)) := by
  intro d
  induction d with
  | zero =>
    intro c n vm x h hn hp
    obtain ⟨n, rfl⟩ : ∃ n', n = n' + 1 := ⟨n - 1, by omega⟩
    refine ⟨vm, ?_, Ch.rf, fun i h1 h2 => by omega, fun _ _ => ⟨rfl, rfl⟩⟩
    rw [f_X8_tickOnce_103, if_pos (show (24 : Int32) ≤ nI c from ple (a := 24) (by omega) (by omega)), sI, Int32.add_zero]
    unfold mgM
    rw [vlet_eq]
  | succ d ih =>
    intro c n vm x h hn hpc
    obtain ⟨n, rfl⟩ : ∃ n', n = n' + 1 := ⟨n - 1, by omega⟩
    have st : ∃ m1, f_X8_tickOnce_103 (n + 1) vm x (nI c) = f_X8_tickOnce_103 n m1 (x + fe vm c) (nI (c + 1)) ∧ Ch (fun k j => k = 187 ∧ (j = 120 + c ∨ j = 144 + c)) vm m1 ∧ m1.1 187 (144 + c) = hp pc (vm.1 187 (144 + c)) (fe vm c) ∧ m1.1 187 (120 + c) + m1.1 187 (144 + c) = vm.1 187 (120 + c) + vm.1 187 (144 + c) + fe vm c := by
      have go : ∀ o, o = 120 ∨ o = 144 → f_X8_tickOnce_148 (fun v a2 a3 => f_X8_tickOnce_103 n v a2 a3) vm x (nI c) (fe vm c) (nI o) = f_X8_tickOnce_103 n (rI vm 187 (o + c) (vm.1 187 (o + c) + fe vm c)) (x + fe vm c) (nI (c + 1)) := fun o ho => by
        unfold f_X8_tickOnce_148
        rw [niAdd, vlet_eq, if_pos (gin (show o + c < 416 by omega) (by omega)), niCl (show o + c < 2147483648 by omega), vlet_eq, vlet_eq, vlet_eq, ad1]
      rw [f_X8_tickOnce_103, if_neg (show ¬ (24 : Int32) ≤ nI c from nle (a := 24) (by omega) (by omega)), if_pos (gin (show c < 48 by omega) (by omega)), show (24 : Int32) + nI c = nI (24 + c) from niAdd 24 c, if_pos (gin (show 24 + c < 48 by omega) (by omega)), niCl (show 24 + c < 2147483648 by omega), niCl (show c < 2147483648 by omega), vlet_eq, hpc]
      change ∃ m1, (if pc < fe vm c then f_X8_tickOnce_148 (fun v a2 a3 => f_X8_tickOnce_103 n v a2 a3) vm x (nI c) (fe vm c) (nI 144) else f_X8_tickOnce_148 (fun v a2 a3 => f_X8_tickOnce_103 n v a2 a3) vm x (nI c) (fe vm c) (nI 120)) = _ ∧ _
      by_cases q : pc < fe vm c
      · rw [if_pos q, go 144 (Or.inr rfl)]
        have q2 : ¬ fe vm c ≤ pc := by
          rw [lt_toInt] at q
          rw [le_toInt]
          omega
        refine ⟨_, rfl, Ch.rf.I ⟨rfl, Or.inr rfl⟩, ?_, ?_⟩
        · rw [rI_at]; unfold hp; rw [if_neg q2]
        · rw [rI_at, rI_no (by omega), Int32.add_assoc]
      · rw [if_neg q, go 120 (Or.inl rfl)]
        have q2 : fe vm c ≤ pc := by
          rw [lt_toInt] at q
          rw [le_toInt]
          omega
        refine ⟨_, rfl, Ch.rf.I ⟨rfl, Or.inl rfl⟩, ?_, ?_⟩
        · rw [rI_no (by omega)]; unfold hp; rw [if_pos q2]
        · rw [rI_at, rI_no (by omega), Int32.add_assoc, Int32.add_comm (fe vm c), Int32.add_assoc]
    obtain ⟨m1, s1, s2, s3, s4⟩ := st
    have fe1 : ∀ i, fe m1 i = fe vm i := fun i => by unfold fe; rw [s2.1 _ _ (by omega), s2.1 _ _ (by omega)]
    obtain ⟨vm', g1, g2, g3, g4⟩ := ih (c + 1) n m1 (x + fe vm c) (by omega) (by omega) (by rw [s2.1 _ _ (by omega)]; exact hpc)
    refine ⟨vm', ?_, (s2.mono fun k j q => by unfold Tmg; omega).tr g2, fun i h1 h2 => ?_, fun i h1 => ?_⟩
    · rw [s1, g1]
      congr 1
      simp only [sI]
      rw [sI_ext (fun i _ _ => fe1 i), Int32.add_assoc]
    · by_cases q : i = c
      · rw [q, (g4 c (by omega)).1, (g4 c (by omega)).2]
        exact ⟨s3, s4⟩
      · have := g3 i (by omega) h2
        rw [fe1, s2.1 _ _ (by omega), s2.1 _ _ (by omega)] at this
        exact this
    · rw [(g4 i (by omega)).1, (g4 i (by omega)).2, s2.1 _ _ (by omega), s2.1 _ _ (by omega)]
      exact ⟨rfl, rfl⟩
/-! the class drops the dry bodies -/
def RF (B : Nat) (vc : rV) (ρ : Nat → Nat) : Prop := ∀ i, i < 12 → vc.2.2 (B + 13) i = some (ρ i) ∧ (∃ q, q < 12 ∧ ρ i = B + 14 + 2 * q) ∧ (∀ j, j < 12 → ρ i = ρ j → i = j)
theorem RF.ch {S : Nat → Nat → Prop} {B : Nat} {vc wc : rV} {ρ : Nat → Nat} (h : RF B vc ρ) (hc : Ch S vc wc) (s : ∀ i, i < 12 → ¬ S (B + 13) (2000000 + i)) : RF B wc ρ := fun i hi => ⟨by rw [hc.2.2 _ _ (s i hi)]; exact (h i hi).1, (h i hi).2⟩
theorem rR_at (v : rV) (k j : Nat) (x : Option Nat) : (rR v k j x).2.2 k j = x := by simp [rR]
theorem rR_no {v : rV} {k j a b : Nat} {x : Option Nat} (h : ¬ (a = k ∧ b = j)) : (rR v k j x).2.2 a b = v.2.2 a b := by simp [rR, h]
theorem dry_go {B : Nat} {vm : rV} {L : List En} (hB : isStrip B = true) (hlen : L.length ≤ 12) : ∀ (d i n : Nat) (vc : rV) (ρ : Nat → Nat), i + d = L.length → d < n → RF B vc ρ → vc.1 B 10 = nI L.length → Rw vc (B + 1) vm 187 0 24 → (∀ e, e ∈ L → CEn B vc vm e) → (∀ (t : Nat) e, (al (L.take i))[t]? = some e → ρ t = e.1) → (∀ (t : Nat) e, i ≤ t → L[t]? = some e → ρ t = e.1) →
    ∃ vc' ρ', f_X5_dropTheDry_4 n vc B (nI (al (L.take i)).length) (nI i) = some (rI vc' B 10 (nI (al L).length)) ∧ RF B vc' ρ' ∧ (∀ (t : Nat) e, (al L)[t]? = some e → ρ' t = e.1) ∧ Ch (fun k j => k = B + 13 ∧ 2000000 ≤ j) vc vc' := by
  intro d
  induction d with
  | zero =>
    intro i n vc ρ h hn hR hN hW hC h1 h2
    obtain ⟨n, rfl⟩ : ∃ n', n = n' + 1 := ⟨n - 1, by omega⟩
    have e : L.take i = L := List.take_of_length_le (by omega)
    rw [e] at h1 ⊢
    refine ⟨vc, ρ, ?_, hR, h1, Ch.rf⟩
    rw [f_X5_dropTheDry_4, hN, if_pos (ple (by omega) (by omega)), vlet_eq]
  | succ d ih =>
    intro i n vc ρ h hn hR hN hW hC h1 h2
    obtain ⟨n, rfl⟩ : ∃ n', n = n' + 1 := ⟨n - 1, by omega⟩
    obtain ⟨e, he⟩ : ∃ e, L[i]? = some e := ⟨L[i]'(by omega), List.getElem?_eq_getElem (by omega)⟩
    have heL : e ∈ L := List.mem_of_getElem? he
    have hCe := hC e heL
    have er : ρ i = e.1 := h2 i e (Nat.le_refl _) he
    have hRi := hR i (by omega)
    obtain ⟨q, hq, eq⟩ := hRi.2.1
    have bod : isBody (ρ i) = true := by rw [eq]; exact bodyB hB hq
    have hsl : (al (L.take i)).length ≤ i := Nat.le_trans (List.length_filter_le _ _) (by rw [List.length_take]; omega)
    have wat : f_X5_waterOf vc B (ρ i) = some (nI e.2.2.2.2) := by
      rw [er]
      exact waterOf_go hCe.2.1.2.2.1 hCe.2.1.2.1 hCe.1.1 hCe.1.2 hW hCe.2.2.2.2.2 hCe.2.2.2.2.1
    have etk : L.take (i + 1) = L.take i ++ [e] := by rw [List.take_succ, he]; rfl
    have hA := hCe.2.2.2.2.2
    rw [f_X5_dropTheDry_4, hN, if_neg (nle (by omega) (by omega)), if_pos (gin (show i < 12 by omega) (by omega)), niCl (show i < 2147483648 by omega), hRi.1, Option.bind_some, if_pos bod, wat, Option.bind_some]
    unfold f_X5_dropTheDry_49
    by_cases p : 0 < e.2.2.2.2
    · have hS := hR (al (L.take i)).length (by omega)
      obtain ⟨q2, hq2, eq2⟩ := hS.2.1
      have bod2 : isBody (ρ (al (L.take i)).length) = true := by rw [eq2]; exact bodyB hB hq2
      have eal : al (L.take (i + 1)) = al (L.take i) ++ [e] := by rw [etk, al_add, if_pos p]
      obtain ⟨s, es⟩ : ∃ s, s = (al (L.take i)).length := ⟨_, rfl⟩
      rw [← es] at hS bod2 hsl ⊢
      obtain ⟨w, ew⟩ : ∃ w, w = rR (rR vc (B + 13) i (some (ρ s))) (B + 13) s (some (ρ i)) := ⟨_, rfl⟩
      have cw : Ch (fun k j => k = B + 13 ∧ 2000000 ≤ j) vc w := by
        rw [ew]
        exact (Ch.rf.R ⟨rfl, by omega⟩).R ⟨rfl, by omega⟩
      have hR' : RF B w (fun t => if t = s then ρ i else if t = i then ρ s else ρ t) := fun t ht => by
        refine ⟨?_, ?_, ?_⟩
        · rw [ew]
          by_cases z : t = s
          · rw [z, rR_at]; simp
          · rw [rR_no (by omega)]
            by_cases z2 : t = i
            · rw [z2, rR_at]; simp only [if_neg (show ¬ i = s by omega), if_pos]
            · rw [rR_no (by omega), (hR t ht).1]; simp only [if_neg z, if_neg z2]
        · by_cases z : t = s
          · simp only [if_pos z]; exact hRi.2.1
          · by_cases z2 : t = i
            · simp only [if_neg z, if_pos z2]; exact hS.2.1
            · simp only [if_neg z, if_neg z2]; exact (hR t ht).2.1
        · intro u hu eu
          have inj := fun a (ha : a < 12) b (hb : b < 12) => (hR a ha).2.2 b hb
          by_cases z : t = s <;> by_cases z2 : u = s
          · omega
          · simp only [if_pos z, if_neg z2] at eu
            by_cases z3 : u = i
            · simp only [if_pos z3] at eu
              have := inj i (by omega) s (by omega) eu
              omega
            · simp only [if_neg z3] at eu
              have := inj i (by omega) u hu eu
              omega
          · simp only [if_neg z, if_pos z2] at eu
            by_cases z3 : t = i
            · simp only [if_pos z3] at eu
              have := inj s (by omega) i (by omega) eu
              omega
            · simp only [if_neg z3] at eu
              have := inj t ht i (by omega) eu
              omega
          · simp only [if_neg z, if_neg z2] at eu
            by_cases z3 : t = i <;> by_cases z4 : u = i
            · omega
            · simp only [if_pos z3, if_neg z4] at eu
              have := inj s (by omega) u hu eu
              omega
            · simp only [if_neg z3, if_pos z4] at eu
              have := inj t ht s (by omega) eu
              omega
            · simp only [if_neg z3, if_neg z4] at eu
              exact inj t ht u hu eu
      obtain ⟨vc', ρ', g1, g2, g3, g4⟩ := ih (i + 1) n w _ (by omega) (by omega) hR' (by rw [cw.1 _ _ (by omega)]; exact hN) (hW.ch cw (T := fun _ _ => False) Ch.rf (fun c _ => by omega) (fun _ _ => id)) (fun x hx => (hC x hx).ch cw (T := fun _ _ => False) Ch.rf (by omega) (by omega) (fun j _ _ => by omega) (fun _ => id) (fun _ _ _ => id)) (fun t x hx => by
          rw [eal, List.getElem?_append, ← es] at hx
          by_cases z : t < s
          · rw [if_pos z] at hx
            simp only [if_neg (show ¬ t = s by omega), if_neg (show ¬ t = i by omega)]
            exact h1 t x hx
          · rw [if_neg z] at hx
            by_cases z2 : t = s
            · rw [z2, Nat.sub_self] at hx
              simp only [List.getElem?_cons_zero, Option.some.injEq] at hx
              simp only [if_pos z2]
              rw [er, hx]
            · obtain ⟨u, hu⟩ : ∃ u, t - s = u + 1 := ⟨t - s - 1, by omega⟩
              rw [hu] at hx
              simp at hx) (fun t x ht hx => by
          simp only [if_neg (show ¬ t = s by omega), if_neg (show ¬ t = i by omega)]
          exact h2 t x (by omega) hx)
      refine ⟨vc', ρ', ?_, g2, g3, cw.tr g4⟩
      rw [if_neg (show ¬ nI e.2.2.2.2 ≤ 0 from nle (b := 0) p (by omega)), if_pos (gin (show s < 12 by omega) (by omega)), niCl (show s < 2147483648 by omega), hS.1, Option.bind_some, if_pos bod2, vlet_eq, vlet_eq, ← ew, vlet_eq, vlet_eq, ad1, ad1]
      rw [eal, List.length_append, ← es] at g1
      exact g1
    · have eal : al (L.take (i + 1)) = al (L.take i) := by rw [etk, al_add, if_neg p, List.append_nil]
      obtain ⟨vc', ρ', g1, g2, g3, g4⟩ := ih (i + 1) n vc ρ (by omega) (by omega) hR hN hW hC (by rw [eal]; exact h1) (fun t x ht hx => h2 t x (by omega) hx)
      refine ⟨vc', ρ', ?_, g2, g3, g4⟩
      rw [if_pos (show nI e.2.2.2.2 ≤ 0 from ple (b := 0) (by omega) (by omega)), vlet_eq, ad1]
      rw [eal] at g1
      exact g1
