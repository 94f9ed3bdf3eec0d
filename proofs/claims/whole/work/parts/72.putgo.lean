/-! ONE PIECE IS PUT -/
def addP : List (List Pz) → Pz → List (List Pz)
  | [], p => [[p]]
  | [z], p => if ls z + 1 = p.1 then [z ++ [p]] else [z, [p]]
  | z :: y :: R, p => z :: addP (y :: R) p
theorem addP_sn (Ra : List (List Pz)) (z : List Pz) (p : Pz) : addP (Ra ++ [z]) p = if ls z + 1 = p.1 then Ra ++ [z ++ [p]] else (Ra ++ [z]) ++ [[p]] := by
  induction Ra with
  | nil => simp only [List.nil_append, addP]; rfl
  | cons y Ra ih =>
    cases Ra with
    | nil =>
      simp only [List.cons_append, List.nil_append, addP] at ih ⊢
      by_cases q : ls z + 1 = p.1
      · simp only [if_pos q]
      · simp only [if_neg q]
    | cons w Ra =>
      simp only [List.cons_append, addP] at ih ⊢
      rw [ih]
      by_cases q : ls z + 1 = p.1
      · simp only [if_pos q]
      · simp only [if_neg q]
def Spt (B : Nat) : Nat → Nat → Prop := fun k j => (k = B ∧ j = 10) ∨ (B + 14 ≤ k ∧ k ≤ B + 37 ∧ j < 12)
def bcV (v : rV) (kd kr : Nat) (num x l : Int32) : rV := rI (rI (rI (rI (rCp v (kd + 1) kr 0 0 12) kd 1 num) kd 2 x) kd 3 l) kd 4 0
theorem become_eq {v : rV} {kd kr x k : Nat} {num : Int32} (h : kr < kd) (ek : v.1 kr 1 = nI k) (hk : 0 < x + k) : f_X0_become v kd kr num (nI x) = some (bcV v kd kr num (nI x) (nI (x + k - 1))) := by
  unfold f_X0_become bcV
  simp only [vlet_eq]
  rw [rI_no (by omega), rI_no (by omega), rCp_at, if_neg (by omega), ek, niAdd, show nI (x + k) - 1 = nI (x + k - 1) from niSub (a := x + k) (b := 1) (by omega)]
theorem RF.uniq {B : Nat} {vc : rV} {ρ : Nat → Nat} (h : RF B vc ρ) {i j : Nat} (hi : i < 12) (hj : j < 12) (hij : i ≠ j) : ρ i ≠ ρ j ∧ ρ i ≠ ρ j + 1 := by
  obtain ⟨-, ⟨q, hq, e⟩, inj⟩ := h i hi
  obtain ⟨-, ⟨q2, hq2, e2⟩, -⟩ := h j hj
  exact ⟨fun e3 => hij (inj j hj e3), by omega⟩
/-- a new body -/
theorem put_new {B : Nat} {A : Bool} {vc vm : rV} {R : List (List Pz)} {p : Pz} (hB : isStrip B = true) (hC : CI B A vc vm R) (hP : PD B vc vm p) (hn : R.length < 12) (hA : A = true → p.2.2.2.1 = p.2.2.2.2) : ∃ vc', f_X5_put_46 vc B p.2.2.1 (nI p.2.2.2.1) (nI p.1) = some vc' ∧ CI B A vc' vm (R ++ [[p]]) ∧ Ch (Spt B) vc vc' := by
  obtain ⟨ρ, hR, hN, hl, hb⟩ := hC
  obtain ⟨⟨hkr, htold⟩, htd, ⟨hd, hk, hx, hnum⟩, ek⟩ := hP
  obtain ⟨x, k, kr, num, d⟩ := p
  dsimp only at *
  have B60 : 60 ≤ B := is_mem (p := fun k => 60 ≤ k) hB (by decide)
  obtain ⟨r1, ⟨q, hq, eq⟩, inj⟩ := hR R.length hn
  have ekr : vc.1 kr 1 = nI k := by rw [htold 1 (by omega)]; exact ek
  obtain ⟨w, ew⟩ : ∃ w, w = bcV vc (ρ R.length) kr (nI num) (nI x) (nI (x + k - 1)) := ⟨_, rfl⟩
  obtain ⟨u, eu⟩ : ∃ u, u = rI w B 10 (nI (R.length + 1)) := ⟨_, rfl⟩
  have cw : Ch (fun a j => (a = ρ R.length ∨ a = ρ R.length + 1) ∧ j < 12) vc w := by
    rw [ew]
    unfold bcV
    exact ((((Ch.rf.C fun j hj => ⟨Or.inr rfl, hj⟩).I ⟨Or.inl rfl, by omega⟩).I ⟨Or.inl rfl, by omega⟩).I ⟨Or.inl rfl, by omega⟩).I ⟨Or.inl rfl, by omega⟩
  have cu : Ch (fun a j => ((a = ρ R.length ∨ a = ρ R.length + 1) ∧ j < 12) ∨ (a = B ∧ j = 10)) vc u := by
    rw [eu]
    exact (cw.mono fun a j z => Or.inl z).I (Or.inr ⟨rfl, rfl⟩)
  have mades : ∀ j, j < 12 → u.1 (ρ R.length + 1) j = vm.1 185 (12 * d + j) := fun j hj => by
    rw [eu, rI_no (by omega), ew]
    unfold bcV
    rw [rI_no (by omega), rI_no (by omega), rI_no (by omega), rI_no (by omega), rCp_at, if_pos ⟨rfl, hj⟩]
    exact htold j hj
  refine ⟨u, ?_, ⟨ρ, hR.ch cu fun i _ => by omega, by rw [eu, rI_at]; simp, by simp; omega, fun i z hz => ?_⟩, cu.mono fun a j z => by unfold Spt; omega⟩
  · unfold f_X5_put_46
    rw [hN, if_neg (show ¬ (12 : Int32) ≤ nI R.length from nle (a := 12) (by omega) (by omega)), if_pos (gin hn (by omega)), niCl (by omega), r1, Option.bind_some, if_pos (by rw [eq]; exact bodyB hB hq), become_eq (by omega) ekr (by omega), Option.bind_some, ← ew, show w.1 B 10 = nI R.length by rw [cw.1 _ _ (by omega)]; exact hN, ad1, ← eu, vlet_eq]
  · rw [List.getElem?_append] at hz
    by_cases g : i < R.length
    · rw [if_pos g] at hz
      have un := hR.uniq (i := i) (j := R.length) (by omega) hn (by omega)
      have un2 := hR.uniq (i := R.length) (j := i) hn (by omega) (by omega)
      have hq2 := (hR i (by omega)).2.1
      obtain ⟨q2, hq2, eq2⟩ := hq2
      exact (hb i z hz).ch cu (fun j _ => by omega) (fun j _ => by omega)
    · rw [if_neg g] at hz
      by_cases g2 : i = R.length
      · rw [g2, Nat.sub_self] at hz
        simp only [List.getElem?_cons_zero, Option.some.injEq] at hz
        rw [← hz, g2]
        have o : ow [((x, k, kr, num, d) : Pz)] = d := by simp only [ow]; omega
        refine ⟨by simp, fun h9 => ?_, ⟨?_, ?_, ?_⟩, fun j h1 h2 => by rw [o]; exact mades j h2, ?_, ?_, ?_⟩
        · rw [o, eu, rI_no (by omega), ew]
          unfold bcV
          rw [rI_no (by omega), rI_no (by omega), rI_no (by omega), rI_at, hA h9]
        · rw [eu, rI_no (by omega), ew]
          unfold bcV
          rw [rI_no (by omega), rI_no (by omega), rI_at]
          rfl
        · rw [eu, rI_no (by omega), ew]
          unfold bcV
          rw [rI_no (by omega), rI_at]
          rfl
        · rw [eu, rI_no (by omega), ew]
          unfold bcV
          rw [rI_at]
        · rw [mades 2 (by omega), (tv_eq htd (by omega)).1]; rfl
        · rw [mades 3 (by omega), (tv_eq htd (by omega)).1]; rfl
        · rw [mades 4 (by omega), (tv_eq htd (by omega)).1]; rfl
      · obtain ⟨y, hy⟩ : ∃ y, i - R.length = y + 1 := ⟨i - R.length - 1, by omega⟩
        rw [hy] at hz
        simp at hz
/-- a body takes in what touches it -/
theorem take_in {A : Bool} {vc vm : rV} {r : Nat} {z : List Pz} {p : Pz} (hb : BI A vc vm r z) (hP : PD 60 vc vm p) (hr : 60 ≤ r) (he : ls z + 1 = p.1) (hz : ∀ q, q ∈ z → TD vm 185 (12 * q.2.2.2.2)) (hlen : z.length ≤ 12) (hA1 : A = true → p.2.2.2.1 = p.2.2.2.2) (hA2 : A = false → ow z = p.2.2.2.2) : ∃ vc', f_X0_takeIn vc r p.2.2.1 (nI p.2.2.2.1) = some vc' ∧ BI A vc' vm r (z ++ [p]) ∧ Ch (fun a j => (a = r ∨ a = r + 1) ∧ j < 12) vc vc' := by
  obtain ⟨hne, hnum, ⟨h2, h3, h4⟩, hm, w2, w3, w4⟩ := hb
  obtain ⟨⟨hkr, htold⟩, htd, ⟨hd, hk, hx, hnm⟩, ek⟩ := hP
  obtain ⟨x, k, kr, num, d⟩ := p
  dsimp only at *
  have t2 := (tv_eq htd (j := 2) (by omega)).1
  have t3 := (tv_eq htd (j := 3) (by omega)).1
  have t4 := (tv_eq htd (j := 4) (by omega)).1
  have olt := ow_le z
  -- the end of it
  have fin : ∀ (v : rV), (∀ j, 5 ≤ j → j < 12 → v.1 (r + 1) j = vm.1 185 (12 * ow (z ++ [(x, k, kr, num, d)]) + j)) → (A = true → v.1 r 1 = nI (ow (z ++ [(x, k, kr, num, d)]))) → Ch (fun a j => (a = r ∨ a = r + 1) ∧ j < 12) vc v → v.1 r 3 = nI (ls z) → v.1 r 2 = nI (fs z) → v.1 r 4 = 0 → v.1 kr 1 = nI k →
      ∃ vc', f_X0_takeIn_60 v r kr (nI (sW vm 2 z + tv vm d 2)) (nI (sW vm 3 z + tv vm d 3)) (nI (sW vm 4 z + tv vm d 4)) = some vc' ∧ BI A vc' vm r (z ++ [(x, k, kr, num, d)]) ∧ Ch (fun a j => (a = r ∨ a = r + 1) ∧ j < 12) vc vc' := fun v f1 f2 f3 f4 f5 f6 f7 => by
    unfold f_X0_takeIn_60
    simp only [vlet_eq]
    rw [rI_no (a := r) (b := 3) (by omega), rI_no (a := r) (b := 3) (by omega), rI_no (a := r) (b := 3) (by omega), rI_no (a := kr) (by omega), rI_no (a := kr) (by omega), rI_no (a := kr) (by omega), f4, f7, niAdd]
    refine ⟨_, rfl, ⟨by simp, fun h9 => ?_, ⟨?_, ?_, ?_⟩, fun j q1 q2 => ?_, ?_, ?_, ?_⟩, (((f3.I ⟨Or.inr rfl, by omega⟩).I ⟨Or.inr rfl, by omega⟩).I ⟨Or.inr rfl, by omega⟩).I ⟨Or.inl rfl, by omega⟩⟩
    · rw [rI_no (by omega), rI_no (by omega), rI_no (by omega), rI_no (by omega)]; exact f2 h9
    · rw [rI_no (by omega), rI_no (by omega), rI_no (by omega), rI_no (by omega), f5, fs_sn _ hne]
    · rw [rI_at, ls_sn]
      congr 1
      show ls z + k = x + k - 1
      omega
    · rw [rI_no (by omega), rI_no (by omega), rI_no (by omega), rI_no (by omega)]; exact f6
    · rw [rI_no (by omega), rI_no (by omega), rI_no (by omega), rI_no (by omega)]; exact f1 j q1 q2
    · rw [rI_no (by omega), rI_no (by omega), rI_no (by omega), rI_at, sW_sn]
    · rw [rI_no (by omega), rI_no (by omega), rI_at, sW_sn]
    · rw [rI_no (by omega), rI_at, sW_sn]
  unfold f_X0_takeIn
  rw [w2, w3, w4, htold 2 (by omega), htold 3 (by omega), htold 4 (by omega), t2, t3, t4, niAdd, niAdd, niAdd, vlet_eq, vlet_eq, vlet_eq]
  have osn : ow (z ++ [(x, k, kr, num, d)]) = min (ow z) d := by rw [ow_sn]; show min (ow z) (min d 100) = _; omega
  by_cases g : vc.1 r 1 ≤ nI num
  · rw [if_pos g]
    have e : ow (z ++ [(x, k, kr, num, d)]) = ow z := by
      rw [osn]
      cases A with
      | true =>
        have e1 := hA1 rfl
        rw [hnum rfl, e1, niLe (by omega) (by omega)] at g
        omega
      | false =>
        have := hA2 rfl
        omega
    exact fin vc (fun j q1 q2 => by rw [e]; exact hm j q1 q2) (fun h9 => by rw [e]; exact hnum h9) Ch.rf h3 h2 h4 (by rw [htold 1 (by omega)]; exact ek)
  · rw [if_neg g]
    have e : ow (z ++ [(x, k, kr, num, d)]) = d := by
      rw [osn]
      cases A with
      | true =>
        have e1 := hA1 rfl
        rw [hnum rfl, e1, niLe (by omega) (by omega)] at g
        omega
      | false =>
        have := hA2 rfl
        omega
    simp only [vlet_eq]
    refine fin (rI (rCp vc (r + 1) kr 0 0 12) r 1 (nI num)) (fun j q1 q2 => ?_) (fun h9 => ?_) ((Ch.rf.C fun j hj => ⟨Or.inr rfl, hj⟩).I ⟨Or.inl rfl, by omega⟩) ?_ ?_ ?_ ?_
    · rw [rI_no (by omega), rCp_at, if_pos ⟨rfl, q2⟩, e]; exact htold j q2
    · rw [rI_at, e, hA1 h9]
    · rw [rI_no (by omega), rCp_at, if_neg (by omega)]; exact h3
    · rw [rI_no (by omega), rCp_at, if_neg (by omega)]; exact h2
    · rw [rI_no (by omega), rCp_at, if_neg (by omega)]; exact h4
    · rw [rI_no (by omega), rCp_at, if_neg (by omega), htold 1 (by omega)]; exact ek
theorem put_go {B : Nat} {A : Bool} {vc vm : rV} {R : List (List Pz)} {p : Pz} (hB : isStrip B = true) (hC : CI B A vc vm R) (hP : PD B vc vm p) (hn : R.flatten.length < 12) (hls : ∀ z, z ∈ R → ls z < 24) (hA1 : A = true → p.2.2.2.1 = p.2.2.2.2) (hA2 : A = false → ∀ z, z ∈ R → ow z = p.2.2.2.2) (hz : ∀ z, z ∈ R → z ≠ [] ∧ ∀ q, q ∈ z → TD vm 185 (12 * q.2.2.2.2)) : ∃ vc', f_X5_put vc B p.2.2.1 (nI p.2.2.2.1) (nI p.1) = some vc' ∧ CI B A vc' vm (addP R p) ∧ Ch (Spt B) vc vc' := by
  have hC0 := hC
  obtain ⟨ρ, hR, hN, hl, hb⟩ := hC
  have B60 : 60 ≤ B := is_mem (p := fun k => 60 ≤ k) hB (by decide)
  have lenR : ∀ R : List (List Pz), (∀ z, z ∈ R → z ≠ []) → R.length ≤ R.flatten.length := by
    intro R
    induction R with
    | nil => intro _; simp
    | cons z R ih =>
      intro h
      have h1 := ih fun y hy => h y (by simp [hy])
      have h2 : 0 < z.length := List.length_pos_iff.mpr (h z (by simp))
      simp only [List.length_cons, List.flatten_cons, List.length_append]
      omega
  have hRl : R.length < 12 := Nat.lt_of_le_of_lt (lenR R fun z h => (hz z h).1) hn
  unfold f_X5_put
  rcases List.eq_nil_or_concat R with rfl | ⟨Ra, z, rfl⟩
  · rw [hN, if_pos (show nI ([] : List (List Pz)).length ≤ 0 from by decide)]
    exact put_new hB hC0 hP (by simp) hA1
  · rw [List.concat_eq_append] at *
    have hzm : z ∈ Ra ++ [z] := by simp
    have hRa : (Ra ++ [z]).length = Ra.length + 1 := by simp
    have hgz : (Ra ++ [z])[Ra.length]? = some z := by rw [List.getElem?_append_right (Nat.le_refl _), Nat.sub_self]; rfl
    have hbz := hb Ra.length z hgz
    obtain ⟨r1, ⟨q, hq, eq⟩, inj⟩ := hR Ra.length (by omega)
    have bod : isBody (ρ Ra.length) = true := by rw [eq]; exact bodyB hB hq
    have hlz := hls z hzm
    rw [addP_sn, hN, hRa, if_neg (show ¬ nI (Ra.length + 1) ≤ 0 from nle (b := 0) (by omega) (by omega)), show nI (Ra.length + 1) - 1 = nI Ra.length from niSub (a := Ra.length + 1) (b := 1) (by omega), if_pos (gin (show Ra.length < 12 by omega) (by omega)), niCl (by omega), r1, Option.bind_some, if_pos bod, hbz.2.2.1.2.1, ad1]
    have hP' := hP
    obtain ⟨-, -, ⟨hd, hk, hx, hnm⟩, -⟩ := hP'
    by_cases g : ls z + 1 = p.1
    · rw [if_pos (show nI (ls z + 1) = nI p.1 by rw [g]), if_pos g, Option.bind_some, if_pos bod]
      have hzl : z.length ≤ 12 := by
        rw [List.flatten_append, List.length_append] at hn
        simp at hn
        omega
      obtain ⟨vc', k1, k2, k3⟩ := take_in (r := ρ Ra.length) hbz hP (by omega) g (hz z hzm).2 hzl hA1 (fun h9 => hA2 h9 z hzm)
      rw [k1, Option.bind_some]
      refine ⟨vc', rfl, ⟨ρ, hR.ch k3 fun i _ => by omega, by rw [k3.1 _ _ (by omega), hN]; simp, by simp; omega, fun i y hy => ?_⟩, k3.mono fun a j h9 => by unfold Spt; omega⟩
      rw [List.getElem?_append] at hy
      by_cases g2 : i < Ra.length
      · rw [if_pos g2] at hy
        have un := hR.uniq (i := i) (j := Ra.length) (by omega) (by omega) (by omega)
        have un2 := hR.uniq (i := Ra.length) (j := i) (by omega) (by omega) (by omega)
        exact (hb i y (by rw [List.getElem?_append, if_pos g2]; exact hy)).ch k3 (fun j _ => by omega) (fun j _ => by omega)
      · rw [if_neg g2] at hy
        by_cases g3 : i = Ra.length
        · rw [g3, Nat.sub_self] at hy
          simp only [List.getElem?_cons_zero, Option.some.injEq] at hy
          rw [← hy, g3]
          exact k2
        · obtain ⟨y2, hy2⟩ : ∃ y, i - Ra.length = y + 1 := ⟨i - Ra.length - 1, by omega⟩
          rw [hy2] at hy
          simp at hy
    · rw [if_neg (nne g (by omega) (by omega)), if_neg g]
      exact put_new hB hC0 hP hRl hA1
