/-! ONE DROP ALONE ON THE TRIAL STRIP -/
theorem has_1 {d e : Nat} (hd : d < 12) (he : e < 12) : f_X7_has ((1 : Int32) <<< (nI d &&& 31)) (nI e) = true ↔ e = d := by
  have h : ∀ d, d < 12 → ∀ e, e < 12 → (f_X7_has ((1 : Int32) <<< (nI d &&& 31)) (nI e) = true ↔ e = d) := by decide +kernel
  exact h d hd e he
theorem one_list {l : List Nat} {d : Nat} (h1 : ∀ x, x ∈ l → x = d) (h2 : d ∈ l) (h3 : l.Pairwise (fun a b => a ≠ b)) : l = [d] := by
  cases l with
  | nil => cases h2
  | cons x t =>
    cases t with
    | nil => rw [h1 x (List.mem_cons_self ..)]
    | cons y t =>
      exfalso
      rw [List.pairwise_cons] at h3
      have a := h3.1 y (List.mem_cons_self ..)
      exact a ((h1 x (List.mem_cons_self ..)).trans (h1 y (List.mem_cons_of_mem _ (List.mem_cons_self ..))).symm)
theorem blist_1 {vm : rV} {d N : Nat} (hD : DR vm N) (hd : d < N) : blist vm ((1 : Int32) <<< (nI d &&& 31)) N = [pz vm d] := by
  have hN := hD.1
  have e : bl vm ((1 : Int32) <<< (nI d &&& 31)) N 0 24 = [d] := one_list (fun x hx => by
    obtain ⟨h1, h2, -⟩ := mem_bl.mp hx
    exact (has_1 (by omega) (by omega)).mp h2) (mem_bl.mpr ⟨hd, (has_1 (by omega) (by omega)).mpr rfl, by omega, by have := (hD.x hd).1; omega⟩) ((bl_pw (vm := vm) (set := (1 : Int32) <<< (nI d &&& 31)) (m := N) (lo := 0) 24).imp fun h => h.2)
  unfold blist
  rw [e]
  rfl
/-- one piece laid: the class from a row, the model from its list -/
theorem lay1_go {M n nl : Nat} {x : Int64} {vc vm : rV} {ρ : Nat → Nat} {p : Pz} (hR : RF 98 vc ρ) (hp : PD 98 vc vm p) (h0 : p.2.2.2.1 = 0) (hx : vc.1 p.2.2.1 0 = nI p.1) (hM : p.2.2.2.2 < M ∧ M ≤ 13) (hPM : PM vm [p]) (hn : n < nl) (hl : Rl nl vc vm) :
    ∃ wc wm, f_X7_lay vc (nI n) p.2.2.1 x = some wc ∧ f_X8_begin vm (nI n) x = some wm ∧ ST M 98 0 wc wm ∧ LSt 98 (11 + 3 * n) n wc wm ∧ wm.1 187 295 = 1 ∧ Ch (Sall 98) vc wc ∧ Ch Tlb vm wm ∧ wc.1 98 10 = nI 1 := by
  obtain ⟨l4, h91, -, hK⟩ := hl
  have fm : isForm (11 + 3 * n) = true := by
    have : ∀ n, n < 4 → isForm (11 + 3 * n) = true := by decide
    exact this n (by omega)
  have at1 : f_X4_at vc 9 (nI n) = some (11 + 3 * n) := by
    unfold f_X4_at f_X4_has
    rw [h91, if_neg (niGe (by omega)), if_neg (nle (by omega) (by omega)), if_neg (show ¬ (4 : Int32) ≤ nI n from nle (a := 4) (by omega) (by omega)), if_pos rfl, if_pos (gin (show n < 4 by omega) (by omega)), niCl (by omega)]
  obtain ⟨w, k1, k2, k3, k4, k5, k6⟩ := clear_go (B := 98) (kf := 11 + 3 * n) (x := x) vc
  have cl : CL0 98 (11 + 3 * n) x w := ⟨k3, fun j h1 h2 h3 h4 => k4 j (by omega) h2 h3 h4, k5, k6⟩
  have hp60 := hp.1.1
  have nS : ∀ k j, k < 98 → ¬ Scl 98 k j := fun k j hk q => by unfold Scl at q; omega
  have hI : CI 98 false w vm [] := ⟨ρ, hR.ch k2 fun i _ => by unfold Scl; omega, by rw [k4 10 (by omega) (by omega) (by omega) (by omega)]; rfl, by simp, fun i z h => by simp at h⟩
  have hpw : PD 98 w vm p := ⟨⟨hp60, fun j hj => by rw [k2.1 _ _ (nS _ _ (by omega))]; exact hp.1.2 j hj⟩, hp.2⟩
  obtain ⟨u, j1, j2, j3⟩ := put_go (by decide) hI hpw (by simp) (fun z hz => by cases hz) (fun h => by cases h) (fun _ z hz => by cases hz) (fun z hz => by cases hz)
  have hg : grp [p] = addP [] p := rfl
  rw [← hg] at j2
  have hKu : LawK (11 + 3 * n) n u vm := ((hK n hn).ch k2 (T := fun _ _ => False) Ch.rf (fun j => nS _ _ (by omega)) (nS _ _ (by omega)) (fun _ _ _ _ _ => id) (by omega)).ch j3 (T := fun _ _ => False) Ch.rf (fun j => by unfold Spt; omega) (by unfold Spt; omega) (fun _ _ _ _ _ => id) (by omega)
  obtain ⟨wc, wm, g1, g2, g3, g4, g5, g6, g7, g8, g9⟩ := lay_go (M := M) (N := n) (x := x) (P := [p]) (by decide) j2 ⟨List.pairwise_singleton _ _, fun q hq => by
    rw [List.mem_singleton] at hq
    rw [hq]
    exact ⟨hp.2.2.1.2.1, hp.2.2.1.2.2.1⟩⟩ hM.2 (fun q hq => by
    rw [List.mem_singleton] at hq
    rw [hq]
    exact ⟨hM.1, hp.2.1⟩) hPM (cl.ch j3 (fun k i _ _ _ => by unfold Spt; omega) (fun j _ _ => by unfold Spt; omega) (by unfold Spt; omega) (by unfold Spt; omega)) ⟨fm, by omega⟩ (by omega) hKu
  refine ⟨wc, wm, ?_, g2, g3, g4, g5, ((k2.mono fun k j q => by unfold Scl at q; unfold Sall; omega).tr (j3.mono fun k j q => by unfold Spt at q; unfold Sall; omega)).tr (g8.mono fun k j q => by unfold Sbg at q; unfold Sall; omega), g9, ?_⟩
  rotate_left
  · rw [g8.1 _ _ (by unfold Sbg; omega)]
    obtain ⟨ρ9, -, z, -⟩ := j2
    exact z
  unfold f_X7_lay
  rw [at1, Option.bind_some, if_pos fm, k1, Option.bind_some, k2.1 _ _ (nS _ _ (by omega)), hx]
  rw [h0] at j1
  rw [show f_X5_put w 98 p.2.2.1 0 (nI p.1) = some u from j1, Option.bind_some, g1, Option.bind_some]
/-- what a drop alone touches in the model -/
def Tal : Nat → Nat → Prop := fun k j => k = 187 ∨ k = 183 ∨ k = 184 ∨ k = 193 ∨ k = 194 ∨ (k = 174 ∧ (j = 37 ∨ j = 38 ∨ j = 39 ∨ j = 1000027))
theorem tal_twk {v w : rV} (h : Ch Tal v w) : Ch Twk v w := h.mono fun k j q => by unfold Tal at q; unfold Twk; omega
/-- .. and in the class -/
def Sal : Nat → Nat → Prop := fun k _ => (98 ≤ k ∧ k ≤ 135) ∨ (∃ n, n < 4 ∧ k = 13 + 3 * n)
theorem sal_swk {v w : rV} (h : Ch Sal v w) : Ch Swk v w := h.mono fun k j q => by
  rcases q with q | ⟨n, q1, q2⟩
  · exact Or.inl q
  · exact Or.inr (Or.inr (Or.inr ⟨n, q1, Or.inl q2⟩))
theorem sal_no {k j : Nat} (h1 : ¬ (98 ≤ k ∧ k ≤ 135)) (h2 : k < 13 ∨ 22 < k) : ¬ Sal k j := fun q => by
  rcases q with q | ⟨n, q1, q2⟩
  · exact h1 q
  · omega
/-- it is laid and goes its ticks -/
theorem alone_go {M n nl a : Nat} {x : Int64} {vc vm : rV} {ρ : Nat → Nat} {p : Pz} {q : Nat} (hR : RF 98 vc ρ) (hp : PD 98 vc vm p) (h0 : p.2.2.2.1 = 0) (hx : vc.1 p.2.2.1 0 = nI p.1) (hM : p.2.2.2.2 < M ∧ M ≤ 13) (hPM : PM vm [p]) (hn : n < nl) (hl : Rl nl vc vm) (hq : Rp q vc vm) (ha : a ≤ 200) :
    ∃ (i : Nat) (w1 w2 wc wm : rV), f_X7_tryAlone vc (nI n) p.2.2.1 x (nI a) = some wc ∧ f_X8_begin vm (nI n) x = some w2 ∧ f_X8_run w2 (nI a) = some (nI i, wm) ∧ f_X7_lay vc (nI n) p.2.2.1 x = some w1 ∧ f_X5_goOn w1 98 (nI a) (w1.1 0 15) = some (nI i, wc) ∧ i ≤ a ∧ ST M 98 a wc wm ∧ wc.1 98 15 = nI i ∧ Ch Sal vc wc ∧ Ch Tal vm wm := by
  obtain ⟨w1, w2, e1, e2, e3, e4, e5, e6, e7, -⟩ := lay1_go (x := x) hR hp h0 hx hM hPM hn hl
  obtain ⟨q1, q2, q3⟩ := hq
  have l4 := hl.1
  have sA : ∀ k j, ¬ (98 ≤ k ∧ k ≤ 98 + 37) → ¬ Sall 98 k j := fun k j q z => by have := sall_no z; omega
  have tA : ∀ k j, ¬ (k = 187 ∨ (k = 174 ∧ j = 1000027)) → ¬ Tlb k j := fun k j q z => q (tlb_no z)
  have pm : w2.1 174 23 = nI q := by rw [e7.1 _ _ (tA _ _ (by omega))]; exact q3
  have pcl : w1.1 0 15 = nI q := by rw [e6.1 _ _ (sA _ _ (by omega))]; exact q2
  obtain ⟨i, x1, x2, f1, f2, f3, f4, f5, f6, f7, f8⟩ := goOn_go (a := a) (by decide) ha (by omega) (by rw [pm, le_toInt, niInt (by omega)]; show (0 : Int) ≤ _; omega) e3 e4
  have z15 : w1.1 98 15 = 0 := by
    obtain ⟨t, S0, S1, ⟨-, -, ht⟩, -, -, ⟨t1, -⟩, -⟩ := e3.parts
    have : t = 0 := by omega
    rw [t1, this]
    rfl
  refine ⟨i, w1, w2, x1, x2, ?_, e2, f2, e1, by rw [pcl, ← pm]; exact f1, f3, f4.mono (by omega) (Nat.le_refl _), by rw [f8, z15, Int32.zero_add], (e6.mono fun k j z => ?_).tr (f6.mono fun k j z => ?_), (e7.mono fun k j z => by have := tlb_no z; unfold Tal; omega).tr (f7.mono fun k j z => by have := tst_no z; unfold Tal; omega)⟩
  · unfold f_X7_tryAlone
    rw [e1, Option.bind_some, pcl, ← pm, f1, Option.bind_some]
  · have := sall_no z
    exact Or.inl ⟨by omega, by omega⟩
  · rcases sst_no z with z | z
    · exact Or.inl ⟨by omega, by omega⟩
    · exact Or.inr ⟨n, by omega, by omega⟩
