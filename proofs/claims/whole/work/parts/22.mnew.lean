/-! new int[N][K] -/
theorem vr_outer (c : ClassId) (N h0 : Nat) : ∀ i : Nat, Jvm.Free.Multi.outerC c N h0 i = arrV c N (fun j => va_rf (if j < i then some (h0 + 1 + j) else none))
  | 0 => by
    show ({ cls := c, slots := Array.replicate N .null, vm := .none } : Cell) = _
    rw [arrV_new]
    refine congrArg (arrV c N) (funext fun j => ?_)
    simp [va_rf]
  | i + 1 => by
    show (Jvm.Free.Multi.outerC c N h0 i).setSlot i (.ref (h0 + 1 + i)) = _
    rw [vr_outer c N h0 i, arrV_store]
    refine congrArg (arrV c N) (funext fun j => ?_)
    by_cases e : j = i
    · subst e
      simp [updV, va_rf]
    · by_cases h : j < i
      · simp [updV, e, h, Nat.lt_succ_of_lt h]
      · simp [updV, e, h, show ¬ j < i + 1 by omega]
def rMn (v : rV) (n N : Nat) : rV := (fun a b => if n ≤ a ∧ a ≤ n + N then 0 else v.1 a b, fun a b => if n ≤ a ∧ a ≤ n + N then 0 else v.2.1 a b, fun a b => if a = n then (if b < N then some (n + 1 + b) else none) else if n ≤ a ∧ a ≤ n + N then none else v.2.2 a b)
theorem rMn_ne {G : rG} {S : Nat → Nat → Option Nat} {v : rV} {n N : Nat} (i : Nat) (kd : rKd) (h : i < n) : rE G S (rMn v n N) i kd = rE G S v i kd := rE_ne (fun b => by simp [rMn, Nat.not_le.mpr h]) (fun b => by simp [rMn, Nat.not_le.mpr h]) (fun b => by simp [rMn, Nat.not_le.mpr h, Nat.ne_of_lt h])
section MNEW
variable {M : rM} {d bc bs bc' bs' pc n : Nat} {lv : List (Nat × Value)} {st : List Value} {S S' : rS} {v v' : rV} {Post : Option Value → rS → rV → Prop}
theorem e_mnew {N K idx : Nat} {a b : Int32} (hd : decode M.2.1 pc = .ok (.multianewarray idx 2, 4)) (hcl : Cond.classLink M.1.cls idx "[[I" ∈ rtbl) (har : Cond.arrayClass .int ∈ rtbl) (hst : S.2.1 = fun _ _ => none) (hf : S.2.2.1 = true) (hlen : S.1.length = n) (hn : n + N < 1000000) (ha : a.toNatClampNeg = N) (ha0 : ¬ a < 0) (hb : b.toNatClampNeg = K) (hb0 : ¬ b < 0) (hb1 : N * 4 ≤ 536870912) (hb2 : K * 4 ≤ 536870912) (hbc : bc = bc' + (1 + N)) (hbs : bs = bs' + (N + N * K)) (hS' : S' = (S.1 ++ (.inl (N, .array .int) :: List.replicate N (.inl (K, .int))), S.2)) (hv : rMn v n N = v')
    (kk : Ev M d bc' bs' (pc + 4) lv (.ref n :: st) S' v' Post) : Ev M d bc bs pc lv (.int b :: .int a :: st) S v Post := fun G p l e R s m args below meth c Q C H locs cells slots ls hK hH hS hl hcc hs => by
  subst hlen
  subst hv
  subst ha
  subst hb
  have hz0 : H.size = rad G S.1.length := by rw [hH.2.2 hf, rad_lt (by omega)]
  intro T0 hT Xs
  obtain ⟨vm₁, cA, comp, hW1, fA, fC, hO, hI, X', step⟩ := Xs.multianewarray2F (ty := .int) C.1.1 C.1.2.2.2.1 (C.1.2.2.2.2 _ hcl) C.2.1.2.2.2.2 (C.1.2.2.2.2 _ har) (g := F0 m pc ls (.int b :: .int a :: st.map (rcv G))) rfl (by rw [C.1.2.1]; exact hd) rfl ha0 hb0 hb1 hb2 (by omega) rfl rfl (by omega) (by omega)
  generalize hF : Jvm.Free.Multi.fill (T0.setVm vm₁) cA comp a.toNatClampNeg b.toNatClampNeg (defaultValue .int) a.toNatClampNeg = F at X' step
  have hTh : (T0.setVm vm₁).heap = H := hT
  obtain ⟨f1, f2, -, -⟩ := Jvm.Free.Multi.fill_facts (T0.setVm vm₁) cA comp a.toNatClampNeg b.toNatClampNeg (defaultValue .int) a.toNatClampNeg
  rw [hF, hTh] at f1 f2
  have hold : ∀ x : Nat, x < H.size → F.heap[x]? = H[x]? := fun x hx => by
    have := Jvm.Free.Multi.fill_old (T0.setVm vm₁) cA comp a.toNatClampNeg b.toNatClampNeg (defaultValue .int) (a := x) (by rw [hTh]; exact hx) a.toNatClampNeg
    rw [hF, hTh] at this
    exact this
  have hrow : ∀ j : Nat, j < a.toNatClampNeg → F.heap[H.size + 1 + j]? = some (arrV comp b.toNatClampNeg (fun _ => .int 0)) := fun j hj => by
    have := Jvm.Free.Multi.fill_inner (T0.setVm vm₁) cA comp a.toNatClampNeg b.toNatClampNeg (defaultValue .int) a.toNatClampNeg j hj
    rw [hF, hTh] at this
    rw [this, ← arrV_new]
    rfl
  rw [vr_outer] at f2
  have hcA := C.2.2.1.2.2 (.array .int) cA fA
  have hcI := C.2.2.1.2.2 .int comp fC
  have hH1 : rH G S' (rMn v S.1.length a.toNatClampNeg) F.heap := rH_app (.inl (a.toNatClampNeg, .array .int) :: List.replicate a.toNatClampNeg (.inl (b.toNatClampNeg, .int))) hS' hH hf (by simp; omega) (fun i kd h => rMn_ne i kd h) (by rw [f1]; simp; omega) hold (fun j kd hj => by
    cases j with
    | zero =>
      cases hj
      rw [Nat.add_zero, ← hz0]
      show F.heap[H.size]? = some (vp_cell _ _)
      rw [f2, vp_cell_q, hcA]
      congr 2
      funext i
      simp only [rRef, hst, rMn, if_true]
      by_cases hi : i < a.toNatClampNeg
      · simp only [hi, if_true, Option.map_some]
        rw [rad_lt (by omega), hz0, rad_lt (by omega)]
        congr 2
        omega
      · simp only [hi, if_false, Option.map_none]
    | succ j =>
      have hj2 : (List.replicate a.toNatClampNeg (.inl (b.toNatClampNeg, .int) : rKd))[j]? = some kd := hj
      rw [List.getElem?_replicate] at hj2
      split at hj2
      · rename_i hja
        cases hj2
        rw [show S.1.length + (j + 1) = S.1.length + 1 + j by omega]
        show F.heap[rad G (S.1.length + 1 + j)]? = some (vp_cell _ _)
        rw [rad_lt (by omega), show G.1 + (S.1.length + 1 + j) = H.size + 1 + j by rw [hz0, rad_lt (by omega)]; omega, hrow j hja, vp_cell_i, hcI]
        congr 2
        funext i
        have : S.1.length ≤ S.1.length + 1 + j ∧ S.1.length + 1 + j ≤ S.1.length + a.toNatClampNeg := by omega
        simp [rMn, this]
      · cases hj2)
  have hKa : ∀ (j n : Nat) (ty : FieldType), (.inl (a.toNatClampNeg, .array .int) :: List.replicate a.toNatClampNeg (.inl (b.toNatClampNeg, .int)) : List rKd)[j]? = some (.inl (n, ty)) → ArrOfT s (G.2.2.1 ty) ty ∧ va_RA s (G.2.2.1 ty) ty := fun j k ty hj => by
    cases j with
    | zero =>
      cases hj
      rw [← hcA]
      refine ⟨fun N9 z9 => ?_, fA⟩
      obtain ⟨-, k9, hk9, cm9, hkk9⟩ := (hO 0 0 0).1
      exact ⟨(fun q hq => by cases hq), k9, hk9, cm9, hkk9⟩
    | succ j =>
      have hj2 : (List.replicate a.toNatClampNeg (.inl (b.toNatClampNeg, .int) : rKd))[j]? = some (.inl (k, ty)) := hj
      rw [List.getElem?_replicate] at hj2
      split at hj2
      · cases hj2
        rw [← hcI]
        refine ⟨fun N9 z9 => ?_, fC⟩
        obtain ⟨-, k9, hk9, cm9, hkk9⟩ := (hI 0 .null).1
        exact ⟨(fun q hq => by cases hq), k9, hk9, cm9, hkk9⟩
      · cases hj2
  obtain ⟨t, a1, b1⟩ := kk G p l e R s m args below meth c Q (rC_S (by rw [hS']) C) F.heap locs (cells + 1 + a.toNatClampNeg) (slots + a.toNatClampNeg + a.toNatClampNeg * b.toNatClampNeg) ls (rK_app _ hS' hK hKa) hH1 ⟨by rw [f1]; have := hS.1; omega, fun x h1 h2 => (hold x (Nat.lt_of_lt_of_le h1 hS.1)).trans (hS.2.1 x h1 h2), hS.2.2⟩ hl (by omega) (by omega) F rfl X'
  refine ⟨t, step t ?_, b1⟩
  have e : T0.heap.size = rad G S.1.length := by rw [hT]; exact hz0
  rw [e]
  exact a1
end MNEW
