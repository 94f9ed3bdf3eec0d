/-! CELLS THAT ARE MADE: the constructors' rows -/
def rD (v : rV) (n : Nat) : rV := (fun a b => if a = n then 0 else v.1 a b, fun a b => if a = n then 0 else v.2.1 a b, fun a b => if a = n then none else v.2.2 a b)
def rok : FieldType → Bool
  | .int => true
  | .boolean => true
  | .long => true
  | .object _ => true
  | .array _ => true
  | _ => false
theorem rD_ne {G : rG} {S : Nat → Nat → Option Nat} {v : rV} {n : Nat} (i : Nat) (kd : rKd) (h : i ≠ n) : rE G S (rD v n) i kd = rE G S v i kd := rE_ne (fun b => by simp [rD, h]) (fun b => by simp [rD, h]) (fun b => by simp [rD, h])
theorem rH_app {G : rG} {S S' : rS} {v v' : rV} {H H1 : Heap} (l : List rKd) (hS' : S' = (S.1 ++ l, S.2)) (hH : rH G S v H) (hf : S.2.2.1 = true) (hlen : S.1.length + l.length ≤ 1000000) (hne : ∀ (i : Nat) (kd : rKd), i < S.1.length → rE G S.2.1 v' i kd = rE G S.2.1 v i kd) (hz : H1.size = H.size + l.length) (ho : ∀ q, q < H.size → H1[q]? = H[q]?)
    (hc : ∀ (j : Nat) (kd : rKd), l[j]? = some kd → va_at G.2.1 vwCl (rad G (S.1.length + j), rE G S.2.1 v' (S.1.length + j) kd) H1) : rH G S' v' H1 := by
  subst hS'
  refine ⟨?_, by simpa using hlen, fun _ => by rw [hz, hH.2.2 hf]; simp; omega⟩
  intro k q hk
  have hq := hk
  simp only [rW, List.getElem?_mapIdx, Option.map_eq_some_iff] at hk
  obtain ⟨kd, h1, h2⟩ := hk
  subst h2
  by_cases hl : k < S.1.length
  · rw [List.getElem?_append_left hl] at h1
    have hb := rW_at (G := G) (v := v) h1
    rw [hne k kd hl]
    have ha := hH.1 k _ hb
    exact ha.kept (ho _ ha.lt)
  · rw [List.getElem?_append_right (by omega)] at h1
    have := hc (k - S.1.length) kd h1
    rw [show S.1.length + (k - S.1.length) = k by omega] at this
    exact this
theorem rK_app {G : rG} {S S' : rS} {s : State} (l : List rKd) (hS' : S' = (S.1 ++ l, S.2)) (hK : rK G S s) (h : ∀ (j n : Nat) (ty : FieldType), l[j]? = some (.inl (n, ty)) → ArrOfT s (G.2.2.1 ty) ty ∧ va_RA s (G.2.2.1 ty) ty) : rK G S' s := by
  subst hS'
  refine ⟨hK.1, fun k n ty hk => ?_⟩
  by_cases hl : k < S.1.length
  · exact hK.2 k n ty (by rw [← List.getElem?_append_left (l₂ := l) hl]; exact hk)
  · exact h (k - S.1.length) n ty (by rw [← List.getElem?_append_right (l₁ := S.1) (by omega)]; exact hk)
theorem rdef {G : rG} {ty : FieldType} (h : rok ty = true) {v : rV} {n j : Nat} : defaultValue ty = rcv G (rVal ty (fun _ _ => none) (rD v n) n j) := by
  cases ty <;> first | (simp [rok] at h; done) | simp [defaultValue, rVal, rD, rRef, rcv, va_rf]
section ALLOC
variable {M : rM} {d bc bs bc' bs' pc n : Nat} {lv : List (Nat × Value)} {st : List Value} {S S' : rS} {v v' : rV} {Post : Option Value → rS → rV → Prop}
theorem rC_S {G : rG} {p : Program} {l : Launch} {e : Env} {R : Room} {s : State} {m : MethodId} {args : Array Value} {below : List Frame} {meth : Method} {c : Code} {Q : State → Prop} (hS : S'.2.2.2 = S.2.2.2) (C : rC M d S Post G p l e R s m args below meth c Q) : rC M d S' Post G p l e R s m args below meth c Q := by
  obtain ⟨a1, a2, ⟨b1, b2, b3⟩, a4, a5⟩ := C
  exact ⟨a1, a2, ⟨b1, by unfold rX at b2 ⊢; rw [hS]; exact b2, b3⟩, a4, a5⟩
theorem e_new {ci N idx : Nat} {C0 : String} {T : u_T} (hd : decode M.2.1 pc = .ok (.new idx, 3)) (hc : rCls ci C0 T N) (hcl : Cond.classLink M.1.cls idx C0 ∈ rtbl) (hin : Cond.instantiable C0 N ∈ rtbl) (hini : Cond.initialized C0 ∈ rtbl) (hok : ∀ j, j < N → rok (rtab ci j) = true) (hst : S.2.1 = fun _ _ => none) (hf : S.2.2.1 = true) (hlen : S.1.length = n) (hn : n < 1000000) (hbc : bc = bc' + 1) (hbs : bs = bs' + N) (hS' : S' = (S.1 ++ [.inr ci], S.2)) (hv : rD v n = v')
    (kk : Ev M d bc' bs' (pc + 3) lv (.ref n :: st) S' v' Post) : Ev M d bc bs pc lv st S v Post := fun G p l e R s m args below meth c Q C H locs cells slots ls hK hH hS hl hcc hs => by
  subst hlen
  subst hv
  have hz0 : H.size = rad G S.1.length := by rw [hH.2.2 hf, rad_lt hn]
  have hKn := hK.1.1 ci _ hc.1
  refine W.newcK C.1.1 C.1.2.1 C.1.2.2.2.1 (C.1.2.2.2.2 _ hcl) (C.1.2.2.2.2 _ hin) (C.1.2.2.2.2 _ hini) rfl hd (by omega) (by omega) hKn.2.1 rfl fun H1 kC hkC e1 z1 o1 => ?_
  have hH1 : rH G S' (rD v S.1.length) H1 := rH_app [.inr ci] hS' hH hf (by simp; omega) (fun i kd h => rD_ne i kd (by omega)) (by simpa using z1) o1 (fun j kd hj => by
    have hj0 : j < 1 := (List.getElem?_eq_some_iff.mp hj).1
    rw [show j = 0 by omega] at hj ⊢
    cases hj
    rw [Nat.add_zero, ← hz0]
    refine ⟨_, hc.1, (u_born (rtab ci) C.1.2.2.2.2 hc.2.1 hKn hkC e1 hc.2.2.1).to (fun k hk => ?_)⟩
    show _ = vp_V (rFs G S.2.1 (rD v S.1.length) S.1.length ci) k
    rw [vp_V, List.getD_eq_getElem?_getD, rFs_at (by rw [rCls_N hc]; exact hk), hst]
    exact rdef (hok k hk))
  have h0 := kk G p l e R s m args below meth c Q (rC_S (by rw [hS']) C) H1 locs (cells + 1) (slots + N) ls (rK_app [.inr ci] hS' hK (fun j k ty hj => by
    have hj0 : j < 1 := (List.getElem?_eq_some_iff.mp hj).1
    rw [show j = 0 by omega] at hj
    cases hj)) hH1 ⟨Nat.le_trans hS.1 (by omega), fun q h1 h2 => (o1 q (Nat.lt_of_lt_of_le h1 hS.1)).trans (hS.2.1 q h1 h2), hS.2.2⟩ hl (by omega) (by omega)
  rw [hz0]
  exact h0
theorem e_newa {N : Nat} {a : Int32} {atype : ArrayType} {ty : FieldType} (hty : newarray.typeOf atype = ty) (hti : ty = .int ∨ ty = .long) (hd : decode M.2.1 pc = .ok (.newarray atype, 2)) (har : Cond.arrayClass ty ∈ rtbl) (hst : S.2.1 = fun _ _ => none) (hf : S.2.2.1 = true) (hlen : S.1.length = n) (hn : n < 1000000) (ha : a.toNatClampNeg = N) (h0 : ¬ a < 0) (hb : N * componentBytes ty ≤ 536870912) (hbc : bc = bc' + 1) (hbs : bs = bs' + N) (hS' : S' = (S.1 ++ [.inl (N, ty)], S.2)) (hv : rD v n = v')
    (kk : Ev M d bc' bs' (pc + 2) lv (.ref n :: st) S' v' Post) : Ev M d bc bs pc lv (.int a :: st) S v Post := fun G p l e R s m args below meth c Q C H locs cells slots ls hK hH hS hl hcc hs => by
  subst hlen
  subst hv
  subst hty
  have hz0 : H.size = rad G S.1.length := by rw [hH.2.2 hf, rad_lt hn]
  refine va_newaK C.1.1 C.1.2.1 (C.1.2.2.2.2 _ har) rfl hd rfl h0 ha hb (by omega) (by omega) rfl fun H1 cA e1 z1 o1 hAr hNm => ?_
  have hcA := C.2.2.1.2.2 _ _ hNm
  subst hcA
  have hH1 : rH G S' (rD v S.1.length) H1 := rH_app [.inl (N, newarray.typeOf atype)] hS' hH hf (by simp; omega) (fun i kd h => rD_ne i kd (by omega)) (by simpa using z1) o1 (fun j kd hj => by
    have hj0 : j < 1 := (List.getElem?_eq_some_iff.mp hj).1
    rw [show j = 0 by omega] at hj ⊢
    cases hj
    rw [Nat.add_zero, ← hz0]
    rcases hti with h | h <;> rw [h] at e1 ⊢
    · show H1[H.size]? = some (vp_cell _ _)
      rw [e1, vp_cell_i]
      simp [rD, defaultValue]
    · show H1[H.size]? = some (vp_cell _ _)
      rw [e1, vp_cell_l]
      simp [rD, defaultValue])
  have h0 := kk G p l e R s m args below meth c Q (rC_S (by rw [hS']) C) H1 locs (cells + 1) (slots + N) ls (rK_app [.inl (N, newarray.typeOf atype)] hS' hK (fun j k ty hj => by
    have hj0 : j < 1 := (List.getElem?_eq_some_iff.mp hj).1
    rw [show j = 0 by omega] at hj
    cases hj
    refine ⟨hAr, ?_⟩
    rcases hti with h | h <;> rw [h] at hNm ⊢ <;> exact hNm)) hH1 ⟨Nat.le_trans hS.1 (by omega), fun q h1 h2 => (o1 q (Nat.lt_of_lt_of_le h1 hS.1)).trans (hS.2.1 q h1 h2), hS.2.2⟩ hl (by omega) (by omega)
  rw [hz0]
  exact h0
theorem e_anew {N idx : Nat} {a : Int32} {C0 : String} (hd : decode M.2.1 pc = .ok (.anewarray idx, 3)) (hcl : Cond.classLink M.1.cls idx C0 ∈ rtbl) (hov : C0 = "RingDrop$Formula" ∨ C0 = "RingDrop$Body") (hst : S.2.1 = fun _ _ => none) (hf : S.2.2.1 = true) (hlen : S.1.length = n) (hn : n < 1000000) (ha : a.toNatClampNeg = N) (h0 : ¬ a < 0) (hb : N * 4 ≤ 536870912) (hbc : bc = bc' + 1) (hbs : bs = bs' + N) (hS' : S' = (S.1 ++ [.inl (N, .object C0)], S.2)) (hv : rD v n = v')
    (kk : Ev M d bc' bs' (pc + 3) lv (.ref n :: st) S' v' Post) : Ev M d bc bs pc lv (.int a :: st) S v Post := fun G p l e R s m args below meth c Q C H locs cells slots ls hK hH hS hl hcc hs => by
  subst hlen
  subst hv
  subst ha
  have hz0 : H.size = rad G S.1.length := by rw [hH.2.2 hf, rad_lt hn]
  have hover : va_AO C0 s := by
    rcases hov with rfl | rfl
    · exact C.2.1.2.2.1
    · exact C.2.1.2.2.2.1
  refine W.anew C.1.1 C.1.2.1 C.1.2.2.2.1 (C.1.2.2.2.2 _ hcl) (va_AO.use hover) rfl hd rfl h0 hb (by omega) (by omega) fun cA kA comp f1 f2 f3 f4 => ?_
  generalize hHe : H.push ({ cls := cA, slots := Array.replicate a.toNatClampNeg .null, vm := .none } : Cell) = H1
  have z1 : H1.size = H.size + 1 := by rw [← hHe, Array.size_push]
  have e1 : H1[H.size]? = some (arrV cA a.toNatClampNeg (fun _ => .null)) := by rw [← hHe, Array.getElem?_push_size, ← arrV_new]
  have o1 : ∀ q : Nat, q < H.size → H1[q]? = H[q]? := fun q hq => by rw [← hHe, Array.getElem?_push, if_neg (Nat.ne_of_lt hq)]
  have hcA := C.2.2.1.2.2 _ _ f1
  subst hcA
  have hH1 : rH G S' (rD v S.1.length) H1 := rH_app [.inl (a.toNatClampNeg, .object C0)] hS' hH hf (by simp; omega) (fun i kd h => rD_ne i kd (by omega)) (by simpa using z1) o1 (fun j kd hj => by
    have hj0 : j < 1 := (List.getElem?_eq_some_iff.mp hj).1
    rw [show j = 0 by omega] at hj ⊢
    cases hj
    rw [Nat.add_zero, ← hz0]
    show H1[H.size]? = some (vp_cell _ _)
    rw [e1, vp_cell_q]
    simp [rD, rRef, hst, va_rf])
  have h0 := kk G p l e R s m args below meth c Q (rC_S (by rw [hS']) C) H1 locs (cells + 1) (slots + a.toNatClampNeg) ls (rK_app [.inl (a.toNatClampNeg, .object C0)] hS' hK (fun j k ty hj => by
    have hj0 : j < 1 := (List.getElem?_eq_some_iff.mp hj).1
    rw [show j = 0 by omega] at hj
    cases hj
    exact ⟨fun N z => ⟨(fun k h => by cases h), kA, f2, comp, f3⟩, kA, comp, f2, f3, f4, f1⟩)) hH1 ⟨Nat.le_trans hS.1 (by omega), fun q h1 h2 => (o1 q (Nat.lt_of_lt_of_le h1 hS.1)).trans (hS.2.1 q h1 h2), hS.2.2⟩ hl (by omega) (by omega)
  rw [hz0]
  exact h0
end ALLOC
