/-! FROM THE CONSTRUCTORS TO THE LOOP; rows of the law alone -/
theorem hcons : ∀ k, k < 198 → ∀ j, j < (rS0L.getD k []).length → rS0 k j = none ∨ vc_350.2.2 k j = rS0 k j := by decide +kernel
theorem hcon {k j r : Nat} (h : rS0 k j = some r) : vc_350.2.2 k j = some r := by
  have hk : k < 198 := by
    rcases Nat.lt_or_ge k 198 with q | q
    · exact q
    · have : rS0L.getD k [] = [] := by
        rw [List.getD_eq_getElem?_getD, List.getElem?_eq_none (by exact q)]
        rfl
      rw [s0_nil this] at h
      cases h
  have hj : j < (rS0L.getD k []).length := by
    rcases Nat.lt_or_ge j (rS0L.getD k []).length with q | q
    · exact q
    · unfold rS0 at h
      rw [List.getD_eq_getElem?_getD, List.getElem?_eq_none q] at h
      cases h
  rcases hcons k hk j hj with q | q
  · rw [q] at h
    cases h
  · rw [q, h]
theorem rRef_ph (k j : Nat) : rRef (fun _ _ => none) vc_350 k j = rRef rS0 vc_350 k j := by
  unfold rRef
  cases h : rS0 k j with
  | none => rfl
  | some r => exact hcon h
theorem rE_ph {G : rG} {k : Nat} {kd : rKd} : rE G (fun _ _ => none) vc_350 k kd = rE G rS0 vc_350 k kd := by
  rcases kd with ⟨n, ty⟩ | ci
  · cases ty <;> simp [rE, rRef_ph]
  · have ev : ∀ (ty : FieldType) (j : Nat), rVal ty (fun _ _ => none) vc_350 k j = rVal ty rS0 vc_350 k j := fun ty j => by cases ty <;> simp [rVal, rRef_ph]
    simp [rE, rFs, ev]
theorem rP_K {X : Nat × (Nat → Int32)} : (rP X 198).1 = rK0 := by
  show rK0.take 198 = rK0
  decide +kernel
section LAWROWS
variable {M : rM} {d bc bs pc idx : Nat} {lv : List (Nat × Value)} {st : List Value} {v : rV} {Post : Option Value → rS → rV → Prop} {X : Nat × (Nat → Int32)}
theorem e_phase (k : Ev M d bc bs pc lv st (rZ X) vc_350 Post) : Ev M d bc bs pc lv st (rP X 198) vc_350 Post := fun G p l e R s m args below meth c Q C H locs cells slots ls hK hH hS hl hcc hs => by
  refine k G p l e R s m args below meth c Q (rC_S rfl C) H locs cells slots ls ?_ ?_ hS hl hcc hs
  · refine ⟨hK.1, fun k n ty h => hK.2 k n ty ?_⟩
    rw [rP_K]
    exact h
  · refine ⟨?_, by show rK0.length ≤ 1000000; decide +kernel, fun h => by cases h⟩
    have e : rW G (rP X 198) vc_350 = rW G (rZ X) vc_350 := by
      unfold rW
      rw [rP_K]
      show rK0.mapIdx (fun k kd => (rad G k, rE G (fun _ _ => none) vc_350 k kd)) = rK0.mapIdx (fun k kd => (rad G k, rE G rS0 vc_350 k kd))
      congr 1
      funext k kd
      rw [rE_ph]
    rw [← e]
    exact hH.1
theorem e_sldJ {j : Nat} {i : Int32} (hd : decode M.2.1 pc = .ok (.iaload, 1)) (hj : i.toNatClampNeg = j) (hn : j < X.1) (h0 : ¬ i < 0)
    (kk : Ev M d bc bs (pc + 1) lv (.int (X.2 j) :: st) (rZ X) v Post) : Ev M d bc bs pc lv (.int i :: .ref 1000000 :: st) (rZ X) v Post := e_sld hd (vin_of hj hn h0) (by rw [hj]; exact kk)
theorem e_slenJ (hd : decode M.2.1 pc = .ok (.arraylength, 1))
    (kk : Ev M d bc bs (pc + 1) lv (.int (Int32.ofNat X.1) :: st) (rZ X) v Post) : Ev M d bc bs pc lv (.ref 1000000 :: st) (rZ X) v Post := e_slen hd kk
theorem e_laldJ {S : rS} {k n j : Nat} {i : Int32} (hd : decode M.2.1 pc = .ok (.laload, 1)) (hk : S.1[k]? = some (.inl (n, .long))) (hj : i.toNatClampNeg = j) (hn : j < n) (h0 : ¬ i < 0)
    (kk : Ev M d bc bs (pc + 1) lv (.long (v.2.1 k j) :: st) S v Post) : Ev M d bc bs pc lv (.int i :: .ref k :: st) S v Post := e_lald hd hk (vin_of hj hn h0) (by rw [hj]; exact kk)
/-- the law's helper: 0 and the number in out, or 1 for the exception -/
def f_L_drop (v : rV) (a b : Int32) : Option (Int32 × rV) :=
  if f_X7_isDrop v a = true ∧ ¬ b < 0 ∧ ¬ 12 ≤ b then (if ¬ a < 0 ∧ a.toNatClampNeg < 12 then some (0, rL v 197 0 (v.1 (38 + a.toNatClampNeg) b.toNatClampNeg).toInt64) else none) else some (1, v)
theorem e_drop {a b : Int32} {r : Int32 × rV} (hm : M = mL_law) (hd : decode M.2.1 pc = .ok (.invokestatic idx, 3)) (hw : Cond.methodLink M.1.cls idx yL_drop ∈ rtbl) (hD : 14 ≤ d) (hsum : (st.map fun w => w.category).sum ≤ 8) (h : f_L_drop v a b = some r) (hbc : 2 ≤ bc) (hbs : 16 ≤ bs)
    (kk : Ev M d (bc - 2) (bs - 16) (pc + 3) lv (.int r.1 :: st) (rZ X) r.2 Post) : Ev M d bc bs pc lv (.ref 197 :: .int b :: .int a :: .ref 0 :: st) (rZ X) v Post := by
  exact e_dropX hm hd hw hD hsum h hbc hbs kk
end LAWROWS
