/-! STORES, with the heap's size kept (after the kit's va_put, va_putF, va_iast, va_astq) -/
section PUT2
variable {p : Program} {l : Launch} {e : Env} {R : Room} {s : State} {m : MethodId} {args : Array Value} {below : List Frame} {meth : Method} {c : Code} {H : Heap} {locs : List Loc} {cells slots : Nat} {Q : State → Prop}
variable {cc : ByteArray} {pc : Nat} {ls : Array Slot} {rest : List Value} {D : va_G} {cl : List vw_C} {A : Nat → Prop} {a : Nat} {tys : List (ClassId × FieldType)} {ws : va_W} {H0 : Heap}
theorem vz_put (hexec : p.tables.exec = Jvm.exec) (hb : c.code = cc) {own C : String} {T : u_T} {N ci index : Nat} {Ts : List Cond} (hts : ∀ w ∈ Ts, w.before args s = true) (hin : ∀ w ∈ u_ws C T N, w ∈ Ts) (ty0 : Nat → FieldType) (hty : ∀ k, k < N → parseFieldDescriptor (T k).2.2.1 = some (ty0 k)) (hnm : ∀ a, a < N → ∀ b, b < N → a ≠ b → (T a).2.1 ≠ (T b).2.1) (hown : s.vm.findClass own = some m.cls) (hK : va_K D cl tys s) (hP : va_P D cl ws H) (hD : va_D A ws) (hS0 : va_S A H0 H locs) (q0 : Nat) {fs : List Value} (he : ws[q0]? = some (a, .inr (ci, fs))) (hc : cl[ci]? = some (C, T, N)) (k : Nat) (hk : k < N) (hlink : (Cond.fieldLink own index (T k).1 (T k).2.1 (T k).2.2.1).before args s = true) (hfin : (T k).2.2.2 = false ∨ ((T k).2.2.2 = true ∧ meth.name = "<init>" ∧ (T k).1 = own)) {v : Value} (hn : narrow (ty0 k) v = v) (hfit : fits (ty0 k) v = true) (hl : k < fs.length)
    (hdg : decode cc pc = .ok (.putfield index, 3)) (kk : ∀ (H1 : Heap) (locs1 : List Loc), H1.size = H.size → va_P D cl (ws.set q0 (a, .inr (ci, fs.set k v))) H1 → va_S A H0 H1 locs1 → W p l e R s m args below meth c H1 locs1 cells slots Q (F0 m (pc + 3) ls rest)) : W p l e R s m args below meth c H locs cells slots Q (F0 m pc ls (v :: .ref a :: rest)) := by
  have hap := va_apart (own := own) hts hin ty0 hty hnm hK hc
  obtain ⟨r, h1, cell, q1, q2, q3, q4⟩ := hP q0 _ he
  have hr : r = (C, T, N) := Option.some.inj (h1.symm.trans hc)
  subst hr
  obtain ⟨hS, hfc, kC, hkC, hkind⟩ := hK.1 ci _ hc
  obtain ⟨cf, kf, fi, f, hi, hsl⟩ := hS k hk
  have hlay := hts _ (hin _ (u_in_lay hk))
  have hst := (u_facts hfc hkC (u_lays hts hin hk) hi).1
  unfold u_lay at hlay
  rcases hfin with hfin | ⟨hfin, hin2, hdecl⟩
  · rw [if_neg (by rw [hfin]; decide)] at hlay
    have h6 := u_store hfc hkC hkind hlay hi (hty k hk) hn hfit
    refine W.putK hexec hb (f := f) ⟨hown, hlink, ⟨_, _, _, hi⟩, hst⟩ (by rw [q2]; exact h6) q1 q3 (by rw [hsl]; exact k2_hasslot (q4 k hk)) rfl rfl hdg fun H' e1 e2 e3 => ?_
    rw [hsl] at e1 ⊢
    exact kk H' _ e2 (hP.set hD he ⟨_, hc, t_OB.to (V := updV (vp_V fs) k v) ⟨_, e1, q2, q3, t_set q4 hap hk v⟩ (fun j _ => vp_updV_set hl v j)⟩ e3) (hS0.put e2 e3 (hD.2 q0 _ he))
  · rw [if_pos hfin] at hlay
    have hcf : m.cls = cf := by
      obtain ⟨_, _, c', _, _, _, -, -, hf', -, -, -, hown2, -⟩ := Cond.laysFinal_spec hlay
      have e1 : c' = cf := by have := hi.symm.trans hf'; simp at this; exact this.1.symm
      rw [hdecl] at hown2
      rw [← e1]; exact Option.some.inj (hown.symm.trans hown2)
    have h6 := u_fits hfc hkC hkind (Or.inr hlay) hi (hty k hk) hn hfit
    refine W.putFinK hexec hb hown hlink hi hst hcf hin2 (by rw [q2]; exact h6) q1 q3 (by rw [hsl]; exact k2_hasslot (q4 k hk)) rfl rfl hdg fun H' e1 e2 e3 => ?_
    rw [hsl] at e1 ⊢
    exact kk H' _ e2 (hP.set hD he ⟨_, hc, t_OB.to (V := updV (vp_V fs) k v) ⟨_, e1, q2, q3, t_set q4 hap hk v⟩ (fun j _ => vp_updV_set hl v j)⟩ e3) (hS0.put e2 e3 (hD.2 q0 _ he))
theorem vz_iast (hexec : p.tables.exec = Jvm.exec) (hb : c.code = cc) (hK : va_K D cl tys s) (hP : va_P D cl ws H) (hD : va_D A ws) (hS : va_S A H0 H locs) (q0 t0 : Nat) {cA : ClassId} {n : Nat} {f : Nat → Int32} (ha : ws[q0]? = some (a, .inl (cA, n, .inl f))) (ht : tys[t0]? = some (cA, .int)) {i : Int32} {x : Int32} (hin : vp_in i n) (hdg : decode cc pc = .ok (.iastore, 1))
    (kk : ∀ (H1 : Heap) (locs1 : List Loc), H1.size = H.size → va_P D cl (ws.set q0 (a, .inl (cA, n, .inl (upd f i.toNatClampNeg x)))) H1 → va_S A H0 H1 locs1 → W p l e R s m args below meth c H1 locs1 cells slots Q (F0 m (pc + 1) ls rest)) : W p l e R s m args below meth c H locs cells slots Q (F0 m pc ls (.int x :: .int i :: .ref a :: rest)) := by
  refine W.iast hexec hb (hP q0 _ ha) ((hK.2 t0 _ ht).1 n (fun j => .int (f j))) (fun q => by cases q) (by show ¬ (i < 0 ∨ (arrV _ _ _).slots.size ≤ _); rw [arrV_size]; exact hin) rfl rfl hdg fun H1 e z oq => ?_
  refine kk H1 _ z (hP.set hD ha ?_ oq) (hS.put z oq (hD.2 q0 _ ha))
  show H1[a]? = some (vp_cell _ _)
  rw [e]
  rw [vp_cell_i, vp_cell_i, arrV_store]
  congr 2
  funext q
  by_cases hq : q = i.toNatClampNeg
  · subst hq
    simp [updV, upd]
  · simp [updV, upd, hq]
theorem vz_astq (hexec : p.tables.exec = Jvm.exec) (hb : c.code = cc) (hK : va_K D cl tys s) (hP : va_P D cl ws H) (hD : va_D A ws) (hS : va_S A H0 H locs) (q0 t0 qk ci : Nat) {cA : ClassId} {r : vw_C} {n v : Nat} {vs : List Value} {f : Nat → Option Nat} (ha : ws[q0]? = some (a, .inl (cA, n, .inr (.inr (.inr (.inr f)))))) (ht : tys[t0]? = some (cA, .object r.1)) (hv : ws[qk]? = some (v, .inr (ci, vs))) (hc : cl[ci]? = some r) {i : Int32} (hin : vp_in i n) (hdg : decode cc pc = .ok (.aastore, 1))
    (kk : ∀ (H1 : Heap) (locs1 : List Loc), H1.size = H.size → va_P D cl (ws.set q0 (a, .inl (cA, n, .inr (.inr (.inr (.inr (va_up f i.toNatClampNeg (some v)))))))) H1 → va_S A H0 H1 locs1 → W p l e R s m args below meth c H1 locs1 cells slots Q (F0 m (pc + 1) ls rest)) : W p l e R s m args below meth c H locs cells slots Q (F0 m pc ls (.ref v :: .int i :: .ref a :: rest)) := by
  have hlt : i.toNatClampNeg < n := Nat.not_le.mp fun q => hin (Or.inr q)
  have h0 : ¬ i < 0 := fun q => hin (Or.inl q)
  obtain ⟨r', hr', cellV, g1, g2, g3, -⟩ := hP qk _ hv
  have hcls := (hK.1 ci r hc).2
  obtain ⟨kA, comp, k1, k2, k3, -⟩ := (hK.2 t0 _ ht).2
  have hcomp : comp = D.1 ci := Option.some.inj (k3.symm.trans hcls.1)
  subst hcomp
  obtain ⟨kC, hkC, -⟩ := hcls.2
  refine W.aast hexec hb (hP q0 _ ha) (fun q h => by cases h) (fun h => by cases h) k1 k2 rfl hkC ⟨h0, by show _ < (arrV _ _ _).slots.size; rw [arrV_size]; exact hlt⟩ g1 (fun q h => by rw [g3] at h; cases h) (by rw [g2]; exact hkC) (by rw [g2]; exact va_assign hcls) rfl rfl hdg fun H1 e z oq => ?_
  refine kk H1 _ z (hP.set hD ha ?_ oq) (hS.put z oq (hD.2 q0 _ ha))
  show H1[a]? = some (vp_cell _ _)
  rw [e]
  rw [vp_cell_q, vp_cell_q, arrV_store]
  congr 2
  funext q
  by_cases hq : q = i.toNatClampNeg
  · subst hq
    simp [updV, va_up, va_rf]
  · simp [updV, va_up, hq]
end PUT2
/-- a class by its number: its name, fields, how many; the words of its fields -/
def rCls (ci : Nat) (C : String) (T : u_T) (N : Nat) : Prop := vwCl[ci]? = some (C, T, N) ∧ (∀ w ∈ u_ws C T N, w ∈ rtbl) ∧ (∀ k, k < N → parseFieldDescriptor (T k).2.2.1 = some (rtab ci k)) ∧ (∀ a, a < N → ∀ b, b < N → a ≠ b → (T a).2.1 ≠ (T b).2.1)
theorem rtbl_sub {ws : List Cond} (h : ∀ w ∈ ws, w ∈ lw_tbl) (hg : ws.all goodWord = true) : ∀ w ∈ ws, w ∈ rtbl := fun w hw => List.mem_filter.mpr ⟨h w hw, List.all_eq_true.mp hg w hw⟩
theorem rtbl_at (i : Nat) {w : Cond} (h : lw_tbl[i]? = some w) (hg : goodWord w = true) : w ∈ rtbl := List.mem_filter.mpr ⟨List.mem_of_getElem? h, hg⟩
theorem rCls_N {ci : Nat} {C : String} {T : u_T} {N : Nat} (h : rCls ci C T N) : rN ci = N := by simp [rN, h.1]
theorem rc0 : rCls 0 RX0 TX0 5 := ⟨rfl, rtbl_sub inX0 (by decide +kernel), tyX0_ok, nmX0⟩
theorem rc1 : rCls 1 RX1 TX1 4 := ⟨rfl, rtbl_sub inX1 (by decide +kernel), tyX1_ok, nmX1⟩
theorem rc2 : rCls 2 RX2 TX2 3 := ⟨rfl, rtbl_sub inX2 (by decide +kernel), tyX2_ok, nmX2⟩
theorem rc3 : rCls 3 RX3 TX3 4 := ⟨rfl, rtbl_sub inX3 (by decide +kernel), tyX3_ok, nmX3⟩
theorem rc4 : rCls 4 RX4 TX4 2 := ⟨rfl, rtbl_sub inX4 (by decide +kernel), tyX4_ok, nmX4⟩
theorem rc5 : rCls 5 RX5 TX5 20 := ⟨rfl, rtbl_sub inX5 (by decide +kernel), tyX5_ok, nmX5⟩
theorem rc6 : rCls 6 RX6 TX6 2 := ⟨rfl, rtbl_sub inX6 (by decide +kernel), tyX6_ok, nmX6⟩
theorem rc7 : rCls 7 RX7 TX7 17 := ⟨rfl, rtbl_sub inX7 (by decide +kernel), tyX7_ok, nmX7⟩
theorem rc8 : rCls 8 RX8 TX8 44 := ⟨rfl, rtbl_sub inX8 (by decide +kernel), tyX8_ok, nmX8⟩
theorem rE_obj {G : rG} {S : Nat → Nat → Option Nat} {v : rV} {k ci : Nat} : rE G S v k (.inr ci) = .inr (ci, rFs G S v k ci) := rfl
theorem rcv_rf (G : rG) (r : Option Nat) : rcv G (va_rf r) = va_rf (r.map (rad G)) := by cases r <;> rfl
section HEAPROWS
variable {M : rM} {d bc bs pc : Nat} {lv lv' : List (Nat × Value)} {st : List Value} {S : rS} {v v' : rV} {Post : Option Value → rS → rV → Prop}
theorem e_get {k ci j idx N : Nat} {C : String} {T : u_T} (hd : decode M.2.1 pc = .ok (.getfield idx, 3)) (hk : S.1[k]? = some (.inr ci)) (hc : rCls ci C T N) (hj : j < N) (hw : Cond.fieldLink M.1.cls idx (T j).1 (T j).2.1 (T j).2.2.1 ∈ rtbl) {w : Value} (he : rVal (rtab ci j) S.2.1 v k j = w)
    (kk : Ev M d bc bs (pc + 3) lv (w :: st) S v Post) : Ev M d bc bs pc lv (.ref k :: st) S v Post := fun G p l e R s m args below meth c Q C H locs cells slots ls hK hH hS hl hcc hs =>
  va_get C.1.1 C.1.2.1 C.1.2.2.2.2 hc.2.1 C.1.2.2.2.1 hK.1 hH.1 k (rW_at hk) hc.1 j hj (C.1.2.2.2.2 _ hw) (fun _ h => h) (rFs_at (by rw [rCls_N hc]; exact hj)) hd (he ▸ kk G p l e R s m args below meth c Q C H locs cells slots ls hK hH hS hl hcc hs)
theorem e_put {k ci j idx N : Nat} {C : String} {T : u_T} {w : Value} (hd : decode M.2.1 pc = .ok (.putfield idx, 3)) (hk : S.1[k]? = some (.inr ci)) (hc : rCls ci C T N) (hj : j < N) (hw : Cond.fieldLink M.1.cls idx (T j).1 (T j).2.1 (T j).2.2.1 ∈ rtbl) (hfin : (T j).2.2.2 = false ∨ ((T j).2.2.2 = true ∧ M.1.name = "<init>" ∧ (T j).1 = M.1.cls)) (hn : ∀ G, narrow (rtab ci j) (rcv G w) = rcv G w) (hfit : ∀ G, fits (rtab ci j) (rcv G w) = true)
    (hset : ∀ G, (rFs G S.2.1 v k ci).set j (rcv G w) = rFs G S.2.1 v' k ci) (hne : ∀ (G : rG) (i : Nat) (kd : rKd), i ≠ k → rE G S.2.1 v' i kd = rE G S.2.1 v i kd)
    (kk : Ev M d bc bs (pc + 3) lv st S v' Post) : Ev M d bc bs pc lv (w :: .ref k :: st) S v Post := fun G p l e R s m args below meth c Q C H locs cells slots ls hK hH hS hl hcc hs =>
  vz_put C.1.1 C.1.2.1 C.1.2.2.2.2 hc.2.1 (rtab ci) hc.2.2.1 hc.2.2.2 C.1.2.2.2.1 hK.1 hH.1 (rH_D hH) hS k (rW_at hk) hc.1 j hj (C.1.2.2.2.2 _ hw) (hfin.imp id fun h => ⟨h.1, C.2.1.1.trans h.2.1, h.2.2⟩) (hn G) (hfit G) (by rw [rFs_len, rCls_N hc]; exact hj) hd (fun H1 locs1 z hP1 hS1 => kk G p l e R s m args below meth c Q C H1 locs1 cells slots ls hK ⟨by rw [← rW_set hk (hne G), rE_obj, ← hset G]; exact hP1, hH.2.1, fun f => z.trans (hH.2.2 f)⟩ hS1 hl hcc hs)
theorem e_putI {k ci j idx N : Nat} {C : String} {T : u_T} {x : Int32} (hd : decode M.2.1 pc = .ok (.putfield idx, 3)) (hk : S.1[k]? = some (.inr ci)) (hc : rCls ci C T N) (hj : j < N) (hw : Cond.fieldLink M.1.cls idx (T j).1 (T j).2.1 (T j).2.2.1 ∈ rtbl) (hfin : (T j).2.2.2 = false) (hty : rtab ci j = .int)
    (kk : Ev M d bc bs (pc + 3) lv st S (rI v k j x) Post) : Ev M d bc bs pc lv (.int x :: .ref k :: st) S v Post :=
  e_put hd hk hc hj hw (Or.inl hfin) (fun G => by rw [hty]; rfl) (fun G => by rw [hty]; rfl) (fun G => rFs_set (fun ty b hb => rVal_I (fun h => hb h.2)) (by rw [hty]; simp [rVal, rI, rcv])) (fun G i kd h => rI_ne i kd h) kk
theorem e_putZ {k ci j idx N : Nat} {C : String} {T : u_T} {x : Int32} (hd : decode M.2.1 pc = .ok (.putfield idx, 3)) (hk : S.1[k]? = some (.inr ci)) (hc : rCls ci C T N) (hj : j < N) (hw : Cond.fieldLink M.1.cls idx (T j).1 (T j).2.1 (T j).2.2.1 ∈ rtbl) (hfin : (T j).2.2.2 = false) (hty : rtab ci j = .boolean) (hx : x = 0 ∨ x = 1)
    (kk : Ev M d bc bs (pc + 3) lv st S (rI v k j x) Post) : Ev M d bc bs pc lv (.int x :: .ref k :: st) S v Post :=
  e_put hd hk hc hj hw (Or.inl hfin) (fun G => by rw [hty]; rcases hx with rfl | rfl <;> rfl) (fun G => by rw [hty]; rcases hx with rfl | rfl <;> rfl) (fun G => rFs_set (fun ty b hb => rVal_I (fun h => hb h.2)) (by rw [hty]; simp [rVal, rI, rcv])) (fun G i kd h => rI_ne i kd h) kk
theorem e_putL {k ci j idx N : Nat} {C : String} {T : u_T} {x : Int64} (hd : decode M.2.1 pc = .ok (.putfield idx, 3)) (hk : S.1[k]? = some (.inr ci)) (hc : rCls ci C T N) (hj : j < N) (hw : Cond.fieldLink M.1.cls idx (T j).1 (T j).2.1 (T j).2.2.1 ∈ rtbl) (hfin : (T j).2.2.2 = false) (hty : rtab ci j = .long)
    (kk : Ev M d bc bs (pc + 3) lv st S (rL v k j x) Post) : Ev M d bc bs pc lv (.long x :: .ref k :: st) S v Post :=
  e_put hd hk hc hj hw (Or.inl hfin) (fun G => by rw [hty]; rfl) (fun G => by rw [hty]; rfl) (fun G => rFs_set (fun ty b hb => rVal_L (fun h => hb h.2)) (by rw [hty]; simp [rVal, rL, rcv])) (fun G i kd h => rL_ne i kd h) kk
theorem e_putR {k ci j idx N : Nat} {C : String} {T : u_T} {x : Nat} (hd : decode M.2.1 pc = .ok (.putfield idx, 3)) (hk : S.1[k]? = some (.inr ci)) (hc : rCls ci C T N) (hj : j < N) (hw : Cond.fieldLink M.1.cls idx (T j).1 (T j).2.1 (T j).2.2.1 ∈ rtbl) (hfin : (T j).2.2.2 = false ∨ ((T j).2.2.2 = true ∧ M.1.name = "<init>" ∧ (T j).1 = M.1.cls)) (hty : (∃ n, rtab ci j = .object n) ∨ ∃ t, rtab ci j = .array t) (hst : S.2.1 k j = none)
    (kk : Ev M d bc bs (pc + 3) lv st S (rR v k j (some x)) Post) : Ev M d bc bs pc lv (.ref x :: .ref k :: st) S v Post :=
  e_put hd hk hc hj hw hfin (fun G => by rcases hty with ⟨n, h⟩ | ⟨n, h⟩ <;> rw [h] <;> rfl) (fun G => by rcases hty with ⟨n, h⟩ | ⟨n, h⟩ <;> rw [h] <;> rfl) (fun G => rFs_set (fun ty b hb => rVal_R (fun h => hb h.2)) (by rcases hty with ⟨n, h⟩ | ⟨n, h⟩ <;> rw [h] <;> simp [rVal, rRef, hst, rR, rcv, va_rf])) (fun G i kd h => rR_ne i kd h) kk
theorem e_iald {k n : Nat} {i : Int32} (hd : decode M.2.1 pc = .ok (.iaload, 1)) (hk : S.1[k]? = some (.inl (n, .int))) (hin : vp_in i n)
    (kk : Ev M d bc bs (pc + 1) lv (.int (v.1 k i.toNatClampNeg) :: st) S v Post) : Ev M d bc bs pc lv (.int i :: .ref k :: st) S v Post := fun G p l e R s m args below meth c Q C H locs cells slots ls hK hH hS hl hcc hs =>
  va_iald C.1.1 C.1.2.1 (rK_tys hK hk) hH.1 k 0 (rW_at hk) rfl hin hd (kk G p l e R s m args below meth c Q C H locs cells slots ls hK hH hS hl hcc hs)
theorem e_lald {k n : Nat} {i : Int32} (hd : decode M.2.1 pc = .ok (.laload, 1)) (hk : S.1[k]? = some (.inl (n, .long))) (hin : vp_in i n)
    (kk : Ev M d bc bs (pc + 1) lv (.long (v.2.1 k i.toNatClampNeg) :: st) S v Post) : Ev M d bc bs pc lv (.int i :: .ref k :: st) S v Post := fun G p l e R s m args below meth c Q C H locs cells slots ls hK hH hS hl hcc hs =>
  va_lald C.1.1 C.1.2.1 (rK_tys hK hk) hH.1 k 0 (rW_at hk) rfl hin hd (kk G p l e R s m args below meth c Q C H locs cells slots ls hK hH hS hl hcc hs)
theorem e_iast {k n : Nat} {i x : Int32} (hd : decode M.2.1 pc = .ok (.iastore, 1)) (hk : S.1[k]? = some (.inl (n, .int))) (hin : vp_in i n)
    (kk : Ev M d bc bs (pc + 1) lv st S (rI v k i.toNatClampNeg x) Post) : Ev M d bc bs pc lv (.int x :: .int i :: .ref k :: st) S v Post := fun G p l e R s m args below meth c Q C H locs cells slots ls hK hH hS hl hcc hs =>
  vz_iast C.1.1 C.1.2.1 (rK_tys hK hk) hH.1 (rH_D hH) hS k 0 (rW_at hk) rfl hin hd (fun H1 locs1 z hP1 hS1 => kk G p l e R s m args below meth c Q C H1 locs1 cells slots ls hK ⟨by
    rw [← rW_set hk (fun i kd h => rI_ne i kd h)]
    have e1 : (rI v k i.toNatClampNeg x).1 k = upd (v.1 k) i.toNatClampNeg x := by funext b; simp [rI, upd]
    show va_P _ _ ((rW G S v).set k (rad G k, .inl (G.2.2.1 .int, n, .inl ((rI v k i.toNatClampNeg x).1 k)))) H1
    rw [e1]
    exact hP1, hH.2.1, fun f => z.trans (hH.2.2 f)⟩ hS1 hl hcc hs)
theorem rE_ref {G : rG} {S : Nat → Nat → Option Nat} {v : rV} {k n : Nat} {ty : FieldType} (hty : ty.isReference = true) : rE G S v k (.inl (n, ty)) = .inl (G.2.2.1 ty, n, .inr (.inr (.inr (.inr fun j => (rRef S v k j).map (rad G))))) := by
  cases ty <;> first | rfl | (simp [FieldType.isReference] at hty)
theorem e_aald {k n : Nat} {ty : FieldType} {i : Int32} {w : Value} (hd : decode M.2.1 pc = .ok (.aaload, 1)) (hk : S.1[k]? = some (.inl (n, ty))) (hty : ty.isReference = true) (hin : vp_in i n) (he : va_rf (rRef S.2.1 v k i.toNatClampNeg) = w)
    (kk : Ev M d bc bs (pc + 1) lv (w :: st) S v Post) : Ev M d bc bs pc lv (.int i :: .ref k :: st) S v Post := fun G p l e R s m args below meth c Q C H locs cells slots ls hK hH hS hl hcc hs => by
  have hlt : i.toNatClampNeg < n := Nat.not_le.mp fun q => hin (Or.inr q)
  have hat := rW_at (G := G) (v := v) hk
  rw [rE_ref hty] at hat
  have h0 := kk G p l e R s m args below meth c Q C H locs cells slots ls hK hH hS hl hcc hs
  rw [← he] at h0
  refine W.aald (v := va_rf ((rRef S.2.1 v k i.toNatClampNeg).map (rad G))) (ty := ty) C.1.1 C.1.2.1 (hH.1 k _ hat) ((hK.2 k n ty hk).1 n (fun j => va_rf ((rRef S.2.1 v k j).map (rad G)))) hty (fun q => by cases q) (by show ¬ (i < 0 ∨ (arrV _ _ _).slots.size ≤ _); rw [arrV_size]; exact hin) (by show (arrV _ _ _).slots[_]? = _; rw [arrV_read _ _ hlt]) rfl rfl hd ?_
  rw [← rcv_rf]
  exact h0
theorem e_aast {k n x ci N : Nat} {C0 : String} {T : u_T} {i : Int32} (hd : decode M.2.1 pc = .ok (.aastore, 1)) (hk : S.1[k]? = some (.inl (n, .object C0))) (hx : S.1[x]? = some (.inr ci)) (hc : rCls ci C0 T N) (hin : vp_in i n) (hst : S.2.1 k i.toNatClampNeg = none)
    (kk : Ev M d bc bs (pc + 1) lv st S (rR v k i.toNatClampNeg (some x)) Post) : Ev M d bc bs pc lv (.ref x :: .int i :: .ref k :: st) S v Post := fun G p l e R s m args below meth c Q C H locs cells slots ls hK hH hS hl hcc hs =>
  vz_astq (r := (C0, T, N)) C.1.1 C.1.2.1 (rK_tys hK hk) hH.1 (rH_D hH) hS k 0 x ci (rW_at hk) rfl (rW_at hx) hc.1 hin hd (fun H1 locs1 z hP1 hS1 => kk G p l e R s m args below meth c Q C H1 locs1 cells slots ls hK ⟨by
    rw [← rW_set hk (fun i kd h => rR_ne i kd h)]
    have e1 : (fun j => (rRef S.2.1 (rR v k i.toNatClampNeg (some x)) k j).map (rad G)) = va_up (fun j => (rRef S.2.1 v k j).map (rad G)) i.toNatClampNeg (some (rad G x)) := by
      funext b
      by_cases hb : b = i.toNatClampNeg
      · subst hb
        simp [rRef, rR, va_up, hst]
      · simp [rRef, rR, va_up, hb]
    show va_P _ _ ((rW G S v).set k (rad G k, .inl (G.2.2.1 (.object C0), n, .inr (.inr (.inr (.inr (fun j => (rRef S.2.1 (rR v k i.toNatClampNeg (some x)) k j).map (rad G)))))))) H1
    rw [e1]
    exact hP1, hH.2.1, fun f => z.trans (hH.2.2 f)⟩ hS1 hl hcc hs)
theorem e_alen {k n : Nat} {ty : FieldType} (hd : decode M.2.1 pc = .ok (.arraylength, 1)) (hk : S.1[k]? = some (.inl (n, ty))) (hty : ty = .int ∨ ty = .long ∨ ty.isReference = true)
    (kk : Ev M d bc bs (pc + 1) lv (.int (Int32.ofNat n) :: st) S v Post) : Ev M d bc bs pc lv (.ref k :: st) S v Post := fun G p l e R s m args below meth c Q C H locs cells slots ls hK hH hS hl hcc hs => by
  have h0 := kk G p l e R s m args below meth c Q C H locs cells slots ls hK hH hS hl hcc hs
  have hat := rW_at (G := G) (v := v) hk
  rcases hty with rfl | rfl | hty
  · exact va_alen C.1.1 C.1.2.1 (rK_tys hK hk) hH.1 k 0 hat rfl rfl hd h0
  · exact va_alen C.1.1 C.1.2.1 (rK_tys hK hk) hH.1 k 0 hat rfl rfl hd h0
  · rw [rE_ref hty] at hat
    exact va_alen C.1.1 C.1.2.1 (rK_tys hK hk) hH.1 k 0 hat rfl rfl hd h0
theorem rX_sc {G : rG} {s : State} {H : Heap} {locs : List Loc} (h : rX G S s s.heap) (hB : G.1 ≤ s.heap.size) : rad G 1000000 < s.heap.size ∧ ¬ rA G (rad G 1000000) := ⟨Nat.lt_of_lt_of_le h.2.1 hB, fun q => Nat.not_le.mpr h.2.1 q⟩
theorem e_sld {i : Int32} (hd : decode M.2.1 pc = .ok (.iaload, 1)) (hin : vp_in i S.2.2.2.1)
    (kk : Ev M d bc bs (pc + 1) lv (.int (S.2.2.2.2 i.toNatClampNeg) :: st) S v Post) : Ev M d bc bs pc lv (.int i :: .ref 1000000 :: st) S v Post := fun G p l e R s m args below meth c Q C H locs cells slots ls hK hH hS hl hcc hs =>
  va_sld C.1.1 C.1.2.1 C.2.2.1.2.1.1 (rX_sc (H := H) (locs := locs) C.2.2.1.2.1 C.2.2.1.1).1 (rX_sc (H := H) (locs := locs) C.2.2.1.2.1 C.2.2.1.1).2 hS hin hd (kk G p l e R s m args below meth c Q C H locs cells slots ls hK hH hS hl hcc hs)
theorem e_slen (hd : decode M.2.1 pc = .ok (.arraylength, 1))
    (kk : Ev M d bc bs (pc + 1) lv (.int (Int32.ofNat S.2.2.2.1) :: st) S v Post) : Ev M d bc bs pc lv (.ref 1000000 :: st) S v Post := fun G p l e R s m args below meth c Q C H locs cells slots ls hK hH hS hl hcc hs =>
  va_slen C.1.1 C.1.2.1 C.2.2.1.2.1.1 (rX_sc (H := H) (locs := locs) C.2.2.1.2.1 C.2.2.1.1).1 (rX_sc (H := H) (locs := locs) C.2.2.1.2.1 C.2.2.1.1).2 hS hd (kk G p l e R s m args below meth c Q C H locs cells slots ls hK hH hS hl hcc hs)
end HEAPROWS
