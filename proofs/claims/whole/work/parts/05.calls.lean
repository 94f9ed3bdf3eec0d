/-! CALLS AND CONTRACTS over the numbered cells -/
section CPT
variable {p : Program} {l : Launch} {e : Env} {R : Room} {s : State} {m : MethodId} {args : Array Value} {below : List Frame} {meth : Method} {c : Code} {H : Heap} {locs : List Loc} {cells slots : Nat} {Q : State → Prop}
variable {cc : ByteArray} {pc : Nat} {ls : Array Slot} {rest : List Value} {D : va_G} {cl : List vw_C} {A : Nat → Prop} {a : Nat} {tys : List (ClassId × FieldType)} {ws : va_W}
theorem vz_copyt (hexec : p.tables.exec = Jvm.exec) (hb : c.code = cc) (hml : c.maxLocals = ls.size) {own : String} {index : Nat} (hown : s.vm.findClass own = some m.cls) (hlink : (Cond.methodLink own index arraycopyName).before args s = true) (hnat : (Cond.native arraycopyName).before args s = true) (hstat : (Cond.static arraycopyName).before args s = true) (hini : (Cond.initialized "java/lang/System").before args s = true)
    (hK : va_K D cl tys s) (hP : va_P D cl ws H) (hD : va_D A ws) (hS : va_S A s.heap H locs) {b0 n0 : Nat} {f : Nat → Int32} (hX : va_T .int b0 n0 (fun j => .int (f j)) A s s.heap) (q1 t1 : Nat) {c1 : ClassId} {n1 : Nat} {g : Nat → Int32} (ha1 : ws[q1]? = some (a, .inl (c1, n1, .inl g))) (ht1 : tys[t1]? = some (c1, .int))
    {sp dp n : Int32} (h1 : ¬ sp < 0) (h2 : ¬ dp < 0) (h3 : ¬ n < 0) (h4 : sp.toNatClampNeg + n.toNatClampNeg ≤ n0) (h5 : dp.toNatClampNeg + n.toNatClampNeg ≤ n1) (hfit : ∀ i : Nat, i < n.toNatClampNeg → fits .int (.int (f (sp.toNatClampNeg + i))) = true)
    (hframes : 1 ≤ R.frames) (hlocals : (rest.map fun v => v.category).sum + (nativeFrameWords "java/lang/System" "arraycopy" 5 + 11) ≤ R.locals) (hdg : decode cc pc = .ok (.invokestatic index, 3))
    (kk : ∀ (H1 : Heap) (locs1 : List Loc), va_P D cl (ws.set q1 (a, .inl (c1, n1, .inl (va_cpy f g sp.toNatClampNeg dp.toNatClampNeg n.toNatClampNeg)))) H1 → va_D A (ws.set q1 (a, .inl (c1, n1, .inl (va_cpy f g sp.toNatClampNeg dp.toNatClampNeg n.toNatClampNeg)))) → va_S A s.heap H1 locs1 → W p l e R s m args below meth c H1 locs1 cells slots Q (F0 m (pc + 3) ls rest)) : W p l e R s m args below meth c H locs cells slots Q (F0 m pc ls (.int n :: .int dp :: .ref a :: .int sp :: .ref b0 :: rest)) := by
  have nn : ∀ z : Int32, ¬ z < 0 → z.toInt = (z.toNatClampNeg : Int) := by
    intro z hz
    have hz0 : (0 : Int) ≤ z.toInt := by
      have := Int32.not_lt.mp hz
      simpa using Int32.le_iff_toInt_le.mp this
    show z.toInt = ((z.toInt.toNat : Nat) : Int)
    omega
  intro T hT X
  obtain ⟨scr, hs1, hs2, hs3, hs4, -, hs5, hs7⟩ := hX
  have hc0 : H[b0]? = some scr := by rw [hS.2.1 b0 (Array.getElem?_eq_some_iff.mp hs1).1 hs7]; exact hs1
  have hc1 : H[a]? = some (vp_cell c1 (n1, .inl g)) := hP q1 _ ha1
  obtain ⟨hs6, k0, hk0, cm0, hkk0⟩ := hs2
  obtain ⟨-, k1, hk1, cm1, hkk1⟩ := (hK.2 t1 _ ht1).1 n1 (fun j => .int (g j))
  obtain ⟨vm', X', step⟩ := X.arraycopy hexec hown hlink hnat hstat hini (src := b0) (dst := a) (cs := scr) (cd := vp_cell c1 (n1, .inl g)) (srcPos := sp) (destPos := dp) (n := n) (by rw [hT]; exact hc0) (by rw [hT]; exact hc1)
    hs6 (fun _ h => by cases h) hs3 (fun h => by cases h) hk0 hk1 hkk0 hkk1 (by simp [refKind]) h1 h2 h3
    (by rw [nn sp h1, nn n h3]; omega)
    (by rw [nn dp h2, nn n h3]; show ¬ _ > ((arrV c1 n1 (fun j => .int (g j))).slots.size : Int); rw [arrV_size]; omega)
    (fun vm₁ _ i hi => by
      have e : scr.slots.getD (sp.toNatClampNeg + i) .null = .int (f (sp.toNatClampNeg + i)) := by
        rw [Array.getD_eq_getD_getElem?, hs5 _ (by omega)]
        rfl
      refine ⟨?_, ?_⟩
      · rw [e]
        exact hfit i hi
      · rw [e]
        exact trivial)
    (g := F0 m pc ls (.int n :: .int dp :: .ref a :: .int sp :: .ref b0 :: rest)) rfl (by rw [hml]) (rest := rest) rfl (by rw [hb]; exact hdg) hframes (by show 2 * 0 + _ + _ ≤ _; omega)
  have e1 : copied scr (vp_cell c1 (n1, .inl g)) sp dp n = vp_cell c1 (n1, .inl (va_cpy f g sp.toNatClampNeg dp.toNatClampNeg n.toNatClampNeg)) := va_copiedX (fun z => .int z) scr c1 f g hs5 h4
  rw [e1] at X' step
  have hl : a < H.size := (Array.getElem?_eq_some_iff.mp hc1).1
  have hheap : ((T.setVm vm').setCell a (vp_cell c1 (n1, .inl (va_cpy f g sp.toNatClampNeg dp.toNatClampNeg n.toNatClampNeg)))).heap = H.setIfInBounds a (vp_cell c1 (n1, .inl (va_cpy f g sp.toNatClampNeg dp.toNatClampNeg n.toNatClampNeg))) := by rw [← hT]; rfl
  have oq : ∀ q : Nat, q ≠ a → (H.setIfInBounds a (vp_cell c1 (n1, .inl (va_cpy f g sp.toNatClampNeg dp.toNatClampNeg n.toNatClampNeg))))[q]? = H[q]? := fun q hq => by simp [Array.getElem?_setIfInBounds, Ne.symm hq]
  obtain ⟨t, a1, b1⟩ := kk _ _ (hP.set hD ha1 (show (H.setIfInBounds a _)[a]? = some _ by simp [Array.getElem?_setIfInBounds, hl]) oq) (hD.set ha1) ⟨by simp; exact hS.1, fun q g1 g2 => by
      rw [oq q (fun e => g2 (by rw [e]; exact hD.2 q1 _ ha1))]
      exact hS.2.1 q g1 g2, fun q hq => by
      rcases List.mem_append.mp hq with h | h
      · exact hS.2.2 q h
      · obtain ⟨z, -, hz⟩ := List.mem_map.mp h
        rw [← hz]
        exact hD.2 q1 _ ha1⟩ _ hheap X'
  exact ⟨t, step t a1, b1⟩
end CPT
theorem vz_idx (vm : Vm) (comp : ClassId) : (vm.bare.classes.findIdx? fun (x : Class) => match x.kind with | .array component _ => component == comp | _ => false) = (vm.classes.findIdx? fun (x : Class) => match x.kind with | .array component _ => component == comp | _ => false) := by
  simp only [Vm.bare, Array.findIdx?_map]
  rfl
theorem vz_over {u U : State} (hvm : u.vm.Alike U.vm) (h : (Cond.arrayOver (.array .int)).before #[] u = true) : (Cond.arrayOver (.array .int)).before #[] U = true := by
  obtain ⟨comp, c, k, h1, h2, h3, h4, h5⟩ := arrayOverA_spec h
  obtain ⟨k', hk', he⟩ := hvm.2.2 _ _ h3
  have hi : (U.vm.classes.findIdx? fun (x : Class) => match x.kind with | .array component _ => component == comp | _ => false) = some c := by
    rw [← vz_idx]
    first | rw [hvm.bare_eq] | rw [← hvm.bare_eq]
    rw [vz_idx]
    exact h2
  have hkind : k'.kind = .array comp (.array .int) := by rw [he]; exact h4
  have f1 : U.vm.findClass (FieldType.array .int).toString = some comp := by rw [hvm.findClass]; exact h1
  have f2 : U.vm.findClass ("[" ++ (FieldType.array .int).toString) = some c := by rw [hvm.findClass]; exact h5
  unfold Cond.before Cond.holds
  simp only [Cond.value]
  rw [f1, Option.bind_some]
  refine (congrArg (fun o : Option Nat => (o.bind (fun c => (U.vm.classes[c]?).map fun (k : Class) => match k.kind with | .array _ ty => decide (ty = FieldType.array .int) && decide (U.vm.findClass ("[" ++ (FieldType.array .int).toString) = some c) | _ => false) == some true)) hi).trans ?_
  simp [hk', hkind, f2]
theorem rNx.moved {u U : State} (hW : u.WarmedH U.vm) (h : rNx u) : rNx U := by
  refine ⟨fun w hw hn => ?_, h.2.1.moved hW.alike, h.2.2.1.moved hW.alike, vz_over hW.alike h.2.2.2⟩
  have h1 := h.1 w hw hn
  cases w <;> first | (simp [rNst] at hn; done) | exact va_Nw.warmF hW h1 | exact va_Nw.warmM hW h1
theorem rX.moved {G : rG} {S : rS} {u U : State} {H : Heap} (hW : u.WarmedH U.vm) (h : rX G S u H) : rX G S U H := by
  obtain ⟨h1, h2, h3, ⟨h4, h5, h6, h7, h8⟩, h9, h10, h11, h12, h13⟩ := h
  exact ⟨h1.moved hW.alike, h2, h3.moved hW.alike, ⟨h4.warm hW, h5.warm hW, h6.warm hW, h7.warm hW, h8.warm hW⟩, fun i hi => (h9 i hi).moved hW.alike, h10.moved hW.alike, h11.moved hW.alike, h12.moved hW.alike, h13.moved hW.alike⟩
theorem rX.kept {G : rG} {S : rS} {U : State} {H H1 : Heap} (h : rX G S U H) (hq : ∀ a : Nat, a < H.size → ¬ rA G a → H1[a]? = H[a]?) : rX G S U H1 := by
  obtain ⟨h1, h2, h3, h4, h9, h10, h11, h12, h13⟩ := h
  refine ⟨h1.kept (hq _ ?_ fun q => Nat.not_le.mpr h2 q), h2, h3.kept hq, h4, fun i hi => (h9 i hi).kept hq, h10.kept hq, h11.kept hq, h12.kept hq, h13.kept hq⟩
  obtain ⟨scr, g1, -⟩ := h1
  exact (Array.getElem?_eq_some_iff.mp g1).1
theorem rTC.moved {G : rG} {u U : State} (hvm : u.vm.Alike U.vm) (h : rTC G u) : rTC G U := fun ty c hc => h ty c (by rw [hvm.findClass] at hc; exact hc)
theorem rK.moved {G : rG} {S : rS} {u U : State} (hvm : u.vm.Alike U.vm) (h : rK G S u) : rK G S U := ⟨va_K.moved hvm h.1, fun k n ty hk => ⟨arrOfT_moved hvm (h.2 k n ty hk).1, (h.2 k n ty hk).2.moved hvm⟩⟩
/-- a method's start, and its end -/
def rPc (G : rG) (av : List Value) (S : rS) (v : rV) : Array Value → State → Prop := va_Pc (av.map (rcv G)) (fun U => (G.1 ≤ U.heap.size ∧ rX G S U U.heap ∧ rTC G U) ∧ rNx U ∧ rK G S U ∧ rH G S v U.heap)
def rQc (G : rG) (Post : Option Value → rS → rV → Prop) : Array Value → State → Outcome → State → Prop := fun _ st o t => ∃ (r : Option Value) (S' : rS) (v' : rV), Post r S' v' ∧ o = .returned (r.map (rcv G)) ∧ rK G S' t ∧ rH G S' v' t.heap ∧ va_F (rA G) st t
def rws (M : rM) : List Cond := .code M.1 M.2.1 M.2.2.1 M.2.2.2 :: rtbl
def rrm (d mc ms : Nat) : Room := { frames := d, cells := mc, slots := ms, locals := 64 * d + 64 }
/-- THE CONTRACT of a method at these arguments and this heap, d calls deep at most -/
def EvM (M : rM) (d mc ms : Nat) (av : List Value) (S : rS) (v : rV) (Post : Option Value → rS → rV → Prop) : Prop :=
  ∀ (d' : Nat), d ≤ d' → ∀ (G : rG) (l : Launch), Met l M.1 (rws M) (rrm d' mc ms) (rPc G av S v) (rQc G Post) mc ms (rA G)
theorem rws_good {M : rM} (hM : Cond.code M.1 M.2.1 M.2.2.1 M.2.2.2 ∈ rtbl) : GoodIn rtbl (rws M) := fun w hw => by
  rcases List.mem_cons.mp hw with rfl | h
  · exact ⟨hM, good_of_word (List.mem_filter.mp hM).2⟩
  · exact ⟨h, good_of_word (List.mem_filter.mp h).2⟩
theorem rgood {w : Cond} (h : w ∈ rtbl) : w ∈ rtbl ∧ ((w.onTables && w.keeps) = true ∨ ∃ ty, w = .arrayClass ty) := ⟨h, good_of_word (List.mem_filter.mp h).2⟩
theorem rblind (G : rG) (av : List Value) (S : rS) (v : rV) : FrameBlind (rPc G av S v) := fun a U g mk q => by
  obtain ⟨h1, ⟨h2, h3, h4⟩, h5, h6, h7⟩ := q
  have hW : U.WarmedH (U.calling g mk a).vm := State.WarmedH.refl U
  exact ⟨h1, ⟨h2, h3.moved hW, h4.moved hW.alike⟩, h5.moved hW, h6.moved hW.alike, h7⟩
theorem largs_map (G : rG) (av : List Value) : ∀ i, lv_args i (av.map (rcv G)) = (lv_args i av).map fun q => (q.1, rcv G q.2) := by
  induction av with
  | nil => intro i; rfl
  | cons a t ih =>
    intro i
    simp only [List.map_cons, lv_args, rcv_cat, ih]
/-- FROM THE BODY TO THE CONTRACT -/
theorem evm_of {M : rM} {d mc ms : Nat} {av : List Value} {S : rS} {v : rV} {Post : Option Value → rS → rV → Prop} (hy : plainName M.1.cls = true) (hn : ∀ G, (lg_sl (av.map (rcv G))).length ≤ M.2.2.1) (h : Ev M d mc ms 0 (lv_args 0 av) [] S v Post) (hcl : M.1.cls ≠ "RingDropLaw" := by decide +kernel) : EvM M d mc ms av S v Post := by
  intro d' hd G l
  refine Met.ofW (cc := M.2.1) (maxL := M.2.2.1) (ret := M.2.2.2) hy rfl ?_
  intro p e s m args below meth c s₁ B hml hv
  obtain ⟨rfl, ⟨hB, hX, hT⟩, hN, hK, hH⟩ := hv
  have hts := atoms_spec (ws := rws M) B.pre
  have hlocks := B.notSynchronized
  rw [lg_entry_eq]
  have hl := lv_entry (av.map (rcv G)) (n := M.2.2.1) (hn G)
  rw [largs_map] at hl
  refine h G p l e _ s m _ below meth c _ ⟨⟨B.exec, B.bytes, hml, findClass_of_methodNamed B.named, fun w hw => hts w (List.mem_cons_of_mem _ hw)⟩, ⟨(name_of_methodNamed B.named B.method).1, hN⟩, ⟨hB, hX, hT⟩, ⟨hd, by show 64 * d + 64 ≤ 64 * d' + 64; omega⟩, ?_, fun q => absurd q hcl⟩ s.heap [] 0 0 _ hK hH va_S.rf hl (by show 0 + mc ≤ mc; omega) (by show 0 + ms ≤ ms; omega)
  intro S' v' r H locs cells slots pc i ls hp hK' hH' hS' hc hs hr hd
  refine W.widen hc hs ?_
  have hq : ∀ t : State, t.heap = H → s.WarmedH t.vm → rQc G Post (av.map (rcv G)).toArray s (.returned (r.map (rcv G))) t := fun t ht hW => ⟨r, S', v', hp, rfl, hK'.moved hW.alike, by rw [ht]; exact hH', hS'.F ht⟩
  match r, hr, hq with
  | none, hr, hq =>
    obtain ⟨h1, rfl⟩ := hr
    exact W.vret B.exec B.bytes (B.returns.trans h1) hq hS'.2.2 hd hlocks
  | some (.int x), hr, hq =>
    obtain ⟨rfl, ty, h1, h2⟩ := hr
    exact W.zret B.exec B.bytes (B.returns.trans h1) h2 hq hS'.2.2 hd hlocks
  | some (.long x), hr, hq =>
    obtain ⟨rfl, h1⟩ := hr
    exact W.lret B.exec B.bytes (B.returns.trans h1) hq hS'.2.2 hd hlocks
  | some (.ref x), hr, hq =>
    obtain ⟨rfl, C, h1⟩ := hr
    exact W.aret B.exec B.bytes (B.returns.trans h1) (Or.inl ⟨C, rfl⟩) (Or.inr ⟨_, rfl⟩) hq hS'.2.2 hd hlocks
  | some .null, hr, hq => exact hr.elim
  | some (.float x), hr, hq => exact hr.elim
  | some (.double x), hr, hq => exact hr.elim
section CALLROWS
variable {M M' : rM} {d bc bs pc mc ms : Nat} {lv lv' : List (Nat × Value)} {st : List Value} {S : rS} {v v' : rV} {Post PostM : Option Value → rS → rV → Prop}
theorem rcall {G : rG} {p : Program} {l : Launch} {e : Env} {R : Room} {s : State} {m : MethodId} {args : Array Value} {below : List Frame} {meth : Method} {c : Code} {Q : State → Prop} {H : Heap} {locs : List Loc} {cells slots : Nat} {ls : Array Slot} {st0 : List Value} {a : Array Value}
    (C : rC M (d + 1) S Post G p l e R s m args below meth c Q) (hS : va_S (rA G) s.heap H locs) (hl : lv_has ls M.2.2.1 (lv.map fun q => (q.1, rcv G q.2))) (hcc : cells + bc ≤ R.cells) (hs : slots + bs ≤ R.slots) (hmc : mc ≤ bc) (hms : ms ≤ bs)
    (hr : va_Run p l e R s m args below meth c H locs cells slots mc ms (F0 m pc ls st0) (st.map (rcv G)) (rQc G PostM a) (rA G))
    (kk : ∀ (r : Option Value) (S' : rS) (v' : rV), PostM r S' v' → (S'.2.2.2 = S.2.2.2 ∧ Ev M (d + 1) (bc - mc) (bs - ms) (pc + 3) lv (r.toList ++ st) S' v' Post)) : W p l e R s m args below meth c H locs cells slots Q (F0 m pc ls st0) := by
  intro T hT X
  obtain ⟨w, st₀, t, T', L, h0, X', hL, e1, e2, ⟨r, S', v', hp, hw, hK', hH', hz, hk⟩, go⟩ := hr T hT X
  cases hw
  rw [h0] at hz hk
  obtain ⟨hSc, kE⟩ := kk r S' v' hp
  have hvm : s.vm.Alike t.vm := by rw [← e2]; exact X'.warmed.alike
  have hK2 : rK G S' s := hK'.moved hvm.symm
  have hS2 : va_S (rA G) s.heap T'.heap (locs ++ L) := ⟨Nat.le_trans hS.1 (by rw [e1]; exact hz), fun q h1 h2 => by rw [e1, hk q (Nat.lt_of_lt_of_le h1 hS.1) h2]; exact hS.2.1 q h1 h2, fun q hq => by
    rcases List.mem_append.mp hq with h | h
    · exact hS.2.2 q h
    · exact hL q h⟩
  have hst : (r.toList ++ st).map (rcv G) = (r.map (rcv G)).toList ++ st.map (rcv G) := by cases r <;> rfl
  have C2 : rC M (d + 1) S' Post G p l e R s m args below meth c Q := by
    obtain ⟨a1, a2, ⟨b1, b2, b3⟩, a4, a5⟩ := C
    exact ⟨a1, a2, ⟨b1, by unfold rX at b2 ⊢; rw [hSc]; exact b2, b3⟩, a4, a5⟩
  obtain ⟨t2, a1, b1⟩ := kE G p l e R s m args below meth c Q C2 T'.heap (locs ++ L) (cells + mc) (slots + ms) ls hK2 (by rw [e1]; exact hH') hS2 hl (by omega) (by omega) T' rfl X'
  rw [hst] at a1
  exact ⟨t2, go t2 a1, b1⟩
theorem rpre {G : rG} {p : Program} {l : Launch} {e : Env} {R : Room} {s : State} {m : MethodId} {args : Array Value} {below : List Frame} {meth : Method} {c : Code} {Q : State → Prop} {H : Heap} {locs : List Loc} {av : List Value} {dd : Nat}
    (C : rC M dd S Post G p l e R s m args below meth c Q) (hK : rK G S s) (hH : rH G S v H) (hS : va_S (rA G) s.heap H locs) : ∀ U : State, U.heap = H → s.WarmedH U.vm → rPc G av S v (av.map (rcv G)).toArray U := fun U hU hW => by
  obtain ⟨-, ⟨-, hN⟩, ⟨hB, hX, hT⟩, -⟩ := C
  refine ⟨rfl, ⟨by rw [hU]; exact Nat.le_trans hB hS.1, ?_, hT.moved hW.alike⟩, hN.moved hW, hK.moved hW.alike, by rw [hU]; exact hH⟩
  rw [hU]
  exact (hX.moved hW).kept hS.2.1
theorem rst_eq (G : rG) (av : List Value) (st : List Value) : (av.reverse ++ st).map (rcv G) = (av.map (rcv G)).reverse ++ st.map (rcv G) := by simp
/-- what a call needs of the tables -/
def rLk (M' : rM) (n : Nat) : Prop := Cond.code M'.1 M'.2.1 M'.2.2.1 M'.2.2.2 ∈ rtbl ∧ Cond.initialized M'.1.cls ∈ rtbl ∧ (M'.1.cls ≠ "java/lang/invoke/MethodHandle" ∧ M'.1.cls ≠ "java/lang/invoke/VarHandle" ∧ (parseMethodDescriptor M'.1.desc).map (fun d => d.parameters.length) = some n) ∧ M'.2.2.1 ≤ 45
theorem rroom {dd : Nat} {R : Room} (h : dd + 1 ≤ R.frames ∧ 64 * (dd + 1) + 64 ≤ R.locals) (hm : M'.2.2.1 ≤ 45) : (rrm dd mc ms).frames + 1 ≤ R.frames ∧ 8 + (M'.2.2.1 + 11) + (rrm dd mc ms).locals ≤ R.locals := ⟨h.1, by show 8 + (M'.2.2.1 + 11) + (64 * dd + 64) ≤ R.locals; omega⟩
theorem e_callS {idx : Nat} (av : List Value) {st0 : List Value} (hd : decode M.2.1 pc = .ok (.invokestatic idx, 3)) (hs0 : st0 = av.reverse ++ st) (hw : Cond.methodLink M.1.cls idx M'.1 ∈ rtbl) (hst : Cond.static M'.1 ∈ rtbl) (hL : rLk M' av.length) (hsum : (st.map fun w => w.category).sum ≤ 8) (h : EvM M' d mc ms av S v PostM) (hmc : mc ≤ bc) (hms : ms ≤ bs)
    (kk : ∀ (r : Option Value) (S' : rS) (v' : rV), PostM r S' v' → (S'.2.2.2 = S.2.2.2 ∧ Ev M (d + 1) (bc - mc) (bs - ms) (pc + 3) lv (r.toList ++ st) S' v' Post)) : Ev M (d + 1) bc bs pc lv st0 S v Post := fun G p l e R s m args below meth c Q C H locs cells slots ls hK hH hS hl hcc hs => by
  subst hs0
  refine rcall (PostM := PostM) C hS hl hcc hs hmc hms (va_runS (l := l) (bytes := M'.2.1) (maxL := M'.2.2.1) (ret := M'.2.2.2) (As := av.map (rcv G)) (n := av.length) ⟨C.1.1, C.1.2.1, C.1.2.2.1, C.1.2.2.2.1, C.1.2.2.2.2⟩ (h d (Nat.le_refl d) G l) ?_ ⟨rblind G av S v, rpre C hK hH hS⟩ rfl (by simp) hl.1 (rst_eq G av st) (by show 2 * 0 + _ ≤ 8; rw [rcv_sum]; omega) hd ⟨by omega, by omega⟩) kk
  exact va_cwS (ws' := rtbl) av.length C.1.2.2.2.2 (fun w hw2 => by
    rcases List.mem_append.mp hw2 with h2 | h2
    · simp only [List.mem_cons, List.not_mem_nil, or_false] at h2
      rcases h2 with rfl | rfl | rfl
      · exact rgood hw
      · exact rgood hst
      · exact rgood hL.2.1
    · exact rws_good hL.1 w h2) rfl rfl rfl hL.2.2.1 (rroom C.2.2.2.1 hL.2.2.2)
theorem e_callSN {idx : Nat} {host : String} (av : List Value) {st0 : List Value} (hd : decode M.2.1 pc = .ok (.invokestatic idx, 3)) (hs0 : st0 = av.reverse ++ st) (hw : Cond.methodLinkNest M.1.cls idx M'.1 host ∈ lw_tbl) (hst : Cond.static M'.1 ∈ rtbl) (hL : rLk M' av.length) (hsum : (st.map fun w => w.category).sum ≤ 8) (h : EvM M' d mc ms av S v PostM) (hmc : mc ≤ bc) (hms : ms ≤ bs)
    (kk : ∀ (r : Option Value) (S' : rS) (v' : rV), PostM r S' v' → (S'.2.2.2 = S.2.2.2 ∧ Ev M (d + 1) (bc - mc) (bs - ms) (pc + 3) lv (r.toList ++ st) S' v' Post)) : Ev M (d + 1) bc bs pc lv st0 S v Post := fun G p l e R s m args below meth c Q C H locs cells slots ls hK hH hS hl hcc hs => by
  subst hs0
  refine rcall (PostM := PostM) C hS hl hcc hs hmc hms (va_runSN (l := l) (host := host) (bytes := M'.2.1) (maxL := M'.2.2.1) (ret := M'.2.2.2) (As := av.map (rcv G)) (n := av.length) ⟨C.1.1, C.1.2.1, C.1.2.2.1, C.1.2.2.2.1, C.1.2.2.2.2⟩ (h d (Nat.le_refl d) G l) ⟨?_, C.1.2.2.2.2 _ hst, trivial⟩ ⟨rblind G av S v, rpre C hK hH hS⟩ rfl (by simp) hl.1 (rst_eq G av st) (by show 2 * 0 + _ ≤ 8; rw [rcv_sum]; omega) hd ⟨by omega, by omega⟩) kk
  exact va_cnB (ws' := rtbl) av.length C.1.2.2.2.2 (rws_good hL.1) rfl rfl rfl (C.2.1.2.1 _ hw rfl) (C.1.2.2.2.2 _ hL.2.1) hL.2.2.1 (rroom C.2.2.2.1 hL.2.2.2)
theorem rst_eqb (G : rG) (av : List Value) (b : Nat) (st : List Value) : (av.reverse ++ .ref b :: st).map (rcv G) = (av.map (rcv G)).reverse ++ .ref (rad G b) :: st.map (rcv G) := by simp [rcv]
theorem rrecv {G : rG} {s : State} {H : Heap} {b ci N : Nat} {C0 : String} {T : u_T} (hK : rK G S s) (hH : rH G S v H) (hb : S.1[b]? = some (.inr ci)) (hc : rCls ci C0 T N) : ∃ cell : Cell, H[rad G b]? = some cell ∧ cell.vm.isStatics = false ∧ s.vm.findClass C0 = some cell.cls := va_recv (q := (C0, T, N)) hK.1 hH.1 (q0 := b) hc.1 (rW_at hb)
theorem e_callV {idx b ci N : Nat} {T : u_T} (av : List Value) {st0 : List Value} (hd : decode M.2.1 pc = .ok (.invokevirtual idx, 3)) (hs0 : st0 = av.reverse ++ .ref b :: st) (hw : Cond.methodLink M.1.cls idx M'.1 ∈ rtbl) (hin : Cond.instanceMethod M'.1 ∈ rtbl) (hse : Cond.selects M'.1.cls M'.1 M'.1 ∈ rtbl) (hL : rLk M' av.length) (hb : S.1[b]? = some (.inr ci)) (hc : rCls ci M'.1.cls T N) (hsum : (st.map fun w => w.category).sum ≤ 8) (h : EvM M' d mc ms (.ref b :: av) S v PostM) (hmc : mc ≤ bc) (hms : ms ≤ bs)
    (kk : ∀ (r : Option Value) (S' : rS) (v' : rV), PostM r S' v' → (S'.2.2.2 = S.2.2.2 ∧ Ev M (d + 1) (bc - mc) (bs - ms) (pc + 3) lv (r.toList ++ st) S' v' Post)) : Ev M (d + 1) bc bs pc lv st0 S v Post := fun G p l e R s m args below meth c Q C H locs cells slots ls hK hH hS hl hcc hs => by
  subst hs0
  refine rcall (PostM := PostM) C hS hl hcc hs hmc hms (va_runV (l := l) (bytes := M'.2.1) (maxL := M'.2.2.1) (ret := M'.2.2.2) (C := M'.1.cls) (b := rad G b) (As := av.map (rcv G)) (n := av.length) ⟨C.1.1, C.1.2.1, C.1.2.2.1, C.1.2.2.2.1, C.1.2.2.2.2⟩ (h d (Nat.le_refl d) G l) ?_ ⟨rblind G (.ref b :: av) S v, rrecv hK hH hb hc, rpre (av := .ref b :: av) C hK hH hS⟩ rfl (by simp) hl.1 (rst_eqb G av b st) (by show 2 * 0 + _ ≤ 8; rw [rcv_sum]; omega) hd ⟨by omega, by omega⟩) kk
  exact cwV (ws' := rtbl) av.length C.1.2.2.2.2 (fun w hw2 => by
    rcases List.mem_append.mp hw2 with h2 | h2
    · simp only [List.mem_cons, List.not_mem_nil, or_false] at h2
      rcases h2 with rfl | rfl | rfl | rfl
      · exact rgood hw
      · exact rgood hin
      · exact rgood hse
      · exact rgood hL.2.1
    · exact rws_good hL.1 w h2) rfl rfl rfl ⟨rfl, hL.2.2.1⟩ (rroom C.2.2.2.1 hL.2.2.2)
theorem e_callI {idx b : Nat} (av : List Value) {st0 : List Value} (hret : M'.2.2.2 = none) (hnm : M'.1.name = "<init>") (hd : decode M.2.1 pc = .ok (.invokespecial idx, 3)) (hs0 : st0 = av.reverse ++ .ref b :: st) (hw : Cond.methodLink M.1.cls idx M'.1 ∈ rtbl) (hin : Cond.instanceMethod M'.1 ∈ rtbl) (hL : rLk M' av.length) (hsum : (st.map fun w => w.category).sum ≤ 8) (h : EvM M' d mc ms (.ref b :: av) S v PostM) (hmc : mc ≤ bc) (hms : ms ≤ bs)
    (kk : ∀ (r : Option Value) (S' : rS) (v' : rV), PostM r S' v' → (S'.2.2.2 = S.2.2.2 ∧ Ev M (d + 1) (bc - mc) (bs - ms) (pc + 3) lv (r.toList ++ st) S' v' Post)) : Ev M (d + 1) bc bs pc lv st0 S v Post := fun G p l e R s m args below meth c Q C H locs cells slots ls hK hH hS hl hcc hs => by
  subst hs0
  refine rcall (PostM := PostM) C hS hl hcc hs hmc hms (va_runI (l := l) (bytes := M'.2.1) (maxL := M'.2.2.1) (b := rad G b) (As := av.map (rcv G)) (n := av.length) ⟨C.1.1, C.1.2.1, C.1.2.2.1, C.1.2.2.2.1, C.1.2.2.2.2⟩ (h d (Nat.le_refl d) G l) ?_ ⟨rblind G (.ref b :: av) S v, rpre (av := .ref b :: av) C hK hH hS⟩ rfl (by simp) hl.1 (rst_eqb G av b st) (by show 2 * 0 + _ ≤ 8; rw [rcv_sum]; omega) hd ⟨by omega, by omega⟩) kk
  exact cwI (ws' := rtbl) av.length C.1.2.2.2.2 (rws_good hL.1) (by unfold rws; rw [hret]) rfl rfl (C.1.2.2.2.2 _ hL.2.1) (C.1.2.2.2.2 _ hw) (C.1.2.2.2.2 _ hin) hnm hL.2.2.1 (rroom C.2.2.2.1 hL.2.2.2)
theorem e_callIN {idx b : Nat} {host : String} (av : List Value) {st0 : List Value} (hret : M'.2.2.2 = none) (hnm : M'.1.name = "<init>") (hd : decode M.2.1 pc = .ok (.invokespecial idx, 3)) (hs0 : st0 = av.reverse ++ .ref b :: st) (hw : Cond.methodLinkNest M.1.cls idx M'.1 host ∈ lw_tbl) (hin : Cond.instanceMethod M'.1 ∈ rtbl) (hL : rLk M' av.length) (hsum : (st.map fun w => w.category).sum ≤ 8) (h : EvM M' d mc ms (.ref b :: av) S v PostM) (hmc : mc ≤ bc) (hms : ms ≤ bs)
    (kk : ∀ (r : Option Value) (S' : rS) (v' : rV), PostM r S' v' → (S'.2.2.2 = S.2.2.2 ∧ Ev M (d + 1) (bc - mc) (bs - ms) (pc + 3) lv (r.toList ++ st) S' v' Post)) : Ev M (d + 1) bc bs pc lv st0 S v Post := fun G p l e R s m args below meth c Q C H locs cells slots ls hK hH hS hl hcc hs => by
  subst hs0
  refine rcall (PostM := PostM) C hS hl hcc hs hmc hms (va_runIN (l := l) (host := host) (bytes := M'.2.1) (maxL := M'.2.2.1) (b := rad G b) (As := av.map (rcv G)) (n := av.length) ⟨C.1.1, C.1.2.1, C.1.2.2.1, C.1.2.2.2.1, C.1.2.2.2.2⟩ (h d (Nat.le_refl d) G l) ⟨?_, hnm, C.1.2.2.2.2 _ hin⟩ ⟨rblind G (.ref b :: av) S v, rpre (av := .ref b :: av) C hK hH hS⟩ rfl (by simp) hl.1 (rst_eqb G av b st) (by show 2 * 0 + _ ≤ 8; rw [rcv_sum]; omega) hd ⟨by omega, by omega⟩) kk
  exact va_cnB (ws' := rtbl) av.length C.1.2.2.2.2 (rws_good hL.1) (by unfold rws; rw [hret]) rfl rfl (C.2.1.2.1 _ hw rfl) (C.1.2.2.2.2 _ hL.2.1) hL.2.2.1 (rroom C.2.2.2.1 hL.2.2.2)
theorem e_ret (hd : decode M.2.1 pc = .ok (.return_, 1)) (hr : M.2.2.2 = none) (hp : Post none S v) : Ev M d bc bs pc lv [] S v Post := fun G p l e R s m args below meth c Q C H locs cells slots ls hK hH hS hl hcc hs => C.2.2.2.2.1 S v none H locs cells slots pc .return_ ls hp hK hH hS (by omega) (by omega) ⟨hr, rfl⟩ hd
theorem e_iret {x : Int32} {ty : FieldType} (hd : decode M.2.1 pc = .ok (.ireturn, 1)) (hr : M.2.2.2 = some ty) (hn : narrow ty (.int x) = .int x) (hp : Post (some (.int x)) S v) : Ev M d bc bs pc lv [.int x] S v Post := fun G p l e R s m args below meth c Q C H locs cells slots ls hK hH hS hl hcc hs => C.2.2.2.2.1 S v (some (.int x)) H locs cells slots pc .ireturn ls hp hK hH hS (by omega) (by omega) ⟨rfl, ty, hr, hn⟩ hd
theorem e_lret {x : Int64} (hd : decode M.2.1 pc = .ok (.lreturn, 1)) (hr : M.2.2.2 = some .long) (hp : Post (some (.long x)) S v) : Ev M d bc bs pc lv [.long x] S v Post := fun G p l e R s m args below meth c Q C H locs cells slots ls hK hH hS hl hcc hs => C.2.2.2.2.1 S v (some (.long x)) H locs cells slots pc .lreturn ls hp hK hH hS (by omega) (by omega) ⟨rfl, hr⟩ hd
theorem e_aret {x : Nat} {C0 : String} (hd : decode M.2.1 pc = .ok (.areturn, 1)) (hr : M.2.2.2 = some (.object C0)) (hp : Post (some (.ref x)) S v) : Ev M d bc bs pc lv [.ref x] S v Post := fun G p l e R s m args below meth c Q C H locs cells slots ls hK hH hS hl hcc hs => C.2.2.2.2.1 S v (some (.ref x)) H locs cells slots pc .areturn ls hp hK hH hS (by omega) (by omega) ⟨rfl, C0, hr⟩ hd
theorem e_objinit {idx b : Nat} (hd : decode M.2.1 pc = .ok (.invokespecial idx, 3)) (hw : Cond.methodLink M.1.cls idx Lib.objectInit ∈ rtbl) (hin : Cond.instanceMethod Lib.objectInit ∈ rtbl) (hcode : Cond.code Lib.objectInit ⟨#[0xb1]⟩ 1 none ∈ rtbl) (hsum : (st.map fun w => w.category).sum ≤ 8) (hD : 1 ≤ d)
    (kk : Ev M d bc bs (pc + 3) lv st S v Post) : Ev M d bc bs pc lv (.ref b :: st) S v Post := fun G p l e R s m args below meth c Q C H locs cells slots ls hK hH hS hl hcc hs =>
  W.objInit C.1.1 C.1.2.1 C.1.2.2.2.1 (C.1.2.2.2.2 _ hw) (C.1.2.2.2.2 _ hin) (C.1.2.2.2.2 _ hcode) rfl (hl.1.trans C.1.2.2.1.symm) rfl hd (by have := C.2.2.2.1.1; omega) (by have := C.2.2.2.1.2; show 2 * 0 + _ + 12 ≤ _; rw [rcv_sum]; omega) (kk G p l e R s m args below meth c Q C H locs cells slots ls hK hH hS hl hcc hs)
/-- ints of one row copied to another -/
def rCp (v : rV) (k k0 sp dp n : Nat) : rV := (fun a b => if a = k then va_cpy (v.1 k0) (v.1 k) sp dp n b else v.1 a b, v.2.1, v.2.2)
theorem rCp_ne {G : rG} {S : Nat → Nat → Option Nat} {v : rV} {k k0 sp dp n : Nat} (i : Nat) (kd : rKd) (h : i ≠ k) : rE G S (rCp v k k0 sp dp n) i kd = rE G S v i kd := rE_ne (fun b => by simp [rCp, h]) (fun _ => rfl) (fun _ => rfl)
def rCt (v : rV) (k : Nat) (f : Nat → Int32) (sp dp n : Nat) : rV := (fun a b => if a = k then va_cpy f (v.1 k) sp dp n b else v.1 a b, v.2.1, v.2.2)
theorem rCt_ne {G : rG} {S : Nat → Nat → Option Nat} {v : rV} {k : Nat} {f : Nat → Int32} {sp dp n : Nat} (i : Nat) (kd : rKd) (h : i ≠ k) : rE G S (rCt v k f sp dp n) i kd = rE G S v i kd := rE_ne (fun b => by simp [rCt, h]) (fun _ => rfl) (fun _ => rfl)
theorem rnat {st : List Value} {d R : Nat} (G : rG) (hst : (st.map fun w => w.category).sum ≤ 8) (hD : 1 ≤ d) (h : 64 * d + 64 ≤ R) : ((st.map (rcv G)).map fun v => v.category).sum + (nativeFrameWords "java/lang/System" "arraycopy" 5 + 11) ≤ R := by
  rw [rcv_sum]
  have e : nativeFrameWords "java/lang/System" "arraycopy" 5 = 7 := by decide +kernel
  omega
theorem e_copy {idx k0 k n0 n1 : Nat} {sp dp n : Int32} (hd : decode M.2.1 pc = .ok (.invokestatic idx, 3)) (hw : Cond.methodLink M.1.cls idx arraycopyName ∈ rtbl) (hna : Cond.native arraycopyName ∈ rtbl) (hst : Cond.static arraycopyName ∈ rtbl) (hini : Cond.initialized "java/lang/System" ∈ rtbl) (hk0 : S.1[k0]? = some (.inl (n0, .int))) (hk : S.1[k]? = some (.inl (n1, .int))) (hf : S.2.2.1 = false)
    (h1 : ¬ sp < 0) (h2 : ¬ dp < 0) (h3 : ¬ n < 0) (h4 : sp.toNatClampNeg + n.toNatClampNeg ≤ n0) (h5 : dp.toNatClampNeg + n.toNatClampNeg ≤ n1) (hsum : (st.map fun w => w.category).sum ≤ 8) (hD : 1 ≤ d)
    (kk : Ev M d bc bs (pc + 3) lv st S (rCp v k k0 sp.toNatClampNeg dp.toNatClampNeg n.toNatClampNeg) Post) : Ev M d bc bs pc lv (.int n :: .int dp :: .ref k :: .int sp :: .ref k0 :: st) S v Post := fun G p l e R s m args below meth c Q C H locs cells slots ls hK hH hS hl hcc hs => by
  refine va_copyi (ty := .int) C.1.1 C.1.2.1 (C.1.2.2.1.trans hl.1.symm) C.1.2.2.2.1 (C.1.2.2.2.2 _ hw) (C.1.2.2.2.2 _ hna) (C.1.2.2.2.2 _ hst) (C.1.2.2.2.2 _ hini) (rK_tys hK hk) hH.1 (rH_D hH) hS k0 k 0 0 (rW_at hk0) (rW_at hk) rfl rfl rfl h1 h2 h3 h4 h5 (fun _ _ => rfl) (by have := C.2.2.2.1.1; omega) (rnat G hsum hD C.2.2.2.1.2) hd (fun H1 locs1 hP1 hD1 hS1 => kk G p l e R s m args below meth c Q C H1 locs1 cells slots ls hK ⟨?_, hH.2.1, fun f => by rw [hf] at f; cases f⟩ hS1 hl hcc hs)
  rw [← rW_set hk (fun i kd h => rCp_ne i kd h)]
  have e1 : (rCp v k k0 sp.toNatClampNeg dp.toNatClampNeg n.toNatClampNeg).1 k = va_cpy (v.1 k0) (v.1 k) sp.toNatClampNeg dp.toNatClampNeg n.toNatClampNeg := by funext b; simp [rCp]
  show va_P _ _ ((rW G S v).set k (rad G k, .inl (G.2.2.1 .int, n1, .inl ((rCp v k k0 sp.toNatClampNeg dp.toNatClampNeg n.toNatClampNeg).1 k)))) H1
  rw [e1]
  exact hP1
theorem e_copyT {idx i k n1 : Nat} {sp dp n : Int32} (hd : decode M.2.1 pc = .ok (.invokestatic idx, 3)) (hw : Cond.methodLink M.1.cls idx arraycopyName ∈ rtbl) (hna : Cond.native arraycopyName ∈ rtbl) (hst : Cond.static arraycopyName ∈ rtbl) (hini : Cond.initialized "java/lang/System" ∈ rtbl) (hi : i < 3) (hk : S.1[k]? = some (.inl (n1, .int))) (hf : S.2.2.1 = false)
    (h1 : ¬ sp < 0) (h2 : ¬ dp < 0) (h3 : ¬ n < 0) (h4 : sp.toNatClampNeg + n.toNatClampNeg ≤ 12) (h5 : dp.toNatClampNeg + n.toNatClampNeg ≤ n1) (hsum : (st.map fun w => w.category).sum ≤ 8) (hD : 1 ≤ d)
    (kk : Ev M d bc bs (pc + 3) lv st S (rCt v k (fun j => (rtb.getD i []).getD j 0) sp.toNatClampNeg dp.toNatClampNeg n.toNatClampNeg) Post) : Ev M d bc bs pc lv (.int n :: .int dp :: .ref k :: .int sp :: .ref (1000030 + i) :: st) S v Post := fun G p l e R s m args below meth c Q C H locs cells slots ls hK hH hS hl hcc hs => by
  refine vz_copyt (f := fun j => (rtb.getD i []).getD j 0) C.1.1 C.1.2.1 (C.1.2.2.1.trans hl.1.symm) C.1.2.2.2.1 (C.1.2.2.2.2 _ hw) (C.1.2.2.2.2 _ hna) (C.1.2.2.2.2 _ hst) (C.1.2.2.2.2 _ hini) (rK_tys hK hk) hH.1 (rH_D hH) hS (C.2.2.1.2.1.2.2.2.2.1 i hi) k 0 (rW_at hk) rfl h1 h2 h3 h4 h5 (fun _ _ => rfl) (by have := C.2.2.2.1.1; omega) (rnat G hsum hD C.2.2.2.1.2) hd (fun H1 locs1 hP1 hD1 hS1 => kk G p l e R s m args below meth c Q C H1 locs1 cells slots ls hK ⟨?_, hH.2.1, fun f => by rw [hf] at f; cases f⟩ hS1 hl hcc hs)
  rw [← rW_set hk (fun i kd h => rCt_ne i kd h)]
  have e1 : (rCt v k (fun j => (rtb.getD i []).getD j 0) sp.toNatClampNeg dp.toNatClampNeg n.toNatClampNeg).1 k = va_cpy (fun j => (rtb.getD i []).getD j 0) (v.1 k) sp.toNatClampNeg dp.toNatClampNeg n.toNatClampNeg := by funext b; simp [rCt]
  show va_P _ _ ((rW G S v).set k (rad G k, .inl (G.2.2.1 .int, n1, .inl ((rCt v k (fun j => (rtb.getD i []).getD j 0) sp.toNatClampNeg dp.toNatClampNeg n.toNatClampNeg).1 k)))) H1
  rw [e1]
  exact hP1
end CALLROWS
