/-! THE LAW'S HELPER drop: RingDrop.drop hands the number out or throws; the helper says which. Its bodies are walked in one place each, for what is thrown leaves no row of the numbered cells. -/
def rAt0 : List Cond := vx_at0 RX7 130 "java/util/NoSuchElementException" ["java/lang/RuntimeException", "java/lang/Exception"]
def isCD : Cond → Bool
  | .castable _ _ => true
  | .declares _ => true
  | _ => false
def rBad : List Cond := rAt0.filter fun w => !goodWord w
theorem rBad_cd : rBad.all isCD = true := by decide +kernel
theorem rBad_tbl : ∀ w ∈ rBad, w ∈ lw_tbl := by decide +kernel
theorem rAt0_tbl : ∀ w ∈ rAt0.filter goodWord, w ∈ lw_tbl := by decide +kernel
theorem rAt0_ot : ∀ w ∈ Cond.classLink RX7 128 "java/util/NoSuchElementException" :: Cond.initialized "java/util/NoSuchElementException" :: rAt0, vx_ot w = true := by decide +kernel
theorem wc128 : Cond.classLink RX7 128 "java/util/NoSuchElementException" ∈ rtbl := List.mem_filter.mpr ⟨by decide +kernel, by decide +kernel⟩
theorem wi128 : Cond.initialized "java/util/NoSuchElementException" ∈ rtbl := List.mem_filter.mpr ⟨by decide +kernel, by decide +kernel⟩
theorem wcL13 : Cond.classLink RL 13 "java/util/NoSuchElementException" ∈ rtbl := List.mem_filter.mpr ⟨by decide +kernel, by decide +kernel⟩
theorem wkL_drop : Cond.codeWith yL_drop mL_drop.2.1 5 (some .int) [(0, 10, 13, 13)] ∈ rtbl := List.mem_filter.mpr ⟨by decide +kernel, by decide +kernel⟩
theorem wsL_drop0 : Cond.static yL_drop ∈ rtbl := List.mem_filter.mpr ⟨by decide +kernel, by decide +kernel⟩
theorem wiL_drop : Cond.initialized yL_drop.cls ∈ rtbl := List.mem_filter.mpr ⟨by decide +kernel, by decide +kernel⟩
theorem wcast : Cond.castable "java/util/NoSuchElementException" "java/util/NoSuchElementException" ∈ rBad := by decide +kernel
theorem zL_0 : decode mL_drop.2.1 0 = .ok (.aload_n 3, 1) := by decide +kernel
theorem zL_1 : decode mL_drop.2.1 1 = .ok (.iconst 0, 1) := by decide +kernel
theorem zL_2 : decode mL_drop.2.1 2 = .ok (.aload_n 0, 1) := by decide +kernel
theorem zL_3 : decode mL_drop.2.1 3 = .ok (.iload_n 1, 1) := by decide +kernel
theorem zL_4 : decode mL_drop.2.1 4 = .ok (.iload_n 2, 1) := by decide +kernel
theorem zL_5 : decode mL_drop.2.1 5 = .ok (.invokevirtual 7, 3) := by decide +kernel
theorem zL_8 : decode mL_drop.2.1 8 = .ok (.i2l, 1) := by decide +kernel
theorem zL_9 : decode mL_drop.2.1 9 = .ok (.lastore, 1) := by decide +kernel
theorem zL_10 : decode mL_drop.2.1 10 = .ok (.goto 7, 3) := by decide +kernel
theorem zL_13 : decode mL_drop.2.1 13 = .ok (.astore 4, 2) := by decide +kernel
theorem zL_15 : decode mL_drop.2.1 15 = .ok (.iconst 1, 1) := by decide +kernel
theorem zL_16 : decode mL_drop.2.1 16 = .ok (.ireturn, 1) := by decide +kernel
theorem zL_17 : decode mL_drop.2.1 17 = .ok (.iconst 0, 1) := by decide +kernel
theorem zL_18 : decode mL_drop.2.1 18 = .ok (.ireturn, 1) := by decide +kernel
theorem bad_ot {w : Cond} (hw : w ∈ rBad) : w.onTables = true := by
  have h2 := List.all_eq_true.mp rBad_cd w hw
  cases w <;> first | rfl | exact absurd h2 (by simp [isCD])
/-- what a throw needs besides -/
def rXW (G : rG) (U : State) (H : Heap) : Prop := (∀ w ∈ rBad, va_Nw w U) ∧ vx_Zq Bundle.tN "UNASSIGNED_STACK" Bundle.steD (rA G) U H ∧ vx_Zq Bundle.tN "SUPPRESSED_SENTINEL" Bundle.listD (rA G) U H
theorem rXW.moved {G : rG} {u U : State} {H : Heap} (hW : u.WarmedH U.vm) (h : rXW G u H) : rXW G U H := by
  refine ⟨fun w hw => ?_, h.2.1.moved hW.alike, h.2.2.moved hW.alike⟩
  have h1 := h.1 w hw
  have h2 := List.all_eq_true.mp rBad_cd w hw
  cases w <;> first | exact va_Nw.warmC hW h1 | exact va_tabs rfl (rfl : (u.setVm U.vm).vm = U.vm) (by rw [Cond.declares_setVm hW.alike]; exact h1) | exact absurd h2 (by simp [isCD])
theorem rXW.kept {G : rG} {U : State} {H H1 : Heap} (h : rXW G U H) (hq : ∀ a : Nat, a < H.size → ¬ rA G a → H1[a]? = H[a]?) : rXW G U H1 := ⟨h.1, h.2.1.kept hq, h.2.2.kept hq⟩
theorem rAt0_all {G : rG} {args : Array Value} {s : State} {H : Heap} (ht : ∀ w ∈ rtbl, w.before args s = true) (h : rXW G s H) : ∀ w ∈ rAt0, w.before args s = true := fun w hw => by
  by_cases g : goodWord w = true
  · exact ht w (List.mem_filter.mpr ⟨rAt0_tbl w (List.mem_filter.mpr ⟨hw, g⟩), g⟩)
  · have hb : w ∈ rBad := List.mem_filter.mpr ⟨hw, by simpa using g⟩
    exact va_Nw.use (bad_ot hb) (h.1 w hb)
def rPx (G : rG) (av : List Value) (S : rS) (v : rV) : Array Value → State → Prop := va_Pc (av.map (rcv G)) (fun U => ((G.1 ≤ U.heap.size ∧ rX G S U U.heap ∧ rTC G U) ∧ rNx U ∧ rK G S U ∧ rH G S v U.heap) ∧ rXW G U U.heap)
theorem rPx_blind (G : rG) (av : List Value) (S : rS) (v : rV) : FrameBlind (rPx G av S v) := fun a U g mk q => by
  obtain ⟨h1, ⟨⟨h2, h3, h4⟩, h5, h6, h7⟩, h8⟩ := q
  have hW : U.WarmedH (U.calling g mk a).vm := State.WarmedH.refl U
  exact ⟨h1, ⟨⟨h2, h3.moved hW, h4.moved hW.alike⟩, h5.moved hW, h6.moved hW.alike, h7⟩, h8.moved hW⟩
/-- what a body knows of its place, its answer apart -/
def rB (M : rM) (d : Nat) (G : rG) (S : rS) (p : Program) (R : Room) (s : State) (m : MethodId) (args : Array Value) (c : Code) : Prop :=
  (p.tables.exec = Jvm.exec ∧ c.code = M.2.1 ∧ c.maxLocals = M.2.2.1 ∧ s.vm.findClass M.1.cls = some m.cls ∧ (∀ w ∈ rtbl, w.before args s = true)) ∧ rNx s ∧ (G.1 ≤ s.heap.size ∧ rX G S s s.heap ∧ rTC G s) ∧ (d ≤ R.frames ∧ 64 * d + 64 ≤ R.locals)
section EDR
variable {p : Program} {l : Launch} {e : Env} {R : Room} {s : State} {m : MethodId} {args : Array Value} {below : List Frame} {meth : Method} {c : Code} {H : Heap} {locs : List Loc} {cells slots : Nat} {Q : State → Prop}
variable {M M' : rM} {G : rG} {S : rS} {v : rV} {ls : Array Slot} {pc mc ms d : Nat} {PostM : Option Value → rS → rV → Prop}
theorem rpreB {av : List Value} (B : rB M d G S p R s m args c) (hK : rK G S s) (hH : rH G S v H) (hS : va_S (rA G) s.heap H locs) : ∀ U : State, U.heap = H → s.WarmedH U.vm → rPc G av S v (av.map (rcv G)).toArray U := fun U hU hW => by
  obtain ⟨-, hN, ⟨hB, hX, hT⟩, -⟩ := B
  refine ⟨rfl, ⟨by rw [hU]; exact Nat.le_trans hB hS.1, ?_, hT.moved hW.alike⟩, hN.moved hW, hK.moved hW.alike, by rw [hU]; exact hH⟩
  rw [hU]
  exact (hX.moved hW).kept hS.2.1
theorem rpreX {av : List Value} (B : rB M d G S p R s m args c) (hK : rK G S s) (hH : rH G S v H) (hS : va_S (rA G) s.heap H locs) (hx : rXW G s s.heap) : ∀ U : State, U.heap = H → s.WarmedH U.vm → rPx G av S v (av.map (rcv G)).toArray U := fun U hU hW => by
  obtain ⟨q1, q2, q3, q4, q5⟩ := rpreB (av := av) B hK hH hS U hU hW
  refine ⟨q1, ⟨q2, q3, q4, q5⟩, ?_⟩
  rw [hU]
  exact (hx.moved hW).kept hS.2.1
theorem rcwV {idx n : Nat} (B : rB M (d + 1) G S p R s m args c) (hw : Cond.methodLink M.1.cls idx M'.1 ∈ rtbl) (hin : Cond.instanceMethod M'.1 ∈ rtbl) (hse : Cond.selects M'.1.cls M'.1 M'.1 ∈ rtbl) (hL : rLk M' n) : CallW R s args M.1.cls M'.1.cls idx M'.1 M'.2.1 M'.2.2.1 M'.2.2.2 (rws M') (rrm d mc ms) mc ms n :=
  cwV (ws' := rtbl) n B.1.2.2.2.2 (fun w hw2 => by
    rcases List.mem_append.mp hw2 with h2 | h2
    · simp only [List.mem_cons, List.not_mem_nil, or_false] at h2
      rcases h2 with rfl | rfl | rfl | rfl
      · exact rgood hw
      · exact rgood hin
      · exact rgood hse
      · exact rgood hL.2.1
    · exact rws_good hL.1 w h2) rfl rfl rfl ⟨rfl, hL.2.2.1⟩ (rroom B.2.2.2 hL.2.2.2)
/-- a call that returns, in this place -/
theorem rawV {idx b ci N : Nat} {T : u_T} (av : List Value) {st : List Value} (B : rB M (d + 1) G S p R s m args c) (hd : decode M.2.1 pc = .ok (.invokevirtual idx, 3)) (hw : Cond.methodLink M.1.cls idx M'.1 ∈ rtbl) (hin : Cond.instanceMethod M'.1 ∈ rtbl) (hse : Cond.selects M'.1.cls M'.1 M'.1 ∈ rtbl) (hL : rLk M' av.length) (hb : S.1[b]? = some (.inr ci)) (hc : rCls ci M'.1.cls T N) (hsum : (st.map fun w => w.category).sum ≤ 8) (h : EvM M' d mc ms (.ref b :: av) S v PostM) (hsz : ls.size = M.2.2.1) (hK : rK G S s) (hH : rH G S v H) (hS : va_S (rA G) s.heap H locs) (hcc : cells + mc ≤ R.cells) (hs : slots + ms ≤ R.slots)
    (kk : ∀ (r : Option Value) (S' : rS) (v' : rV) (H1 : Heap) (locs1 : List Loc), PostM r S' v' → rK G S' s → rH G S' v' H1 → va_S (rA G) s.heap H1 locs1 → W p l e R s m args below meth c H1 locs1 (cells + mc) (slots + ms) Q (F0 m (pc + 3) ls ((r.toList ++ st).map (rcv G)))) : W p l e R s m args below meth c H locs cells slots Q (F0 m pc ls ((av.reverse ++ .ref b :: st).map (rcv G))) := by
  have hr : va_Run p l e R s m args below meth c H locs cells slots mc ms (F0 m pc ls ((av.reverse ++ .ref b :: st).map (rcv G))) (st.map (rcv G)) (rQc G PostM (Value.ref (rad G b) :: av.map (rcv G)).toArray) (rA G) :=
    va_runV (l := l) (bytes := M'.2.1) (maxL := M'.2.2.1) (ret := M'.2.2.2) (C := M'.1.cls) (b := rad G b) (As := av.map (rcv G)) (n := av.length) ⟨B.1.1, B.1.2.1, B.1.2.2.1, B.1.2.2.2.1, B.1.2.2.2.2⟩ (h d (Nat.le_refl d) G l) (rcwV B hw hin hse hL) ⟨rblind G (.ref b :: av) S v, rrecv hK hH hb hc, rpreB (av := .ref b :: av) B hK hH hS⟩ rfl (by simp) hsz (rst_eqb G av b st) (by show 2 * 0 + _ ≤ 8; rw [rcv_sum]; omega) hd ⟨hcc, hs⟩
  intro T hT X
  obtain ⟨w, st₀, t, T', L, h0, X', hL2, e1, e2, ⟨r, S', v', hp, hw2, hK', hH', hz, hk⟩, go⟩ := hr T hT X
  cases hw2
  rw [h0] at hz hk
  have hvm : s.vm.Alike t.vm := by rw [← e2]; exact X'.warmed.alike
  have hS2 : va_S (rA G) s.heap T'.heap (locs ++ L) := ⟨Nat.le_trans hS.1 (by rw [e1]; exact hz), fun q h1 h2 => by rw [e1, hk q (Nat.lt_of_lt_of_le h1 hS.1) h2]; exact hS.2.1 q h1 h2, fun q hq => by
    rcases List.mem_append.mp hq with h | h
    · exact hS.2.2 q h
    · exact hL2 q h⟩
  have hst : (r.toList ++ st).map (rcv G) = (r.map (rcv G)).toList ++ st.map (rcv G) := by cases r <;> rfl
  obtain ⟨t2, a1, b1⟩ := kk r S' v' T'.heap (locs ++ L) hp (hK'.moved hvm.symm) (by rw [e1]; exact hH') hS2 T' rfl X'
  rw [hst] at a1
  exact ⟨t2, go t2 a1, b1⟩
/-- a call that throws, in this place -/
theorem rawT {st0 rest : List Value} {XC : String → State → State → Prop} {free : Addr → Prop} (hr : vx_Run p l e R s m args below meth c H locs cells slots mc ms (F0 m pc ls st0) rest (fun _ _ _ => False) XC free)
    (kx : ∀ (E : String) (ce : Cell) (q : Addr) (st₀ t : State) (L : List Loc), st₀.heap = H → s.vm.Alike t.vm → (∀ z ∈ L, free z.base) → XC E st₀ t → t.heap[q]? = some ce → ce.vm = .none → s.vm.findClass E = some ce.cls → vx_W p l e R s m args below meth c t.heap (locs ++ L) (cells + mc) (slots + ms) Q (F0 m pc ls rest) q) : W p l e R s m args below meth c H locs cells slots Q (F0 m pc ls st0) := by
  intro T hT X
  rcases hr T hT X with ⟨v, st₀, t, T', L, h0, X', hL, e1, e2, hf, st⟩ | ⟨q, st₀, t, T', L, E, ce, h0, X', hL, e1, e2, hx, hce, hcv, hcl, st⟩
  · exact hf.elim
  · obtain ⟨t2, a1, b1⟩ := kx E ce q st₀ t L h0 (by rw [← e2]; exact X'.warmed.alike) hL hx hce hcv hcl T' e1 X'
    exact ⟨t2, st.trans a1, b1⟩
end EDR
def rXC (G : rG) (S : rS) (v : rV) : String → State → State → Prop := fun E st t => E = "java/util/NoSuchElementException" ∧ rK G S t ∧ rH G S v t.heap ∧ va_F (rA G) st t
section EDR2
variable {p : Program} {l : Launch} {e : Env} {R : Room} {s : State} {m : MethodId} {args : Array Value} {below : List Frame} {meth : Method} {c : Code} {G : rG} {v : rV} {ls : Array Slot} {d : Nat} {X : Nat × (Nat → Int32)} {a b : Int32}
theorem drop_walk (BB : rB mX7_drop (d + 1) G (rZ X) p R s m args c) (hd' : 5 ≤ d) (hRc : 1 ≤ R.cells) (hRs : 6 ≤ R.slots) (hW : rXW G s s.heap) (hlt : l.stackTraces = false) (htab : ∀ x ∈ c.exceptionTable.toList, False) (hlocks : meth.locks = false) (hK : rK G (rZ X) s) (hH : rH G (rZ X) v s.heap) (hl : lv_has ls 3 ([(0, Value.ref 0), (1, .int a), (2, .int b)].map fun q => (q.1, rcv G q.2))) (hno : ¬ (f_X7_isDrop v a = true ∧ ¬ b < 0 ∧ ¬ (12 : Int32) ≤ b)) :
    W p l e R s m args below meth c s.heap [] 0 0 (vx_MQ below (fun _ _ _ _ => False) (rXC G (rZ X) v) args s 1 6 (rA G)) (F0 m 0 ls []) := by
  have w18 : ∀ (H1 : Heap) (locs1 : List Loc), rH G (rZ X) v H1 → va_S (rA G) s.heap H1 locs1 → W p l e R s m args below meth c H1 locs1 0 0 (vx_MQ below (fun _ _ _ _ => False) (rXC G (rZ X) v) args s 1 6 (rA G)) (F0 m 18 ls []) := fun H1 locs1 hH1 hS1 =>
    vx_throw0 (own := RX7) (cls := "java/util/NoSuchElementException") (names := ["java/lang/RuntimeException", "java/lang/Exception"]) (ik := 128) (ic := 130) (A := rA G) BB.1.1 BB.1.2.1 hlt BB.1.2.2.2.1 (by decide +kernel) (by decide +kernel) (BB.1.2.2.2.2 _ wc128) (BB.1.2.2.2.2 _ wi128) (rAt0_all BB.1.2.2.2.2 hW) rAt0_ot hW.2.1 hW.2.2 hS1 (hl.1.trans BB.1.2.2.1.symm) dX7_drop_18 dX7_drop_21 dX7_drop_22 dX7_drop_25 (fun x hx => (htab x hx).elim) (by have := BB.2.2.2.1; show 2 + 3 < _; omega) (by have := BB.2.2.2.2; show 0 + (13 * (2 + 1) + 42) ≤ _; omega) (by omega) (by omega) hlocks (fun t ha hz hq => ⟨rfl, hK.moved ha, ⟨hH1.1.kept fun k q hk => hq _ (vx_lt hH1.1 hk), hH1.2.1, fun f => by cases f⟩, Nat.le_trans hS1.1 hz, fun q h1 h2 => (hq q (Nat.lt_of_lt_of_le h1 hS1.1)).trans (hS1.2.1 q h1 h2)⟩) hS1.2.2 (Nat.le_refl _) (Nat.le_refl _)
  refine lv_aload_n BB.1.1 BB.1.2.1 dX7_drop_0 rfl (lget_ls hl (i := 0) rfl) ?_
  refine lv_iload_n BB.1.1 BB.1.2.1 dX7_drop_1 rfl (lget_ls hl (i := 1) rfl) ?_
  refine rawV (M := mX7_drop) (M' := mX7_isDrop) (b := 0) (st := []) (mc := 0) (ms := 0) [.int a] BB dX7_drop_2 wmX7_124 imX7_isDrop seX7_isDrop lkX7_isDrop k0_0 rc7 (by decide) ((x_X7_isDrop (X := X) (v := v) (a1 := a)).mono (by omega)) hl.1 hK hH va_S.rf (Nat.zero_le _) (Nat.zero_le _) (fun r S' v' H1 locs1 hp hK1 hH1 hS1 => ?_)
  obtain ⟨rfl, rfl, hv⟩ := hp
  obtain rfl : v = v' := hv.symm
  refine lv_if_eq (tgt := 18) (x := bI (f_X7_isDrop v a)) (rest := []) BB.1.1 BB.1.2.1 dX7_drop_5 (by decide) (fun c1 => w18 _ _ hH1 hS1) (fun c1 => ?_)
  have t1 : f_X7_isDrop v a = true := by
    cases h : f_X7_isDrop v a with
    | true => rfl
    | false => rw [h] at c1; exact absurd rfl c1
  refine lv_iload_n BB.1.1 BB.1.2.1 dX7_drop_8 rfl (lget_ls hl (i := 2) rfl) ?_
  refine lv_if_lt (tgt := 18) BB.1.1 BB.1.2.1 dX7_drop_9 (by decide) (fun c2 => w18 _ _ hH1 hS1) (fun c2 => ?_)
  refine lv_iload_n BB.1.1 BB.1.2.1 dX7_drop_12 rfl (lget_ls hl (i := 2) rfl) ?_
  refine lv_bipush (v := (12 : Int32)) BB.1.1 BB.1.2.1 dX7_drop_13 (by decide) ?_
  exact lv_icmp_lt (tgt := 26) BB.1.1 BB.1.2.1 dX7_drop_15 (by decide) (fun c3 => absurd ⟨t1, c2, Int32.not_le.mpr c3⟩ hno) (fun c3 => w18 _ _ hH1 hS1)
end EDR2
theorem drop_throws {l : Launch} {G : rG} {X : Nat × (Nat → Int32)} {v : rV} {a b : Int32} (hlt : l.stackTraces = false) (hno : ¬ (f_X7_isDrop v a = true ∧ ¬ b < 0 ∧ ¬ (12 : Int32) ≤ b)) {d : Nat} (hd : 6 ≤ d) : vx_Met l yX7_drop (rws mX7_drop) (rrm d 1 6) (rPx G [.ref 0, .int a, .int b] (rZ X) v) (fun _ _ _ _ => False) (rXC G (rZ X) v) 1 6 (rA G) := by
  obtain ⟨d', rfl⟩ : ∃ d', d = d' + 1 := ⟨d - 1, by omega⟩
  refine vx_ofW (cc := mX7_drop.2.1) (maxL := 3) (ret := some .int) (ws' := rtbl) (by decide +kernel) rfl ?_
  intro p e s m args below meth c s₁ B hml htab hv
  obtain ⟨rfl, ⟨⟨hB, hX, hT⟩, hN, hK, hH⟩, hW⟩ := hv
  have hts := atoms_spec (ws := rws mX7_drop) B.pre
  have hlocks := B.notSynchronized
  rw [lg_entry_eq]
  have hl := lv_entry (([.ref 0, .int a, .int b] : List Value).map (rcv G)) (n := 3) (Nat.le_of_ble_eq_true rfl)
  rw [largs_map] at hl
  exact drop_walk (d := d') ⟨⟨B.exec, B.bytes, hml, findClass_of_methodNamed B.named, fun w hw => hts w (List.mem_cons_of_mem _ hw)⟩, hN, ⟨hB, hX, hT⟩, ⟨Nat.le_refl _, Nat.le_refl _⟩⟩ (by omega) (Nat.le_refl _) (Nat.le_refl _) hW hlt htab hlocks hK hH hl hno
theorem x_X7_drop {X : Nat × (Nat → Int32)} {v : rV} {a b : Int32} (h1 : f_X7_isDrop v a = true) (h2 : ¬ b < 0) (h3 : ¬ (12 : Int32) ≤ b) (h4 : ¬ a < 0 ∧ a.toNatClampNeg < 12) (h5 : b.toNatClampNeg < 12) : EvM mX7_drop 2 0 0 [.ref 0, .int a, .int b] (rZ X) v (rPI X (v.1 (38 + a.toNatClampNeg) b.toNatClampNeg, v)) := by
  refine evm_of (by decide +kernel) (fun G => Nat.le_of_ble_eq_true rfl) ?_
  show Ev mX7_drop 2 0 0 0 [(0, .ref 0), (1, .int a), (2, .int b)] [] (rZ X) v _
  refine e_aload_n dX7_drop_0 rfl ?_
  refine e_iload_n dX7_drop_1 rfl ?_
  refine c_VZ (M' := mX7_isDrop) [.int a] dX7_drop_2 rfl wmX7_124 imX7_isDrop seX7_isDrop lkX7_isDrop k0_0 rc7 (Nat.le_of_ble_eq_true rfl) x_X7_isDrop ?_
  refine e_if_eq (tgt := 18) dX7_drop_5 (by decide) (fun c1 => absurd c1 (by show ¬ bI (f_X7_isDrop v a) = 0; rw [h1]; decide)) (fun _ => ?_)
  refine e_iload_n dX7_drop_8 rfl ?_
  refine e_if_lt (tgt := 18) dX7_drop_9 (by decide) (fun c2 => absurd c2 h2) (fun _ => ?_)
  refine e_iload_n dX7_drop_12 rfl ?_
  refine e_bipush (x := (12 : Int32)) dX7_drop_13 (by decide) ?_
  refine e_icmp_lt (tgt := 26) dX7_drop_15 (by decide) (fun _ => ?_) (fun c3 => absurd (Int32.not_lt.mp c3) h3)
  refine e_aload_n dX7_drop_26 rfl ?_
  refine e_get (w := .ref 37) (j := 5) dX7_drop_27 k0_0 rc7 (by decide) wfX7_44 (g0_0_5) ?_
  refine e_iload_n dX7_drop_30 rfl ?_
  refine e_aaldJ dX7_drop_31 k0_37 rfl rfl h4.2 h4.1 (r0_37 h4.2) ?_
  refine e_iload_n dX7_drop_32 rfl ?_
  refine e_ialdJ dX7_drop_33 (q0_37 h4.2) rfl h5 h2 ?_
  exact e_iret dX7_drop_34 rfl rfl ⟨rfl, rfl, rfl⟩
theorem vlt_12 {b : Int32} (h1 : ¬ b < 0) (h2 : ¬ (12 : Int32) ≤ b) : b.toNatClampNeg < 12 := by
  have q2 := Int32.lt_iff_toInt_lt.mp (Int32.not_le.mp h2)
  rw [show (12 : Int32).toInt = 12 from rfl] at q2
  show b.toInt.toNat < 12
  omega
section EDR3
variable {p : Program} {l : Launch} {e : Env} {R : Room} {s : State} {m : MethodId} {args : Array Value} {below : List Frame} {meth : Method} {c : Code} {G : rG} {v : rV} {ls : Array Slot} {d : Nat} {X : Nat × (Nat → Int32)} {a b : Int32}
theorem ldrop_walk {r : Int32 × rV} (BB : rB mL_drop (d + 1) G (rZ X) p R s m args c) (hd' : 8 ≤ d) (hRc : 1 ≤ R.cells) (hRs : 6 ≤ R.slots) (hW : rXW G s s.heap) (hlt : l.stackTraces = false) (htab : c.exceptionTable.toList = [⟨0, 10, 13, 13⟩]) (hlocks : meth.locks = false) (hret : meth.sig.returnType = some .int) (hK : rK G (rZ X) s) (hH : rH G (rZ X) v s.heap) (hl : lv_has ls 5 ([(0, Value.ref 0), (1, .int a), (2, .int b), (3, .ref 197)].map fun q => (q.1, rcv G q.2)))
    (h : (if f_X7_isDrop v a = true ∧ ¬ b < 0 ∧ ¬ 12 ≤ b then (if ¬ a < 0 ∧ a.toNatClampNeg < 12 then some (0, rL v 197 0 (v.1 (38 + a.toNatClampNeg) b.toNatClampNeg).toInt64) else none) else some ((1 : Int32), v)) = some r) :
    W p l e R s m args below meth c s.heap [] 0 0 (MQ below (rQc G (fun o S' v' => o = some (.int r.1) ∧ S' = rZ X ∧ v' = r.2)) args s 1 6 (rA G)) (F0 m 0 ls []) := by
  have wend : ∀ (H1 : Heap) (locs1 : List Loc) (cells slots pc : Nat) (ls1 : Array Slot), cells ≤ 1 → slots ≤ 6 → rH G (rZ X) r.2 H1 → va_S (rA G) s.heap H1 locs1 → decode mL_drop.2.1 pc = .ok (.ireturn, 1) → W p l e R s m args below meth c H1 locs1 cells slots (MQ below (rQc G (fun o S' v' => o = some (.int r.1) ∧ S' = rZ X ∧ v' = r.2)) args s 1 6 (rA G)) (F0 m pc ls1 [.int r.1]) := fun H1 locs1 cells slots pc ls1 h1 h2 hH1 hS1 hd =>
    W.widen h1 h2 (W.zret BB.1.1 BB.1.2.1 hret rfl (fun t ht hW1 => ⟨some (.int r.1), rZ X, r.2, ⟨rfl, rfl, rfl⟩, rfl, hK.moved hW1.alike, by rw [ht]; exact hH1, hS1.F ht⟩) hS1.2.2 hd hlocks)
  refine lv_aload_n BB.1.1 BB.1.2.1 zL_0 rfl (lget_ls hl (i := 3) rfl) ?_
  refine lv_iconst (v := (0 : Int32)) BB.1.1 BB.1.2.1 zL_1 (by decide) ?_
  refine lv_aload_n BB.1.1 BB.1.2.1 zL_2 rfl (lget_ls hl (i := 0) rfl) ?_
  refine lv_iload_n BB.1.1 BB.1.2.1 zL_3 rfl (lget_ls hl (i := 1) rfl) ?_
  refine lv_iload_n BB.1.1 BB.1.2.1 zL_4 rfl (lget_ls hl (i := 2) rfl) ?_
  by_cases hyes : f_X7_isDrop v a = true ∧ ¬ b < 0 ∧ ¬ (12 : Int32) ≤ b
  · rw [if_pos hyes] at h
    by_cases h4 : ¬ a < 0 ∧ a.toNatClampNeg < 12
    · rw [if_pos h4] at h
      have h5 : b.toNatClampNeg < 12 := (vlt_12 hyes.2.1 hyes.2.2)
      refine rawV (M := mL_drop) (M' := mX7_drop) (b := 0) (st := [.int 0, .ref 197]) (mc := 0) (ms := 0) [.int a, .int b] BB zL_5 wmL_7 imX7_drop seX7_drop lkX7_drop k0_0 rc7 (by decide) ((x_X7_drop (X := X) hyes.1 hyes.2.1 hyes.2.2 h4 h5).mono (by omega)) hl.1 hK hH va_S.rf (Nat.zero_le _) (Nat.zero_le _) (fun r1 S' v' H1 locs1 hp hK1 hH1 hS1 => ?_)
      obtain ⟨rfl, rfl, hv⟩ := hp
      obtain rfl : v = v' := hv.symm
      cases h
      refine lv_i2l (x := v.1 (38 + a.toNatClampNeg) b.toNatClampNeg) (rest := [.int 0, .ref (rad G 197)]) BB.1.1 BB.1.2.1 zL_8 rfl ?_
      refine va_last BB.1.1 BB.1.2.1 (rK_tys hK k0_197) hH1.1 (rH_D hH1) hS1 197 0 (rW_at k0_197) rfl (vin_of (j := 0) rfl (by decide) (by decide)) zL_9 (fun H2 locs2 hP2 hD2 hS2 => ?_)
      refine lv_goto (tgt := 17) BB.1.1 BB.1.2.1 zL_10 (by decide) ?_
      refine lv_iconst (v := (0 : Int32)) BB.1.1 BB.1.2.1 zL_17 (by decide) ?_
      refine wend H2 locs2 _ _ 18 ls (by omega) (by omega) ⟨?_, hH1.2.1, fun f => by cases f⟩ hS2 zL_18
      rw [← rW_set k0_197 (fun i kd h => rL_ne i kd h)]
      have e1 : (rL v 197 0 (v.1 (38 + a.toNatClampNeg) b.toNatClampNeg).toInt64).2.1 197 = vp_updL (v.2.1 197) 0 (v.1 (38 + a.toNatClampNeg) b.toNatClampNeg).toInt64 := by funext j; simp [rL, vp_updL]
      show va_P _ _ ((rW G (rZ X) v).set 197 (rad G 197, .inl (G.2.2.1 .long, 1, .inr (.inl ((rL v 197 0 (v.1 (38 + a.toNatClampNeg) b.toNatClampNeg).toInt64).2.1 197))))) H2
      rw [e1]
      exact hP2
    · rw [if_neg h4] at h
      cases h
  · rw [if_neg hyes] at h
    cases h
    refine rawT (mc := 1) (ms := 6) (free := rA G) (rest := [.int 0, .ref (rad G 197)]) (vx_runV (l := l) (bytes := mX7_drop.2.1) (maxL := mX7_drop.2.2.1) (ret := mX7_drop.2.2.2) (C := mX7_drop.1.cls) (b := rad G 0) (As := [.int a, .int b]) (n := 2) ⟨BB.1.1, BB.1.2.1, BB.1.2.2.1, BB.1.2.2.2.1, BB.1.2.2.2.2⟩ (drop_throws hlt hyes (d := d) (by omega)) (rcwV (M' := mX7_drop) BB wmL_7 imX7_drop seX7_drop lkX7_drop) ⟨rPx_blind G [.ref 0, .int a, .int b] (rZ X) v, rrecv hK hH k0_0 rc7, rpreX (av := [.ref 0, .int a, .int b]) BB hK hH va_S.rf hW⟩ rfl rfl hl.1 rfl (by show 2 * 0 + 2 ≤ 8; decide) zL_5 ⟨by omega, by omega⟩) ?_
    intro E ce q st₀ t L h0 ha hL hx hce hcv hcl
    obtain ⟨rfl, hK1, hH1, hz, hk⟩ := hx
    rw [h0] at hz hk
    have hS1 : va_S (rA G) s.heap t.heap ([] ++ L) := ⟨hz, fun q h1 h2 => hk q h1 h2, fun z hz => hL z (by simpa using hz)⟩
    refine vx_catch (own := RL) (name := "java/util/NoSuchElementException") BB.1.2.2.2.1 [] ⟨0, 10, 13, 13⟩ [] htab (fun z hz => by cases hz) (by decide) (by decide) (BB.1.2.2.2.2 _ wcL13) (va_Nw.use (bad_ot wcast) (hW.1 _ wcast)) hce hcv hcl ?_
    refine lv_astore BB.1.1 BB.1.2.1 zL_13 hl (by decide) rfl (fun ls1 hl1 => ?_)
    refine lv_iconst (v := (1 : Int32)) BB.1.1 BB.1.2.1 zL_15 (by decide) ?_
    exact wend t.heap _ _ _ 16 ls1 (by omega) (by omega) hH1 hS1 zL_16
end EDR3
theorem ldrop_met {l : Launch} {G : rG} {X : Nat × (Nat → Int32)} {v : rV} {a b : Int32} {r : Int32 × rV} (hlt : l.stackTraces = false)
    (h : (if f_X7_isDrop v a = true ∧ ¬ b < 0 ∧ ¬ 12 ≤ b then (if ¬ a < 0 ∧ a.toNatClampNeg < 12 then some (0, rL v 197 0 (v.1 (38 + a.toNatClampNeg) b.toNatClampNeg).toInt64) else none) else some ((1 : Int32), v)) = some r) {d : Nat} (hd : 9 ≤ d) : Met l yL_drop (Cond.codeWith yL_drop mL_drop.2.1 5 (some .int) [(0, 10, 13, 13)] :: rtbl) (rrm d 1 6) (rPx G [.ref 0, .int a, .int b, .ref 197] (rZ X) v) (rQc G (fun o S' v' => o = some (.int r.1) ∧ S' = rZ X ∧ v' = r.2)) 1 6 (rA G) := by
  obtain ⟨d', rfl⟩ : ∃ d', d = d' + 1 := ⟨d - 1, by omega⟩
  refine va_MetW (by decide +kernel) rfl ?_
  intro p e s m args below meth c s₁ B hml hv
  obtain ⟨rfl, ⟨⟨hB, hX, hT⟩, hN, hK, hH⟩, hW⟩ := hv
  have hts := atoms_spec (ws := Cond.codeWith yL_drop mL_drop.2.1 5 (some .int) [(0, 10, 13, 13)] :: rtbl) B.pre
  have hlocks := B.notSynchronized
  have htab := vx_table (x := yL_drop) B (hts _ List.mem_cons_self)
  rw [lg_entry_eq]
  have hl := lv_entry (([.ref 0, .int a, .int b, .ref 197] : List Value).map (rcv G)) (n := 5) (Nat.le_of_ble_eq_true rfl)
  rw [largs_map] at hl
  exact ldrop_walk (d := d') ⟨⟨B.exec, B.bytes, hml, findClass_of_methodNamed B.named, fun w hw => hts w (List.mem_cons_of_mem _ hw)⟩, hN, ⟨hB, hX, hT⟩, ⟨Nat.le_refl _, Nat.le_refl _⟩⟩ (by omega) (Nat.le_refl _) (Nat.le_refl _) hW hlt htab hlocks B.returns hK hH hl h
theorem e_dropX {M : rM} {d bc bs pc idx : Nat} {lv : List (Nat × Value)} {st : List Value} {v : rV} {Post : Option Value → rS → rV → Prop} {X : Nat × (Nat → Int32)} {a b : Int32} {r : Int32 × rV} (hm : M = mL_law) (hd : decode M.2.1 pc = .ok (.invokestatic idx, 3)) (hw : Cond.methodLink M.1.cls idx yL_drop ∈ rtbl) (hD : 14 ≤ d) (hsum : (st.map fun w => w.category).sum ≤ 8)
    (h : (if f_X7_isDrop v a = true ∧ ¬ b < 0 ∧ ¬ 12 ≤ b then (if ¬ a < 0 ∧ a.toNatClampNeg < 12 then some (0, rL v 197 0 (v.1 (38 + a.toNatClampNeg) b.toNatClampNeg).toInt64) else none) else some ((1 : Int32), v)) = some r) (hbc : 2 ≤ bc) (hbs : 16 ≤ bs)
    (kk : Ev M d (bc - 2) (bs - 16) (pc + 3) lv (.int r.1 :: st) (rZ X) r.2 Post) : Ev M d bc bs pc lv (.ref 197 :: .int b :: .int a :: .ref 0 :: st) (rZ X) v Post := fun G p l e R s m args below meth c Q C H locs cells slots ls hK hH hS hl hcc hs => by
  subst hm
  obtain ⟨d', rfl⟩ : ∃ d', d = d' + 1 := ⟨d - 1, by omega⟩
  obtain ⟨hf, hwords, hgv, hG1⟩ := C.2.2.2.2.2 rfl
  have hlt : l.stackTraces = false := by unfold Launch.stackTraces; rw [hf]; decide +kernel
  have hs0 := flat_of_before _ hgv
  have hA : ∀ a : Nat, a < s.heap.size → ¬ rA G a := fun a h => Nat.not_le.mpr (by rw [hG1]; exact h)
  have hW : rXW G s s.heap := ⟨fun w hw => va_Nw.of (bad_ot hw) (hwords w (rBad_tbl w hw)), vx_Zqof (hwords _ (by decide +kernel)) (hwords _ (by decide +kernel)) (hs0 _ (by decide +kernel)) hA, vx_Zqof (hwords _ (by decide +kernel)) (hwords _ (by decide +kernel)) (hs0 _ (by decide +kernel)) hA⟩
  have BB : rB mL_law (d' + 1) G (rZ X) p R s m args c := ⟨C.1, C.2.1.2, C.2.2.1, C.2.2.2.1⟩
  have cw : vx_CSW R s args mL_law.1.cls idx yL_drop mL_drop.2.1 5 (some .int) [(0, 10, 13, 13)] (Cond.codeWith yL_drop mL_drop.2.1 5 (some .int) [(0, 10, 13, 13)] :: rtbl) (rrm d' 1 6) 1 6 4 :=
    vx_cwSW (ws' := rtbl) 4 C.1.2.2.2.2 (fun w hw2 => by
      rcases List.mem_append.mp hw2 with h2 | h2
      · simp only [List.mem_cons, List.not_mem_nil, or_false] at h2
        rcases h2 with rfl | rfl | rfl
        · exact rgood hw
        · exact rgood wsL_drop0
        · exact rgood wiL_drop
      · rcases List.mem_cons.mp h2 with rfl | h3
        · exact rgood wkL_drop
        · exact rgood h3) rfl rfl rfl (by decide +kernel) (rroom (M' := mL_drop) C.2.2.2.1 (by decide))
  refine rcall (PostM := fun o S' v' => o = some (.int r.1) ∧ S' = rZ X ∧ v' = r.2) (mc := 1) (ms := 6) C hS hl hcc hs (by omega) (by omega) (vx_runSW (l := l) (As := ([.ref 0, .int a, .int b, .ref 197] : List Value).map (rcv G)) (n := 4) ⟨C.1.1, C.1.2.1, C.1.2.2.1, C.1.2.2.2.1, C.1.2.2.2.2⟩ (ldrop_met hlt h (d := d') (by omega)) cw ⟨rPx_blind G [.ref 0, .int a, .int b, .ref 197] (rZ X) v, rpreX (av := [.ref 0, .int a, .int b, .ref 197]) BB hK hH hS hW⟩ rfl rfl hl.1 rfl (by show 2 * 0 + _ ≤ 8; rw [rcv_sum]; omega) hd ⟨by omega, by omega⟩) (fun o S' v' hp => ?_)
  obtain ⟨rfl, rfl, rfl⟩ := hp
  exact ⟨rfl, e_less (by omega) (by omega) kk⟩
