/-! THE CLAIM OUT OF ONE WALK OF THE LAW'S BODY. Your part is whole_start (and what it stands on); all else here is the same for every law, but numbers. -/
def R_law : String := "RingDropLaw"
def lw_P (b : Addr) (xs : List Int32) (args : Array Value) (s : State) : Prop := args = #[.ref b] ∧ s.IntsAt b xs ∧ xs.length ≤ 5120 ∧ (Jvm.Cond.and given_1 narrow_1).before args s = true
def lw_Q (_ : Array Value) (s : State) (o : Outcome) (t : State) : Prop := o = .returned (some (.int 1)) ∧ Framed s o t [] 601024 7293034
def lw_Z (below : List Frame) (a : Array Value) (s : State) : State → Prop := fun t => ∃ o, t.status = .running ∧ Ended t below o ∧ lw_Q a s o t
/-- the law's own end, with 1 on the stack, nothing written that was there before, its room as the claim has it -/
theorem lw_ret {p : Program} {l : Launch} {e : Env} {s : State} {m : MethodId} {below : List Frame} {meth : Method} {c : Code} {b : Nat} (hx : p.tables.exec = Jvm.exec) (hb : c.code = code) (hr : meth.sig.returnType = ret) (hlocks : meth.locks = false) {pc : Nat} {H : Heap} {ls : Array Slot} (hdg : decode code pc = .ok (.ireturn, 1)) : W p l e room_1 s m #[Value.ref b] below meth c H [] 601024 7293034 (lw_Z below #[Value.ref b] s) (F0 m pc ls [.int 1]) := by
  intro T hT X
  obtain ⟨fs, hret, hrun, hended, hW, hframe⟩ := X.leave (v := some (.int 1)) (hlocks := hlocks) (fun h => by rw [hr] at h; cases h)
  have hmeth' : T.vm.method? m = some meth := X.method'
  refine ⟨T.setFrames fs, ?_, .returned (some (.int 1)), hrun, hended, rfl, ⟨_, rfl⟩, hW, hframe⟩
  jvm_step X.here [X.here.top, hx, hb, hdg, hmeth', hr, ret, narrow_b1]
  (try refine ⟨rfl, ?_⟩); (try refine ⟨rfl, ?_⟩)
  first | (intro acts; rw [hret _ acts rfl rfl rfl]) | rw [hret _ _ rfl rfl rfl]
  exact Steps.refl _
/-- what holds at the law's entry: the machine, the code, the tables' words (any of lw_tbl by 'hts w (by decide +kernel)'), the script of L ints xs at the cell b, what the Statement gives of the start (any of its parts by flat_of_before) -/
def lw_At (p : Program) (s : State) (m : MethodId) (meth : Method) (c : Code) (b L : Nat) (xs : Nat → Int32) : Prop :=
  p.tables.exec = Jvm.exec ∧ c.code = code ∧ meth.sig.returnType = ret ∧ c.maxLocals = 7 ∧ s.vm.findClass R_law = some m.cls ∧ (∀ w ∈ lw_tbl, w.before #[Value.ref b] s = true) ∧ va_X b L xs s s.heap ∧ b < s.heap.size ∧ meth.locks = false ∧ (Jvm.Cond.and given_1 narrow_1).before #[Value.ref b] s = true
/-! THE START: the law from its entry, by one pure fact -/
set_option maxRecDepth 100000 in
theorem law_ev {X : Nat × (Nat → Int32)} {vf : rV} (h : f_L_law_23 X 20000 vc_350 0 = some (true, vf)) : Ev mL_law 88 40198 334567 0 [(0, .ref 1000000)] [] (rP X 0) vc_0 (rPZ X (true, vf)) := by
  refine e_new (ci := 7) (n := 0) (S' := rP X 1) (v' := vc_1) (bc' := 40197) (bs' := 334550) dL_law_0 rc7 wk_133 wk_134 wk_113 (by decide) rfl rfl (lP (by decide +kernel)) (by decide) rfl rfl (sP (by decide +kernel)) rfl ?_
  refine e_dup dL_law_3 rfl ?_
  refine e_callI (M' := mX7_init) [] rfl rfl dL_law_4 rfl wmL_15 imX7_init lkX7_init (Nat.le_of_ble_eq_true rfl) (nX7_init_1.mono (by decide)) (by decide) (by decide) (fun r S' v' hp => ?_)
  obtain ⟨rfl, rfl, rfl⟩ := hp
  refine ⟨rfl, ?_⟩
  refine e_astore_n (lv' := [(1, .ref 0), (0, .ref 1000000)]) dL_law_7 (by decide) rfl ?_
  refine e_new (ci := 8) (n := 174) (S' := rP X 175) (v' := vc_304) (bc' := 40023) (bs' := 330508) dL_law_8 rc8 wk_1122 wk_1123 wk_122 (by decide) rfl rfl (lP (by decide +kernel)) (by decide) rfl rfl (sP (by decide +kernel)) rfl ?_
  refine e_dup dL_law_11 rfl ?_
  refine e_callI (M' := mX8_init) [] rfl rfl dL_law_12 rfl wmL_18 imX8_init lkX8_init (Nat.le_of_ble_eq_true rfl) (nX8_init_175.mono (by decide)) (by decide) (by decide) (fun r S' v' hp => ?_)
  obtain ⟨rfl, rfl, rfl⟩ := hp
  refine ⟨rfl, ?_⟩
  refine e_astore_n (lv' := [(2, .ref 174), (1, .ref 0), (0, .ref 1000000)]) dL_law_15 (by decide) rfl ?_
  refine e_iconst (x := (1 : Int32)) dL_law_16 (by decide) ?_
  refine e_newa (N := 1) (ty := .long) (n := 197) (S' := rP X 198) (v' := vc_350) (bc' := 40000) (bs' := 320000) rfl (Or.inr rfl) dL_law_17 wk_1753 rfl rfl (lP (by decide +kernel)) (by decide) (by decide) (by decide) (Nat.le_of_ble_eq_true rfl) rfl rfl (sP (by decide +kernel)) rfl ?_
  refine e_astore_n (lv' := [(3, .ref 197), (2, .ref 174), (1, .ref 0), (0, .ref 1000000)]) dL_law_19 (by decide) rfl ?_
  refine e_iconst (x := (0 : Int32)) dL_law_20 (by decide) ?_
  refine e_istore (lv' := [(4, .int (0 : Int32)), (3, .ref 197), (2, .ref 174), (1, .ref 0), (0, .ref 1000000)]) dL_law_21 (by decide) rfl ?_
  refine e_phase ?_
  refine e_sub [4, 3, 2, 1, 0] rfl ?_
  exact b_L_law_23 20000 _ _ h
abbrev gN : Cond := Jvm.Cond.and given_1 narrow_1
theorem lw_w {args : Array Value} {s : State} (hts : ∀ w ∈ lw_tbl, w.before args s = true) (i : Nat) {w : Cond} (h : lw_tbl[i]? = some w) : w.before args s = true := hts w (List.mem_of_getElem? h)
theorem tab1 {nm : String} {i : Nat} {args : Array Value} {s : State} {A : Nat → Prop} (hA : ∀ a : Nat, a < s.heap.size → ¬ A a) (hs : ∀ c ∈ flatC gN, c.before args s = true) (hl : (Cond.laysStatic "RingDrop" nm "[I").before args s = true) (hini : (Cond.initialized "RingDrop").before args s = true)
    (harr : Cond.arrayOf (.static "RingDrop" nm "[I") .int ∈ flatC gN) (hlen : Cond.eq (.length (.static "RingDrop" nm "[I")) (.int 12) ∈ flatC gN) (hel : ∀ j, j < 12 → Cond.eq (.elem (.static "RingDrop" nm "[I") (.int (Int32.ofNat j))) (.int ((rtb.getD i []).getD j 0)) ∈ flatC gN) :
    ∃ t : Nat, va_Z "RingDrop" nm "[I" (.ref t) A s s.heap ∧ va_T .int t 12 (fun j => .int ((rtb.getD i []).getD j 0)) A s s.heap := by
  obtain ⟨t, h1, h2⟩ := va_Tof (N := 12) (f := fun j => .int ((rtb.getD i []).getD j 0)) (A := A) (by decide) (hs _ harr) (va_eqt (hs _ hlen)) (fun j hj => va_eqt (hs _ (hel j hj))) hA
  exact ⟨t, va_Zof hl hini h1 hA, h2⟩
def tmS (i : Nat) : Term := match i with
  | 0 => .string "RingDrop$FormulaReade\x72" 18
  | 1 => .string "RingDrop$FormulaReade\x72" 48
  | _ => .string "RingDrop$DropReade\x72" 52
set_option maxRecDepth 100000 in
theorem strS {args : Array Value} {s : State} {A : Nat → Prop} (hA : ∀ a : Nat, a < s.heap.size → ¬ A a) (hs : ∀ c ∈ flatC gN, c.before args s = true) : ∃ adK adV : Nat → Nat, vk_S 3 rlen rbyt adK adV A s s.heap ∧ ∀ i : Nat, i < 3 → (tmS i).eval args s none [] s = some (.ref (adK i)) := by
  refine vk_Sof (N := 3) (tm := tmS) (len := rlen) (byt := rbyt) (by decide) ?_ ?_ ?_ ?_ ?_ ?_ hA
  · exact fun i hi => hs _ ((by decide +kernel : ∀ i, i < 3 → Cond.exactly (tmS i) "java/lang/String" ∈ flatC gN) i hi)
  · exact fun i hi => hs _ ((by decide +kernel : ∀ i, i < 3 → Cond.eq (.field (tmS i) "java/lang/String" "code\x72" "B") (.int 0) ∈ flatC gN) i hi)
  · exact fun i hi => hs _ ((by decide +kernel : ∀ i, i < 3 → Cond.arrayOf (.field (tmS i) "java/lang/String" "value" "[B") .byte ∈ flatC gN) i hi)
  · exact fun i hi => hs _ ((by decide +kernel : ∀ i, i < 3 → Cond.eq (.length (.field (tmS i) "java/lang/String" "value" "[B")) (.int (Int32.ofNat (rlen.getD i 0))) ∈ flatC gN) i hi)
  · exact fun i hi j hj => hs _ ((by decide +kernel : ∀ i, i < 3 → ∀ j, j < rlen.getD i 0 → Cond.eq (.elem (.field (tmS i) "java/lang/String" "value" "[B") (.int (Int32.ofNat j))) (.int ((rbyt.getD i []).getD j 0)) ∈ flatC gN) i hi j hj)
  · exact fun i j hi hj hne => ((by decide +kernel : ∀ i, i < 3 → ∀ j, j < 3 → i ≠ j → (Cond.not (Cond.eq (tmS i) (tmS j)) ∈ flatC gN ∨ Cond.not (Cond.eq (tmS j) (tmS i)) ∈ flatC gN)) i hi j hj hne).imp (hs _) (hs _)
theorem same_ref {args : Array Value} {s : State} {a b : Term} {q : Value} (h : (Cond.eq a b).before args s = true) (ha : a.eval args s none [] s = some q) : b.eval args s none [] s = some q := by
  obtain ⟨y, h1, h2⟩ := Cond.eq_one (show (Cond.eq a b).holds args s none s [] = true from h)
  rw [h1] at ha
  cases ha
  exact h2
theorem startK {args : Array Value} {s : State} (hts : ∀ w ∈ lw_tbl, w.before args s = true) : ∃ (dC : Nat → ClassId) (dI : Nat → Nat → Nat), ∀ (k : Nat) (q : vw_C), vwCl[k]? = some q → u_Kn s q.1 q.2.1 q.2.2 (dC k) (dI k) := by
  obtain ⟨c0, i0, hk0⟩ := u_known (C := RX0) (T := TX0) (N := 5) (n := 5) hts inX0 (lw_w hts 256 (by decide +kernel))
  obtain ⟨c1, i1, hk1⟩ := u_known (C := RX1) (T := TX1) (N := 4) (n := 4) hts inX1 (lw_w hts 198 (by decide +kernel))
  obtain ⟨c2, i2, hk2⟩ := u_known (C := RX2) (T := TX2) (N := 3) (n := 3) hts inX2 (lw_w hts 165 (by decide +kernel))
  obtain ⟨c3, i3, hk3⟩ := u_known (C := RX3) (T := TX3) (N := 4) (n := 4) hts inX3 (lw_w hts 159 (by decide +kernel))
  obtain ⟨c4, i4, hk4⟩ := u_known (C := RX4) (T := TX4) (N := 2) (n := 2) hts inX4 (lw_w hts 218 (by decide +kernel))
  obtain ⟨c5, i5, hk5⟩ := u_known (C := RX5) (T := TX5) (N := 20) (n := 20) hts inX5 (lw_w hts 237 (by decide +kernel))
  obtain ⟨c6, i6, hk6⟩ := u_known (C := RX6) (T := TX6) (N := 2) (n := 2) hts inX6 (lw_w hts 142 (by decide +kernel))
  obtain ⟨c7, i7, hk7⟩ := u_known (C := RX7) (T := TX7) (N := 17) (n := 17) hts inX7 (lw_w hts 134 (by decide +kernel))
  obtain ⟨c8, i8, hk8⟩ := u_known (C := RX8) (T := TX8) (N := 44) (n := 44) hts inX8 (lw_w hts 1123 (by decide +kernel))
  refine ⟨fun k => match k with | 0 => c0 | 1 => c1 | 2 => c2 | 3 => c3 | 4 => c4 | 5 => c5 | 6 => c6 | 7 => c7 | _ => c8, fun k => match k with | 0 => i0 | 1 => i1 | 2 => i2 | 3 => i3 | 4 => i4 | 5 => i5 | 6 => i6 | 7 => i7 | _ => i8, ?_⟩
  intro k q hq
  match k, hq with
  | 0, hq => cases hq; exact hk0
  | 1, hq => cases hq; exact hk1
  | 2, hq => cases hq; exact hk2
  | 3, hq => cases hq; exact hk3
  | 4, hq => cases hq; exact hk4
  | 5, hq => cases hq; exact hk5
  | 6, hq => cases hq; exact hk6
  | 7, hq => cases hq; exact hk7
  | 8, hq => cases hq; exact hk8
  | k + 9, hq => simp [vwCl] at hq
def xadr (b : Nat) (k v t : Nat → Nat) : Nat → Nat := fun n => if n = 1000000 then b else if n < 1000020 then k (n - 1000010) else if n < 1000030 then v (n - 1000020) else t (n - 1000030)
theorem rad_x {B : Nat} {D : va_G} {ty : FieldType → ClassId} {xa : Nat → Nat} {n : Nat} (h : ¬ n < 1000000) : rad (B, D, ty, xa) n = xa n := if_neg h
set_option maxRecDepth 100000 in
set_option maxHeartbeats 4000000 in
/-- the law from its entry, if the pure fact holds -/
theorem start_of {p : Program} {e : Env} {s : State} {m : MethodId} {below : List Frame} {meth : Method} {c : Code} (l : Launch) (hflags : l.flags = flags0) {b L : Nat} {xs : Nat → Int32} (C0 : lw_At p s m meth c b L xs) (hnm : meth.name = "law") {vf : rV} (hf : f_L_law_23 (L, xs) 20000 vc_350 0 = some (true, vf)) : W p l e room_1 s m #[Value.ref b] below meth c s.heap [] 0 0 (lw_Z below #[Value.ref b] s) (entryFrame m ([Value.ref b] : List Value).toArray 7) := by
  obtain ⟨hx, hb, hr, hml, hown, hts, hX, hbl, hlocks, hgv⟩ := id C0
  have hs := flat_of_before _ hgv
  obtain ⟨dC, dI, hKc⟩ := startK hts
  have hA : ∀ a : Nat, a < s.heap.size → ¬ (fun q : Nat => s.heap.size ≤ q) a := fun a h => Nat.not_le.mpr h
  have hini : (Cond.initialized "RingDrop").before #[Value.ref b] s = true := lw_w hts 113 (by decide +kernel)
  obtain ⟨t0, z0, T0⟩ := tab1 (nm := "LOWEST") (i := 0) hA hs (lw_w hts 595 (by decide +kernel)) hini (by decide +kernel) (by decide +kernel) (by decide +kernel)
  obtain ⟨t1, z1, T1⟩ := tab1 (nm := "HIGHEST") (i := 1) hA hs (lw_w hts 597 (by decide +kernel)) hini (by decide +kernel) (by decide +kernel) (by decide +kernel)
  obtain ⟨t2, z2, T2⟩ := tab1 (nm := "WITHOUT") (i := 2) hA hs (lw_w hts 572 (by decide +kernel)) hini (by decide +kernel) (by decide +kernel) (by decide +kernel)
  have zC : va_Z "java/lang/String" "COMPACT_STRINGS" "Z" (.int 1) (fun q : Nat => s.heap.size ≤ q) s s.heap := va_Zof (lw_w hts 252 (by decide +kernel)) (lw_w hts 120 (by decide +kernel)) (va_eqt (hs _ (by decide +kernel))) hA
  obtain ⟨adK, adV, hSt, hev⟩ := strS hA hs
  let G : rG := (s.heap.size, (dC, dI), fun ty => (s.vm.findClass ("[" ++ ty.toString)).getD (dC 0), xadr b adK adV (fun i => match i with | 0 => t0 | 1 => t1 | _ => t2))
  have hK : rK G (rP (L, xs) 0) s := ⟨⟨hKc, fun k q h => by simp at h⟩, fun k n ty h => by simp [rP] at h⟩
  have hH : rH G (rP (L, xs) 0) vc_0 s.heap := ⟨fun k q h => by simp [rW, rP] at h, by simp [rP], fun _ => by simp [G, rP]⟩
  have hev0 : (Term.string "RingDrop$FormulaReade\x72" 18).eval #[Value.ref b] s none [] s = some (.ref (adK 0)) := hev 0 (by decide)
  have hev1 : (Term.string "RingDrop$FormulaReade\x72" 48).eval #[Value.ref b] s none [] s = some (.ref (adK 1)) := hev 1 (by decide)
  have hev2 : (Term.string "RingDrop$DropReade\x72" 52).eval #[Value.ref b] s none [] s = some (.ref (adK 2)) := hev 2 (by decide)
  have hXX : rX G (rP (L, xs) 0) s s.heap := by
    refine ⟨hX, hbl, ?_, ⟨vk_R.of (lw_w hts 181 (by decide +kernel)) hev0, vk_R.of (lw_w hts 242 (by decide +kernel)) (same_ref (hs _ (by decide +kernel)) hev0), vk_R.of (lw_w hts 566 (by decide +kernel)) hev1, vk_R.of (lw_w hts 894 (by decide +kernel)) (same_ref (hs _ (by decide +kernel)) hev1), vk_R.of (lw_w hts 585 (by decide +kernel)) hev2⟩, ?_, z0, z1, z2, zC⟩
    · refine ⟨fun i hi => ?_, fun i j hi hj h => ?_⟩
      · have e1 : rad G (1000010 + i) = adK i := by
          rw [rad_x (by omega)]
          simp only [xadr]
          rw [if_neg (by omega), if_pos (by omega), Nat.add_sub_cancel_left]
        have e2 : rad G (1000020 + i) = adV i := by
          rw [rad_x (by omega)]
          simp only [xadr]
          rw [if_neg (by omega), if_neg (by omega), if_pos (by omega), Nat.add_sub_cancel_left]
        show va_O _ (rad G (1000010 + i)) _ _ _ ∧ va_OF _ _ _ _ (rad G (1000010 + i)) _ _ _ ∧ va_OF _ _ _ (.ref (rad G (1000020 + i))) (rad G (1000010 + i)) _ _ _ ∧ va_T _ (rad G (1000020 + i)) _ _ _ _ _
        rw [e1, e2]
        exact hSt.1 i hi
      · have e : ∀ i, i < 3 → rad G (1000010 + i) = adK i := fun i hi => by
          rw [rad_x (by omega)]
          simp only [xadr]
          rw [if_neg (by omega), if_pos (by omega), Nat.add_sub_cancel_left]
        have h' : rad G (1000010 + i) = rad G (1000010 + j) := h
        rw [e i hi, e j hj] at h'
        exact hSt.2 i j hi hj h'
    · intro i hi
      rcases (by omega : i = 0 ∨ i = 1 ∨ i = 2) with rfl | rfl | rfl
      · exact T0
      · exact T1
      · exact T2
  have hN : rNx s := by
    refine ⟨fun w hw hn => ?_, va_AO.of (lw_w hts 224 (w := .arrayOver (.object "RingDrop$Formula")) (by decide +kernel)), va_AO.of (lw_w hts 255 (w := .arrayOver (.object "RingDrop$Body")) (by decide +kernel)), lw_w hts 235 (w := .arrayOver (.array .int)) (by decide +kernel)⟩
    have h1 := hts w hw
    cases w <;> first | (simp [rNst] at hn; done) | exact va_Nw.of rfl h1
  have hTC : rTC G s := fun ty c hc => by simp [G, hc]
  have hl := lv_entry ([.ref b]) (n := 7) (Nat.le_of_ble_eq_true rfl)
  rw [lg_entry_eq]
  have hl2 : lv_has ((lg_sl ([.ref b]) ++ List.replicate (7 - (lg_sl ([.ref b])).length) Slot.unset).toArray) 7 (([(0, .ref 1000000)] : List (Nat × Value)).map fun q => (q.1, rcv G q.2)) := hl
  refine law_ev hf G p l e room_1 s m #[Value.ref b] below meth c _ ⟨⟨hx, hb, hml, hown, fun w hw => hts w (List.mem_filter.mp hw).1⟩, ⟨hnm, hN⟩, ⟨Nat.le_refl _, hXX, hTC⟩, ⟨by decide, by decide⟩, ?_, fun _ => ⟨hflags, hts, hgv, rfl⟩⟩ s.heap [] 0 0 _ hK hH va_S.rf hl2 (by decide) (by decide)
  intro S' v' r H locs cells slots pc i ls hp hK' hH' hS' hc hsl hr' hd
  obtain ⟨rfl, -, -⟩ := hp
  obtain ⟨rfl, -⟩ := hr'
  refine va_forget (fun q hq => hS'.2.2 q hq) ?_
  refine W.widen (k := 601024) (n := 7293034) hc hsl ?_
  exact lw_ret hx hb hr hlocks hd
