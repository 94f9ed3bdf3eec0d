/-! THE HEAP AS NUMBERED CELLS: kind and static references of each (they stay), ints, longs and moving references of each by place. A reference is a number; its address is rad. -/
abbrev rKd : Type := (Nat × FieldType) ⊕ Nat
abbrev rV : Type := (Nat → Nat → Int32) × (Nat → Nat → Int64) × (Nat → Nat → Option Nat)
/-- kinds, static references, whether cells are still made, the script's length and ints -/
abbrev rS : Type := List rKd × (Nat → Nat → Option Nat) × Bool × Nat × (Nat → Int32)
/-- the first address, the tables' numbers, the classes of the arrays, the addresses outside -/
abbrev rG : Type := Nat × va_G × (FieldType → ClassId) × (Nat → Nat)
/-- a method: its name, bytes, locals, answer -/
abbrev rM : Type := MethodName × ByteArray × Nat × Option FieldType
def rad (G : rG) (k : Nat) : Nat := if k < 1000000 then G.1 + k else G.2.2.2 k
def rcv (G : rG) : Value → Value
  | .ref k => .ref (rad G k)
  | .int x => .int x
  | .long x => .long x
  | v => v
def rtab (ci : Nat) : Nat → FieldType := match ci with
  | 0 => tyX0
  | 1 => tyX1
  | 2 => tyX2
  | 3 => tyX3
  | 4 => tyX4
  | 5 => tyX5
  | 6 => tyX6
  | 7 => tyX7
  | _ => tyX8
def rRef (S : Nat → Nat → Option Nat) (v : rV) (k j : Nat) : Option Nat := match S k j with
  | some r => some r
  | none => v.2.2 k j
def rVal (ty : FieldType) (S : Nat → Nat → Option Nat) (v : rV) (k j : Nat) : Value := match ty with
  | .long => .long (v.2.1 k j)
  | .object _ => va_rf (rRef S v k j)
  | .array _ => va_rf (rRef S v k j)
  | _ => .int (v.1 k j)
def rN (ci : Nat) : Nat := ((vwCl[ci]?).map fun q => q.2.2).getD 0
def rFs (G : rG) (S : Nat → Nat → Option Nat) (v : rV) (k ci : Nat) : List Value := (List.range (rN ci)).map fun j => rcv G (rVal (rtab ci j) S v k j)
def rE (G : rG) (S : Nat → Nat → Option Nat) (v : rV) (k : Nat) (kd : rKd) : va_E := match kd with
  | .inr ci => .inr (ci, rFs G S v k ci)
  | .inl (n, .int) => .inl (G.2.2.1 .int, n, .inl (v.1 k))
  | .inl (n, .long) => .inl (G.2.2.1 .long, n, .inr (.inl (v.2.1 k)))
  | .inl (n, ty) => .inl (G.2.2.1 ty, n, .inr (.inr (.inr (.inr fun j => (rRef S v k j).map (rad G)))))
def rW (G : rG) (S : rS) (v : rV) : va_W := S.1.mapIdx fun k kd => (rad G k, rE G S.2.1 v k kd)
/-- the cells of a method's world lie here -/
def rA (G : rG) : Nat → Prop := fun q => G.1 ≤ q
def rlen : List Nat := [7, 6, 12]
def rbyt : List (List Int32) := [[105, 119, 103, 116, 109, 97, 107], [101, 114, 118, 110, 104, 116], [120, 107, 119, 103, 108, 109, 97, 112, 99, 101, 106, 115]]
def rtb : List (List Int32) := [[0, 2, 1, 0, 0, 0, 0, 0, 1, 0, 1, 0], [23, 24, 999, 999, 999, 99, 99, 100, 99, 99, 9, 9], [0, 8, 300, 0, 0, 0, 0, 0, 5, 0, 1, 0]]
/-- what lies outside: the script, the texts, the tables -/
def rX (G : rG) (S : rS) (s : State) (H : Heap) : Prop :=
  va_X (rad G 1000000) S.2.2.2.1 S.2.2.2.2 s H ∧ rad G 1000000 < G.1 ∧
  vk_S 3 rlen rbyt (fun i => rad G (1000010 + i)) (fun i => rad G (1000020 + i)) (rA G) s H ∧
  (vk_R "RingDrop$FormulaReade\x72" 18 "iwgtmak" (rad G 1000010) s ∧ vk_R "RingDrop$Strip" 18 "iwgtmak" (rad G 1000010) s ∧ vk_R "RingDrop$FormulaReade\x72" 48 "ervnht" (rad G 1000011) s ∧ vk_R "RingDrop$Strip" 203 "ervnht" (rad G 1000011) s ∧ vk_R "RingDrop$DropReade\x72" 52 "xkwglmapcejs" (rad G 1000012) s) ∧
  (∀ i : Nat, i < 3 → va_T .int (rad G (1000030 + i)) 12 (fun j => .int ((rtb.getD i []).getD j 0)) (rA G) s H) ∧
  (va_Z "RingDrop" "LOWEST" "[I" (.ref (rad G 1000030)) (rA G) s H ∧ va_Z "RingDrop" "HIGHEST" "[I" (.ref (rad G 1000031)) (rA G) s H ∧ va_Z "RingDrop" "WITHOUT" "[I" (.ref (rad G 1000032)) (rA G) s H ∧ va_Z "java/lang/String" "COMPACT_STRINGS" "Z" (.int 1) (rA G) s H)
/-- the tables' words that go with a call -/
def rtbl : List Cond := lw_tbl.filter goodWord
def rNst : Cond → Bool
  | .methodLinkNest .. => true
  | .fieldLinkNest .. => true
  | _ => false
/-- the words that go with it by rows of their own -/
def rNx (s : State) : Prop := (∀ w ∈ lw_tbl, rNst w = true → va_Nw w s) ∧ va_AO "RingDrop$Formula" s ∧ va_AO "RingDrop$Body" s ∧ (Cond.arrayOver (.array .int)).before #[] s = true
/-- what the tables say of the classes of arrays and objects -/
def rK (G : rG) (S : rS) (s : State) : Prop := va_K G.2.1 vwCl [] s ∧ (∀ (k n : Nat) (ty : FieldType), S.1[k]? = some (.inl (n, ty)) → ArrOfT s (G.2.2.1 ty) ty ∧ va_RA s (G.2.2.1 ty) ty)
def rH (G : rG) (S : rS) (v : rV) (H : Heap) : Prop := va_P G.2.1 vwCl (rW G S v) H ∧ S.1.length ≤ 1000000 ∧ (S.2.2.1 = true → H.size = G.1 + S.1.length)
def rTC (G : rG) (s : State) : Prop := ∀ (ty : FieldType) (c : ClassId), s.vm.findClass ("[" ++ ty.toString) = some c → c = G.2.2.1 ty
/-- a method's answer, as its descriptor wants it -/
def rRet (r : Option FieldType) (i : Instr) (v : Option Value) : Prop := match v with
  | none => r = none ∧ i = .return_
  | some (.int x) => i = .ireturn ∧ ∃ ty, r = some ty ∧ narrow ty (.int x) = .int x
  | some (.long x) => i = .lreturn ∧ r = some .long
  | some (.ref x) => i = .areturn ∧ ∃ C, r = some (.object C)
  | _ => False
def rst (G : rG) (v : Option Value) : List Value := match v with
  | none => []
  | some v => [rcv G v]
/-- what the law's own body knows besides: the launch's flags, all words, the premises -/
def rTh (M : rM) (G : rG) (l : Launch) (args : Array Value) (s : State) : Prop := M.1.cls = "RingDropLaw" → l.flags = flags0 ∧ (∀ w ∈ lw_tbl, w.before args s = true) ∧ (Jvm.Cond.and given_1 narrow_1).before args s = true ∧ G.1 = s.heap.size
/-- the place of a method's body -/
def rC (M : rM) (d : Nat) (S : rS) (Post : Option Value → rS → rV → Prop) (G : rG) (p : Program) (l : Launch) (e : Env) (R : Room) (s : State) (m : MethodId) (args : Array Value) (below : List Frame) (meth : Method) (c : Code) (Q : State → Prop) : Prop :=
  (p.tables.exec = Jvm.exec ∧ c.code = M.2.1 ∧ c.maxLocals = M.2.2.1 ∧ s.vm.findClass M.1.cls = some m.cls ∧ (∀ w ∈ rtbl, w.before args s = true)) ∧ (meth.name = M.1.name ∧ rNx s) ∧
  (G.1 ≤ s.heap.size ∧ rX G S s s.heap ∧ rTC G s) ∧ (d ≤ R.frames ∧ 64 * d + 64 ≤ R.locals) ∧
  (∀ (S' : rS) (v' : rV) (r : Option Value) (H : Heap) (locs : List Loc) (cells slots pc : Nat) (i : Instr) (ls : Array Slot), Post r S' v' → rK G S' s → rH G S' v' H → va_S (rA G) s.heap H locs → cells ≤ R.cells → slots ≤ R.slots → rRet M.2.2.2 i r → decode M.2.1 pc = .ok (i, 1) → W p l e R s m args below meth c H locs cells slots Q (F0 m pc ls (rst G r))) ∧ rTh M G l args s
/-- from here the body comes to its end, and Post holds there; bc cells of bs places may still be made -/
def Ev (M : rM) (d bc bs pc : Nat) (lv : List (Nat × Value)) (st : List Value) (S : rS) (v : rV) (Post : Option Value → rS → rV → Prop) : Prop :=
  ∀ (G : rG) (p : Program) (l : Launch) (e : Env) (R : Room) (s : State) (m : MethodId) (args : Array Value) (below : List Frame) (meth : Method) (c : Code) (Q : State → Prop), rC M d S Post G p l e R s m args below meth c Q →
  ∀ (H : Heap) (locs : List Loc) (cells slots : Nat) (ls : Array Slot), rK G S s → rH G S v H → va_S (rA G) s.heap H locs → lv_has ls M.2.2.1 (lv.map fun q => (q.1, rcv G q.2)) → cells + bc ≤ R.cells → slots + bs ≤ R.slots →
  W p l e R s m args below meth c H locs cells slots Q (F0 m pc ls (st.map (rcv G)))
theorem rcv_cat (G : rG) (v : Value) : (rcv G v).category = v.category := by cases v <;> rfl
theorem rad_lt {G : rG} {k : Nat} (h : k < 1000000) : rad G k = G.1 + k := if_pos h
theorem rW_len (G : rG) (S : rS) (v : rV) : (rW G S v).length = S.1.length := by simp [rW]
theorem rW_at {G : rG} {S : rS} {v : rV} {k : Nat} {kd : rKd} (h : S.1[k]? = some kd) : (rW G S v)[k]? = some (rad G k, rE G S.2.1 v k kd) := by
  simp [rW, List.getElem?_mapIdx, h]
theorem rW_inv {G : rG} {S : rS} {v : rV} {k : Nat} {q : Nat × va_E} (h : (rW G S v)[k]? = some q) : k < S.1.length ∧ q.1 = rad G k := by
  simp only [rW, List.getElem?_mapIdx, Option.map_eq_some_iff] at h
  obtain ⟨kd, h1, h2⟩ := h
  exact ⟨(List.getElem?_eq_some_iff.mp h1).1, by rw [← h2]⟩
theorem rH_D {G : rG} {S : rS} {v : rV} {H : Heap} (h : rH G S v H) : va_D (rA G) (rW G S v) := by
  refine ⟨fun i j p q hi hj hpq => ?_, fun k q hk => ?_⟩
  · obtain ⟨a1, a2⟩ := rW_inv hi
    obtain ⟨b1, b2⟩ := rW_inv hj
    have hl := h.2.1
    rw [a2, b2, rad_lt (by omega), rad_lt (by omega)] at hpq
    omega
  · obtain ⟨a1, a2⟩ := rW_inv hk
    have hl := h.2.1
    show G.1 ≤ q.1
    rw [a2, rad_lt (by omega)]
    omega
theorem rK_tys {G : rG} {S : rS} {s : State} {k n : Nat} {ty : FieldType} (h : rK G S s) (hk : S.1[k]? = some (.inl (n, ty))) : va_K G.2.1 vwCl [(G.2.2.1 ty, ty)] s := by
  refine ⟨h.1.1, fun i q hi => ?_⟩
  match i, hi with
  | 0, hi => cases hi; exact h.2 k n ty hk
  | i + 1, hi => simp at hi
def rI (v : rV) (k j : Nat) (x : Int32) : rV := (fun a b => if a = k ∧ b = j then x else v.1 a b, v.2.1, v.2.2)
def rL (v : rV) (k j : Nat) (x : Int64) : rV := (v.1, fun a b => if a = k ∧ b = j then x else v.2.1 a b, v.2.2)
def rR (v : rV) (k j : Nat) (x : Option Nat) : rV := (v.1, v.2.1, fun a b => if a = k ∧ b = j then x else v.2.2 a b)
/-- a world where one cell alone has changed -/
theorem rW_set {G : rG} {S : rS} {v v' : rV} {k : Nat} {kd : rKd} (hk : S.1[k]? = some kd) (hne : ∀ (i : Nat) (kd : rKd), i ≠ k → rE G S.2.1 v' i kd = rE G S.2.1 v i kd) : (rW G S v).set k (rad G k, rE G S.2.1 v' k kd) = rW G S v' := by
  apply List.ext_getElem?
  intro i
  rw [List.getElem?_set]
  have hl := (List.getElem?_eq_some_iff.mp hk).1
  by_cases hik : k = i
  · subst hik
    rw [if_pos rfl, if_pos (by rw [rW_len]; exact hl), rW_at hk]
  · rw [if_neg hik]
    simp only [rW, List.getElem?_mapIdx]
    cases hi : S.1[i]? with
    | none => rfl
    | some kd' => simp [hne i kd' (Ne.symm hik)]
theorem rVal_I {ty : FieldType} {S : Nat → Nat → Option Nat} {v : rV} {k j : Nat} {x : Int32} {a b : Nat} (h : ¬ (a = k ∧ b = j)) : rVal ty S (rI v k j x) a b = rVal ty S v a b := by
  cases ty <;> simp [rVal, rI, rRef, h]
theorem rVal_L {ty : FieldType} {S : Nat → Nat → Option Nat} {v : rV} {k j : Nat} {x : Int64} {a b : Nat} (h : ¬ (a = k ∧ b = j)) : rVal ty S (rL v k j x) a b = rVal ty S v a b := by
  cases ty <;> simp [rVal, rL, rRef, h]
theorem rVal_R {ty : FieldType} {S : Nat → Nat → Option Nat} {v : rV} {k j : Nat} {x : Option Nat} {a b : Nat} (h : ¬ (a = k ∧ b = j)) : rVal ty S (rR v k j x) a b = rVal ty S v a b := by
  cases ty <;> simp [rVal, rR, rRef, h]
theorem rE_ne {G : rG} {S : Nat → Nat → Option Nat} {v v' : rV} {i : Nat} {kd : rKd} (h1 : ∀ j, v'.1 i j = v.1 i j) (h2 : ∀ j, v'.2.1 i j = v.2.1 i j) (h3 : ∀ j, v'.2.2 i j = v.2.2 i j) : rE G S v' i kd = rE G S v i kd := by
  have e1 : v'.1 i = v.1 i := funext h1
  have e2 : v'.2.1 i = v.2.1 i := funext h2
  have e3 : v'.2.2 i = v.2.2 i := funext h3
  have ev : ∀ (ty : FieldType) (j : Nat), rVal ty S v' i j = rVal ty S v i j := fun ty j => by cases ty <;> simp [rVal, rRef, e1, e2, e3]
  rcases kd with ⟨n, ty⟩ | ci
  · cases ty <;> simp [rE, e1, e2, e3, rRef]
  · simp [rE, rFs, ev]
theorem rI_ne {G : rG} {S : Nat → Nat → Option Nat} {v : rV} {k j : Nat} {x : Int32} (i : Nat) (kd : rKd) (h : i ≠ k) : rE G S (rI v k j x) i kd = rE G S v i kd := rE_ne (fun b => by simp [rI, h]) (fun _ => rfl) (fun _ => rfl)
theorem rL_ne {G : rG} {S : Nat → Nat → Option Nat} {v : rV} {k j : Nat} {x : Int64} (i : Nat) (kd : rKd) (h : i ≠ k) : rE G S (rL v k j x) i kd = rE G S v i kd := rE_ne (fun _ => rfl) (fun b => by simp [rL, h]) (fun _ => rfl)
theorem rR_ne {G : rG} {S : Nat → Nat → Option Nat} {v : rV} {k j : Nat} {x : Option Nat} (i : Nat) (kd : rKd) (h : i ≠ k) : rE G S (rR v k j x) i kd = rE G S v i kd := rE_ne (fun _ => rfl) (fun _ => rfl) (fun b => by simp [rR, h])
theorem rFs_len (G : rG) (S : Nat → Nat → Option Nat) (v : rV) (k ci : Nat) : (rFs G S v k ci).length = rN ci := by simp [rFs]
theorem rFs_at {G : rG} {S : Nat → Nat → Option Nat} {v : rV} {k ci j : Nat} (h : j < rN ci) : (rFs G S v k ci)[j]? = some (rcv G (rVal (rtab ci j) S v k j)) := by
  simp [rFs, h]
theorem rFs_set {G : rG} {S : Nat → Nat → Option Nat} {v v' : rV} {k ci j : Nat} {w : Value} (hne : ∀ (ty : FieldType) (b : Nat), b ≠ j → rVal ty S v' k b = rVal ty S v k b) (hj : rcv G (rVal (rtab ci j) S v' k j) = w) : (rFs G S v k ci).set j w = rFs G S v' k ci := by
  apply List.ext_getElem?
  intro i
  rw [List.getElem?_set]
  by_cases hij : j = i
  · subst hij
    by_cases hl : j < rN ci
    · rw [if_pos rfl, if_pos (by rw [rFs_len]; exact hl), rFs_at hl, hj]
    · rw [if_pos rfl, if_neg (by rw [rFs_len]; exact hl)]
      exact (List.getElem?_eq_none (by rw [rFs_len]; omega)).symm
  · rw [if_neg hij]
    by_cases hl : i < rN ci
    · rw [rFs_at hl, rFs_at hl, hne _ _ (Ne.symm hij)]
    · rw [List.getElem?_eq_none (by rw [rFs_len]; omega), List.getElem?_eq_none (by rw [rFs_len]; omega)]
/-- a local by its place -/
def lget (lv : List (Nat × Value)) (i : Nat) : Option Value := (lv.find? fun q => q.1 == i).map fun q => q.2
theorem lget_ls {G : rG} {ls : Array Slot} {n i : Nat} {lv : List (Nat × Value)} {w : Value} (h : lv_has ls n (lv.map fun q => (q.1, rcv G q.2))) (hg : lget lv i = some w) : ls[i]? = some (.val (rcv G w)) := by
  simp only [lget, Option.map_eq_some_iff] at hg
  obtain ⟨q, h1, h2⟩ := hg
  have hm := List.mem_of_find?_eq_some h1
  have hi := List.find?_some h1
  have hi2 : q.1 = i := by simpa using hi
  have := h.2.2 (q.1, rcv G q.2) (List.mem_map.mpr ⟨q, hm, rfl⟩)
  rw [← hi2, ← h2]
  exact this
def lset (lv : List (Nat × Value)) (i : Nat) (w : Value) : List (Nat × Value) := (i, w) :: lv.filter (fun q => !(q.1 == i) && !(q.1 + 1 == i && q.2.category == 2))
def lsetL (lv : List (Nat × Value)) (i : Nat) (w : Value) : List (Nat × Value) := (i, w) :: lv.filter (fun q => !(q.1 == i) && (!(q.1 == i + 1) && !(q.1 + 1 == i && q.2.category == 2)))
theorem lset_map (G : rG) (lv : List (Nat × Value)) (i : Nat) (w : Value) : (i, rcv G w) :: (lv.map fun q => (q.1, rcv G q.2)).filter (fun q => !(q.1 == i) && !(q.1 + 1 == i && q.2.category == 2)) = (lset lv i w).map fun q => (q.1, rcv G q.2) := by
  simp only [lset, List.map_cons, List.filter_map]
  congr 2
  apply List.filter_congr
  intro q _
  simp [rcv_cat]
theorem lsetL_map (G : rG) (lv : List (Nat × Value)) (i : Nat) (w : Value) : (i, rcv G w) :: (lv.map fun q => (q.1, rcv G q.2)).filter (fun q => !(q.1 == i) && (!(q.1 == i + 1) && !(q.1 + 1 == i && q.2.category == 2))) = (lsetL lv i w).map fun q => (q.1, rcv G q.2) := by
  simp only [lsetL, List.map_cons, List.filter_map]
  congr 2
  apply List.filter_congr
  intro q _
  simp [rcv_cat]
