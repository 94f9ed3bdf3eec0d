/-! what the functions are written with; rows that name their terms -/
def vlet {α β : Type} (a : α) (f : α → β) : β := f a
theorem vlet_ex {α β : Type} {a : α} {f : α → β} {r : β} (h : vlet a f = r) : ∃ y, y = a ∧ f y = r := ⟨a, rfl, h⟩
theorem grd {α : Type} {c : Prop} {i : Decidable c} {e : Option α} {r : α} (h : (@ite (Option α) c i e none) = some r) : c ∧ e = some r := by
  by_cases hc : c
  · rw [if_pos hc] at h
    exact ⟨hc, h⟩
  · rw [if_neg hc] at h
    cases h
theorem grdn {α : Type} {c : Prop} {i : Decidable c} {e : Option α} {r : α} (h : (@ite (Option α) c i none e) = some r) : ¬ c ∧ e = some r := by
  by_cases hc : c
  · rw [if_pos hc] at h
    cases h
  · rw [if_neg hc] at h
    exact ⟨hc, h⟩
def bI (b : Bool) : Int32 := if b then 1 else 0
theorem bI_p {b : Bool} (h : ¬ bI b = 0) : b = true := by cases b <;> first | rfl | exact absurd rfl h
theorem bI_n {b : Bool} (h : bI b = 0) : ¬ b = true := by
  cases b
  · exact Bool.false_ne_true
  · exact absurd h (by decide)
theorem bI_01 (b : Bool) : bI b = 0 ∨ bI b = 1 := by cases b <;> simp [bI]
theorem bI_z (b : Bool) : narrow .boolean (.int (bI b)) = .int (bI b) := by cases b <;> rfl
theorem z01 {x : Int32} (h : x = 0 ∨ x = 1) : narrow .boolean (.int x) = .int x := by rcases h with rfl | rfl <;> rfl
theorem z01b {x : Int32} (h : x = 0 ∨ x = 1) : bI (decide (¬ x = 0)) = x := by rcases h with rfl | rfl <;> rfl
abbrev rPV (X : Nat × (Nat → Int32)) (r : rV) : Option Value → rS → rV → Prop := fun o S' v' => o = none ∧ S' = rZ X ∧ v' = r
abbrev rPI (X : Nat × (Nat → Int32)) (r : Int32 × rV) : Option Value → rS → rV → Prop := fun o S' v' => o = some (.int r.1) ∧ S' = rZ X ∧ v' = r.2
abbrev rPZ (X : Nat × (Nat → Int32)) (r : Bool × rV) : Option Value → rS → rV → Prop := fun o S' v' => o = some (.int (bI r.1)) ∧ S' = rZ X ∧ v' = r.2
abbrev rPJ (X : Nat × (Nat → Int32)) (r : Int64 × rV) : Option Value → rS → rV → Prop := fun o S' v' => o = some (.long r.1) ∧ S' = rZ X ∧ v' = r.2
abbrev rPA (X : Nat × (Nat → Int32)) (r : Nat × rV) : Option Value → rS → rV → Prop := fun o S' v' => o = some (.ref r.1) ∧ S' = rZ X ∧ v' = r.2
theorem EvM.mono {M : rM} {d d' mc ms : Nat} {av : List Value} {S : rS} {v : rV} {Post : Option Value → rS → rV → Prop} (h : EvM M d mc ms av S v Post) (hd : d ≤ d') : EvM M d' mc ms av S v Post := fun d2 h2 => h d2 (Nat.le_trans hd h2)
theorem vin_of {i : Int32} {j n : Nat} (hj : i.toNatClampNeg = j) (hn : j < n) (h0 : ¬ i < 0) : vp_in i n := by
  subst hj
  rintro (h | h)
  · exact h0 h
  · omega
theorem tab_ne {x y : Int32} {k : Int} (h : ¬ x = y) (hk : y.toInt = k) : x.toInt ≠ k := fun q => h (Int32.toInt_inj.mp (by rw [hk]; exact q))
theorem law_v {X : Nat × (Nat → Int32)} {v : rV} {k : Nat} {w : Option Nat} (h : rRef rS0 v k 13 = v.2.2 k 13) (e : v.2.2 k 13 = w) : rVal (rtab 5 13) (rZ X).2.1 v k 13 = va_rf w := by
  show va_rf (rRef rS0 v k 13) = _
  rw [h, e]
theorem let_v {X : Nat × (Nat → Int32)} {v : rV} {w : Option Nat} (e : v.2.2 3 2 = w) : rVal (rtab 3 2) (rZ X).2.1 v 3 2 = va_rf w := by
  show va_rf (rRef rS0 v 3 2) = _
  rw [rRef_d rfl, e]
theorem body_v {X : Nat × (Nat → Int32)} {v : rV} {k j : Nat} {w : Nat} (h : isStrip k = true) (e : v.2.2 (k + 13) j = some w) : va_rf (rRef (rZ X).2.1 v (k + 13) j) = .ref w := by
  show va_rf (rRef rS0 v (k + 13) j) = _
  rw [rRef_d (sStrip_13 h), e]
  rfl
theorem sBodies {X : Nat × (Nat → Int32)} {k j : Nat} (h : isStrip k = true) : (rZ X).2.1 (k + 13) j = none := sStrip_13 h
theorem sLaw {X : Nat × (Nat → Int32)} {k : Nat} (h : isStrip k = true) : (rZ X).2.1 k 13 = none := is_mem (p := fun k => rS0 k 13 = none) h (by decide +kernel)
/-- from the place j on: where a byte stands in what is left of a text -/
def sfrom (c : Int32) : List Int32 → Nat → Int32
  | [], _ => -1
  | b :: l, j => if b = c then nI j else sfrom c l (j + 1)
/-- where a byte stands in one of the texts -/
def sidx (i : Nat) (c : Int32) : Int32 := if c < 0 then -1 else if 255 < c then -1 else sfrom c.toInt8.toInt32 (rbyt.getD i []) 0
section NAMED
variable {M M' : rM} {d bc bs pc idx : Nat} {lv lv' : List (Nat × Value)} {st : List Value} {S : rS} {v v1 : rV} {Post : Option Value → rS → rV → Prop} {X : Nat × (Nat → Int32)}
theorem e_nameI {x y : Int32} (h : x = y) (k : Ev M d bc bs pc lv (.int y :: st) S v Post) : Ev M d bc bs pc lv (.int x :: st) S v Post := h ▸ k
theorem e_nameI2 {x y : Int32} {w : Value} (h : x = y) (k : Ev M d bc bs pc lv (w :: .int y :: st) S v Post) : Ev M d bc bs pc lv (w :: .int x :: st) S v Post := h ▸ k
theorem e_nameJ {x y : Int64} (h : x = y) (k : Ev M d bc bs pc lv (.long y :: st) S v Post) : Ev M d bc bs pc lv (.long x :: st) S v Post := h ▸ k
theorem e_nameV (h : v = v1) (k : Ev M d bc bs pc lv st S v1 Post) : Ev M d bc bs pc lv st S v Post := h ▸ k
theorem e_ialdJ {k n j : Nat} {i : Int32} (hd : decode M.2.1 pc = .ok (.iaload, 1)) (hk : S.1[k]? = some (.inl (n, .int))) (hj : i.toNatClampNeg = j) (hn : j < n) (h0 : ¬ i < 0)
    (kk : Ev M d bc bs (pc + 1) lv (.int (v.1 k j) :: st) S v Post) : Ev M d bc bs pc lv (.int i :: .ref k :: st) S v Post := e_iald hd hk (vin_of hj hn h0) (by rw [hj]; exact kk)
theorem e_iastJ {k n j : Nat} {i x : Int32} (hd : decode M.2.1 pc = .ok (.iastore, 1)) (hk : S.1[k]? = some (.inl (n, .int))) (hj : i.toNatClampNeg = j) (hn : j < n) (h0 : ¬ i < 0)
    (kk : Ev M d bc bs (pc + 1) lv st S (rI v k j x) Post) : Ev M d bc bs pc lv (.int x :: .int i :: .ref k :: st) S v Post := e_iast hd hk (vin_of hj hn h0) (by rw [hj]; exact kk)
theorem e_aaldJ {k n j : Nat} {ty : FieldType} {i : Int32} {w : Value} (hd : decode M.2.1 pc = .ok (.aaload, 1)) (hk : S.1[k]? = some (.inl (n, ty))) (hty : ty.isReference = true) (hj : i.toNatClampNeg = j) (hn : j < n) (h0 : ¬ i < 0) (he : va_rf (rRef S.2.1 v k j) = w)
    (kk : Ev M d bc bs (pc + 1) lv (w :: st) S v Post) : Ev M d bc bs pc lv (.int i :: .ref k :: st) S v Post := e_aald hd hk hty (vin_of hj hn h0) (by rw [hj]; exact he) kk
theorem e_aastJ {k n x ci N j : Nat} {C0 : String} {T : u_T} {i : Int32} (hd : decode M.2.1 pc = .ok (.aastore, 1)) (hk : S.1[k]? = some (.inl (n, .object C0))) (hx : S.1[x]? = some (.inr ci)) (hc : rCls ci C0 T N) (hj : i.toNatClampNeg = j) (hn : j < n) (h0 : ¬ i < 0) (hst : S.2.1 k j = none)
    (kk : Ev M d bc bs (pc + 1) lv st S (rR v k j (some x)) Post) : Ev M d bc bs pc lv (.ref x :: .int i :: .ref k :: st) S v Post := e_aast hd hk hx hc (vin_of hj hn h0) (by rw [hj]; exact hst) (by rw [hj]; exact kk)
theorem e_putN {k ci j idx N : Nat} {C : String} {T : u_T} (hd : decode M.2.1 pc = .ok (.putfield idx, 3)) (hk : S.1[k]? = some (.inr ci)) (hc : rCls ci C T N) (hj : j < N) (hw : Cond.fieldLink M.1.cls idx (T j).1 (T j).2.1 (T j).2.2.1 ∈ rtbl) (hfin : (T j).2.2.2 = false) (hty : ∃ n, rtab ci j = .object n) (hst : S.2.1 k j = none)
    (kk : Ev M d bc bs (pc + 3) lv st S (rR v k j none) Post) : Ev M d bc bs pc lv (.null :: .ref k :: st) S v Post :=
  e_put hd hk hc hj hw (Or.inl hfin) (fun G => by obtain ⟨n, h⟩ := hty; rw [h]; rfl) (fun G => by obtain ⟨n, h⟩ := hty; rw [h]; rfl) (fun G => rFs_set (fun ty b hb => rVal_R (fun h => hb h.2)) (by obtain ⟨n, h⟩ := hty; rw [h]; simp [rVal, rRef, hst, rR, rcv, va_rf])) (fun G i kd h => rR_ne i kd h) kk
theorem e_ldcS0 (hd : decode M.2.1 pc = .ok (.ldc 18, 2)) (hm : M.1.cls = "RingDrop$FormulaReade\x72")
    (k : Ev M d bc bs (pc + 2) lv (.ref 1000010 :: st) S v Post) : Ev M d bc bs pc lv st S v Post := fun G p l e R s m args below meth c Q C H locs cells slots ls hK hH hS hl hcc hs => va_ldcS C.1.1 C.1.2.1 (hm ▸ C.1.2.2.2.1) C.2.2.1.2.1.2.2.2.1.1 hd (k G p l e R s m args below meth c Q C H locs cells slots ls hK hH hS hl hcc hs)
theorem e_ldcS1 (hd : decode M.2.1 pc = .ok (.ldc 18, 2)) (hm : M.1.cls = "RingDrop$Strip")
    (k : Ev M d bc bs (pc + 2) lv (.ref 1000010 :: st) S v Post) : Ev M d bc bs pc lv st S v Post := fun G p l e R s m args below meth c Q C H locs cells slots ls hK hH hS hl hcc hs => va_ldcS C.1.1 C.1.2.1 (hm ▸ C.1.2.2.2.1) C.2.2.1.2.1.2.2.2.1.2.1 hd (k G p l e R s m args below meth c Q C H locs cells slots ls hK hH hS hl hcc hs)
theorem e_ldcS2 (hd : decode M.2.1 pc = .ok (.ldc 48, 2)) (hm : M.1.cls = "RingDrop$FormulaReade\x72")
    (k : Ev M d bc bs (pc + 2) lv (.ref 1000011 :: st) S v Post) : Ev M d bc bs pc lv st S v Post := fun G p l e R s m args below meth c Q C H locs cells slots ls hK hH hS hl hcc hs => va_ldcS C.1.1 C.1.2.1 (hm ▸ C.1.2.2.2.1) C.2.2.1.2.1.2.2.2.1.2.2.1 hd (k G p l e R s m args below meth c Q C H locs cells slots ls hK hH hS hl hcc hs)
theorem e_ldcS3 (hd : decode M.2.1 pc = .ok (.ldc 203, 2)) (hm : M.1.cls = "RingDrop$Strip")
    (k : Ev M d bc bs (pc + 2) lv (.ref 1000011 :: st) S v Post) : Ev M d bc bs pc lv st S v Post := fun G p l e R s m args below meth c Q C H locs cells slots ls hK hH hS hl hcc hs => va_ldcS C.1.1 C.1.2.1 (hm ▸ C.1.2.2.2.1) C.2.2.1.2.1.2.2.2.1.2.2.2.1 hd (k G p l e R s m args below meth c Q C H locs cells slots ls hK hH hS hl hcc hs)
theorem e_ldcS4 (hd : decode M.2.1 pc = .ok (.ldc 52, 2)) (hm : M.1.cls = "RingDrop$DropReade\x72")
    (k : Ev M d bc bs (pc + 2) lv (.ref 1000012 :: st) S v Post) : Ev M d bc bs pc lv st S v Post := fun G p l e R s m args below meth c Q C H locs cells slots ls hK hH hS hl hcc hs => va_ldcS C.1.1 C.1.2.1 (hm ▸ C.1.2.2.2.1) C.2.2.1.2.1.2.2.2.1.2.2.2.2 hd (k G p l e R s m args below meth c Q C H locs cells slots ls hK hH hS hl hcc hs)
theorem e_gst0 {host : String} (hd : decode M.2.1 pc = .ok (.getstatic idx, 3)) (hw : Cond.fieldLinkNest M.1.cls idx "RingDrop" "LOWEST" "[I" host ∈ lw_tbl)
    (k : Ev M d bc bs (pc + 3) lv (.ref 1000030 :: st) S v Post) : Ev M d bc bs pc lv st S v Post := fun G p l e R s m args below meth c Q C H locs cells slots ls hK hH hS hl hcc hs => va_getsN C.1.1 C.1.2.1 C.2.2.1.2.1.2.2.2.2.2.1 hS C.1.2.2.2.1 (va_Nw.use rfl (C.2.1.2.1 _ hw rfl)) (fun _ h => h) hd (k G p l e R s m args below meth c Q C H locs cells slots ls hK hH hS hl hcc hs)
theorem e_gst1 {host : String} (hd : decode M.2.1 pc = .ok (.getstatic idx, 3)) (hw : Cond.fieldLinkNest M.1.cls idx "RingDrop" "HIGHEST" "[I" host ∈ lw_tbl)
    (k : Ev M d bc bs (pc + 3) lv (.ref 1000031 :: st) S v Post) : Ev M d bc bs pc lv st S v Post := fun G p l e R s m args below meth c Q C H locs cells slots ls hK hH hS hl hcc hs => va_getsN C.1.1 C.1.2.1 C.2.2.1.2.1.2.2.2.2.2.2.1 hS C.1.2.2.2.1 (va_Nw.use rfl (C.2.1.2.1 _ hw rfl)) (fun _ h => h) hd (k G p l e R s m args below meth c Q C H locs cells slots ls hK hH hS hl hcc hs)
theorem e_gst2 {host : String} (hd : decode M.2.1 pc = .ok (.getstatic idx, 3)) (hw : Cond.fieldLinkNest M.1.cls idx "RingDrop" "WITHOUT" "[I" host ∈ lw_tbl)
    (k : Ev M d bc bs (pc + 3) lv (.ref 1000032 :: st) S v Post) : Ev M d bc bs pc lv st S v Post := fun G p l e R s m args below meth c Q C H locs cells slots ls hK hH hS hl hcc hs => va_getsN C.1.1 C.1.2.1 C.2.2.1.2.1.2.2.2.2.2.2.2.1 hS C.1.2.2.2.1 (va_Nw.use rfl (C.2.1.2.1 _ hw rfl)) (fun _ h => h) hd (k G p l e R s m args below meth c Q C H locs cells slots ls hK hH hS hl hcc hs)
theorem e_tld {i : Nat} {j : Nat} {a : Int32} (hi : i < 3) (hd : decode M.2.1 pc = .ok (.iaload, 1)) (hj : a.toNatClampNeg = j) (hn : j < 12) (h0 : ¬ a < 0)
    (k : Ev M d bc bs (pc + 1) lv (.int ((rtb.getD i []).getD j 0) :: st) S v Post) : Ev M d bc bs pc lv (.int a :: .ref (1000030 + i) :: st) S v Post := fun G p l e R s m args below meth c Q C H locs cells slots ls hK hH hS hl hcc hs => va_ti C.1.1 C.1.2.1 (C.2.2.1.2.1.2.2.2.2.1 i hi) hS (vin_of hj hn h0) (by rw [hj]; rfl) hd (k G p l e R s m args below meth c Q C H locs cells slots ls hK hH hS hl hcc hs)
theorem c_SV {r : rV} (av : List Value) {st0 : List Value} (hd : decode M.2.1 pc = .ok (.invokestatic idx, 3)) (hs0 : st0 = av.reverse ++ st) (hw : Cond.methodLink M.1.cls idx M'.1 ∈ rtbl) (hst : Cond.static M'.1 ∈ rtbl) (hL : rLk M' av.length) (hsum : (st.map fun w => w.category).sum ≤ 8) (h : EvM M' d 0 0 av (rZ X) v (rPV X r))
    (kk : Ev M (d + 1) bc bs (pc + 3) lv (st) (rZ X) r Post) : Ev M (d + 1) bc bs pc lv st0 (rZ X) v Post := e_callS av hd hs0 hw hst hL hsum h (Nat.zero_le _) (Nat.zero_le _) (fun o S' v' hp => by obtain ⟨rfl, rfl, rfl⟩ := hp; exact ⟨rfl, kk⟩)
theorem c_SNV {r : rV} {host : String} (av : List Value) {st0 : List Value} (hd : decode M.2.1 pc = .ok (.invokestatic idx, 3)) (hs0 : st0 = av.reverse ++ st) (hw : Cond.methodLinkNest M.1.cls idx M'.1 host ∈ lw_tbl) (hst : Cond.static M'.1 ∈ rtbl) (hL : rLk M' av.length) (hsum : (st.map fun w => w.category).sum ≤ 8) (h : EvM M' d 0 0 av (rZ X) v (rPV X r))
    (kk : Ev M (d + 1) bc bs (pc + 3) lv (st) (rZ X) r Post) : Ev M (d + 1) bc bs pc lv st0 (rZ X) v Post := e_callSN av hd hs0 hw hst hL hsum h (Nat.zero_le _) (Nat.zero_le _) (fun o S' v' hp => by obtain ⟨rfl, rfl, rfl⟩ := hp; exact ⟨rfl, kk⟩)
theorem c_VV {r : rV} {b ci N : Nat} {T : u_T} (av : List Value) {st0 : List Value} (hd : decode M.2.1 pc = .ok (.invokevirtual idx, 3)) (hs0 : st0 = av.reverse ++ .ref b :: st) (hw : Cond.methodLink M.1.cls idx M'.1 ∈ rtbl) (hin : Cond.instanceMethod M'.1 ∈ rtbl) (hse : Cond.selects M'.1.cls M'.1 M'.1 ∈ rtbl) (hL : rLk M' av.length) (hb : (rZ X).1[b]? = some (.inr ci)) (hc : rCls ci M'.1.cls T N) (hsum : (st.map fun w => w.category).sum ≤ 8) (h : EvM M' d 0 0 (.ref b :: av) (rZ X) v (rPV X r))
    (kk : Ev M (d + 1) bc bs (pc + 3) lv (st) (rZ X) r Post) : Ev M (d + 1) bc bs pc lv st0 (rZ X) v Post := e_callV av hd hs0 hw hin hse hL hb hc hsum h (Nat.zero_le _) (Nat.zero_le _) (fun o S' v' hp => by obtain ⟨rfl, rfl, rfl⟩ := hp; exact ⟨rfl, kk⟩)
theorem c_SZ {r : Bool × rV} (av : List Value) {st0 : List Value} (hd : decode M.2.1 pc = .ok (.invokestatic idx, 3)) (hs0 : st0 = av.reverse ++ st) (hw : Cond.methodLink M.1.cls idx M'.1 ∈ rtbl) (hst : Cond.static M'.1 ∈ rtbl) (hL : rLk M' av.length) (hsum : (st.map fun w => w.category).sum ≤ 8) (h : EvM M' d 0 0 av (rZ X) v (rPZ X r))
    (kk : Ev M (d + 1) bc bs (pc + 3) lv (.int (bI r.1) :: st) (rZ X) r.2 Post) : Ev M (d + 1) bc bs pc lv st0 (rZ X) v Post := e_callS av hd hs0 hw hst hL hsum h (Nat.zero_le _) (Nat.zero_le _) (fun o S' v' hp => by obtain ⟨rfl, rfl, rfl⟩ := hp; exact ⟨rfl, kk⟩)
theorem c_SNZ {r : Bool × rV} {host : String} (av : List Value) {st0 : List Value} (hd : decode M.2.1 pc = .ok (.invokestatic idx, 3)) (hs0 : st0 = av.reverse ++ st) (hw : Cond.methodLinkNest M.1.cls idx M'.1 host ∈ lw_tbl) (hst : Cond.static M'.1 ∈ rtbl) (hL : rLk M' av.length) (hsum : (st.map fun w => w.category).sum ≤ 8) (h : EvM M' d 0 0 av (rZ X) v (rPZ X r))
    (kk : Ev M (d + 1) bc bs (pc + 3) lv (.int (bI r.1) :: st) (rZ X) r.2 Post) : Ev M (d + 1) bc bs pc lv st0 (rZ X) v Post := e_callSN av hd hs0 hw hst hL hsum h (Nat.zero_le _) (Nat.zero_le _) (fun o S' v' hp => by obtain ⟨rfl, rfl, rfl⟩ := hp; exact ⟨rfl, kk⟩)
theorem c_VZ {r : Bool × rV} {b ci N : Nat} {T : u_T} (av : List Value) {st0 : List Value} (hd : decode M.2.1 pc = .ok (.invokevirtual idx, 3)) (hs0 : st0 = av.reverse ++ .ref b :: st) (hw : Cond.methodLink M.1.cls idx M'.1 ∈ rtbl) (hin : Cond.instanceMethod M'.1 ∈ rtbl) (hse : Cond.selects M'.1.cls M'.1 M'.1 ∈ rtbl) (hL : rLk M' av.length) (hb : (rZ X).1[b]? = some (.inr ci)) (hc : rCls ci M'.1.cls T N) (hsum : (st.map fun w => w.category).sum ≤ 8) (h : EvM M' d 0 0 (.ref b :: av) (rZ X) v (rPZ X r))
    (kk : Ev M (d + 1) bc bs (pc + 3) lv (.int (bI r.1) :: st) (rZ X) r.2 Post) : Ev M (d + 1) bc bs pc lv st0 (rZ X) v Post := e_callV av hd hs0 hw hin hse hL hb hc hsum h (Nat.zero_le _) (Nat.zero_le _) (fun o S' v' hp => by obtain ⟨rfl, rfl, rfl⟩ := hp; exact ⟨rfl, kk⟩)
theorem c_SI {r : Int32 × rV} (av : List Value) {st0 : List Value} (hd : decode M.2.1 pc = .ok (.invokestatic idx, 3)) (hs0 : st0 = av.reverse ++ st) (hw : Cond.methodLink M.1.cls idx M'.1 ∈ rtbl) (hst : Cond.static M'.1 ∈ rtbl) (hL : rLk M' av.length) (hsum : (st.map fun w => w.category).sum ≤ 8) (h : EvM M' d 0 0 av (rZ X) v (rPI X r))
    (kk : Ev M (d + 1) bc bs (pc + 3) lv (.int r.1 :: st) (rZ X) r.2 Post) : Ev M (d + 1) bc bs pc lv st0 (rZ X) v Post := e_callS av hd hs0 hw hst hL hsum h (Nat.zero_le _) (Nat.zero_le _) (fun o S' v' hp => by obtain ⟨rfl, rfl, rfl⟩ := hp; exact ⟨rfl, kk⟩)
theorem c_SNI {r : Int32 × rV} {host : String} (av : List Value) {st0 : List Value} (hd : decode M.2.1 pc = .ok (.invokestatic idx, 3)) (hs0 : st0 = av.reverse ++ st) (hw : Cond.methodLinkNest M.1.cls idx M'.1 host ∈ lw_tbl) (hst : Cond.static M'.1 ∈ rtbl) (hL : rLk M' av.length) (hsum : (st.map fun w => w.category).sum ≤ 8) (h : EvM M' d 0 0 av (rZ X) v (rPI X r))
    (kk : Ev M (d + 1) bc bs (pc + 3) lv (.int r.1 :: st) (rZ X) r.2 Post) : Ev M (d + 1) bc bs pc lv st0 (rZ X) v Post := e_callSN av hd hs0 hw hst hL hsum h (Nat.zero_le _) (Nat.zero_le _) (fun o S' v' hp => by obtain ⟨rfl, rfl, rfl⟩ := hp; exact ⟨rfl, kk⟩)
theorem c_VI {r : Int32 × rV} {b ci N : Nat} {T : u_T} (av : List Value) {st0 : List Value} (hd : decode M.2.1 pc = .ok (.invokevirtual idx, 3)) (hs0 : st0 = av.reverse ++ .ref b :: st) (hw : Cond.methodLink M.1.cls idx M'.1 ∈ rtbl) (hin : Cond.instanceMethod M'.1 ∈ rtbl) (hse : Cond.selects M'.1.cls M'.1 M'.1 ∈ rtbl) (hL : rLk M' av.length) (hb : (rZ X).1[b]? = some (.inr ci)) (hc : rCls ci M'.1.cls T N) (hsum : (st.map fun w => w.category).sum ≤ 8) (h : EvM M' d 0 0 (.ref b :: av) (rZ X) v (rPI X r))
    (kk : Ev M (d + 1) bc bs (pc + 3) lv (.int r.1 :: st) (rZ X) r.2 Post) : Ev M (d + 1) bc bs pc lv st0 (rZ X) v Post := e_callV av hd hs0 hw hin hse hL hb hc hsum h (Nat.zero_le _) (Nat.zero_le _) (fun o S' v' hp => by obtain ⟨rfl, rfl, rfl⟩ := hp; exact ⟨rfl, kk⟩)
theorem c_SJ {r : Int64 × rV} (av : List Value) {st0 : List Value} (hd : decode M.2.1 pc = .ok (.invokestatic idx, 3)) (hs0 : st0 = av.reverse ++ st) (hw : Cond.methodLink M.1.cls idx M'.1 ∈ rtbl) (hst : Cond.static M'.1 ∈ rtbl) (hL : rLk M' av.length) (hsum : (st.map fun w => w.category).sum ≤ 8) (h : EvM M' d 0 0 av (rZ X) v (rPJ X r))
    (kk : Ev M (d + 1) bc bs (pc + 3) lv (.long r.1 :: st) (rZ X) r.2 Post) : Ev M (d + 1) bc bs pc lv st0 (rZ X) v Post := e_callS av hd hs0 hw hst hL hsum h (Nat.zero_le _) (Nat.zero_le _) (fun o S' v' hp => by obtain ⟨rfl, rfl, rfl⟩ := hp; exact ⟨rfl, kk⟩)
theorem c_SNJ {r : Int64 × rV} {host : String} (av : List Value) {st0 : List Value} (hd : decode M.2.1 pc = .ok (.invokestatic idx, 3)) (hs0 : st0 = av.reverse ++ st) (hw : Cond.methodLinkNest M.1.cls idx M'.1 host ∈ lw_tbl) (hst : Cond.static M'.1 ∈ rtbl) (hL : rLk M' av.length) (hsum : (st.map fun w => w.category).sum ≤ 8) (h : EvM M' d 0 0 av (rZ X) v (rPJ X r))
    (kk : Ev M (d + 1) bc bs (pc + 3) lv (.long r.1 :: st) (rZ X) r.2 Post) : Ev M (d + 1) bc bs pc lv st0 (rZ X) v Post := e_callSN av hd hs0 hw hst hL hsum h (Nat.zero_le _) (Nat.zero_le _) (fun o S' v' hp => by obtain ⟨rfl, rfl, rfl⟩ := hp; exact ⟨rfl, kk⟩)
theorem c_VJ {r : Int64 × rV} {b ci N : Nat} {T : u_T} (av : List Value) {st0 : List Value} (hd : decode M.2.1 pc = .ok (.invokevirtual idx, 3)) (hs0 : st0 = av.reverse ++ .ref b :: st) (hw : Cond.methodLink M.1.cls idx M'.1 ∈ rtbl) (hin : Cond.instanceMethod M'.1 ∈ rtbl) (hse : Cond.selects M'.1.cls M'.1 M'.1 ∈ rtbl) (hL : rLk M' av.length) (hb : (rZ X).1[b]? = some (.inr ci)) (hc : rCls ci M'.1.cls T N) (hsum : (st.map fun w => w.category).sum ≤ 8) (h : EvM M' d 0 0 (.ref b :: av) (rZ X) v (rPJ X r))
    (kk : Ev M (d + 1) bc bs (pc + 3) lv (.long r.1 :: st) (rZ X) r.2 Post) : Ev M (d + 1) bc bs pc lv st0 (rZ X) v Post := e_callV av hd hs0 hw hin hse hL hb hc hsum h (Nat.zero_le _) (Nat.zero_le _) (fun o S' v' hp => by obtain ⟨rfl, rfl, rfl⟩ := hp; exact ⟨rfl, kk⟩)
theorem c_SA {r : Nat × rV} (av : List Value) {st0 : List Value} (hd : decode M.2.1 pc = .ok (.invokestatic idx, 3)) (hs0 : st0 = av.reverse ++ st) (hw : Cond.methodLink M.1.cls idx M'.1 ∈ rtbl) (hst : Cond.static M'.1 ∈ rtbl) (hL : rLk M' av.length) (hsum : (st.map fun w => w.category).sum ≤ 8) (h : EvM M' d 0 0 av (rZ X) v (rPA X r))
    (kk : Ev M (d + 1) bc bs (pc + 3) lv (.ref r.1 :: st) (rZ X) r.2 Post) : Ev M (d + 1) bc bs pc lv st0 (rZ X) v Post := e_callS av hd hs0 hw hst hL hsum h (Nat.zero_le _) (Nat.zero_le _) (fun o S' v' hp => by obtain ⟨rfl, rfl, rfl⟩ := hp; exact ⟨rfl, kk⟩)
theorem c_SNA {r : Nat × rV} {host : String} (av : List Value) {st0 : List Value} (hd : decode M.2.1 pc = .ok (.invokestatic idx, 3)) (hs0 : st0 = av.reverse ++ st) (hw : Cond.methodLinkNest M.1.cls idx M'.1 host ∈ lw_tbl) (hst : Cond.static M'.1 ∈ rtbl) (hL : rLk M' av.length) (hsum : (st.map fun w => w.category).sum ≤ 8) (h : EvM M' d 0 0 av (rZ X) v (rPA X r))
    (kk : Ev M (d + 1) bc bs (pc + 3) lv (.ref r.1 :: st) (rZ X) r.2 Post) : Ev M (d + 1) bc bs pc lv st0 (rZ X) v Post := e_callSN av hd hs0 hw hst hL hsum h (Nat.zero_le _) (Nat.zero_le _) (fun o S' v' hp => by obtain ⟨rfl, rfl, rfl⟩ := hp; exact ⟨rfl, kk⟩)
theorem c_VA {r : Nat × rV} {b ci N : Nat} {T : u_T} (av : List Value) {st0 : List Value} (hd : decode M.2.1 pc = .ok (.invokevirtual idx, 3)) (hs0 : st0 = av.reverse ++ .ref b :: st) (hw : Cond.methodLink M.1.cls idx M'.1 ∈ rtbl) (hin : Cond.instanceMethod M'.1 ∈ rtbl) (hse : Cond.selects M'.1.cls M'.1 M'.1 ∈ rtbl) (hL : rLk M' av.length) (hb : (rZ X).1[b]? = some (.inr ci)) (hc : rCls ci M'.1.cls T N) (hsum : (st.map fun w => w.category).sum ≤ 8) (h : EvM M' d 0 0 (.ref b :: av) (rZ X) v (rPA X r))
    (kk : Ev M (d + 1) bc bs (pc + 3) lv (.ref r.1 :: st) (rZ X) r.2 Post) : Ev M (d + 1) bc bs pc lv st0 (rZ X) v Post := e_callV av hd hs0 hw hin hse hL hb hc hsum h (Nat.zero_le _) (Nat.zero_le _) (fun o S' v' hp => by obtain ⟨rfl, rfl, rfl⟩ := hp; exact ⟨rfl, kk⟩)
end NAMED
