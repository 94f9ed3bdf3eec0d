/-! THE TAPE IS FED -/
def byt (a : Int32) (s : Nat) : Int32 := (a >>> nI s) &&& 255
theorem sft {s : Nat} (hs : s ≤ 24) : (nI s).toBitVec.smod 32 = BitVec.ofNat 32 s ∧ ((nI s).toUInt32 &&& Int32.toUInt32 31).toBitVec = BitVec.ofNat 32 s := by
  have h : ∀ s, s < 25 → (nI s).toBitVec.smod 32 = BitVec.ofNat 32 s ∧ ((nI s).toUInt32 &&& Int32.toUInt32 31).toBitVec = BitVec.ofNat 32 s := by decide
  exact h s (by omega)
theorem sh_c {a : Int32} {s : Nat} (hs : s ≤ 24) : ((a.toUInt32 >>> ((nI s).toUInt32 &&& Int32.toUInt32 31)).toInt32) &&& (255 : Int32) = byt a s := by
  unfold byt
  apply Int32.toBitVec_inj.mp
  obtain ⟨h1, h2⟩ := sft hs
  have h3 : (a >>> nI s).toBitVec = a.toBitVec.sshiftRight s := by
    show a.toBitVec.sshiftRight' ((nI s).toBitVec.smod 32) = _
    rw [BitVec.sshiftRight', h1, BitVec.toNat_ofNat, Nat.mod_eq_of_lt (by omega)]
  have h4 : ((a.toUInt32 >>> ((nI s).toUInt32 &&& Int32.toUInt32 31)).toInt32).toBitVec = a.toBitVec >>> s := by
    show a.toBitVec >>> (((nI s).toUInt32 &&& Int32.toUInt32 31).toBitVec % 32#32) = _
    rw [h2, BitVec.ushiftRight_eq', show BitVec.toNat (BitVec.ofNat 32 s % 32#32) = s by rw [BitVec.toNat_umod, BitVec.toNat_ofNat, BitVec.toNat_ofNat, Nat.mod_eq_of_lt (show s < 2 ^ 32 by omega), show 32 % 2 ^ 32 = 32 from rfl]; omega]
  show ((a.toUInt32 >>> ((nI s).toUInt32 &&& Int32.toUInt32 31)).toInt32).toBitVec &&& (255 : Int32).toBitVec = (a >>> nI s).toBitVec &&& (255 : Int32).toBitVec
  rw [h3, h4]
  apply BitVec.eq_of_getLsbD_eq
  intro i hi
  rw [BitVec.getLsbD_and, BitVec.getLsbD_and]
  by_cases q : i < 8
  · rw [BitVec.getLsbD_ushiftRight, BitVec.getLsbD_sshiftRight, if_pos (show s + i < 32 by omega)]
    simp [show ¬ 32 ≤ i by omega]
  · have h5 : ∀ i, i < 32 → ¬ i < 8 → (255 : Int32).toBitVec.getLsbD i = false := by decide
    rw [h5 i hi q, Bool.and_false, Bool.and_false]
theorem byt_r (a : Int32) (s : Nat) : ∃ b, b ≤ 255 ∧ byt a s = nI b := by
  refine ⟨(byt a s).toBitVec.toNat, ?_, ?_⟩
  · show ((a >>> nI s).toBitVec &&& (255 : Int32).toBitVec).toNat ≤ 255
    rw [BitVec.toNat_and]
    exact Nat.and_le_right
  · apply Int32.toBitVec_inj.mp
    show _ = BitVec.ofNat 32 _
    rw [BitVec.ofNat_toNat, BitVec.setWidth_eq]
/-- one byte more, at a heap's cells -/
def pb (k k2 j2 : Nat) (v : rV) (b : Int32) : rV := if b = 0 then v else rI (rI v k ((v.1 k2 j2).toNatClampNeg) b) k2 j2 (v.1 k2 j2 + 1)
def pbs (k k2 j2 : Nat) (v : rV) : List Int32 → rV
  | [] => v
  | b :: t => pbs k k2 j2 (pb k k2 j2 v b) t
def cnt : List Int32 → Nat
  | [] => 0
  | b :: t => (if b = 0 then 0 else 1) + cnt t
theorem pbs_app (k k2 j2 : Nat) (v : rV) (a b : List Int32) : pbs k k2 j2 v (a ++ b) = pbs k k2 j2 (pbs k k2 j2 v a) b := by
  induction a generalizing v with
  | nil => rfl
  | cons x a ih => exact ih _
theorem cnt_app (a b : List Int32) : cnt (a ++ b) = cnt a + cnt b := by
  induction a with
  | nil => simp [cnt]
  | cons x a ih => simp only [List.cons_append, cnt]; omega
theorem pb_len {k k2 j2 m : Nat} {v : rV} {b : Int32} (h : v.1 k2 j2 = nI m) : (pb k k2 j2 v b).1 k2 j2 = nI (m + if b = 0 then 0 else 1) := by
  unfold pb
  by_cases q : b = 0
  · rw [if_pos q, if_pos q]; exact h
  · rw [if_neg q, if_neg q, rI_at, h, ad1]
theorem pbs_len {k k2 j2 : Nat} (l : List Int32) : ∀ {m : Nat} {v : rV}, v.1 k2 j2 = nI m → (pbs k k2 j2 v l).1 k2 j2 = nI (m + cnt l) := by
  induction l with
  | nil => intro m v h; exact h
  | cons b t ih =>
    intro m v h
    have := ih (pb_len (k := k) (b := b) h)
    simp only [pbs, cnt]
    rw [this, Nat.add_assoc]
theorem pb_both {n : Nat} {vc vm : rV} {b : Nat} (hn : vc.1 1 1 = nI n) (h : Rt vc vm) (hb : b ≤ 255) (hr : n + (if nI b = 0 then 0 else 1) ≤ 160) : Rt (pb 2 1 1 vc (nI b)) (pb 175 174 2 vm (nI b)) ∧ Ch (fun k j => (k = 1 ∧ j = 1) ∨ (k = 2 ∧ j < 160)) vc (pb 2 1 1 vc (nI b)) ∧ Ch (fun k j => (k = 174 ∧ j = 2) ∨ (k = 175 ∧ j < 160)) vm (pb 175 174 2 vm (nI b)) := by
  unfold pb
  by_cases q : nI b = 0
  · rw [if_pos q, if_pos q]; exact ⟨h, Ch.rf, Ch.rf⟩
  · rw [if_neg q] at hr
    rw [if_neg q, if_neg q]
    obtain ⟨m, n1, n2, n3, n4⟩ := h
    have : n ≤ 160 ∧ m = n := by
      refine ⟨by omega, ?_⟩
      have := n2.symm.trans hn
      rw [niEq (by omega) (by omega)] at this
      exact this
    obtain ⟨-, rfl⟩ := this
    rw [n2, n3, niCl (by omega), ad1]
    refine ⟨⟨m + 1, by omega, rI_at _ _ _ _, rI_at _ _ _ _, fun j hj => ?_⟩, (Ch.rf.I (Or.inr ⟨rfl, by omega⟩)).I (Or.inl ⟨rfl, rfl⟩), (Ch.rf.I (Or.inr ⟨rfl, by omega⟩)).I (Or.inl ⟨rfl, rfl⟩)⟩
    rw [rI_no (by omega), rI_1, rI_no (by omega), rI_1]
    by_cases z : j = m
    · rw [if_pos ⟨rfl, z⟩, if_pos ⟨rfl, z⟩]
      refine ⟨b, ?_, hb, rfl, rfl⟩
      by_cases z2 : b = 0
      · subst z2; exact absurd rfl q
      · omega
    · rw [if_neg (by omega), if_neg (by omega)]; exact n4 j (by omega)
theorem pbs_both (l : List Int32) : ∀ {n : Nat} {vc vm : rV}, vc.1 1 1 = nI n → Rt vc vm → (∀ b, b ∈ l → ∃ x, x ≤ 255 ∧ b = nI x) → n + cnt l ≤ 160 → Rt (pbs 2 1 1 vc l) (pbs 175 174 2 vm l) ∧ Ch (fun k j => (k = 1 ∧ j = 1) ∨ (k = 2 ∧ j < 160)) vc (pbs 2 1 1 vc l) ∧ Ch (fun k j => (k = 174 ∧ j = 2) ∨ (k = 175 ∧ j < 160)) vm (pbs 175 174 2 vm l) := by
  induction l with
  | nil => intro n vc vm hn h hb hr; exact ⟨h, Ch.rf, Ch.rf⟩
  | cons b t ih =>
    intro n vc vm hn h hb hr
    obtain ⟨x, hx, rfl⟩ := hb b (List.mem_cons_self ..)
    simp only [cnt] at hr
    obtain ⟨g1, g2, g3⟩ := pb_both hn h hx (by omega)
    obtain ⟨k1, k2, k3⟩ := ih (pb_len hn) g1 (fun b hb' => hb b (List.mem_cons_of_mem _ hb')) (by omega)
    exact ⟨k1, g2.tr k2, g3.tr k3⟩
/-- the four bytes of a word -/
def b4 (a : Int32) : List Int32 := [byt a 24, byt a 16, byt a 8, byt a 0]
theorem app1 {v : rV} {a : Int32} {s n m : Nat} (hs : s ≤ 24) (hm : v.1 1 1 = nI m) (hr : m + (if byt a s = 0 then 0 else 1) ≤ 160) : f_X6_append_3 (n + 1) v a (nI s) = f_X6_append_3 n (pb 2 1 1 v (byt a s)) a (nI s + -8) := by
  rw [f_X6_append_3, if_neg (niGe (by omega)), sh_c hs]
  unfold pb f_X6_append_51
  simp only [vlet_eq]
  by_cases q : byt a s = 0
  · rw [if_pos q, if_pos q]
  · rw [if_neg q] at hr
    rw [if_neg q, if_neg q, hm, if_neg (show ¬ (160 : Int32) ≤ nI m from nle (a := 160) (by omega) (by omega)), if_pos (gin (show m < 160 by omega) (by omega)), niCl (by omega), rI_no (by omega), hm]
theorem app_go {v : rV} {a : Int32} {m : Nat} (hm : v.1 1 1 = nI m) (hr : m + cnt (b4 a) ≤ 160) : f_X6_append v a = some (pbs 2 1 1 v (b4 a)) := by
  unfold f_X6_append
  simp only [b4, cnt] at hr
  obtain ⟨n, en⟩ : ∃ n, 20000 = n + 5 := ⟨19995, rfl⟩
  have l1 := pb_len (k := 2) (b := byt a 24) hm
  have l2 := pb_len (k := 2) (b := byt a 16) l1
  have l3 := pb_len (k := 2) (b := byt a 8) l2
  rw [en, show f_X6_append_3 (n + 5) v a 24 = _ from app1 (n := n + 4) (s := 24) (by omega) hm (by omega), show nI 24 + -8 = nI 16 from rfl, app1 (n := n + 3) (s := 16) (by omega) l1 (by omega), show nI 16 + -8 = nI 8 from rfl, app1 (n := n + 2) (s := 8) (by omega) l2 (by omega), show nI 8 + -8 = nI 0 from rfl, app1 (n := n + 1) (s := 0) (by omega) l3 (by omega), f_X6_append_3, if_pos (show nI 0 + -8 < 0 by decide)]
  rfl
theorem bin1 {v : rV} {a : Int32} {s n m : Nat} (hs : s ≤ 24) : f_X6_bytesIn_5 v (n + 1) a (nI m) (nI s) = f_X6_bytesIn_5 v n a (nI (m + if byt a s = 0 then 0 else 1)) (nI s + -8) := by
  rw [f_X6_bytesIn_5, if_neg (niGe (by omega)), sh_c hs]
  unfold f_X6_bytesIn_22
  simp only [vlet_eq]
  by_cases q : byt a s = 0
  · rw [if_pos q, if_pos q, Nat.add_zero]
  · rw [if_neg q, if_neg q, ad1]
theorem bin_go {v : rV} {a : Int32} : f_X6_bytesIn v a = some (nI (cnt (b4 a))) := by
  unfold f_X6_bytesIn
  obtain ⟨n, en⟩ : ∃ n, 20000 = n + 5 := ⟨19995, rfl⟩
  rw [en, show f_X6_bytesIn_5 v (n + 5) a 0 24 = _ from bin1 (n := n + 4) (m := 0) (s := 24) (by omega), show nI 24 + -8 = nI 16 from rfl, bin1 (n := n + 3) (s := 16) (by omega), show nI 16 + -8 = nI 8 from rfl, bin1 (n := n + 2) (s := 8) (by omega), show nI 8 + -8 = nI 0 from rfl, bin1 (n := n + 1) (s := 0) (by omega), f_X6_bytesIn_5, if_pos (show nI 0 + -8 < 0 by decide)]
  simp only [b4, cnt]
  rw [show 0 + (if byt a 24 = 0 then 0 else 1) + (if byt a 16 = 0 then 0 else 1) + (if byt a 8 = 0 then 0 else 1) + (if byt a 0 = 0 then 0 else 1) = (if byt a 24 = 0 then 0 else 1) + ((if byt a 16 = 0 then 0 else 1) + ((if byt a 8 = 0 then 0 else 1) + ((if byt a 0 = 0 then 0 else 1) + 0))) by omega]
/-- the model's byte by its number -/
theorem m45 {v : rV} {a : Int32} {i : Nat} (hi : i < 20) : f_X8_byteOf_45 v (nI i) a = byt a (24 - 8 * (i % 4)) := by
  unfold f_X8_byteOf_45 byt
  have h : ∀ i, i < 20 → (((24 : Int32) - ((8 : Int32) * (nI i - nI i / (4 : Int32) * (4 : Int32)))) &&& 31) = nI (24 - 8 * (i % 4)) := by decide
  rw [h i hi]
def b20 (a1 a2 a3 a4 a5 : Int32) : List Int32 := b4 a1 ++ (b4 a2 ++ (b4 a3 ++ (b4 a4 ++ b4 a5)))
theorem mb {v : rV} {a1 a2 a3 a4 a5 : Int32} : ∀ i, i < 20 → (b20 a1 a2 a3 a4 a5)[i]? = some (f_X8_byteOf v a1 a2 a3 a4 a5 (nI i)) := by
  intro i hi
  unfold f_X8_byteOf
  rw [m45 hi, m45 hi, m45 hi, m45 hi, m45 hi]
  have hh : i = 0 ∨ i = 1 ∨ i = 2 ∨ i = 3 ∨ i = 4 ∨ i = 5 ∨ i = 6 ∨ i = 7 ∨ i = 8 ∨ i = 9 ∨ i = 10 ∨ i = 11 ∨ i = 12 ∨ i = 13 ∨ i = 14 ∨ i = 15 ∨ i = 16 ∨ i = 17 ∨ i = 18 ∨ i = 19 := by omega
  rcases hh with rfl | rfl | rfl | rfl | rfl | rfl | rfl | rfl | rfl | rfl | rfl | rfl | rfl | rfl | rfl | rfl | rfl | rfl | rfl | rfl <;> rfl
theorem m6_go {v : rV} {a1 a2 a3 a4 a5 : Int32} : ∀ (d i n m : Nat) (l : List Int32), i + d = 20 → d < n → (b20 a1 a2 a3 a4 a5).drop i = l → f_X8_feed_6 n v a1 a2 a3 a4 a5 (nI m) (nI i) = f_X8_feed_6 (n - d) v a1 a2 a3 a4 a5 (nI (m + cnt l)) 20 := by
  intro d
  induction d with
  | zero =>
    intro i n m l e hn hl
    have : i = 20 := by omega
    subst this
    have : l = [] := by rw [← hl]; rfl
    subst this
    rfl
  | succ d ih =>
    intro i n m l e hn hl
    obtain ⟨n, rfl⟩ : ∃ n', n = n' + 1 := ⟨n - 1, by omega⟩
    have hb := mb (v := v) (a1 := a1) (a2 := a2) (a3 := a3) (a4 := a4) (a5 := a5) i (by omega)
    obtain ⟨hlt, hb⟩ := List.getElem?_eq_some_iff.mp hb
    rw [List.drop_eq_getElem_cons hlt, hb] at hl
    rw [f_X8_feed_6, if_neg (show ¬ (20 : Int32) ≤ nI i from nle (a := 20) (by omega) (by omega))]
    unfold f_X8_feed_35
    simp only [vlet_eq, ad1, Int32.add_zero]
    have := fun m => ih (i + 1) n m _ (by omega) (by omega) rfl
    rw [← hl]
    simp only [cnt]
    rw [show n + 1 - (d + 1) = n - d by omega]
    by_cases q : f_X8_byteOf v a1 a2 a3 a4 a5 (nI i) = 0
    · rw [if_pos q, if_pos q, this, Nat.zero_add]
    · rw [if_neg q, if_neg q, this, Nat.add_assoc]
theorem m62_go {a1 a2 a3 a4 a5 : Int32} : ∀ (d i n m : Nat) (v : rV) (l : List Int32), i + d = 20 → d < n → (b20 a1 a2 a3 a4 a5).drop i = l → v.1 174 2 = nI m → m + cnt l ≤ 160 → f_X8_feed_62 n v a1 a2 a3 a4 a5 (nI i) = some ((pbs 175 174 2 v l).1 174 2, pbs 175 174 2 v l) := by
  intro d
  induction d with
  | zero =>
    intro i n m v l e hn hl hm hr
    have : i = 20 := by omega
    subst this
    have : l = [] := by rw [← hl]; rfl
    subst this
    obtain ⟨n, rfl⟩ : ∃ n', n = n' + 1 := ⟨n - 1, by omega⟩
    rw [f_X8_feed_62, if_pos (show (20 : Int32) ≤ nI 20 by decide)]
    rfl
  | succ d ih =>
    intro i n m v l e hn hl hm hr
    obtain ⟨n, rfl⟩ : ∃ n', n = n' + 1 := ⟨n - 1, by omega⟩
    have hb := mb (v := v) (a1 := a1) (a2 := a2) (a3 := a3) (a4 := a4) (a5 := a5) i (by omega)
    obtain ⟨hlt, hb⟩ := List.getElem?_eq_some_iff.mp hb
    rw [List.drop_eq_getElem_cons hlt, hb] at hl
    rw [← hl] at hr ⊢
    simp only [cnt] at hr
    have hl2 := pb_len (k := 175) (b := f_X8_byteOf v a1 a2 a3 a4 a5 (nI i)) hm
    rw [f_X8_feed_62, if_neg (show ¬ (20 : Int32) ≤ nI i from nle (a := 20) (by omega) (by omega))]
    unfold f_X8_feed_109
    simp only [vlet_eq, ad1, pbs]
    have hi := ih (i + 1) n _ (pb 175 174 2 v (f_X8_byteOf v a1 a2 a3 a4 a5 (nI i))) _ (by omega) (by omega) rfl hl2 (by omega)
    unfold pb at hi ⊢
    by_cases q : f_X8_byteOf v a1 a2 a3 a4 a5 (nI i) = 0
    · rw [if_pos q] at hi ⊢
      rw [if_pos q]
      exact hi
    · rw [if_neg q] at hi hr ⊢
      rw [if_neg q, hm, if_pos (gin (show m < 160 by omega) (by omega)), rI_no (by omega), hm]
      rw [hm] at hi
      exact hi
theorem feed_go {tb : Nat} {vc vm : rV} (h : Rel tb vc vm) (a1 a2 a3 a4 a5 : Int32) : Agree tb vc vm (f_X7_feed vc a1 a2 a3 a4 a5) (f_X8_feed vm a1 a2 a3 a4 a5) := by
  obtain ⟨n, n1, n2, n3, n4⟩ := h.tape
  have hc20 : cnt (b20 a1 a2 a3 a4 a5) = cnt (b4 a1) + cnt (b4 a2) + cnt (b4 a3) + cnt (b4 a4) + cnt (b4 a5) := by
    unfold b20
    rw [cnt_app, cnt_app, cnt_app, cnt_app]
    omega
  have c4 : ∀ a, cnt (b4 a) ≤ 4 := fun a => by
    simp only [b4, cnt]
    have : ∀ x : Int32, (if x = 0 then 0 else 1) ≤ 1 := fun x => by
      by_cases q : x = 0
      · rw [if_pos q]; omega
      · rw [if_neg q]; omega
    have h1 := this (byt a 24)
    have h2 := this (byt a 16)
    have h3 := this (byt a 8)
    have h4 := this (byt a 0)
    omega
  unfold f_X7_feed f_X8_feed
  rw [bin_go, bin_go, bin_go, bin_go, bin_go]
  simp only [Option.bind_some, vlet_eq]
  rw [niAdd, niAdd, niAdd, niAdd, ← hc20, n2, niAdd, show f_X8_feed_6 20000 vm a1 a2 a3 a4 a5 0 0 = _ from m6_go (v := vm) 20 0 20000 0 _ (by omega) (by omega) rfl, List.drop_zero, Nat.zero_add]
  obtain ⟨m, em⟩ : ∃ m, 20000 - 20 = m + 1 := ⟨20000 - 21, rfl⟩
  rw [em, f_X8_feed_6, if_pos (show (20 : Int32) ≤ 20 by decide), n3, niAdd]
  have g1 := c4 a1
  have g2 := c4 a2
  have g3 := c4 a3
  have g4 := c4 a4
  have g5 := c4 a5
  by_cases q : n + cnt (b20 a1 a2 a3 a4 a5) ≤ 160
  · rw [if_pos (show nI (n + cnt (b20 a1 a2 a3 a4 a5)) ≤ (160 : Int32) from ple (b := 160) q (by omega)), if_pos (show nI (n + cnt (b20 a1 a2 a3 a4 a5)) ≤ (160 : Int32) from ple (b := 160) q (by omega))]
    rw [show f_X8_feed_62 20000 vm a1 a2 a3 a4 a5 0 = _ from m62_go 20 0 20000 n vm _ (by omega) (by omega) rfl n3 (by rw [List.drop_zero]; exact q), List.drop_zero]
    have l1 := pbs_len (k := 2) (b4 a1) n2
    have l2 := pbs_len (k := 2) (b4 a2) l1
    have l3 := pbs_len (k := 2) (b4 a3) l2
    have l4 := pbs_len (k := 2) (b4 a4) l3
    rw [app_go n2 (by omega), Option.bind_some, app_go l1 (by omega), Option.bind_some, app_go l2 (by omega), Option.bind_some, app_go l3 (by omega), Option.bind_some, app_go l4 (by omega), Option.bind_some, ← pbs_app, ← pbs_app, ← pbs_app, ← pbs_app, show b4 a1 ++ (b4 a2 ++ (b4 a3 ++ (b4 a4 ++ b4 a5))) = b20 a1 a2 a3 a4 a5 from rfl]
    have hr : ∀ b, b ∈ b20 a1 a2 a3 a4 a5 → ∃ x, x ≤ 255 ∧ b = nI x := fun b hb => by
      have hb4 : ∀ a, b ∈ b4 a → ∃ x, x ≤ 255 ∧ b = nI x := fun a hb => by
        simp only [b4, List.mem_cons, List.not_mem_nil, or_false] at hb
        rcases hb with hb | hb | hb | hb <;> (rw [hb]; exact byt_r _ _)
      unfold b20 at hb
      simp only [List.mem_append] at hb
      rcases hb with hb | hb | hb | hb | hb <;> exact hb4 _ hb
    obtain ⟨k1, k2, k3⟩ := pbs_both (b20 a1 a2 a3 a4 a5) n2 h.tape hr q
    rw [pbs_len (k := 2) _ n2, pbs_len (k := 175) _ n3]
    exact Agree.new h (k2.mono fun k j q => by unfold Sc; omega) (k3.mono fun k j q => by unfold Sm; omega) k1 (Rd.same k2 k3 (by omega) (by omega) (by omega) (by omega) (by omega)) (h.stains.ch k2 k3 (by omega) (by omega) (by omega) (by omega)) (fun p hp => ⟨p, hp.ch k2 k3 (by omega) (by omega)⟩)
  · rw [if_neg (show ¬ nI (n + cnt (b20 a1 a2 a3 a4 a5)) ≤ (160 : Int32) from nle (b := 160) (by omega) (by omega)), if_neg (show ¬ nI (n + cnt (b20 a1 a2 a3 a4 a5)) ≤ (160 : Int32) from nle (b := 160) (by omega) (by omega))]
    exact Agree.same h
