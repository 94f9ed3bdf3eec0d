/-! CODES ON END; laws and wants are worth the same -/
theorem code_go {kf kl T len w p m E : Nat} {P O V : Nat → Int32} {vc vm : rV} {x : Nat × Nat} {st st' : List Bool} {a3 : Int32} (hV : VE kf kl T len w P O V vc vm) (hk : ck1 w x st = some st') (h32 : st.length ≤ 32) (hS : SK kf vc vm st) (hp : p < len) (e1 : P p = cl x) (e2 : O m = nI x.1) (e3 : V m = nI x.2) (hm1 : 340 * T ≤ m) (hm2 : m < E) (hE : E ≤ 340 * T + 340) (ha3 : (340 : Int32) * nI T + a3 = nI E) (f g : Nat) :
    ∃ vc' vm', f_X2_worth_4 (f + 1) vc kf kl (nI st.length) (nI p) = f_X2_worth_4 f vc' kf kl (nI st'.length) (nI (p + 1)) ∧ f_X8_workOut_12 (g + 1) vm (nI T) a3 (nI st.length) (nI m) = f_X8_workOut_12 g vm' (nI T) a3 (nI st'.length) (nI (m + 1)) ∧ SK kf vc' vm' st' ∧ Ch (Sw2 kf) vc vc' ∧ Ch Tw2 vm vm' ∧ st'.length ≤ 32 := by
  obtain ⟨v1, v2, v3, v4, v5, v6, v7, v8⟩ := hV
  have c176 : vm.1 176 m = nI x.1 := by rw [(v3 m hm1 (by omega)).1]; exact e2
  have c177 : vm.1 177 m = nI x.2 := by rw [(v3 m hm1 (by omega)).2]; exact e3
  have cc : vc.1 (kf + 1) p = cl x := by rw [v2]; exact e1
  have wi := w_in (n := f) (kl := kl) (a2 := nI st.length) v1 hp v8 cc
  rw [wi]
  rcases ck1_inv hk with ⟨o, h2, h3, rfl⟩ | ⟨o, h2, h3, rfl⟩ | ⟨o, r, rfl, rfl⟩ | hb
  · obtain ⟨o', v⟩ := x
    simp only at o h2 c176 c177
    subst o
    rw [cl_num, wB_num h3 h2, m_num hm2 (by omega) ha3 (by omega) c176, c177]
    exact ⟨_, _, rfl, rfl, ⟨⟨by rw [rI_at, rI_at], fun h => by cases h⟩, hS.up (Nat.le_refl _)⟩, Ch.rf.I ⟨rfl, by omega⟩, Ch.rf.I ⟨rfl, by omega⟩, by simp only [List.length_cons]; omega⟩
  · obtain ⟨o', v⟩ := x
    simp only at o h2 c176 c177
    subst o
    rw [cl_let, wB_let h3 (show v < 7 by omega), m_let hm2 (by omega) ha3 (by omega) c176 c177 (by omega), v4 v h2]
    exact ⟨_, _, rfl, rfl, ⟨⟨by rw [rI_at, rI_at], fun h => by cases h⟩, hS.up (Nat.le_refl _)⟩, Ch.rf.I ⟨rfl, by omega⟩, Ch.rf.I ⟨rfl, by omega⟩, by simp only [List.length_cons]; omega⟩
  · obtain ⟨o', v⟩ := x
    simp only at o c176 c177
    subst o
    simp only [List.length_cons] at h32 ⊢
    obtain ⟨⟨s1, s2⟩, s3⟩ := hS
    rw [show cl (9, v) = -10 from rfl, wB_not (show r.length < 32 by omega), m_not hm2 (by omega) ha3 (by omega) c176, s1]
    refine ⟨_, _, rfl, rfl, ⟨⟨?_, fun _ => ?_⟩, s3.up (Nat.le_refl _)⟩, Ch.rf.I ⟨rfl, by omega⟩, Ch.rf.I ⟨rfl, by omega⟩, by omega⟩
    · rw [rI_at, rI_at]
      rcases s2 rfl with z | z
      · rw [z]; decide
      · rw [z]; decide
    · rw [rI_at]
      rcases s2 rfl with z | z
      · rw [z]; decide
      · rw [z]; decide
  · obtain ⟨o, v⟩ := x
    simp only at c176 c177
    obtain ⟨b1, b2, b3, r, h2, h11, h9, rfl, rfl, y, z, hj, hz, hw, ht⟩ : ∃ (b1 b2 b3 : Bool) (r : List Bool), 2 ≤ o ∧ o ≤ 11 ∧ o ≠ 9 ∧ st = b1 :: b2 :: r ∧ st' = b3 :: r ∧ ∃ (y : Int64) (z : Int32), f_X2_joined (cl (o, v)) (vm.1 184 r.length).toInt64 (vm.1 184 (r.length + 1)).toInt64 = some y ∧ f_X8_bounded y = z ∧ (∀ w, f_X8_worked w (nI o) (vm.1 184 r.length).toInt64 (vm.1 184 (r.length + 1)).toInt64 = some z) ∧ (b3 = true → z = 0 ∨ z = 1) := by
      rcases hb with ⟨h1, h2, r, rfl, rfl⟩ | ⟨h1, h2, r, rfl, rfl⟩ | ⟨h1, h2, r, rfl, rfl⟩
      · obtain ⟨y, z, x1, x2, x3, x4⟩ := op_num (a := (vm.1 184 r.length).toInt64) (b := (vm.1 184 (r.length + 1)).toInt64) (show 2 ≤ o from h1) (show o ≤ 8 by simp only at h2; omega) v
        exact ⟨_, _, _, r, h1, by simp only at h2; omega, by simp only at h2; omega, rfl, rfl, y, z, x1, x2, x3, fun h => by cases h⟩
      · simp only at h1 h2
        obtain ⟨y, z, x1, x2, x3, x4⟩ := op_num (a := (vm.1 184 r.length).toInt64) (b := (vm.1 184 (r.length + 1)).toInt64) (show 2 ≤ o by omega) (show o ≤ 8 by omega) v
        exact ⟨_, _, _, r, by omega, by omega, by omega, rfl, rfl, y, z, x1, x2, x3, fun _ => x4 h1⟩
      · simp only at h1 h2
        obtain ⟨⟨s1, s2⟩, ⟨s3, s4⟩, s5⟩ := hS
        obtain ⟨y, z, x1, x2, x3, x4⟩ := op_tru h1 h2 (s4 rfl) (s2 rfl) v
        exact ⟨_, _, _, r, by omega, h2, by omega, rfl, rfl, y, z, x1, x2, x3, fun _ => x4⟩
    obtain ⟨⟨n1, n2⟩, n12, n10, n11⟩ := cl_bin (v := v) h2 h11 h9
    simp only [List.length_cons] at h32 ⊢
    obtain ⟨⟨s1, s2⟩, ⟨s3, s4⟩, s5⟩ := hS
    simp only [List.length_cons] at s1
    rw [show r.length + 1 + 1 = r.length + 2 from rfl, wB_bin (y := y) (show r.length + 1 < 32 by omega) n1 n2 n12 n10 n11 (by rw [s1, s3]; exact hj), m_bin hm2 (by omega) ha3 (by omega) c176 h2 h11 h9 (hw vm), hz]
    exact ⟨_, _, rfl, rfl, ⟨⟨by rw [rI_at, rI_at], fun h => by rw [rI_at]; exact ht h⟩, s5.up (Nat.le_refl _)⟩, Ch.rf.I ⟨rfl, by omega⟩, Ch.rf.I ⟨rfl, by omega⟩, by omega⟩
theorem seg_go {kf kl T len w E : Nat} {P O V : Nat → Int32} {a3 : Int32} (hE : E ≤ 340 * T + 340) (ha3 : (340 : Int32) * nI T + a3 = nI E) : ∀ (s : List (Nat × Nat)) (st st' : List Bool) (p m f g : Nat) (vc vm : rV), VE kf kl T len w P O V vc vm → ck w s st = some st' → st.length ≤ 32 → SK kf vc vm st → GS P O V p m s → p + s.length ≤ len → 340 * T ≤ m → m + s.length ≤ E →
    ∃ vc' vm', f_X2_worth_4 (f + s.length) vc kf kl (nI st.length) (nI p) = f_X2_worth_4 f vc' kf kl (nI st'.length) (nI (p + s.length)) ∧ f_X8_workOut_12 (g + s.length) vm (nI T) a3 (nI st.length) (nI m) = f_X8_workOut_12 g vm' (nI T) a3 (nI st'.length) (nI (m + s.length)) ∧ SK kf vc' vm' st' ∧ Ch (Sw2 kf) vc vc' ∧ Ch Tw2 vm vm' := by
  intro s
  induction s with
  | nil =>
    intro st st' p m f g vc vm hV hk h32 hS hG h1 h2 h3
    have e : st = st' := Option.some.inj hk
    subst e
    exact ⟨vc, vm, rfl, rfl, hS, Ch.rf, Ch.rf⟩
  | cons x s ih =>
    intro st st' p m f g vc vm hV hk h32 hS hG h1 h2 h3
    simp only [List.length_cons] at h1 h3 ⊢
    simp only [ck] at hk
    cases hx : ck1 w x st with
    | none => rw [hx] at hk; cases hk
    | some u =>
      rw [hx, Option.bind_some] at hk
      obtain ⟨g1, g2, g3⟩ := hG 0 x rfl
      obtain ⟨vc1, vm1, x1, x2, x3, x4, x5, x6⟩ := code_go (p := p) (m := m) hV hx h32 hS (show p < len by omega) g1 g2 g3 h2 (show m < E by omega) hE ha3 (f + s.length) (g + s.length)
      obtain ⟨vc2, vm2, y1, y2, y3, y4, y5⟩ := ih u st' (p + 1) (m + 1) f g vc1 vm1 (hV.ch x4 x5) hk x6 x3 hG.tail (by omega) (by omega) (by omega)
      refine ⟨vc2, vm2, ?_, ?_, y3, x4.tr y4, x5.tr y5⟩
      · rw [← Nat.add_assoc, x1, y1, show p + 1 + s.length = p + (s.length + 1) by omega]
      · rw [← Nat.add_assoc, x2, y2, show m + 1 + s.length = m + (s.length + 1) by omega]
/-- one piece worked out, from an empty stack -/
theorem piece_ev {kf kl T len w c p : Nat} {P O V : Nat → Int32} {vc vm : rV} {s : List (Nat × Nat)} {b : Bool} {m : Nat} (hV : VE kf kl T len w P O V vc vm) (hk : Ty w m [] [b] s) (hm : m ≤ 32) (hG : GS P O V p (340 * T + c) s) (h1 : p + s.length ≤ len) (h2 : c + s.length ≤ 340) (f : Nat) :
    ∃ (r : Int32) (vc' vm' : rV), f_X2_worth_4 (f + s.length) vc kf kl 0 (nI p) = f_X2_worth_4 f vc' kf kl 1 (nI (p + s.length)) ∧ f_X8_workOut vm (nI T) (nI c) (nI (c + s.length)) = some (r, vm') ∧ vc'.1 (kf + 2) 0 = r ∧ Ch (Sw2 kf) vc vc' ∧ Ch Tw2 vm vm' := by
  have l162 := hV.2.2.2.2.2.2.2
  have i1 : (340 : Int32) * nI T + nI c = nI (340 * T + c) := by rw [show (340 : Int32) * nI T = nI (340 * T) from niMul 340 T, niAdd]
  have i2 : (340 : Int32) * nI T + nI (c + s.length) = nI (340 * T + (c + s.length)) := by rw [show (340 : Int32) * nI T = nI (340 * T) from niMul 340 T, niAdd]
  have hT := hV.2.2.2.2.2.2.1
  obtain ⟨g, hg⟩ : ∃ g, 20000 = (g + 1) + s.length := ⟨20000 - s.length - 1, by omega⟩
  obtain ⟨vc', vm', x1, x2, x3, x4, x5⟩ := seg_go (E := 340 * T + (c + s.length)) (a3 := nI (c + s.length)) (by omega) i2 s [] [b] p (340 * T + c) f (g + 1) vc vm hV (by
    have := hk [] (by simpa using hm)
    simpa using this) (by simp) trivial hG h1 (by omega) (by omega)
  obtain ⟨⟨s1, -⟩, -⟩ := x3
  refine ⟨vm'.1 184 0, vc', vm', x1, ?_, s1, x4, x5⟩
  unfold f_X8_workOut
  rw [i1, vlet_eq, hg]
  rw [show f_X8_workOut_12 (g + 1 + s.length) vm (nI T) (nI (c + s.length)) 0 (nI (340 * T + c)) = _ from x2]
  exact m_end (by omega) (by omega) i2
/-- clauses, one behind the other -/
def CE (q : Qy) (vc vm : rV) : List (List (Nat × Nat) × List (Nat × Nat)) → Nat → Nat → Nat → Prop := LWs q vc vm
theorem law_evw {q : Qy} {kf kl len : Nat} {P O V : Nat → Int32} {wc0 wm0 : rV} (hP : ∀ j, j < 162 → P j = wc0.1 5 j) (hO : ∀ j, 340 * q.T ≤ j → j < 340 * q.T + 340 → O j = wm0.1 176 j ∧ V j = wm0.1 177 j) : ∀ (cs : List (List (Nat × Nat) × List (Nat × Nat))) (l c k f g N : Nat) (vc vm : rV), VE kf kl q.T len q.w P O V vc vm → LWs q wc0 wm0 cs l c k → l + tL cs = len → c + tC cs ≤ 340 → k + cs.length = N → N ≤ 60 → (∀ j, 90 * q.T ≤ j → j < 90 * q.T + 90 → vm.1 180 j = wm0.1 180 j ∧ vm.1 181 j = wm0.1 181 j ∧ vm.1 182 j = wm0.1 182 j) → vm.1 179 q.T = nI N → tL cs < f → cs.length < g →
    ∃ (r : Int32) (vc' vm' : rV), f_X2_worth_4 f vc kf kl 0 (nI l) = some (r, vc') ∧ f_X8_worth_5 g vm (nI q.T) (nI (90 * q.T + k)) = some (r, vm') ∧ Ch (Sw2 kf) vc vc' ∧ Ch Tw2 vm vm' := by
  have gs : ∀ {l c : Nat} {s : List (Nat × Nat)}, SG q.T wc0 wm0 l c s → l + s.length ≤ 162 → c + s.length ≤ 340 → GS P O V l (340 * q.T + c) s := fun {l c s} h h1 h2 i x hx => by
    have hi := (List.getElem?_eq_some_iff.mp hx).1
    obtain ⟨a1, a2, a3⟩ := h i x hx
    rw [hP _ (by omega), (hO (340 * q.T + c + i) (by omega) (by omega)).1, (hO (340 * q.T + c + i) (by omega) (by omega)).2]
    exact ⟨a1, a2, a3⟩
  intro cs
  induction cs with
  | nil =>
    intro l c k f g N vc vm hV hW hl hc hk hN h18 h179 hf hg
    simp only [tL, List.length_nil, Nat.add_zero] at hl hk hf
    obtain ⟨f, rfl⟩ : ∃ n', f = n' + 1 := ⟨f - 1, by omega⟩
    obtain ⟨g, rfl⟩ : ∃ n', g = n' + 1 := ⟨g - 1, by omega⟩
    have hT := hV.2.2.2.2.2.2.1
    have l162 := hV.2.2.2.2.2.2.2
    refine ⟨0, vc, vm, w_end hV.1 (by omega) (by omega), ?_, Ch.rf, Ch.rf⟩
    rw [f_X8_worth_5, if_pos (gin hT (by omega)), niCl (show q.T < 2147483648 by omega), h179, show (90 : Int32) * nI q.T = nI (90 * q.T) from niMul 90 q.T, niAdd, if_pos (ple (by omega) (by omega))]
  | cons x r ih =>
    intro l c k f g N vc vm hV hW hl hc hk hN h18 h179 hf hg
    obtain ⟨⟨⟨a180, a181, a182⟩, tyS, hx⟩, hW'⟩ := hW
    have hcC : cC x = x.1.length + x.2.length := rfl
    simp only [tL, tC, List.length_cons] at hl hc hk hf hg
    obtain ⟨g, rfl⟩ : ∃ n', g = n' + 1 := ⟨g - 1, by omega⟩
    have hT := hV.2.2.2.2.2.2.1
    have l162 := hV.2.2.2.2.2.2.2
    obtain ⟨b1, b2, b3⟩ := h18 (90 * q.T + k) (by omega) (by omega)
    -- the sum of this clause, at the class's place p
    have sumGo : ∀ (p F : Nat) (uc um : rV), VE kf kl q.T len q.w P O V uc um → (∀ j, um.1 181 j = vm.1 181 j ∧ um.1 182 j = vm.1 182 j) → GS P O V p (340 * q.T + (c + x.1.length)) x.2 → P (p + x.2.length) = -12 → p + x.2.length < len → x.2.length < F → ∃ (r : Int32) (vc' vm' : rV), f_X2_worth_4 F uc kf kl 0 (nI p) = some (r, vc') ∧ f_X8_worth_55 um (nI q.T) (nI (90 * q.T + k)) = some (r, vm') ∧ Ch (Sw2 kf) uc vc' ∧ Ch Tw2 um vm' := fun p F uc um hU h12 hG hst hp hF => by
      obtain ⟨F, rfl⟩ : ∃ n', F = (n' + 1) + x.2.length := ⟨F - 1 - x.2.length, by omega⟩
      obtain ⟨r9, vc1, vm1, y1, y2, y3, y4, y5⟩ := piece_ev hU tyS (by omega) hG (by omega) (show c + x.1.length + x.2.length ≤ 340 by omega) (F + 1)
      have hU1 := hU.ch y4 y5
      refine ⟨r9, vc1, vm1, ?_, ?_, y4, y5⟩
      · rw [y1, w_in (x := -12) hU1.1 hp l162 (by rw [hU1.2.1]; exact hst), wB_stop, y3]
      · unfold f_X8_worth_55
        rw [if_pos (gin (show 90 * q.T + k < 810 by omega) (by omega)), niCl (show 90 * q.T + k < 2147483648 by omega), (h12 _).1, (h12 _).2, b2, b3, a181, a182, y2, Option.bind_some]
    rw [f_X8_worth_5, if_pos (gin hT (by omega)), niCl (show q.T < 2147483648 by omega), h179, show (90 : Int32) * nI q.T = nI (90 * q.T) from niMul 90 q.T, niAdd, if_neg (nle (by omega) (by omega)), if_pos (gin (show 90 * q.T + k < 810 by omega) (by omega)), niCl (show 90 * q.T + k < 2147483648 by omega), b1, b2, a180, a181]
    rcases hx with ⟨d1, d2, d3⟩ | ⟨d1, d2, d3, d4, d5, d6, d7⟩
    · have e0 : cL x = x.2.length + 1 := by unfold cL; rw [if_pos d1]
      have hl0 : x.1.length = 0 := by rw [d1]; rfl
      rw [if_pos (by rw [hl0, Nat.add_zero])]
      exact sumGo l f vc vm hV (fun _ => ⟨rfl, rfl⟩) (by rw [hl0, Nat.add_zero]; exact gs d2 (by omega) (by omega)) (by rw [hP _ (by omega)]; exact d3) (by omega) (by omega)
    · have e0 : cL x = x.1.length + x.2.length + 3 := by unfold cL; rw [if_neg d1]
      have hl0 : 0 < x.1.length := List.length_pos_iff.mpr d1
      rw [if_neg (nne (by omega) (by omega) (by omega))]
      obtain ⟨f, rfl⟩ : ∃ n', f = (n' + 1) + x.1.length := ⟨f - 1 - x.1.length, by omega⟩
      obtain ⟨r9, vc1, vm1, y1, y2, y3, y4, y5⟩ := piece_ev hV d2 (by omega) (gs d3 (by omega) (by omega)) (by omega) (show c + x.1.length ≤ 340 by omega) (f + 1)
      have hV1 := hV.ch y4 y5
      have t12 : ∀ j, vm1.1 181 j = vm.1 181 j ∧ vm1.1 182 j = vm.1 182 j := fun j => ⟨y5.1 _ _ (by unfold Tw2; omega), y5.1 _ _ (by unfold Tw2; omega)⟩
      rw [y1, w_in (x := -11) hV1.1 (show l + x.1.length < len by omega) l162 (by rw [hV1.2.1, hP _ (by omega)]; exact d4), wB_skip (u := x.2.length + 1) (by omega) (by rw [hV1.2.1, hP _ (by omega)]; exact d5) (by omega), y2, Option.bind_some, y3]
      by_cases z : r9 = 0
      · rw [if_pos z]
        simp only [if_pos z]
        rw [vlet_eq, ad1, show 90 * q.T + k + 1 = 90 * q.T + (k + 1) by omega, show l + x.1.length + (x.2.length + 1) + 2 = l + cL x by omega]
        obtain ⟨r, vc', vm', j1, j2, j3, j4⟩ := ih (l + cL x) (c + cC x) (k + 1) f g N vc1 vm1 hV1 hW' (by omega) (by omega) (by omega) hN (fun j h1 h2 => by rw [y5.1 180 _ (by unfold Tw2; omega), y5.1 181 _ (by unfold Tw2; omega), y5.1 182 _ (by unfold Tw2; omega)]; exact h18 j h1 h2) (by rw [y5.1 _ _ (by unfold Tw2; omega)]; exact h179) (by omega) (by omega)
        exact ⟨r, vc', vm', j1, j2, y4.tr j3, y5.tr j4⟩
      · rw [if_neg z]
        simp only [if_neg z]
        obtain ⟨r, vc', vm', j1, j2, j3, j4⟩ := sumGo (l + x.1.length + 2) f vc1 vm1 hV1 t12 (gs d6 (by omega) (by omega)) (by rw [hP _ (by omega)]; exact d7) (by omega) (by omega)
        exact ⟨r, vc', vm', j1, j2, y4.tr j3, y5.tr j4⟩
theorem lawK_of {q : Qy} {kf : Nat} {wc0 wm0 vc0 vm0 : rV} (hq : q.W = 0) (hT : q.T < 9) (h : LWX q wc0 wm0) (hC : ∀ j, j < 162 → vc0.1 (kf + 1) j = wc0.1 5 j) (hl : vc0.1 kf 2 = wc0.1 4 2) (hM : ∀ k j, 176 ≤ k → k ≤ 182 → vm0.1 k j = wm0.1 k j) : LawK kf q.T vc0 vm0 := by
  obtain ⟨cs, c1, c2, c3, c4, c5⟩ := h
  intro vc vm kl a1 a2 a3 a4 a5 a6 a7
  have hw : q.w = 7 := by unfold Qy.w; rw [hq]
  have tc : ∀ cs : List (List (Nat × Nat) × List (Nat × Nat)), tC cs ≤ tL cs := fun cs => by
    induction cs with
    | nil => exact Nat.le_refl _
    | cons x r ih =>
      simp only [tL, tC]
      have : cC x ≤ cL x := by
        unfold cC cL
        by_cases z : x.1 = []
        · rw [if_pos z, z]; simp only [List.length_nil]; omega
        · rw [if_neg z]; omega
      omega
  have := tc cs
  obtain ⟨r, vc', vm', x1, x2, x3, x4⟩ := law_evw (q := q) (kf := kf) (kl := kl) (len := tL cs) (P := fun j => vc0.1 (kf + 1) j) (O := fun j => vm0.1 176 j) (V := fun j => vm0.1 177 j) (wc0 := wc0) (wm0 := wm0) hC (fun j _ _ => ⟨hM 176 j (by omega) (by omega), hM 177 j (by omega) (by omega)⟩) cs 0 0 0 20000 20000 cs.length vc vm ⟨by rw [a2, hl, c2], a1, fun j h1 h2 => a3 j h1 h2, fun j hj => a6 j (by omega), a7, by omega, hT, by omega⟩ c1 (Nat.zero_add _) (by omega) (Nat.zero_add _) c5 (fun j h1 h2 => by
    obtain ⟨y1, y2, y3⟩ := a5 j h1 h2
    rw [y1, y2, y3]
    exact ⟨hM 180 j (by omega) (by omega), hM 181 j (by omega) (by omega), hM 182 j (by omega) (by omega)⟩) (by rw [a4, hM 179 _ (by omega) (by omega), c4]) (by omega) (by omega)
  refine ⟨r, vc', vm', x1, ?_, x3.mono fun _ _ z => z, x4.mono fun _ _ z => z⟩
  unfold f_X8_worth
  rw [show (90 : Int32) * nI q.T = nI (90 * q.T) from niMul 90 q.T, vlet_eq]
  exact x2
theorem wantK_of {q : Qy} {kf w : Nat} {wc0 wm0 vc0 vm0 : rV} (hq : q.W = 1) (hT : q.T < 9) (hw4 : q.T = 4 + w) (h : WWX q wc0 wm0) (hC : ∀ j, j < 162 → vc0.1 (kf + 1) j = wc0.1 5 j) (hl : vc0.1 kf 2 = wc0.1 4 2) (hM : ∀ k j, 176 ≤ k → k ≤ 182 → vm0.1 k j = wm0.1 k j) : WantK kf w vc0 vm0 := by
  obtain ⟨t, c1, c2, c3, c4, c5, c6⟩ := h
  intro vc vm kl a1 a2 a3 a4 a5 a6
  have hw : q.w = 6 := by unfold Qy.w; rw [hq]
  rw [← hw4] at a3 a4 ⊢
  have hV : VE kf kl q.T (t.length + 1) q.w (fun j => vc0.1 (kf + 1) j) (fun j => vm0.1 176 j) (fun j => vm0.1 177 j) vc vm := ⟨by rw [a2, hl, c4], a1, fun j h1 h2 => a3 j h1 h2, fun j hj => a5 j (by omega), a6, by omega, hT, by omega⟩
  obtain ⟨f, hf⟩ : ∃ f, 20000 = (f + 1) + t.length := ⟨20000 - 1 - t.length, by omega⟩
  obtain ⟨r, vc1, vm1, y1, y2, y3, y4, y5⟩ := piece_ev (c := 0) (p := 0) hV c2 (by omega) (fun i x hx => by
    have hi := (List.getElem?_eq_some_iff.mp hx).1
    obtain ⟨b1, b2, b3⟩ := c1 i x hx
    rw [hC _ (by omega), hM 176 _ (by omega) (by omega), hM 177 _ (by omega) (by omega)]
    exact ⟨b1, b2, b3⟩) (by omega) (by omega) (f + 1)
  have hV1 := hV.ch y4 y5
  rw [Nat.zero_add] at y1 y2
  refine ⟨r, vc1, vm1, ?_, ?_, y4.mono fun _ _ z => z, y5.mono fun _ _ z => z⟩
  · unfold f_X2_worth
    rw [hf]
    rw [show f_X2_worth_4 (f + 1 + t.length) vc kf kl 0 0 = _ from y1, w_in (x := -12) hV1.1 (show t.length < t.length + 1 by omega) (by omega) (by rw [hV1.2.1]; dsimp only; rw [hC _ (by omega)]; exact c3), wB_stop, y3]
  · rw [a4, hM 178 _ (by omega) (by omega), c5]
    exact y2
