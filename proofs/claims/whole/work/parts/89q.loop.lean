/-! THE LAW'S LOOP: every call answers alike -/
def PT (o : Option (Bool × rV)) : Prop := ∃ vf : rV, o = some (true, vf)
theorem PT.go {c : Prop} [Decidable c] {x y : Option (Bool × rV)} (h : c) (k : PT x) : PT (if c then x else y) := by rw [if_pos h]; exact k
theorem PT.or {c : Prop} [Decidable c] {x y : Option (Bool × rV)} (k1 : c → PT x) (k2 : ¬ c → PT y) : PT (if c then x else y) := by
  by_cases h : c
  · rw [if_pos h]; exact k1 h
  · rw [if_neg h]; exact k2 h
theorem PT.both {tb tb' : Nat} {v : rV} {f g : rV → Option (Int32 × rV)} {K : rV → Option (Bool × rV)} (h : Rel tb v v) (k : ∀ vc vm, Rel tb vc vm → Agree tb' vc vm (f vc) (g vm)) (kk : ∀ w, Rel tb' w w → PT (K w)) : PT ((f v).bind fun p => (g p.2).bind fun q => if p.1 = q.1 then K q.2 else some (false, q.2)) := by
  obtain ⟨r, v1, v2, e1, e2, h2⟩ := agree_both h k
  rw [e1]
  show PT ((g v1).bind fun q => if r = q.1 then K q.2 else some (false, q.2))
  rw [e2]
  show PT (if r = r then K v2 else some (false, v2))
  exact PT.go rfl (kk v2 h2)
theorem PT.bothZ {tb tb' : Nat} {v : rV} {f g : rV → Option (Bool × rV)} {K : rV → Option (Bool × rV)} (h : Rel tb v v) (k : ∀ vc vm, Rel tb vc vm → Agree tb' vc vm (f vc) (g vm)) (kk : ∀ w, Rel tb' w w → PT (K w)) : PT ((f v).bind fun p => (g p.2).bind fun q => if bI p.1 = bI q.1 then K q.2 else some (false, q.2)) := by
  obtain ⟨r, v1, v2, e1, e2, h2⟩ := agree_both h k
  rw [e1]
  show PT ((g v1).bind fun q => if bI r = bI q.1 then K q.2 else some (false, q.2))
  rw [e2]
  show PT (if bI r = bI r then K v2 else some (false, v2))
  exact PT.go rfl (kk v2 h2)
theorem PT.read {f g : Option Int32} {v : rV} {K : Option (Bool × rV)} (h : ∃ r, f = some r ∧ g = some r) (kk : PT K) : PT (f.bind fun p => g.bind fun q => if p = q then K else some (false, v)) := by
  obtain ⟨r, rfl, rfl⟩ := h
  show PT (if r = r then K else some (false, v))
  exact PT.go rfl kk
theorem PT.drop {tb : Nat} {v : rV} {K : rV → Option (Bool × rV)} (h : Rel tb v v) (a b : Int32) (kk : ∀ w, Rel tb w w → PT (K w)) : PT ((f_L_drop v a b).bind fun p30 => (f_X8_drop p30.2 a b).bind fun p31 => if f_X8_thrown p31.2 = p30.1 then (if p30.1 = 0 then (if lg_cmp (p31.2.2.1 197 0) p31.1.toInt64 = 0 then K p31.2 else some (false, p31.2)) else K p31.2) else some (false, p31.2)) := by
  obtain ⟨e, r, v1, vm, e1, -, -, c1, -⟩ := drop_go h a b
  obtain ⟨e', r', v1', v2, e1', e2', h', c1', c2', e3, e4⟩ := drop_go (h.m c1) a b
  rw [e1] at e1'
  cases e1'
  rw [e1]
  show PT ((f_X8_drop v1 a b).bind fun p31 => if f_X8_thrown p31.2 = e then (if e = 0 then (if lg_cmp (p31.2.2.1 197 0) p31.1.toInt64 = 0 then K p31.2 else some (false, p31.2)) else K p31.2) else some (false, p31.2))
  rw [e2']
  show PT (if f_X8_thrown v2 = e then (if e = 0 then (if lg_cmp (v2.2.1 197 0) r'.toInt64 = 0 then K v2 else some (false, v2)) else K v2) else some (false, v2))
  have hw := kk v2 (h'.c c2')
  refine PT.go e3 (PT.or (fun e0 => PT.go ?_ hw) (fun _ => hw))
  rw [c2'.2.1 197 0 (by unfold Cm; omega), e4 e0]
  unfold lg_cmp
  simp
theorem about_go {M B tb : Nat} {vc vm : rV} (hB : B = 60) (h : ST M B tb vc vm) (a : Int32) : ∃ r, f_X7_about vc a = some r ∧ f_X8_about vm a = some r := by
  subst hB
  obtain ⟨r, e1, e2⟩ := tell_go h a
  exact ⟨r, by unfold f_X7_about; rw [e1]; rfl, e2⟩
theorem law_end {L c : Nat} (hL : L ≤ 5120) (hc : 10 * c ≤ 5120) (h : ¬ Int32.ofNat L - (10 : Int32) < nI (10 * c)) : 10 * (c + 1) ≤ L := by
  rcases Nat.lt_or_ge L 10 with q | q
  · exfalso
    refine h (Int32.lt_iff_toInt_lt.mpr ?_)
    rw [niInt (by omega)]
    have := (by decide : ∀ k, k < 10 → (Int32.ofNat k - (10 : Int32)).toInt < 0) L q
    omega
  · rw [show Int32.ofNat L - (10 : Int32) = nI (L - 10) from niSub (a := L) (b := 10) q] at h
    rcases Nat.lt_or_ge (L - 10) (10 * c) with z | z
    · exact absurd (plt z (by omega)) h
    · omega
set_option maxHeartbeats 4000000 in
theorem law_loop {X : Nat × (Nat → Int32)} (hX : X.1 ≤ 5120) : ∀ (n c tb : Nat) (v : rV), Rel tb v v → tb ≤ 60 * c → 10 * c ≤ X.1 → 520 < n + c → PT (f_L_law_23 X n v (nI (10 * c))) := by
  intro n
  induction n with
  | zero =>
    intro c tb v _ _ h1 h2
    omega
  | succ n ih =>
    intro c tb v h htb hc hn
    have hS : ∃ nd, ST nd 60 tb v v := by
      obtain ⟨nl, nw, nd, p, hE, hS, hL⟩ := id h
      exact ⟨nd, hS⟩
    obtain ⟨nd, hS⟩ := hS
    have hK : 10 * (c + 1) ≤ X.1 → ∀ tb' w, Rel tb' w w → tb' ≤ 60 * (c + 1) → PT (f_L_law_2757 X (fun v a4 => f_L_law_23 X n v a4) w (nI (10 * c))) := fun h2 tb' w hw h1 => by
      unfold f_L_law_2757
      rw [vlet_eq, show nI (10 * c) + (10 : Int32) = nI (10 * (c + 1)) from niAdd (10 * c) 10]
      exact ih (c + 1) tb' w hw h1 h2 (by omega)
    have gd : 10 * (c + 1) ≤ X.1 → ∀ k, k < 10 → ¬ (nI (10 * c) + nI k) < 0 ∧ (nI (10 * c) + nI k).toNatClampNeg < X.1 := fun h2 k hk => by
      rw [niAdd]
      exact gin (by omega) (by omega)
    have g0 : 10 * (c + 1) ≤ X.1 → ¬ nI (10 * c) < 0 ∧ (nI (10 * c)).toNatClampNeg < X.1 := fun h2 => gin (by omega) (by omega)
    rw [f_L_law_23]
    refine PT.or (fun _ => ⟨v, rfl⟩) (fun c0 => ?_)
    have hL := law_end hX (by omega) c0
    have hK0 : ∀ w, Rel tb w w → PT (f_L_law_2757 X (fun v a4 => f_L_law_23 X n v a4) w (nI (10 * c))) := fun w hw => hK hL tb w hw (by omega)
    have hK60 : ∀ w, Rel (tb + 60) w w → PT (f_L_law_2757 X (fun v a4 => f_L_law_23 X n v a4) w (nI (10 * c))) := fun w hw => hK hL (tb + 60) w hw (by omega)
    have g1 : ¬ (nI (10 * c) + (1 : Int32)) < 0 ∧ (nI (10 * c) + (1 : Int32)).toNatClampNeg < X.1 := gd hL 1 (by omega)
    have g2 : ¬ (nI (10 * c) + (2 : Int32)) < 0 ∧ (nI (10 * c) + (2 : Int32)).toNatClampNeg < X.1 := gd hL 2 (by omega)
    have g3 : ¬ (nI (10 * c) + (3 : Int32)) < 0 ∧ (nI (10 * c) + (3 : Int32)).toNatClampNeg < X.1 := gd hL 3 (by omega)
    have g4 : ¬ (nI (10 * c) + (4 : Int32)) < 0 ∧ (nI (10 * c) + (4 : Int32)).toNatClampNeg < X.1 := gd hL 4 (by omega)
    have g5 : ¬ (nI (10 * c) + (5 : Int32)) < 0 ∧ (nI (10 * c) + (5 : Int32)).toNatClampNeg < X.1 := gd hL 5 (by omega)
    have g6 : ¬ (nI (10 * c) + (6 : Int32)) < 0 ∧ (nI (10 * c) + (6 : Int32)).toNatClampNeg < X.1 := gd hL 6 (by omega)
    have g7 : ¬ (nI (10 * c) + (7 : Int32)) < 0 ∧ (nI (10 * c) + (7 : Int32)).toNatClampNeg < X.1 := gd hL 7 (by omega)
    have g8 : ¬ (nI (10 * c) + (8 : Int32)) < 0 ∧ (nI (10 * c) + (8 : Int32)).toNatClampNeg < X.1 := gd hL 8 (by omega)
    have g9 : ¬ (nI (10 * c) + (9 : Int32)) < 0 ∧ (nI (10 * c) + (9 : Int32)).toNatClampNeg < X.1 := gd hL 9 (by omega)
    have g00 := g0 hL
    have htb2 : tb + 60 < 1000000 := by omega
    clear hK gd g0 ih
    generalize nI (10 * c) = a4 at *
    refine PT.go g00 ?_
    refine PT.or (fun _ => ?_) (fun _ => ?_)
    · refine PT.go g1 ?_
      refine PT.go g2 ?_
      refine PT.go g3 ?_
      refine PT.go g4 ?_
      refine PT.go g5 ?_
      exact PT.both (f := fun v => f_X7_feed v _ _ _ _ _) (g := fun v => f_X8_feed v _ _ _ _ _) (K := fun w => f_L_law_2757 X (fun v a4 => f_L_law_23 X n v a4) w a4) h (fun vc vm q => feed_go q _ _ _ _ _) hK0
    refine PT.or (fun _ => ?_) (fun _ => ?_)
    · refine PT.go g1 ?_
      exact PT.bothZ (f := fun v => f_X7_end v _) (g := fun v => f_X8_end v _) (K := fun w => f_L_law_2757 X (fun v a4 => f_L_law_23 X n v a4) w a4) h (fun vc vm q => end_go q _) hK0
    refine PT.or (fun _ => ?_) (fun _ => ?_)
    · refine PT.go g1 ?_
      exact PT.both (f := fun v => f_X7_fault v _) (g := fun v => f_X8_fault v _) (K := fun w => f_L_law_2757 X (fun v a4 => f_L_law_23 X n v a4) w a4) h (fun vc vm q => fault_op q _) hK0
    refine PT.or (fun _ => ?_) (fun _ => ?_)
    · refine PT.go g1 ?_
      exact PT.both (f := fun v => f_X7_text v _) (g := fun v => f_X8_text v _) (K := fun w => f_L_law_2757 X (fun v a4 => f_L_law_23 X n v a4) w a4) h (fun vc vm q => text_op q _) hK0
    refine PT.or (fun _ => ?_) (fun _ => ?_)
    · refine PT.go g1 ?_
      refine PT.go g2 ?_
      exact PT.drop (K := fun w => f_L_law_2757 X (fun v a4 => f_L_law_23 X n v a4) w a4) h _ _ hK0
    refine PT.or (fun _ => ?_) (fun _ => ?_)
    · refine PT.go g1 ?_
      exact PT.bothZ (f := fun v => f_X7_pace v _) (g := fun v => f_X8_pace v _) (K := fun w => f_L_law_2757 X (fun v a4 => f_L_law_23 X n v a4) w a4) h (fun vc vm q => pace_go q _) hK0
    refine PT.or (fun _ => ?_) (fun _ => ?_)
    · refine PT.go g1 ?_
      refine PT.go g2 ?_
      refine PT.go g3 ?_
      refine PT.go g4 ?_
      exact PT.both (f := fun v => f_X7_start v _ _ _) (g := fun v => f_X8_start v _ _ _) (K := fun w => f_L_law_2757 X (fun v a4 => f_L_law_23 X n v a4) w a4) h (fun vc vm q => start_go q _ _ _) hK0
    refine PT.or (fun _ => ?_) (fun _ => ?_)
    · refine PT.go g1 ?_
      exact PT.both (f := fun v => f_X7_tick v _) (g := fun v => f_X8_tick v _) (K := fun w => f_L_law_2757 X (fun v a4 => f_L_law_23 X n v a4) w a4) h (fun vc vm q => tick_op q (by omega) _) hK60
    refine PT.or (fun _ => ?_) (fun _ => ?_)
    · refine PT.go g1 ?_
      refine PT.go g2 ?_
      exact PT.read (body_go rfl hS _ _) (hK0 v h)
    refine PT.or (fun _ => ?_) (fun _ => ?_)
    · refine PT.go g1 ?_
      exact PT.read (water_go rfl hS _) (hK0 v h)
    refine PT.or (fun _ => ?_) (fun _ => ?_)
    · refine PT.go g1 ?_
      refine PT.go g2 ?_
      exact PT.read (free_go rfl hS _ _) (hK0 v h)
    refine PT.or (fun _ => ?_) (fun _ => ?_)
    · refine PT.go g1 ?_
      refine PT.go g2 ?_
      exact PT.read (lies_go rfl hS _ _) (hK0 v h)
    refine PT.or (fun _ => ?_) (fun _ => ?_)
    · refine PT.go g1 ?_
      refine PT.go g2 ?_
      exact PT.read (heap_go rfl hS _ _) (hK0 v h)
    refine PT.or (fun _ => ?_) (fun _ => ?_)
    · refine PT.go g1 ?_
      exact PT.read (flowAt_go rfl hS _) (hK0 v h)
    refine PT.or (fun _ => ?_) (fun _ => ?_)
    · refine PT.go g1 ?_
      exact PT.read (about_go rfl hS _) (hK0 v h)
    refine PT.or (fun _ => ?_) (fun _ => ?_)
    · refine PT.go g1 ?_
      exact PT.go (rush_go rfl hS _) (hK0 v h)
    refine PT.or (fun _ => ?_) (fun _ => ?_)
    · exact PT.go (speed_go rfl hS) (hK0 v h)
    refine PT.or (fun _ => ?_) (fun _ => ?_)
    · refine PT.go g1 ?_
      exact PT.both (f := fun v => f_X7_met v _) (g := fun v => f_X8_met v _) (K := fun w => f_L_law_2757 X (fun v a4 => f_L_law_23 X n v a4) w a4) h (fun vc vm q => met_go q _) hK0
    refine PT.or (fun _ => ?_) (fun _ => ?_)
    · refine PT.go g1 ?_
      refine PT.go g2 ?_
      refine PT.go g3 ?_
      refine PT.go g4 ?_
      refine PT.go g5 ?_
      refine PT.go g6 ?_
      exact PT.both (f := fun v => f_X7_tried v _ _ _ _ _) (g := fun v => f_X8_tried v _ _ _ _ _) (K := fun w => f_L_law_2757 X (fun v a4 => f_L_law_23 X n v a4) w a4) h (fun vc vm q => tried_go q _ _ _ _ _) hK0
    refine PT.or (fun _ => ?_) (fun _ => ?_)
    · refine PT.go g1 ?_
      refine PT.go g2 ?_
      refine PT.go g3 ?_
      refine PT.go g4 ?_
      refine PT.go g5 ?_
      refine PT.go g6 ?_
      refine PT.go g7 ?_
      exact PT.both (f := fun v => f_X7_least v _ _ _ _ _ _) (g := fun v => f_X8_least v _ _ _ _ _ _) (K := fun w => f_L_law_2757 X (fun v a4 => f_L_law_23 X n v a4) w a4) h (fun vc vm q => least_op q _ _ _ _ _ _) hK0
    refine PT.or (fun _ => ?_) (fun _ => ?_)
    · exact PT.both (f := fun v => f_X7_stain v) (g := fun v => f_X8_stain v) (K := fun w => f_L_law_2757 X (fun v a4 => f_L_law_23 X n v a4) w a4) h (fun vc vm q => stain_go q) hK0
    refine PT.or (fun _ => ?_) (fun _ => ?_)
    · refine PT.go g1 ?_
      refine PT.go g2 ?_
      refine PT.go g3 ?_
      exact PT.bothZ (f := fun v => f_X7_grain v _ _ _) (g := fun v => f_X8_grain v _ _ _) (K := fun w => f_L_law_2757 X (fun v a4 => f_L_law_23 X n v a4) w a4) h (fun vc vm q => grain_go q _ _ _) hK0
    refine PT.or (fun _ => ?_) (fun _ => ?_)
    · refine PT.go g1 ?_
      exact PT.both (f := fun v => f_X7_print v _) (g := fun v => f_X8_print v _) (K := fun w => f_L_law_2757 X (fun v a4 => f_L_law_23 X n v a4) w a4) h (fun vc vm q => print_go q _) hK0
    refine PT.or (fun _ => ?_) (fun _ => ?_)
    · refine PT.go g1 ?_
      refine PT.go g2 ?_
      refine PT.go g3 ?_
      refine PT.go g4 ?_
      refine PT.go g5 ?_
      refine PT.go g6 ?_
      refine PT.go g7 ?_
      exact PT.both (f := fun v => f_X7_read v _ _ _ _ _ _) (g := fun v => f_X8_read v _ _ _ _ _ _) (K := fun w => f_L_law_2757 X (fun v a4 => f_L_law_23 X n v a4) w a4) h (fun vc vm q => read_op q _ _ _ _ _ _) hK0
    refine PT.or (fun _ => ?_) (fun _ => ?_)
    · refine PT.go g1 ?_
      refine PT.go g2 ?_
      exact PT.bothZ (f := fun v => f_X7_weigh v _ _) (g := fun v => f_X8_weigh v _ _) (K := fun w => f_L_law_2757 X (fun v a4 => f_L_law_23 X n v a4) w a4) h (fun vc vm q => weigh_go q _ _) hK0
    refine PT.or (fun _ => ?_) (fun _ => ?_)
    · refine PT.go g1 ?_
      refine PT.go g2 ?_
      refine PT.go g3 ?_
      refine PT.go g4 ?_
      refine PT.go g5 ?_
      refine PT.go g6 ?_
      refine PT.go g7 ?_
      exact PT.both (f := fun v => f_X7_odds v _ _ _ _ _ _) (g := fun v => f_X8_odds v _ _ _ _ _ _) (K := fun w => f_L_law_2757 X (fun v a4 => f_L_law_23 X n v a4) w a4) h (fun vc vm q => odds_op q _ _ _ _ _ _) hK0
    refine PT.or (fun _ => ?_) (fun _ => ?_)
    · refine PT.go g1 ?_
      refine PT.go g2 ?_
      refine PT.go g3 ?_
      refine PT.go g4 ?_
      refine PT.go g5 ?_
      refine PT.go g6 ?_
      exact PT.both (f := fun v => f_X7_parts v _ _ _ _ _) (g := fun v => f_X8_parts v _ _ _ _ _) (K := fun w => f_L_law_2757 X (fun v a4 => f_L_law_23 X n v a4) w a4) h (fun vc vm q => parts_op q _ _ _ _ _) hK0
    refine PT.or (fun _ => ?_) (fun _ => ?_)
    · refine PT.go g1 ?_
      refine PT.go g2 ?_
      refine PT.go g3 ?_
      refine PT.go g4 ?_
      refine PT.go g5 ?_
      refine PT.go g6 ?_
      exact PT.both (f := fun v => f_X7_next v _ _ _ _ _) (g := fun v => f_X8_next v _ _ _ _ _) (K := fun w => f_L_law_2757 X (fun v a4 => f_L_law_23 X n v a4) w a4) h (fun vc vm q => next_op q _ _ _ _ _) hK0
    refine PT.or (fun _ => ?_) (fun _ => ?_)
    · refine PT.go g1 ?_
      refine PT.go g2 ?_
      refine PT.go g3 ?_
      refine PT.go g4 ?_
      refine PT.go g5 ?_
      refine PT.go g6 ?_
      refine PT.go g7 ?_
      exact PT.both (f := fun v => f_X7_printed v _ _ _ _ _ _) (g := fun v => f_X8_printed v _ _ _ _ _ _) (K := fun w => f_L_law_2757 X (fun v a4 => f_L_law_23 X n v a4) w a4) h (fun vc vm q => printed_op q _ _ _ _ _ _) hK0
    refine PT.or (fun _ => ?_) (fun _ => ?_)
    · refine PT.go g1 ?_
      refine PT.go g2 ?_
      refine PT.go g3 ?_
      refine PT.go g4 ?_
      refine PT.go g5 ?_
      exact PT.both (f := fun v => f_X7_dots v _ _ _ _) (g := fun v => f_X8_dots v _ _ _ _) (K := fun w => f_L_law_2757 X (fun v a4 => f_L_law_23 X n v a4) w a4) h (fun vc vm q => dots_op q _ _ _ _) hK0
    refine PT.or (fun _ => ?_) (fun _ => ?_)
    · refine PT.go g1 ?_
      exact PT.read (came_go rfl (by omega) hS _) (hK0 v h)
    refine PT.or (fun _ => ?_) (fun _ => ?_)
    · refine PT.go g1 ?_
      exact PT.read (middle_go rfl hS _) (hK0 v h)
    refine PT.or (fun _ => ?_) (fun _ => ?_)
    · refine PT.go g1 ?_
      refine PT.go g2 ?_
      refine PT.go g3 ?_
      refine PT.go g4 ?_
      exact PT.both (f := fun v => f_X7_dry v _ _ _) (g := fun v => f_X8_dry v _ _ _) (K := fun w => f_L_law_2757 X (fun v a4 => f_L_law_23 X n v a4) w a4) h (fun vc vm q => dry_op q _ _ _) hK0
    refine PT.or (fun _ => ?_) (fun _ => ?_)
    · refine PT.go g1 ?_
      refine PT.go g2 ?_
      refine PT.go g3 ?_
      refine PT.go g4 ?_
      refine PT.go g5 ?_
      refine PT.go g6 ?_
      refine PT.go g7 ?_
      exact PT.both (f := fun v => f_X7_luck v _ _ _ _ _ _) (g := fun v => f_X8_luck v _ _ _ _ _ _) (K := fun w => f_L_law_2757 X (fun v a4 => f_L_law_23 X n v a4) w a4) h (fun vc vm q => luck_op q _ _ _ _ _ _) hK0
    refine PT.or (fun _ => ?_) (fun _ => ?_)
    · refine PT.go g1 ?_
      refine PT.go g2 ?_
      refine PT.go g3 ?_
      refine PT.go g4 ?_
      refine PT.go g5 ?_
      refine PT.go g6 ?_
      refine PT.go g7 ?_
      refine PT.go g8 ?_
      refine PT.go g9 ?_
      exact PT.both (f := fun v => f_X7_line v _ _ _ _ _ _ _ _) (g := fun v => f_X8_line v _ _ _ _ _ _ _ _) (K := fun w => f_L_law_2757 X (fun v a4 => f_L_law_23 X n v a4) w a4) h (fun vc vm q => line_op q _ _ _ _ _ _ _ _) hK0
    refine PT.or (fun _ => ?_) (fun _ => ?_)
    · refine PT.go g1 ?_
      refine PT.go g2 ?_
      refine PT.go g3 ?_
      refine PT.go g4 ?_
      refine PT.go g5 ?_
      refine PT.go g6 ?_
      exact PT.both (f := fun v => f_X7_alike v _ _ _ _ _) (g := fun v => f_X8_alike v _ _ _ _ _) (K := fun w => f_L_law_2757 X (fun v a4 => f_L_law_23 X n v a4) w a4) h (fun vc vm q => alike_op q _ _ _ _ _) hK0
    refine PT.or (fun _ => ?_) (fun _ => ?_)
    · refine PT.go g1 ?_
      refine PT.go g2 ?_
      exact PT.read (turned_go h _ _) (hK0 v h)
    refine PT.or (fun _ => ?_) (fun _ => ?_)
    · refine PT.go g1 ?_
      refine PT.go g2 ?_
      exact PT.both (f := fun v => f_X7_join v _ _) (g := fun v => f_X8_join v _ _) (K := fun w => f_L_law_2757 X (fun v a4 => f_L_law_23 X n v a4) w a4) h (fun vc vm q => join_go q _ _) hK0
    refine PT.or (fun _ => ?_) (fun _ => ?_)
    · refine PT.go g1 ?_
      refine PT.go g2 ?_
      exact PT.read (blot_go h _ _) (hK0 v h)
    refine PT.or (fun _ => ?_) (fun _ => ?_)
    · refine PT.go g1 ?_
      refine PT.go g2 ?_
      refine PT.go g3 ?_
      refine PT.go g4 ?_
      refine PT.go g5 ?_
      refine PT.go g6 ?_
      exact PT.both (f := fun v => f_X7_steps v _ _ _ _ _) (g := fun v => f_X8_steps v _ _ _ _ _) (K := fun w => f_L_law_2757 X (fun v a4 => f_L_law_23 X n v a4) w a4) h (fun vc vm q => steps_op q _ _ _ _ _) hK0
    refine PT.or (fun _ => ?_) (fun _ => ?_)
    · refine PT.go g1 ?_
      refine PT.go g2 ?_
      refine PT.go g3 ?_
      refine PT.go g4 ?_
      refine PT.go g5 ?_
      exact PT.both (f := fun v => f_X7_saved v _ _ _ _) (g := fun v => f_X8_saved v _ _ _ _) (K := fun w => f_L_law_2757 X (fun v a4 => f_L_law_23 X n v a4) w a4) h (fun vc vm q => saved_op q _ _ _ _) hK0
    refine PT.or (fun _ => ?_) (fun _ => ?_)
    · exact PT.both (f := fun v => f_X7_image v) (g := fun v => f_X8_image v) (K := fun w => f_L_law_2757 X (fun v a4 => f_L_law_23 X n v a4) w a4) h (fun vc vm q => image_go q) hK0
    refine PT.or (fun _ => ?_) (fun _ => ?_)
    · exact PT.both (f := fun v => f_X7_back v) (g := fun v => f_X8_back v) (K := fun w => f_L_law_2757 X (fun v a4 => f_L_law_23 X n v a4) w a4) h (fun vc vm q => back_go q) hK0
    refine PT.or (fun _ => ?_) (fun _ => ?_)
    · refine PT.go g1 ?_
      exact PT.go (count_go h _) (hK0 v h)
    exact hK0 v h
theorem law_pure {L : Nat} {xs : Nat → Int32} (hL : L ≤ 5120) : ∃ vf : rV, f_L_law_23 (L, xs) 20000 vc_350 0 = some (true, vf) :=
  law_loop (X := (L, xs)) hL 20000 0 0 vc_350 start_rel (Nat.le_refl _) (Nat.zero_le _) (by omega)
