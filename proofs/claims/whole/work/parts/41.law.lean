/-! THE LAW'S LOOP as a function of the script and the heap -/
def f_L_law_2757 (X : Nat × (Nat → Int32))  (q23 : rV → Int32 → Option (Bool × rV)) (v : rV) (a4 : Int32) : Option (Bool × rV) := vlet (a4 + (10 : Int32)) fun x10 =>
  q23 v x10
def f_L_law_445 (X : Nat × (Nat → Int32))  (q23 : rV → Int32 → Option (Bool × rV)) (v : rV) (a4 : Int32) : Option (Bool × rV) := f_L_law_2757 X q23 v a4
def f_L_law_23 (X : Nat × (Nat → Int32))   : Nat → rV → Int32 → Option (Bool × rV)
  | 0, _, _ => none
  | n + 1, v, a4 => if ((Int32.ofNat X.1) - (10 : Int32)) < a4 then
  (some (true, v))
else
  (if ¬ a4 < 0 ∧ a4.toNatClampNeg < X.1 then
  (if ((X.2 a4.toNatClampNeg) &&& (63 : Int32)) = (0 : Int32) then
  (if ¬ (a4 + (1 : Int32)) < 0 ∧ (a4 + (1 : Int32)).toNatClampNeg < X.1 then
  (if ¬ (a4 + (2 : Int32)) < 0 ∧ (a4 + (2 : Int32)).toNatClampNeg < X.1 then
  (if ¬ (a4 + (3 : Int32)) < 0 ∧ (a4 + (3 : Int32)).toNatClampNeg < X.1 then
  (if ¬ (a4 + (4 : Int32)) < 0 ∧ (a4 + (4 : Int32)).toNatClampNeg < X.1 then
  (if ¬ (a4 + (5 : Int32)) < 0 ∧ (a4 + (5 : Int32)).toNatClampNeg < X.1 then
  ((f_X7_feed v (X.2 ((a4 + (1 : Int32)).toNatClampNeg)) (X.2 ((a4 + (2 : Int32)).toNatClampNeg)) (X.2 ((a4 + (3 : Int32)).toNatClampNeg)) (X.2 ((a4 + (4 : Int32)).toNatClampNeg)) (X.2 ((a4 + (5 : Int32)).toNatClampNeg))).bind fun p8 =>
  (f_X8_feed p8.2 (X.2 ((a4 + (1 : Int32)).toNatClampNeg)) (X.2 ((a4 + (2 : Int32)).toNatClampNeg)) (X.2 ((a4 + (3 : Int32)).toNatClampNeg)) (X.2 ((a4 + (4 : Int32)).toNatClampNeg)) (X.2 ((a4 + (5 : Int32)).toNatClampNeg))).bind fun p9 =>
  if p8.1 = p9.1 then
  (f_L_law_2757 X (fun v a4 => f_L_law_23 X  n v a4) p9.2 a4)
else
  (some (false, p9.2)))
else none)
else none)
else none)
else none)
else none)
else
  (if ((X.2 a4.toNatClampNeg) &&& (63 : Int32)) = (1 : Int32) then
  (if ¬ (a4 + (1 : Int32)) < 0 ∧ (a4 + (1 : Int32)).toNatClampNeg < X.1 then
  ((f_X7_end v (X.2 ((a4 + (1 : Int32)).toNatClampNeg))).bind fun p14 =>
  (f_X8_end p14.2 (X.2 ((a4 + (1 : Int32)).toNatClampNeg))).bind fun p15 =>
  if (bI p14.1) = (bI p15.1) then
  (f_L_law_2757 X (fun v a4 => f_L_law_23 X  n v a4) p15.2 a4)
else
  (some (false, p15.2)))
else none)
else
  (if ((X.2 a4.toNatClampNeg) &&& (63 : Int32)) = (2 : Int32) then
  (if ¬ (a4 + (1 : Int32)) < 0 ∧ (a4 + (1 : Int32)).toNatClampNeg < X.1 then
  ((f_X7_fault v (X.2 ((a4 + (1 : Int32)).toNatClampNeg))).bind fun p19 =>
  (f_X8_fault p19.2 (X.2 ((a4 + (1 : Int32)).toNatClampNeg))).bind fun p20 =>
  if p19.1 = p20.1 then
  (f_L_law_2757 X (fun v a4 => f_L_law_23 X  n v a4) p20.2 a4)
else
  (some (false, p20.2)))
else none)
else
  (if ((X.2 a4.toNatClampNeg) &&& (63 : Int32)) = (3 : Int32) then
  (if ¬ (a4 + (1 : Int32)) < 0 ∧ (a4 + (1 : Int32)).toNatClampNeg < X.1 then
  ((f_X7_text v (X.2 ((a4 + (1 : Int32)).toNatClampNeg))).bind fun p24 =>
  (f_X8_text p24.2 (X.2 ((a4 + (1 : Int32)).toNatClampNeg))).bind fun p25 =>
  if p24.1 = p25.1 then
  (f_L_law_2757 X (fun v a4 => f_L_law_23 X  n v a4) p25.2 a4)
else
  (some (false, p25.2)))
else none)
else
  (if ((X.2 a4.toNatClampNeg) &&& (63 : Int32)) = (4 : Int32) then
  (if ¬ (a4 + (1 : Int32)) < 0 ∧ (a4 + (1 : Int32)).toNatClampNeg < X.1 then
  (if ¬ (a4 + (2 : Int32)) < 0 ∧ (a4 + (2 : Int32)).toNatClampNeg < X.1 then
  ((f_L_drop v (X.2 ((a4 + (1 : Int32)).toNatClampNeg)) (X.2 ((a4 + (2 : Int32)).toNatClampNeg))).bind fun p30 =>
  (f_X8_drop p30.2 (X.2 ((a4 + (1 : Int32)).toNatClampNeg)) (X.2 ((a4 + (2 : Int32)).toNatClampNeg))).bind fun p31 =>
  if (f_X8_thrown p31.2) = p30.1 then
  (if p30.1 = 0 then
  (if (lg_cmp (p31.2.2.1 197 0) p31.1.toInt64) = 0 then
  (f_L_law_445 X (fun v a4 => f_L_law_23 X  n v a4) p31.2 a4)
else
  (some (false, p31.2)))
else
  (f_L_law_445 X (fun v a4 => f_L_law_23 X  n v a4) p31.2 a4))
else
  (some (false, p31.2)))
else none)
else none)
else
  (if ((X.2 a4.toNatClampNeg) &&& (63 : Int32)) = (5 : Int32) then
  (if ¬ (a4 + (1 : Int32)) < 0 ∧ (a4 + (1 : Int32)).toNatClampNeg < X.1 then
  ((f_X7_pace v (X.2 ((a4 + (1 : Int32)).toNatClampNeg))).bind fun p38 =>
  (f_X8_pace p38.2 (X.2 ((a4 + (1 : Int32)).toNatClampNeg))).bind fun p39 =>
  if (bI p38.1) = (bI p39.1) then
  (f_L_law_2757 X (fun v a4 => f_L_law_23 X  n v a4) p39.2 a4)
else
  (some (false, p39.2)))
else none)
else
  (if ((X.2 a4.toNatClampNeg) &&& (63 : Int32)) = (6 : Int32) then
  (if ¬ (a4 + (1 : Int32)) < 0 ∧ (a4 + (1 : Int32)).toNatClampNeg < X.1 then
  (if ¬ (a4 + (2 : Int32)) < 0 ∧ (a4 + (2 : Int32)).toNatClampNeg < X.1 then
  (if ¬ (a4 + (3 : Int32)) < 0 ∧ (a4 + (3 : Int32)).toNatClampNeg < X.1 then
  (if ¬ (a4 + (4 : Int32)) < 0 ∧ (a4 + (4 : Int32)).toNatClampNeg < X.1 then
  ((f_X7_start v (X.2 ((a4 + (1 : Int32)).toNatClampNeg)) (X.2 ((a4 + (2 : Int32)).toNatClampNeg)) ((((X.2 ((a4 + (3 : Int32)).toNatClampNeg)).toInt64) <<< ((32 : Int32).toInt64 &&& 63)) ||| (((X.2 ((a4 + (4 : Int32)).toNatClampNeg)).toInt64) &&& (4294967295 : Int64)))).bind fun p46 =>
  (f_X8_start p46.2 (X.2 ((a4 + (1 : Int32)).toNatClampNeg)) (X.2 ((a4 + (2 : Int32)).toNatClampNeg)) ((((X.2 ((a4 + (3 : Int32)).toNatClampNeg)).toInt64) <<< ((32 : Int32).toInt64 &&& 63)) ||| (((X.2 ((a4 + (4 : Int32)).toNatClampNeg)).toInt64) &&& (4294967295 : Int64)))).bind fun p47 =>
  if p46.1 = p47.1 then
  (f_L_law_2757 X (fun v a4 => f_L_law_23 X  n v a4) p47.2 a4)
else
  (some (false, p47.2)))
else none)
else none)
else none)
else none)
else
  (if ((X.2 a4.toNatClampNeg) &&& (63 : Int32)) = (7 : Int32) then
  (if ¬ (a4 + (1 : Int32)) < 0 ∧ (a4 + (1 : Int32)).toNatClampNeg < X.1 then
  ((f_X7_tick v (X.2 ((a4 + (1 : Int32)).toNatClampNeg))).bind fun p51 =>
  (f_X8_tick p51.2 (X.2 ((a4 + (1 : Int32)).toNatClampNeg))).bind fun p52 =>
  if p51.1 = p52.1 then
  (f_L_law_2757 X (fun v a4 => f_L_law_23 X  n v a4) p52.2 a4)
else
  (some (false, p52.2)))
else none)
else
  (if ((X.2 a4.toNatClampNeg) &&& (63 : Int32)) = (8 : Int32) then
  (if ¬ (a4 + (1 : Int32)) < 0 ∧ (a4 + (1 : Int32)).toNatClampNeg < X.1 then
  (if ¬ (a4 + (2 : Int32)) < 0 ∧ (a4 + (2 : Int32)).toNatClampNeg < X.1 then
  ((f_X7_body v (X.2 ((a4 + (1 : Int32)).toNatClampNeg)) (X.2 ((a4 + (2 : Int32)).toNatClampNeg))).bind fun p57 =>
  (f_X8_body v (X.2 ((a4 + (1 : Int32)).toNatClampNeg)) (X.2 ((a4 + (2 : Int32)).toNatClampNeg))).bind fun p58 =>
  if p57 = p58 then
  (f_L_law_2757 X (fun v a4 => f_L_law_23 X  n v a4) v a4)
else
  (some (false, v)))
else none)
else none)
else
  (if ((X.2 a4.toNatClampNeg) &&& (63 : Int32)) = (9 : Int32) then
  (if ¬ (a4 + (1 : Int32)) < 0 ∧ (a4 + (1 : Int32)).toNatClampNeg < X.1 then
  ((f_X7_water v (X.2 ((a4 + (1 : Int32)).toNatClampNeg))).bind fun p62 =>
  (f_X8_water v (X.2 ((a4 + (1 : Int32)).toNatClampNeg))).bind fun p63 =>
  if p62 = p63 then
  (f_L_law_2757 X (fun v a4 => f_L_law_23 X  n v a4) v a4)
else
  (some (false, v)))
else none)
else
  (if ((X.2 a4.toNatClampNeg) &&& (63 : Int32)) = (10 : Int32) then
  (if ¬ (a4 + (1 : Int32)) < 0 ∧ (a4 + (1 : Int32)).toNatClampNeg < X.1 then
  (if ¬ (a4 + (2 : Int32)) < 0 ∧ (a4 + (2 : Int32)).toNatClampNeg < X.1 then
  ((f_X7_free v (X.2 ((a4 + (1 : Int32)).toNatClampNeg)) (X.2 ((a4 + (2 : Int32)).toNatClampNeg))).bind fun p68 =>
  (f_X8_free v (X.2 ((a4 + (1 : Int32)).toNatClampNeg)) (X.2 ((a4 + (2 : Int32)).toNatClampNeg))).bind fun p69 =>
  if p68 = p69 then
  (f_L_law_2757 X (fun v a4 => f_L_law_23 X  n v a4) v a4)
else
  (some (false, v)))
else none)
else none)
else
  (if ((X.2 a4.toNatClampNeg) &&& (63 : Int32)) = (11 : Int32) then
  (if ¬ (a4 + (1 : Int32)) < 0 ∧ (a4 + (1 : Int32)).toNatClampNeg < X.1 then
  (if ¬ (a4 + (2 : Int32)) < 0 ∧ (a4 + (2 : Int32)).toNatClampNeg < X.1 then
  ((f_X7_lies v (X.2 ((a4 + (1 : Int32)).toNatClampNeg)) (X.2 ((a4 + (2 : Int32)).toNatClampNeg))).bind fun p74 =>
  (f_X8_lies v (X.2 ((a4 + (1 : Int32)).toNatClampNeg)) (X.2 ((a4 + (2 : Int32)).toNatClampNeg))).bind fun p75 =>
  if p74 = p75 then
  (f_L_law_2757 X (fun v a4 => f_L_law_23 X  n v a4) v a4)
else
  (some (false, v)))
else none)
else none)
else
  (if ((X.2 a4.toNatClampNeg) &&& (63 : Int32)) = (12 : Int32) then
  (if ¬ (a4 + (1 : Int32)) < 0 ∧ (a4 + (1 : Int32)).toNatClampNeg < X.1 then
  (if ¬ (a4 + (2 : Int32)) < 0 ∧ (a4 + (2 : Int32)).toNatClampNeg < X.1 then
  ((f_X7_heap v (X.2 ((a4 + (1 : Int32)).toNatClampNeg)) (X.2 ((a4 + (2 : Int32)).toNatClampNeg))).bind fun p80 =>
  (f_X8_heap v (X.2 ((a4 + (1 : Int32)).toNatClampNeg)) (X.2 ((a4 + (2 : Int32)).toNatClampNeg))).bind fun p81 =>
  if p80 = p81 then
  (f_L_law_2757 X (fun v a4 => f_L_law_23 X  n v a4) v a4)
else
  (some (false, v)))
else none)
else none)
else
  (if ((X.2 a4.toNatClampNeg) &&& (63 : Int32)) = (13 : Int32) then
  (if ¬ (a4 + (1 : Int32)) < 0 ∧ (a4 + (1 : Int32)).toNatClampNeg < X.1 then
  ((f_X7_flow v (X.2 ((a4 + (1 : Int32)).toNatClampNeg))).bind fun p85 =>
  (f_X8_flow v (X.2 ((a4 + (1 : Int32)).toNatClampNeg))).bind fun p86 =>
  if p85 = p86 then
  (f_L_law_2757 X (fun v a4 => f_L_law_23 X  n v a4) v a4)
else
  (some (false, v)))
else none)
else
  (if ((X.2 a4.toNatClampNeg) &&& (63 : Int32)) = (14 : Int32) then
  (if ¬ (a4 + (1 : Int32)) < 0 ∧ (a4 + (1 : Int32)).toNatClampNeg < X.1 then
  ((f_X7_about v (X.2 ((a4 + (1 : Int32)).toNatClampNeg))).bind fun p90 =>
  (f_X8_about v (X.2 ((a4 + (1 : Int32)).toNatClampNeg))).bind fun p91 =>
  if p90 = p91 then
  (f_L_law_2757 X (fun v a4 => f_L_law_23 X  n v a4) v a4)
else
  (some (false, v)))
else none)
else
  (if ((X.2 a4.toNatClampNeg) &&& (63 : Int32)) = (15 : Int32) then
  (if ¬ (a4 + (1 : Int32)) < 0 ∧ (a4 + (1 : Int32)).toNatClampNeg < X.1 then
  (if (f_X7_rush v (X.2 ((a4 + (1 : Int32)).toNatClampNeg))) = (f_X8_rush v (X.2 ((a4 + (1 : Int32)).toNatClampNeg))) then
  (f_L_law_2757 X (fun v a4 => f_L_law_23 X  n v a4) v a4)
else
  (some (false, v)))
else none)
else
  (if ((X.2 a4.toNatClampNeg) &&& (63 : Int32)) = (16 : Int32) then
  (if (f_X7_speed v) = (f_X8_speed v) then
  (f_L_law_2757 X (fun v a4 => f_L_law_23 X  n v a4) v a4)
else
  (some (false, v)))
else
  (if ((X.2 a4.toNatClampNeg) &&& (63 : Int32)) = (17 : Int32) then
  (if ¬ (a4 + (1 : Int32)) < 0 ∧ (a4 + (1 : Int32)).toNatClampNeg < X.1 then
  ((f_X7_met v (X.2 ((a4 + (1 : Int32)).toNatClampNeg))).bind fun p104 =>
  (f_X8_met p104.2 (X.2 ((a4 + (1 : Int32)).toNatClampNeg))).bind fun p105 =>
  if p104.1 = p105.1 then
  (f_L_law_2757 X (fun v a4 => f_L_law_23 X  n v a4) p105.2 a4)
else
  (some (false, p105.2)))
else none)
else
  (if ((X.2 a4.toNatClampNeg) &&& (63 : Int32)) = (18 : Int32) then
  (if ¬ (a4 + (1 : Int32)) < 0 ∧ (a4 + (1 : Int32)).toNatClampNeg < X.1 then
  (if ¬ (a4 + (2 : Int32)) < 0 ∧ (a4 + (2 : Int32)).toNatClampNeg < X.1 then
  (if ¬ (a4 + (3 : Int32)) < 0 ∧ (a4 + (3 : Int32)).toNatClampNeg < X.1 then
  (if ¬ (a4 + (4 : Int32)) < 0 ∧ (a4 + (4 : Int32)).toNatClampNeg < X.1 then
  (if ¬ (a4 + (5 : Int32)) < 0 ∧ (a4 + (5 : Int32)).toNatClampNeg < X.1 then
  (if ¬ (a4 + (6 : Int32)) < 0 ∧ (a4 + (6 : Int32)).toNatClampNeg < X.1 then
  ((f_X7_tried v (X.2 ((a4 + (1 : Int32)).toNatClampNeg)) (X.2 ((a4 + (2 : Int32)).toNatClampNeg)) ((((X.2 ((a4 + (3 : Int32)).toNatClampNeg)).toInt64) <<< ((32 : Int32).toInt64 &&& 63)) ||| (((X.2 ((a4 + (4 : Int32)).toNatClampNeg)).toInt64) &&& (4294967295 : Int64))) (X.2 ((a4 + (5 : Int32)).toNatClampNeg)) (X.2 ((a4 + (6 : Int32)).toNatClampNeg))).bind fun p114 =>
  (f_X8_tried p114.2 (X.2 ((a4 + (1 : Int32)).toNatClampNeg)) (X.2 ((a4 + (2 : Int32)).toNatClampNeg)) ((((X.2 ((a4 + (3 : Int32)).toNatClampNeg)).toInt64) <<< ((32 : Int32).toInt64 &&& 63)) ||| (((X.2 ((a4 + (4 : Int32)).toNatClampNeg)).toInt64) &&& (4294967295 : Int64))) (X.2 ((a4 + (5 : Int32)).toNatClampNeg)) (X.2 ((a4 + (6 : Int32)).toNatClampNeg))).bind fun p115 =>
  if p114.1 = p115.1 then
  (f_L_law_2757 X (fun v a4 => f_L_law_23 X  n v a4) p115.2 a4)
else
  (some (false, p115.2)))
else none)
else none)
else none)
else none)
else none)
else none)
else
  (if ((X.2 a4.toNatClampNeg) &&& (63 : Int32)) = (19 : Int32) then
  (if ¬ (a4 + (1 : Int32)) < 0 ∧ (a4 + (1 : Int32)).toNatClampNeg < X.1 then
  (if ¬ (a4 + (2 : Int32)) < 0 ∧ (a4 + (2 : Int32)).toNatClampNeg < X.1 then
  (if ¬ (a4 + (3 : Int32)) < 0 ∧ (a4 + (3 : Int32)).toNatClampNeg < X.1 then
  (if ¬ (a4 + (4 : Int32)) < 0 ∧ (a4 + (4 : Int32)).toNatClampNeg < X.1 then
  (if ¬ (a4 + (5 : Int32)) < 0 ∧ (a4 + (5 : Int32)).toNatClampNeg < X.1 then
  (if ¬ (a4 + (6 : Int32)) < 0 ∧ (a4 + (6 : Int32)).toNatClampNeg < X.1 then
  (if ¬ (a4 + (7 : Int32)) < 0 ∧ (a4 + (7 : Int32)).toNatClampNeg < X.1 then
  ((f_X7_least v (X.2 ((a4 + (1 : Int32)).toNatClampNeg)) (X.2 ((a4 + (2 : Int32)).toNatClampNeg)) (X.2 ((a4 + (3 : Int32)).toNatClampNeg)) (X.2 ((a4 + (4 : Int32)).toNatClampNeg)) ((((X.2 ((a4 + (5 : Int32)).toNatClampNeg)).toInt64) <<< ((32 : Int32).toInt64 &&& 63)) ||| (((X.2 ((a4 + (6 : Int32)).toNatClampNeg)).toInt64) &&& (4294967295 : Int64))) (X.2 ((a4 + (7 : Int32)).toNatClampNeg))).bind fun p125 =>
  (f_X8_least p125.2 (X.2 ((a4 + (1 : Int32)).toNatClampNeg)) (X.2 ((a4 + (2 : Int32)).toNatClampNeg)) (X.2 ((a4 + (3 : Int32)).toNatClampNeg)) (X.2 ((a4 + (4 : Int32)).toNatClampNeg)) ((((X.2 ((a4 + (5 : Int32)).toNatClampNeg)).toInt64) <<< ((32 : Int32).toInt64 &&& 63)) ||| (((X.2 ((a4 + (6 : Int32)).toNatClampNeg)).toInt64) &&& (4294967295 : Int64))) (X.2 ((a4 + (7 : Int32)).toNatClampNeg))).bind fun p126 =>
  if p125.1 = p126.1 then
  (f_L_law_2757 X (fun v a4 => f_L_law_23 X  n v a4) p126.2 a4)
else
  (some (false, p126.2)))
else none)
else none)
else none)
else none)
else none)
else none)
else none)
else
  (if ((X.2 a4.toNatClampNeg) &&& (63 : Int32)) = (20 : Int32) then
  ((f_X7_stain v).bind fun p129 =>
  (f_X8_stain p129.2).bind fun p130 =>
  if p129.1 = p130.1 then
  (f_L_law_2757 X (fun v a4 => f_L_law_23 X  n v a4) p130.2 a4)
else
  (some (false, p130.2)))
else
  (if ((X.2 a4.toNatClampNeg) &&& (63 : Int32)) = (21 : Int32) then
  (if ¬ (a4 + (1 : Int32)) < 0 ∧ (a4 + (1 : Int32)).toNatClampNeg < X.1 then
  (if ¬ (a4 + (2 : Int32)) < 0 ∧ (a4 + (2 : Int32)).toNatClampNeg < X.1 then
  (if ¬ (a4 + (3 : Int32)) < 0 ∧ (a4 + (3 : Int32)).toNatClampNeg < X.1 then
  ((f_X7_grain v (X.2 ((a4 + (1 : Int32)).toNatClampNeg)) (X.2 ((a4 + (2 : Int32)).toNatClampNeg)) (X.2 ((a4 + (3 : Int32)).toNatClampNeg))).bind fun p136 =>
  (f_X8_grain p136.2 (X.2 ((a4 + (1 : Int32)).toNatClampNeg)) (X.2 ((a4 + (2 : Int32)).toNatClampNeg)) (X.2 ((a4 + (3 : Int32)).toNatClampNeg))).bind fun p137 =>
  if (bI p136.1) = (bI p137.1) then
  (f_L_law_2757 X (fun v a4 => f_L_law_23 X  n v a4) p137.2 a4)
else
  (some (false, p137.2)))
else none)
else none)
else none)
else
  (if ((X.2 a4.toNatClampNeg) &&& (63 : Int32)) = (22 : Int32) then
  (if ¬ (a4 + (1 : Int32)) < 0 ∧ (a4 + (1 : Int32)).toNatClampNeg < X.1 then
  ((f_X7_print v (X.2 ((a4 + (1 : Int32)).toNatClampNeg))).bind fun p141 =>
  (f_X8_print p141.2 (X.2 ((a4 + (1 : Int32)).toNatClampNeg))).bind fun p142 =>
  if p141.1 = p142.1 then
  (f_L_law_2757 X (fun v a4 => f_L_law_23 X  n v a4) p142.2 a4)
else
  (some (false, p142.2)))
else none)
else
  (if ((X.2 a4.toNatClampNeg) &&& (63 : Int32)) = (23 : Int32) then
  (if ¬ (a4 + (1 : Int32)) < 0 ∧ (a4 + (1 : Int32)).toNatClampNeg < X.1 then
  (if ¬ (a4 + (2 : Int32)) < 0 ∧ (a4 + (2 : Int32)).toNatClampNeg < X.1 then
  (if ¬ (a4 + (3 : Int32)) < 0 ∧ (a4 + (3 : Int32)).toNatClampNeg < X.1 then
  (if ¬ (a4 + (4 : Int32)) < 0 ∧ (a4 + (4 : Int32)).toNatClampNeg < X.1 then
  (if ¬ (a4 + (5 : Int32)) < 0 ∧ (a4 + (5 : Int32)).toNatClampNeg < X.1 then
  (if ¬ (a4 + (6 : Int32)) < 0 ∧ (a4 + (6 : Int32)).toNatClampNeg < X.1 then
  (if ¬ (a4 + (7 : Int32)) < 0 ∧ (a4 + (7 : Int32)).toNatClampNeg < X.1 then
  ((f_X7_read v (X.2 ((a4 + (1 : Int32)).toNatClampNeg)) (X.2 ((a4 + (2 : Int32)).toNatClampNeg)) (X.2 ((a4 + (3 : Int32)).toNatClampNeg)) ((((X.2 ((a4 + (4 : Int32)).toNatClampNeg)).toInt64) <<< ((32 : Int32).toInt64 &&& 63)) ||| (((X.2 ((a4 + (5 : Int32)).toNatClampNeg)).toInt64) &&& (4294967295 : Int64))) (X.2 ((a4 + (6 : Int32)).toNatClampNeg)) (X.2 ((a4 + (7 : Int32)).toNatClampNeg))).bind fun p152 =>
  (f_X8_read p152.2 (X.2 ((a4 + (1 : Int32)).toNatClampNeg)) (X.2 ((a4 + (2 : Int32)).toNatClampNeg)) (X.2 ((a4 + (3 : Int32)).toNatClampNeg)) ((((X.2 ((a4 + (4 : Int32)).toNatClampNeg)).toInt64) <<< ((32 : Int32).toInt64 &&& 63)) ||| (((X.2 ((a4 + (5 : Int32)).toNatClampNeg)).toInt64) &&& (4294967295 : Int64))) (X.2 ((a4 + (6 : Int32)).toNatClampNeg)) (X.2 ((a4 + (7 : Int32)).toNatClampNeg))).bind fun p153 =>
  if p152.1 = p153.1 then
  (f_L_law_2757 X (fun v a4 => f_L_law_23 X  n v a4) p153.2 a4)
else
  (some (false, p153.2)))
else none)
else none)
else none)
else none)
else none)
else none)
else none)
else
  (if ((X.2 a4.toNatClampNeg) &&& (63 : Int32)) = (24 : Int32) then
  (if ¬ (a4 + (1 : Int32)) < 0 ∧ (a4 + (1 : Int32)).toNatClampNeg < X.1 then
  (if ¬ (a4 + (2 : Int32)) < 0 ∧ (a4 + (2 : Int32)).toNatClampNeg < X.1 then
  ((f_X7_weigh v (X.2 ((a4 + (1 : Int32)).toNatClampNeg)) (X.2 ((a4 + (2 : Int32)).toNatClampNeg))).bind fun p158 =>
  (f_X8_weigh p158.2 (X.2 ((a4 + (1 : Int32)).toNatClampNeg)) (X.2 ((a4 + (2 : Int32)).toNatClampNeg))).bind fun p159 =>
  if (bI p158.1) = (bI p159.1) then
  (f_L_law_2757 X (fun v a4 => f_L_law_23 X  n v a4) p159.2 a4)
else
  (some (false, p159.2)))
else none)
else none)
else
  (if ((X.2 a4.toNatClampNeg) &&& (63 : Int32)) = (25 : Int32) then
  (if ¬ (a4 + (1 : Int32)) < 0 ∧ (a4 + (1 : Int32)).toNatClampNeg < X.1 then
  (if ¬ (a4 + (2 : Int32)) < 0 ∧ (a4 + (2 : Int32)).toNatClampNeg < X.1 then
  (if ¬ (a4 + (3 : Int32)) < 0 ∧ (a4 + (3 : Int32)).toNatClampNeg < X.1 then
  (if ¬ (a4 + (4 : Int32)) < 0 ∧ (a4 + (4 : Int32)).toNatClampNeg < X.1 then
  (if ¬ (a4 + (5 : Int32)) < 0 ∧ (a4 + (5 : Int32)).toNatClampNeg < X.1 then
  (if ¬ (a4 + (6 : Int32)) < 0 ∧ (a4 + (6 : Int32)).toNatClampNeg < X.1 then
  (if ¬ (a4 + (7 : Int32)) < 0 ∧ (a4 + (7 : Int32)).toNatClampNeg < X.1 then
  ((f_X7_odds v (X.2 ((a4 + (1 : Int32)).toNatClampNeg)) (X.2 ((a4 + (2 : Int32)).toNatClampNeg)) (X.2 ((a4 + (3 : Int32)).toNatClampNeg)) ((((X.2 ((a4 + (4 : Int32)).toNatClampNeg)).toInt64) <<< ((32 : Int32).toInt64 &&& 63)) ||| (((X.2 ((a4 + (5 : Int32)).toNatClampNeg)).toInt64) &&& (4294967295 : Int64))) (X.2 ((a4 + (6 : Int32)).toNatClampNeg)) (X.2 ((a4 + (7 : Int32)).toNatClampNeg))).bind fun p169 =>
  (f_X8_odds p169.2 (X.2 ((a4 + (1 : Int32)).toNatClampNeg)) (X.2 ((a4 + (2 : Int32)).toNatClampNeg)) (X.2 ((a4 + (3 : Int32)).toNatClampNeg)) ((((X.2 ((a4 + (4 : Int32)).toNatClampNeg)).toInt64) <<< ((32 : Int32).toInt64 &&& 63)) ||| (((X.2 ((a4 + (5 : Int32)).toNatClampNeg)).toInt64) &&& (4294967295 : Int64))) (X.2 ((a4 + (6 : Int32)).toNatClampNeg)) (X.2 ((a4 + (7 : Int32)).toNatClampNeg))).bind fun p170 =>
  if p169.1 = p170.1 then
  (f_L_law_2757 X (fun v a4 => f_L_law_23 X  n v a4) p170.2 a4)
else
  (some (false, p170.2)))
else none)
else none)
else none)
else none)
else none)
else none)
else none)
else
  (if ((X.2 a4.toNatClampNeg) &&& (63 : Int32)) = (26 : Int32) then
  (if ¬ (a4 + (1 : Int32)) < 0 ∧ (a4 + (1 : Int32)).toNatClampNeg < X.1 then
  (if ¬ (a4 + (2 : Int32)) < 0 ∧ (a4 + (2 : Int32)).toNatClampNeg < X.1 then
  (if ¬ (a4 + (3 : Int32)) < 0 ∧ (a4 + (3 : Int32)).toNatClampNeg < X.1 then
  (if ¬ (a4 + (4 : Int32)) < 0 ∧ (a4 + (4 : Int32)).toNatClampNeg < X.1 then
  (if ¬ (a4 + (5 : Int32)) < 0 ∧ (a4 + (5 : Int32)).toNatClampNeg < X.1 then
  (if ¬ (a4 + (6 : Int32)) < 0 ∧ (a4 + (6 : Int32)).toNatClampNeg < X.1 then
  ((f_X7_parts v (X.2 ((a4 + (1 : Int32)).toNatClampNeg)) (X.2 ((a4 + (2 : Int32)).toNatClampNeg)) (X.2 ((a4 + (3 : Int32)).toNatClampNeg)) ((((X.2 ((a4 + (4 : Int32)).toNatClampNeg)).toInt64) <<< ((32 : Int32).toInt64 &&& 63)) ||| (((X.2 ((a4 + (5 : Int32)).toNatClampNeg)).toInt64) &&& (4294967295 : Int64))) (X.2 ((a4 + (6 : Int32)).toNatClampNeg))).bind fun p179 =>
  (f_X8_parts p179.2 (X.2 ((a4 + (1 : Int32)).toNatClampNeg)) (X.2 ((a4 + (2 : Int32)).toNatClampNeg)) (X.2 ((a4 + (3 : Int32)).toNatClampNeg)) ((((X.2 ((a4 + (4 : Int32)).toNatClampNeg)).toInt64) <<< ((32 : Int32).toInt64 &&& 63)) ||| (((X.2 ((a4 + (5 : Int32)).toNatClampNeg)).toInt64) &&& (4294967295 : Int64))) (X.2 ((a4 + (6 : Int32)).toNatClampNeg))).bind fun p180 =>
  if p179.1 = p180.1 then
  (f_L_law_2757 X (fun v a4 => f_L_law_23 X  n v a4) p180.2 a4)
else
  (some (false, p180.2)))
else none)
else none)
else none)
else none)
else none)
else none)
else
  (if ((X.2 a4.toNatClampNeg) &&& (63 : Int32)) = (27 : Int32) then
  (if ¬ (a4 + (1 : Int32)) < 0 ∧ (a4 + (1 : Int32)).toNatClampNeg < X.1 then
  (if ¬ (a4 + (2 : Int32)) < 0 ∧ (a4 + (2 : Int32)).toNatClampNeg < X.1 then
  (if ¬ (a4 + (3 : Int32)) < 0 ∧ (a4 + (3 : Int32)).toNatClampNeg < X.1 then
  (if ¬ (a4 + (4 : Int32)) < 0 ∧ (a4 + (4 : Int32)).toNatClampNeg < X.1 then
  (if ¬ (a4 + (5 : Int32)) < 0 ∧ (a4 + (5 : Int32)).toNatClampNeg < X.1 then
  (if ¬ (a4 + (6 : Int32)) < 0 ∧ (a4 + (6 : Int32)).toNatClampNeg < X.1 then
  ((f_X7_next v (X.2 ((a4 + (1 : Int32)).toNatClampNeg)) (X.2 ((a4 + (2 : Int32)).toNatClampNeg)) (X.2 ((a4 + (3 : Int32)).toNatClampNeg)) ((((X.2 ((a4 + (4 : Int32)).toNatClampNeg)).toInt64) <<< ((32 : Int32).toInt64 &&& 63)) ||| (((X.2 ((a4 + (5 : Int32)).toNatClampNeg)).toInt64) &&& (4294967295 : Int64))) (X.2 ((a4 + (6 : Int32)).toNatClampNeg))).bind fun p189 =>
  (f_X8_next p189.2 (X.2 ((a4 + (1 : Int32)).toNatClampNeg)) (X.2 ((a4 + (2 : Int32)).toNatClampNeg)) (X.2 ((a4 + (3 : Int32)).toNatClampNeg)) ((((X.2 ((a4 + (4 : Int32)).toNatClampNeg)).toInt64) <<< ((32 : Int32).toInt64 &&& 63)) ||| (((X.2 ((a4 + (5 : Int32)).toNatClampNeg)).toInt64) &&& (4294967295 : Int64))) (X.2 ((a4 + (6 : Int32)).toNatClampNeg))).bind fun p190 =>
  if p189.1 = p190.1 then
  (f_L_law_2757 X (fun v a4 => f_L_law_23 X  n v a4) p190.2 a4)
else
  (some (false, p190.2)))
else none)
else none)
else none)
else none)
else none)
else none)
else
  (if ((X.2 a4.toNatClampNeg) &&& (63 : Int32)) = (28 : Int32) then
  (if ¬ (a4 + (1 : Int32)) < 0 ∧ (a4 + (1 : Int32)).toNatClampNeg < X.1 then
  (if ¬ (a4 + (2 : Int32)) < 0 ∧ (a4 + (2 : Int32)).toNatClampNeg < X.1 then
  (if ¬ (a4 + (3 : Int32)) < 0 ∧ (a4 + (3 : Int32)).toNatClampNeg < X.1 then
  (if ¬ (a4 + (4 : Int32)) < 0 ∧ (a4 + (4 : Int32)).toNatClampNeg < X.1 then
  (if ¬ (a4 + (5 : Int32)) < 0 ∧ (a4 + (5 : Int32)).toNatClampNeg < X.1 then
  (if ¬ (a4 + (6 : Int32)) < 0 ∧ (a4 + (6 : Int32)).toNatClampNeg < X.1 then
  (if ¬ (a4 + (7 : Int32)) < 0 ∧ (a4 + (7 : Int32)).toNatClampNeg < X.1 then
  ((f_X7_printed v (X.2 ((a4 + (1 : Int32)).toNatClampNeg)) (X.2 ((a4 + (2 : Int32)).toNatClampNeg)) (X.2 ((a4 + (3 : Int32)).toNatClampNeg)) ((((X.2 ((a4 + (4 : Int32)).toNatClampNeg)).toInt64) <<< ((32 : Int32).toInt64 &&& 63)) ||| (((X.2 ((a4 + (5 : Int32)).toNatClampNeg)).toInt64) &&& (4294967295 : Int64))) (X.2 ((a4 + (6 : Int32)).toNatClampNeg)) (X.2 ((a4 + (7 : Int32)).toNatClampNeg))).bind fun p200 =>
  (f_X8_printed p200.2 (X.2 ((a4 + (1 : Int32)).toNatClampNeg)) (X.2 ((a4 + (2 : Int32)).toNatClampNeg)) (X.2 ((a4 + (3 : Int32)).toNatClampNeg)) ((((X.2 ((a4 + (4 : Int32)).toNatClampNeg)).toInt64) <<< ((32 : Int32).toInt64 &&& 63)) ||| (((X.2 ((a4 + (5 : Int32)).toNatClampNeg)).toInt64) &&& (4294967295 : Int64))) (X.2 ((a4 + (6 : Int32)).toNatClampNeg)) (X.2 ((a4 + (7 : Int32)).toNatClampNeg))).bind fun p201 =>
  if p200.1 = p201.1 then
  (f_L_law_2757 X (fun v a4 => f_L_law_23 X  n v a4) p201.2 a4)
else
  (some (false, p201.2)))
else none)
else none)
else none)
else none)
else none)
else none)
else none)
else
  (if ((X.2 a4.toNatClampNeg) &&& (63 : Int32)) = (29 : Int32) then
  (if ¬ (a4 + (1 : Int32)) < 0 ∧ (a4 + (1 : Int32)).toNatClampNeg < X.1 then
  (if ¬ (a4 + (2 : Int32)) < 0 ∧ (a4 + (2 : Int32)).toNatClampNeg < X.1 then
  (if ¬ (a4 + (3 : Int32)) < 0 ∧ (a4 + (3 : Int32)).toNatClampNeg < X.1 then
  (if ¬ (a4 + (4 : Int32)) < 0 ∧ (a4 + (4 : Int32)).toNatClampNeg < X.1 then
  (if ¬ (a4 + (5 : Int32)) < 0 ∧ (a4 + (5 : Int32)).toNatClampNeg < X.1 then
  ((f_X7_dots v (X.2 ((a4 + (1 : Int32)).toNatClampNeg)) (X.2 ((a4 + (2 : Int32)).toNatClampNeg)) ((((X.2 ((a4 + (3 : Int32)).toNatClampNeg)).toInt64) <<< ((32 : Int32).toInt64 &&& 63)) ||| (((X.2 ((a4 + (4 : Int32)).toNatClampNeg)).toInt64) &&& (4294967295 : Int64))) (X.2 ((a4 + (5 : Int32)).toNatClampNeg))).bind fun p209 =>
  (f_X8_dots p209.2 (X.2 ((a4 + (1 : Int32)).toNatClampNeg)) (X.2 ((a4 + (2 : Int32)).toNatClampNeg)) ((((X.2 ((a4 + (3 : Int32)).toNatClampNeg)).toInt64) <<< ((32 : Int32).toInt64 &&& 63)) ||| (((X.2 ((a4 + (4 : Int32)).toNatClampNeg)).toInt64) &&& (4294967295 : Int64))) (X.2 ((a4 + (5 : Int32)).toNatClampNeg))).bind fun p210 =>
  if p209.1 = p210.1 then
  (f_L_law_2757 X (fun v a4 => f_L_law_23 X  n v a4) p210.2 a4)
else
  (some (false, p210.2)))
else none)
else none)
else none)
else none)
else none)
else
  (if ((X.2 a4.toNatClampNeg) &&& (63 : Int32)) = (30 : Int32) then
  (if ¬ (a4 + (1 : Int32)) < 0 ∧ (a4 + (1 : Int32)).toNatClampNeg < X.1 then
  ((f_X7_came v (X.2 ((a4 + (1 : Int32)).toNatClampNeg))).bind fun p214 =>
  (f_X8_came v (X.2 ((a4 + (1 : Int32)).toNatClampNeg))).bind fun p215 =>
  if p214 = p215 then
  (f_L_law_2757 X (fun v a4 => f_L_law_23 X  n v a4) v a4)
else
  (some (false, v)))
else none)
else
  (if ((X.2 a4.toNatClampNeg) &&& (63 : Int32)) = (31 : Int32) then
  (if ¬ (a4 + (1 : Int32)) < 0 ∧ (a4 + (1 : Int32)).toNatClampNeg < X.1 then
  ((f_X7_middle v (X.2 ((a4 + (1 : Int32)).toNatClampNeg))).bind fun p219 =>
  (f_X8_middle v (X.2 ((a4 + (1 : Int32)).toNatClampNeg))).bind fun p220 =>
  if p219 = p220 then
  (f_L_law_2757 X (fun v a4 => f_L_law_23 X  n v a4) v a4)
else
  (some (false, v)))
else none)
else
  (if ((X.2 a4.toNatClampNeg) &&& (63 : Int32)) = (32 : Int32) then
  (if ¬ (a4 + (1 : Int32)) < 0 ∧ (a4 + (1 : Int32)).toNatClampNeg < X.1 then
  (if ¬ (a4 + (2 : Int32)) < 0 ∧ (a4 + (2 : Int32)).toNatClampNeg < X.1 then
  (if ¬ (a4 + (3 : Int32)) < 0 ∧ (a4 + (3 : Int32)).toNatClampNeg < X.1 then
  (if ¬ (a4 + (4 : Int32)) < 0 ∧ (a4 + (4 : Int32)).toNatClampNeg < X.1 then
  ((f_X7_dry v (X.2 ((a4 + (1 : Int32)).toNatClampNeg)) (X.2 ((a4 + (2 : Int32)).toNatClampNeg)) ((((X.2 ((a4 + (3 : Int32)).toNatClampNeg)).toInt64) <<< ((32 : Int32).toInt64 &&& 63)) ||| (((X.2 ((a4 + (4 : Int32)).toNatClampNeg)).toInt64) &&& (4294967295 : Int64)))).bind fun p227 =>
  (f_X8_dry p227.2 (X.2 ((a4 + (1 : Int32)).toNatClampNeg)) (X.2 ((a4 + (2 : Int32)).toNatClampNeg)) ((((X.2 ((a4 + (3 : Int32)).toNatClampNeg)).toInt64) <<< ((32 : Int32).toInt64 &&& 63)) ||| (((X.2 ((a4 + (4 : Int32)).toNatClampNeg)).toInt64) &&& (4294967295 : Int64)))).bind fun p228 =>
  if p227.1 = p228.1 then
  (f_L_law_2757 X (fun v a4 => f_L_law_23 X  n v a4) p228.2 a4)
else
  (some (false, p228.2)))
else none)
else none)
else none)
else none)
else
  (if ((X.2 a4.toNatClampNeg) &&& (63 : Int32)) = (33 : Int32) then
  (if ¬ (a4 + (1 : Int32)) < 0 ∧ (a4 + (1 : Int32)).toNatClampNeg < X.1 then
  (if ¬ (a4 + (2 : Int32)) < 0 ∧ (a4 + (2 : Int32)).toNatClampNeg < X.1 then
  (if ¬ (a4 + (3 : Int32)) < 0 ∧ (a4 + (3 : Int32)).toNatClampNeg < X.1 then
  (if ¬ (a4 + (4 : Int32)) < 0 ∧ (a4 + (4 : Int32)).toNatClampNeg < X.1 then
  (if ¬ (a4 + (5 : Int32)) < 0 ∧ (a4 + (5 : Int32)).toNatClampNeg < X.1 then
  (if ¬ (a4 + (6 : Int32)) < 0 ∧ (a4 + (6 : Int32)).toNatClampNeg < X.1 then
  (if ¬ (a4 + (7 : Int32)) < 0 ∧ (a4 + (7 : Int32)).toNatClampNeg < X.1 then
  ((f_X7_luck v (X.2 ((a4 + (1 : Int32)).toNatClampNeg)) (X.2 ((a4 + (2 : Int32)).toNatClampNeg)) (X.2 ((a4 + (3 : Int32)).toNatClampNeg)) ((((X.2 ((a4 + (4 : Int32)).toNatClampNeg)).toInt64) <<< ((32 : Int32).toInt64 &&& 63)) ||| (((X.2 ((a4 + (5 : Int32)).toNatClampNeg)).toInt64) &&& (4294967295 : Int64))) (X.2 ((a4 + (6 : Int32)).toNatClampNeg)) (X.2 ((a4 + (7 : Int32)).toNatClampNeg))).bind fun p238 =>
  (f_X8_luck p238.2 (X.2 ((a4 + (1 : Int32)).toNatClampNeg)) (X.2 ((a4 + (2 : Int32)).toNatClampNeg)) (X.2 ((a4 + (3 : Int32)).toNatClampNeg)) ((((X.2 ((a4 + (4 : Int32)).toNatClampNeg)).toInt64) <<< ((32 : Int32).toInt64 &&& 63)) ||| (((X.2 ((a4 + (5 : Int32)).toNatClampNeg)).toInt64) &&& (4294967295 : Int64))) (X.2 ((a4 + (6 : Int32)).toNatClampNeg)) (X.2 ((a4 + (7 : Int32)).toNatClampNeg))).bind fun p239 =>
  if p238.1 = p239.1 then
  (f_L_law_2757 X (fun v a4 => f_L_law_23 X  n v a4) p239.2 a4)
else
  (some (false, p239.2)))
else none)
else none)
else none)
else none)
else none)
else none)
else none)
else
  (if ((X.2 a4.toNatClampNeg) &&& (63 : Int32)) = (34 : Int32) then
  (if ¬ (a4 + (1 : Int32)) < 0 ∧ (a4 + (1 : Int32)).toNatClampNeg < X.1 then
  (if ¬ (a4 + (2 : Int32)) < 0 ∧ (a4 + (2 : Int32)).toNatClampNeg < X.1 then
  (if ¬ (a4 + (3 : Int32)) < 0 ∧ (a4 + (3 : Int32)).toNatClampNeg < X.1 then
  (if ¬ (a4 + (4 : Int32)) < 0 ∧ (a4 + (4 : Int32)).toNatClampNeg < X.1 then
  (if ¬ (a4 + (5 : Int32)) < 0 ∧ (a4 + (5 : Int32)).toNatClampNeg < X.1 then
  (if ¬ (a4 + (6 : Int32)) < 0 ∧ (a4 + (6 : Int32)).toNatClampNeg < X.1 then
  (if ¬ (a4 + (7 : Int32)) < 0 ∧ (a4 + (7 : Int32)).toNatClampNeg < X.1 then
  (if ¬ (a4 + (8 : Int32)) < 0 ∧ (a4 + (8 : Int32)).toNatClampNeg < X.1 then
  (if ¬ (a4 + (9 : Int32)) < 0 ∧ (a4 + (9 : Int32)).toNatClampNeg < X.1 then
  ((f_X7_line v (X.2 ((a4 + (1 : Int32)).toNatClampNeg)) (X.2 ((a4 + (2 : Int32)).toNatClampNeg)) (X.2 ((a4 + (3 : Int32)).toNatClampNeg)) (X.2 ((a4 + (4 : Int32)).toNatClampNeg)) (X.2 ((a4 + (5 : Int32)).toNatClampNeg)) (X.2 ((a4 + (6 : Int32)).toNatClampNeg)) ((((X.2 ((a4 + (7 : Int32)).toNatClampNeg)).toInt64) <<< ((32 : Int32).toInt64 &&& 63)) ||| (((X.2 ((a4 + (8 : Int32)).toNatClampNeg)).toInt64) &&& (4294967295 : Int64))) (X.2 ((a4 + (9 : Int32)).toNatClampNeg))).bind fun p251 =>
  (f_X8_line p251.2 (X.2 ((a4 + (1 : Int32)).toNatClampNeg)) (X.2 ((a4 + (2 : Int32)).toNatClampNeg)) (X.2 ((a4 + (3 : Int32)).toNatClampNeg)) (X.2 ((a4 + (4 : Int32)).toNatClampNeg)) (X.2 ((a4 + (5 : Int32)).toNatClampNeg)) (X.2 ((a4 + (6 : Int32)).toNatClampNeg)) ((((X.2 ((a4 + (7 : Int32)).toNatClampNeg)).toInt64) <<< ((32 : Int32).toInt64 &&& 63)) ||| (((X.2 ((a4 + (8 : Int32)).toNatClampNeg)).toInt64) &&& (4294967295 : Int64))) (X.2 ((a4 + (9 : Int32)).toNatClampNeg))).bind fun p252 =>
  if p251.1 = p252.1 then
  (f_L_law_2757 X (fun v a4 => f_L_law_23 X  n v a4) p252.2 a4)
else
  (some (false, p252.2)))
else none)
else none)
else none)
else none)
else none)
else none)
else none)
else none)
else none)
else
  (if ((X.2 a4.toNatClampNeg) &&& (63 : Int32)) = (35 : Int32) then
  (if ¬ (a4 + (1 : Int32)) < 0 ∧ (a4 + (1 : Int32)).toNatClampNeg < X.1 then
  (if ¬ (a4 + (2 : Int32)) < 0 ∧ (a4 + (2 : Int32)).toNatClampNeg < X.1 then
  (if ¬ (a4 + (3 : Int32)) < 0 ∧ (a4 + (3 : Int32)).toNatClampNeg < X.1 then
  (if ¬ (a4 + (4 : Int32)) < 0 ∧ (a4 + (4 : Int32)).toNatClampNeg < X.1 then
  (if ¬ (a4 + (5 : Int32)) < 0 ∧ (a4 + (5 : Int32)).toNatClampNeg < X.1 then
  (if ¬ (a4 + (6 : Int32)) < 0 ∧ (a4 + (6 : Int32)).toNatClampNeg < X.1 then
  ((f_X7_alike v (X.2 ((a4 + (1 : Int32)).toNatClampNeg)) (X.2 ((a4 + (2 : Int32)).toNatClampNeg)) (X.2 ((a4 + (3 : Int32)).toNatClampNeg)) ((((X.2 ((a4 + (4 : Int32)).toNatClampNeg)).toInt64) <<< ((32 : Int32).toInt64 &&& 63)) ||| (((X.2 ((a4 + (5 : Int32)).toNatClampNeg)).toInt64) &&& (4294967295 : Int64))) (X.2 ((a4 + (6 : Int32)).toNatClampNeg))).bind fun p261 =>
  (f_X8_alike p261.2 (X.2 ((a4 + (1 : Int32)).toNatClampNeg)) (X.2 ((a4 + (2 : Int32)).toNatClampNeg)) (X.2 ((a4 + (3 : Int32)).toNatClampNeg)) ((((X.2 ((a4 + (4 : Int32)).toNatClampNeg)).toInt64) <<< ((32 : Int32).toInt64 &&& 63)) ||| (((X.2 ((a4 + (5 : Int32)).toNatClampNeg)).toInt64) &&& (4294967295 : Int64))) (X.2 ((a4 + (6 : Int32)).toNatClampNeg))).bind fun p262 =>
  if p261.1 = p262.1 then
  (f_L_law_2757 X (fun v a4 => f_L_law_23 X  n v a4) p262.2 a4)
else
  (some (false, p262.2)))
else none)
else none)
else none)
else none)
else none)
else none)
else
  (if ((X.2 a4.toNatClampNeg) &&& (63 : Int32)) = (36 : Int32) then
  (if ¬ (a4 + (1 : Int32)) < 0 ∧ (a4 + (1 : Int32)).toNatClampNeg < X.1 then
  (if ¬ (a4 + (2 : Int32)) < 0 ∧ (a4 + (2 : Int32)).toNatClampNeg < X.1 then
  ((f_X7_turned v (X.2 ((a4 + (1 : Int32)).toNatClampNeg)) (X.2 ((a4 + (2 : Int32)).toNatClampNeg))).bind fun p267 =>
  (f_X8_turned v (X.2 ((a4 + (1 : Int32)).toNatClampNeg)) (X.2 ((a4 + (2 : Int32)).toNatClampNeg))).bind fun p268 =>
  if p267 = p268 then
  (f_L_law_2757 X (fun v a4 => f_L_law_23 X  n v a4) v a4)
else
  (some (false, v)))
else none)
else none)
else
  (if ((X.2 a4.toNatClampNeg) &&& (63 : Int32)) = (37 : Int32) then
  (if ¬ (a4 + (1 : Int32)) < 0 ∧ (a4 + (1 : Int32)).toNatClampNeg < X.1 then
  (if ¬ (a4 + (2 : Int32)) < 0 ∧ (a4 + (2 : Int32)).toNatClampNeg < X.1 then
  ((f_X7_join v (X.2 ((a4 + (1 : Int32)).toNatClampNeg)) (X.2 ((a4 + (2 : Int32)).toNatClampNeg))).bind fun p273 =>
  (f_X8_join p273.2 (X.2 ((a4 + (1 : Int32)).toNatClampNeg)) (X.2 ((a4 + (2 : Int32)).toNatClampNeg))).bind fun p274 =>
  if p273.1 = p274.1 then
  (f_L_law_2757 X (fun v a4 => f_L_law_23 X  n v a4) p274.2 a4)
else
  (some (false, p274.2)))
else none)
else none)
else
  (if ((X.2 a4.toNatClampNeg) &&& (63 : Int32)) = (38 : Int32) then
  (if ¬ (a4 + (1 : Int32)) < 0 ∧ (a4 + (1 : Int32)).toNatClampNeg < X.1 then
  (if ¬ (a4 + (2 : Int32)) < 0 ∧ (a4 + (2 : Int32)).toNatClampNeg < X.1 then
  ((f_X7_blot v (X.2 ((a4 + (1 : Int32)).toNatClampNeg)) (X.2 ((a4 + (2 : Int32)).toNatClampNeg))).bind fun p279 =>
  (f_X8_blot v (X.2 ((a4 + (1 : Int32)).toNatClampNeg)) (X.2 ((a4 + (2 : Int32)).toNatClampNeg))).bind fun p280 =>
  if p279 = p280 then
  (f_L_law_2757 X (fun v a4 => f_L_law_23 X  n v a4) v a4)
else
  (some (false, v)))
else none)
else none)
else
  (if ((X.2 a4.toNatClampNeg) &&& (63 : Int32)) = (39 : Int32) then
  (if ¬ (a4 + (1 : Int32)) < 0 ∧ (a4 + (1 : Int32)).toNatClampNeg < X.1 then
  (if ¬ (a4 + (2 : Int32)) < 0 ∧ (a4 + (2 : Int32)).toNatClampNeg < X.1 then
  (if ¬ (a4 + (3 : Int32)) < 0 ∧ (a4 + (3 : Int32)).toNatClampNeg < X.1 then
  (if ¬ (a4 + (4 : Int32)) < 0 ∧ (a4 + (4 : Int32)).toNatClampNeg < X.1 then
  (if ¬ (a4 + (5 : Int32)) < 0 ∧ (a4 + (5 : Int32)).toNatClampNeg < X.1 then
  (if ¬ (a4 + (6 : Int32)) < 0 ∧ (a4 + (6 : Int32)).toNatClampNeg < X.1 then
  ((f_X7_steps v (X.2 ((a4 + (1 : Int32)).toNatClampNeg)) (X.2 ((a4 + (2 : Int32)).toNatClampNeg)) (X.2 ((a4 + (3 : Int32)).toNatClampNeg)) ((((X.2 ((a4 + (4 : Int32)).toNatClampNeg)).toInt64) <<< ((32 : Int32).toInt64 &&& 63)) ||| (((X.2 ((a4 + (5 : Int32)).toNatClampNeg)).toInt64) &&& (4294967295 : Int64))) (X.2 ((a4 + (6 : Int32)).toNatClampNeg))).bind fun p289 =>
  (f_X8_steps p289.2 (X.2 ((a4 + (1 : Int32)).toNatClampNeg)) (X.2 ((a4 + (2 : Int32)).toNatClampNeg)) (X.2 ((a4 + (3 : Int32)).toNatClampNeg)) ((((X.2 ((a4 + (4 : Int32)).toNatClampNeg)).toInt64) <<< ((32 : Int32).toInt64 &&& 63)) ||| (((X.2 ((a4 + (5 : Int32)).toNatClampNeg)).toInt64) &&& (4294967295 : Int64))) (X.2 ((a4 + (6 : Int32)).toNatClampNeg))).bind fun p290 =>
  if p289.1 = p290.1 then
  (f_L_law_2757 X (fun v a4 => f_L_law_23 X  n v a4) p290.2 a4)
else
  (some (false, p290.2)))
else none)
else none)
else none)
else none)
else none)
else none)
else
  (if ((X.2 a4.toNatClampNeg) &&& (63 : Int32)) = (40 : Int32) then
  (if ¬ (a4 + (1 : Int32)) < 0 ∧ (a4 + (1 : Int32)).toNatClampNeg < X.1 then
  (if ¬ (a4 + (2 : Int32)) < 0 ∧ (a4 + (2 : Int32)).toNatClampNeg < X.1 then
  (if ¬ (a4 + (3 : Int32)) < 0 ∧ (a4 + (3 : Int32)).toNatClampNeg < X.1 then
  (if ¬ (a4 + (4 : Int32)) < 0 ∧ (a4 + (4 : Int32)).toNatClampNeg < X.1 then
  (if ¬ (a4 + (5 : Int32)) < 0 ∧ (a4 + (5 : Int32)).toNatClampNeg < X.1 then
  ((f_X7_saved v (X.2 ((a4 + (1 : Int32)).toNatClampNeg)) (X.2 ((a4 + (2 : Int32)).toNatClampNeg)) (X.2 ((a4 + (3 : Int32)).toNatClampNeg)) ((((X.2 ((a4 + (4 : Int32)).toNatClampNeg)).toInt64) <<< ((32 : Int32).toInt64 &&& 63)) ||| (((X.2 ((a4 + (5 : Int32)).toNatClampNeg)).toInt64) &&& (4294967295 : Int64)))).bind fun p298 =>
  (f_X8_saved p298.2 (X.2 ((a4 + (1 : Int32)).toNatClampNeg)) (X.2 ((a4 + (2 : Int32)).toNatClampNeg)) (X.2 ((a4 + (3 : Int32)).toNatClampNeg)) ((((X.2 ((a4 + (4 : Int32)).toNatClampNeg)).toInt64) <<< ((32 : Int32).toInt64 &&& 63)) ||| (((X.2 ((a4 + (5 : Int32)).toNatClampNeg)).toInt64) &&& (4294967295 : Int64)))).bind fun p299 =>
  if p298.1 = p299.1 then
  (f_L_law_2757 X (fun v a4 => f_L_law_23 X  n v a4) p299.2 a4)
else
  (some (false, p299.2)))
else none)
else none)
else none)
else none)
else none)
else
  (if ((X.2 a4.toNatClampNeg) &&& (63 : Int32)) = (41 : Int32) then
  ((f_X7_image v).bind fun p302 =>
  (f_X8_image p302.2).bind fun p303 =>
  if p302.1 = p303.1 then
  (f_L_law_2757 X (fun v a4 => f_L_law_23 X  n v a4) p303.2 a4)
else
  (some (false, p303.2)))
else
  (if ((X.2 a4.toNatClampNeg) &&& (63 : Int32)) = (42 : Int32) then
  ((f_X7_back v).bind fun p306 =>
  (f_X8_back p306.2).bind fun p307 =>
  if p306.1 = p307.1 then
  (f_L_law_2757 X (fun v a4 => f_L_law_23 X  n v a4) p307.2 a4)
else
  (some (false, p307.2)))
else
  (if ((X.2 a4.toNatClampNeg) &&& (63 : Int32)) = (43 : Int32) then
  (if ¬ (a4 + (1 : Int32)) < 0 ∧ (a4 + (1 : Int32)).toNatClampNeg < X.1 then
  (if (f_X7_count v (X.2 ((a4 + (1 : Int32)).toNatClampNeg))) = (f_X8_count v (X.2 ((a4 + (1 : Int32)).toNatClampNeg))) then
  (f_L_law_2757 X (fun v a4 => f_L_law_23 X  n v a4) v a4)
else
  (some (false, v)))
else none)
else
  (f_L_law_2757 X (fun v a4 => f_L_law_23 X  n v a4) v a4)))))))))))))))))))))))))))))))))))))))))))))
else none)
set_option maxRecDepth 100000 in
set_option maxHeartbeats 4000000 in
theorem b_L_law_2757 {X : Nat × (Nat → Int32)} {bc bs : Nat} {r : Bool × rV} {v : rV} {q23 : rV → Int32 → Option (Bool × rV)} (hq23 : ∀ (v : rV) (a4 : Int32) , q23 v a4 = some r → Ev mL_law 88 bc bs 23 [(0, .ref 1000000), (1, .ref 0), (2, .ref 174), (3, .ref 197), (4, .int a4)] [] (rZ X) v (rPZ X r)) {a4 : Int32}  (h : f_L_law_2757 X q23 v a4 = some r) : Ev mL_law 88 bc bs 2757 [(0, .ref 1000000), (1, .ref 0), (2, .ref 174), (3, .ref 197), (4, .int a4)] [] (rZ X) v (rPZ X r) := by
  unfold f_L_law_2757 at h
  obtain ⟨x10, ex10, h⟩ := vlet_ex h
  refine e_iinc (lv' := [(4, .int x10), (0, .ref 1000000), (1, .ref 0), (2, .ref 174), (3, .ref 197)]) dL_law_2757 rfl (ex10.symm) (by decide) rfl ?_
  clear ex10
  refine e_goto (tgt := 23) dL_law_2760 (by decide) ?_
  refine e_sub [1, 2, 3, 4, 0] rfl ?_
  exact hq23 v x10 h
set_option maxRecDepth 100000 in
set_option maxHeartbeats 4000000 in
theorem b_L_law_445 {X : Nat × (Nat → Int32)} {bc bs : Nat} {r : Bool × rV} {v : rV} {q23 : rV → Int32 → Option (Bool × rV)} (hq23 : ∀ (v : rV) (a4 : Int32) , q23 v a4 = some r → Ev mL_law 88 bc bs 23 [(0, .ref 1000000), (1, .ref 0), (2, .ref 174), (3, .ref 197), (4, .int a4)] [] (rZ X) v (rPZ X r)) {a4 : Int32}  (h : f_L_law_445 X q23 v a4 = some r) : Ev mL_law 88 bc bs 445 [(0, .ref 1000000), (1, .ref 0), (2, .ref 174), (3, .ref 197), (4, .int a4)] [] (rZ X) v (rPZ X r) := by
  unfold f_L_law_445 at h
  refine e_goto (tgt := 2757) dL_law_445 (by decide) ?_
  exact b_L_law_2757 hq23 h
set_option maxRecDepth 100000 in
set_option maxHeartbeats 4000000 in
theorem b_L_law_23 {X : Nat × (Nat → Int32)} {r : Bool × rV}   : ∀ (n : Nat) (v : rV) (a4 : Int32) , f_L_law_23 X   n v a4 = some r → Ev mL_law 88 (n * 2) (n * 16) 23 [(0, .ref 1000000), (1, .ref 0), (2, .ref 174), (3, .ref 197), (4, .int a4)] [] (rZ X) v (rPZ X r) := by
  intro n
  induction n with
  | zero =>
    intros
    rename_i h
    cases h
  | succ n ih =>
    intro v a4 h
    rw [f_L_law_23] at h
    refine e_iload dL_law_23 rfl ?_
    refine e_aload_n dL_law_25 rfl ?_
    refine e_slenJ dL_law_26 ?_
    refine e_bipush (x := (10 : Int32)) dL_law_27 (by decide) ?_
    refine e_isub dL_law_29 ?_
    refine e_icmp_gt (tgt := 2763) dL_law_30 (by decide) (fun c314 => ?_) (fun c314 => ?_)
    · rw [if_pos c314] at h
      refine e_iconst (x := (1 : Int32)) dL_law_2763 (by decide) ?_
      obtain rfl := Option.some.inj h
      exact e_iret dL_law_2764 rfl rfl ⟨rfl, rfl, rfl⟩
    · rw [if_neg c314] at h
      refine e_aload_n dL_law_33 rfl ?_
      refine e_iload dL_law_34 rfl ?_
      obtain ⟨c1, h⟩ := grd h
      refine e_sldJ dL_law_36 rfl c1.2 c1.1 ?_
      refine e_bipush (x := (63 : Int32)) dL_law_37 (by decide) ?_
      refine e_iand dL_law_39 ?_
      by_cases c2 : ((X.2 a4.toNatClampNeg) &&& (63 : Int32)) = (0 : Int32)
      · rw [if_pos c2] at h
        refine e_tabIn (off := 192) (tgt := 232) dL_law_40 (by rw [c2]; decide) (by rw [c2]; decide) (by rw [c2]; rfl) (by decide) ?_
        refine e_aload_n dL_law_232 rfl ?_
        refine e_aload_n dL_law_233 rfl ?_
        refine e_iload dL_law_234 rfl ?_
        refine e_iconst (x := (1 : Int32)) dL_law_236 (by decide) ?_
        refine e_iadd dL_law_237 ?_
        obtain ⟨c3, h⟩ := grd h
        refine e_sldJ dL_law_238 rfl c3.2 c3.1 ?_
        refine e_aload_n dL_law_239 rfl ?_
        refine e_iload dL_law_240 rfl ?_
        refine e_iconst (x := (2 : Int32)) dL_law_242 (by decide) ?_
        refine e_iadd dL_law_243 ?_
        obtain ⟨c4, h⟩ := grd h
        refine e_sldJ dL_law_244 rfl c4.2 c4.1 ?_
        refine e_aload_n dL_law_245 rfl ?_
        refine e_iload dL_law_246 rfl ?_
        refine e_iconst (x := (3 : Int32)) dL_law_248 (by decide) ?_
        refine e_iadd dL_law_249 ?_
        obtain ⟨c5, h⟩ := grd h
        refine e_sldJ dL_law_250 rfl c5.2 c5.1 ?_
        refine e_aload_n dL_law_251 rfl ?_
        refine e_iload dL_law_252 rfl ?_
        refine e_iconst (x := (4 : Int32)) dL_law_254 (by decide) ?_
        refine e_iadd dL_law_255 ?_
        obtain ⟨c6, h⟩ := grd h
        refine e_sldJ dL_law_256 rfl c6.2 c6.1 ?_
        refine e_aload_n dL_law_257 rfl ?_
        refine e_iload dL_law_258 rfl ?_
        refine e_iconst (x := (5 : Int32)) dL_law_260 (by decide) ?_
        refine e_iadd dL_law_261 ?_
        obtain ⟨c7, h⟩ := grd h
        refine e_sldJ dL_law_262 rfl c7.2 c7.1 ?_
        obtain ⟨p8, ep8, h⟩ := Option.bind_eq_some_iff.mp h
        refine c_VI (M' := mX7_feed) [.int (X.2 ((a4 + (1 : Int32)).toNatClampNeg)), .int (X.2 ((a4 + (2 : Int32)).toNatClampNeg)), .int (X.2 ((a4 + (3 : Int32)).toNatClampNeg)), .int (X.2 ((a4 + (4 : Int32)).toNatClampNeg)), .int (X.2 ((a4 + (5 : Int32)).toNatClampNeg))] dL_law_263 rfl wmL_19 imX7_feed seX7_feed lkX7_feed k0_0 rc7 (Nat.le_of_ble_eq_true rfl) ((x_X7_feed  ep8).mono (by omega)) ?_
        refine e_aload_n dL_law_266 rfl ?_
        refine e_aload_n dL_law_267 rfl ?_
        refine e_iload dL_law_268 rfl ?_
        refine e_iconst (x := (1 : Int32)) dL_law_270 (by decide) ?_
        refine e_iadd dL_law_271 ?_
        refine e_sldJ dL_law_272 rfl c3.2 c3.1 ?_
        refine e_aload_n dL_law_273 rfl ?_
        refine e_iload dL_law_274 rfl ?_
        refine e_iconst (x := (2 : Int32)) dL_law_276 (by decide) ?_
        refine e_iadd dL_law_277 ?_
        refine e_sldJ dL_law_278 rfl c4.2 c4.1 ?_
        refine e_aload_n dL_law_279 rfl ?_
        refine e_iload dL_law_280 rfl ?_
        refine e_iconst (x := (3 : Int32)) dL_law_282 (by decide) ?_
        refine e_iadd dL_law_283 ?_
        refine e_sldJ dL_law_284 rfl c5.2 c5.1 ?_
        refine e_aload_n dL_law_285 rfl ?_
        refine e_iload dL_law_286 rfl ?_
        refine e_iconst (x := (4 : Int32)) dL_law_288 (by decide) ?_
        refine e_iadd dL_law_289 ?_
        refine e_sldJ dL_law_290 rfl c6.2 c6.1 ?_
        refine e_aload_n dL_law_291 rfl ?_
        refine e_iload dL_law_292 rfl ?_
        refine e_iconst (x := (5 : Int32)) dL_law_294 (by decide) ?_
        refine e_iadd dL_law_295 ?_
        refine e_sldJ dL_law_296 rfl c7.2 c7.1 ?_
        obtain ⟨p9, ep9, h⟩ := Option.bind_eq_some_iff.mp h
        refine c_VI (M' := mX8_feed) [.int (X.2 ((a4 + (1 : Int32)).toNatClampNeg)), .int (X.2 ((a4 + (2 : Int32)).toNatClampNeg)), .int (X.2 ((a4 + (3 : Int32)).toNatClampNeg)), .int (X.2 ((a4 + (4 : Int32)).toNatClampNeg)), .int (X.2 ((a4 + (5 : Int32)).toNatClampNeg))] dL_law_297 rfl wmL_23 imX8_feed seX8_feed lkX8_feed k0_174 rc8 (Nat.le_of_ble_eq_true rfl) ((x_X8_feed  ep9).mono (by omega)) ?_
        refine e_icmp_eq (tgt := 2757) dL_law_300 (by decide) (fun c11 => ?_) (fun c11 => ?_)
        · rw [if_pos c11] at h
          refine e_less (bc' := n * 2) (bs' := n * 16) (by omega) (by omega) ?_
          exact b_L_law_2757 (fun v a4  hh => ih v a4  hh) h
        · rw [if_neg c11] at h
          refine e_iconst (x := (0 : Int32)) dL_law_303 (by decide) ?_
          obtain rfl := Option.some.inj h
          exact e_iret dL_law_304 rfl rfl ⟨rfl, rfl, rfl⟩
      · rw [if_neg c2] at h
        have nc2 := tab_ne c2 (k := 0) (by decide)
        by_cases c12 : ((X.2 a4.toNatClampNeg) &&& (63 : Int32)) = (1 : Int32)
        · rw [if_pos c12] at h
          refine e_tabIn (off := 265) (tgt := 305) dL_law_40 (by rw [c12]; decide) (by rw [c12]; decide) (by rw [c12]; rfl) (by decide) ?_
          refine e_aload_n dL_law_305 rfl ?_
          refine e_aload_n dL_law_306 rfl ?_
          refine e_iload dL_law_307 rfl ?_
          refine e_iconst (x := (1 : Int32)) dL_law_309 (by decide) ?_
          refine e_iadd dL_law_310 ?_
          obtain ⟨c13, h⟩ := grd h
          refine e_sldJ dL_law_311 rfl c13.2 c13.1 ?_
          obtain ⟨p14, ep14, h⟩ := Option.bind_eq_some_iff.mp h
          refine c_VZ (M' := mX7_end) [.int (X.2 ((a4 + (1 : Int32)).toNatClampNeg))] dL_law_312 rfl wmL_24 imX7_end seX7_end lkX7_end k0_0 rc7 (Nat.le_of_ble_eq_true rfl) ((x_X7_end  ep14).mono (by omega)) ?_
          refine e_aload_n dL_law_315 rfl ?_
          refine e_aload_n dL_law_316 rfl ?_
          refine e_iload dL_law_317 rfl ?_
          refine e_iconst (x := (1 : Int32)) dL_law_319 (by decide) ?_
          refine e_iadd dL_law_320 ?_
          refine e_sldJ dL_law_321 rfl c13.2 c13.1 ?_
          obtain ⟨p15, ep15, h⟩ := Option.bind_eq_some_iff.mp h
          refine c_VZ (M' := mX8_end) [.int (X.2 ((a4 + (1 : Int32)).toNatClampNeg))] dL_law_322 rfl wmL_28 imX8_end seX8_end lkX8_end k0_174 rc8 (Nat.le_of_ble_eq_true rfl) ((x_X8_end  ep15).mono (by omega)) ?_
          refine e_icmp_eq (tgt := 2757) dL_law_325 (by decide) (fun c16 => ?_) (fun c16 => ?_)
          · rw [if_pos c16] at h
            refine e_less (bc' := n * 2) (bs' := n * 16) (by omega) (by omega) ?_
            exact b_L_law_2757 (fun v a4  hh => ih v a4  hh) h
          · rw [if_neg c16] at h
            refine e_iconst (x := (0 : Int32)) dL_law_328 (by decide) ?_
            obtain rfl := Option.some.inj h
            exact e_iret dL_law_329 rfl rfl ⟨rfl, rfl, rfl⟩
        · rw [if_neg c12] at h
          have nc12 := tab_ne c12 (k := 1) (by decide)
          by_cases c17 : ((X.2 a4.toNatClampNeg) &&& (63 : Int32)) = (2 : Int32)
          · rw [if_pos c17] at h
            refine e_tabIn (off := 290) (tgt := 330) dL_law_40 (by rw [c17]; decide) (by rw [c17]; decide) (by rw [c17]; rfl) (by decide) ?_
            refine e_aload_n dL_law_330 rfl ?_
            refine e_aload_n dL_law_331 rfl ?_
            refine e_iload dL_law_332 rfl ?_
            refine e_iconst (x := (1 : Int32)) dL_law_334 (by decide) ?_
            refine e_iadd dL_law_335 ?_
            obtain ⟨c18, h⟩ := grd h
            refine e_sldJ dL_law_336 rfl c18.2 c18.1 ?_
            obtain ⟨p19, ep19, h⟩ := Option.bind_eq_some_iff.mp h
            refine c_VI (M' := mX7_fault) [.int (X.2 ((a4 + (1 : Int32)).toNatClampNeg))] dL_law_337 rfl wmL_29 imX7_fault seX7_fault lkX7_fault k0_0 rc7 (Nat.le_of_ble_eq_true rfl) ((x_X7_fault  ep19).mono (by omega)) ?_
            refine e_aload_n dL_law_340 rfl ?_
            refine e_aload_n dL_law_341 rfl ?_
            refine e_iload dL_law_342 rfl ?_
            refine e_iconst (x := (1 : Int32)) dL_law_344 (by decide) ?_
            refine e_iadd dL_law_345 ?_
            refine e_sldJ dL_law_346 rfl c18.2 c18.1 ?_
            obtain ⟨p20, ep20, h⟩ := Option.bind_eq_some_iff.mp h
            refine c_VI (M' := mX8_fault) [.int (X.2 ((a4 + (1 : Int32)).toNatClampNeg))] dL_law_347 rfl wmL_33 imX8_fault seX8_fault lkX8_fault k0_174 rc8 (Nat.le_of_ble_eq_true rfl) ((x_X8_fault  ep20).mono (by omega)) ?_
            refine e_icmp_eq (tgt := 2757) dL_law_350 (by decide) (fun c21 => ?_) (fun c21 => ?_)
            · rw [if_pos c21] at h
              refine e_less (bc' := n * 2) (bs' := n * 16) (by omega) (by omega) ?_
              exact b_L_law_2757 (fun v a4  hh => ih v a4  hh) h
            · rw [if_neg c21] at h
              refine e_iconst (x := (0 : Int32)) dL_law_353 (by decide) ?_
              obtain rfl := Option.some.inj h
              exact e_iret dL_law_354 rfl rfl ⟨rfl, rfl, rfl⟩
          · rw [if_neg c17] at h
            have nc17 := tab_ne c17 (k := 2) (by decide)
            by_cases c22 : ((X.2 a4.toNatClampNeg) &&& (63 : Int32)) = (3 : Int32)
            · rw [if_pos c22] at h
              refine e_tabIn (off := 315) (tgt := 355) dL_law_40 (by rw [c22]; decide) (by rw [c22]; decide) (by rw [c22]; rfl) (by decide) ?_
              refine e_aload_n dL_law_355 rfl ?_
              refine e_aload_n dL_law_356 rfl ?_
              refine e_iload dL_law_357 rfl ?_
              refine e_iconst (x := (1 : Int32)) dL_law_359 (by decide) ?_
              refine e_iadd dL_law_360 ?_
              obtain ⟨c23, h⟩ := grd h
              refine e_sldJ dL_law_361 rfl c23.2 c23.1 ?_
              obtain ⟨p24, ep24, h⟩ := Option.bind_eq_some_iff.mp h
              refine c_VI (M' := mX7_text) [.int (X.2 ((a4 + (1 : Int32)).toNatClampNeg))] dL_law_362 rfl wmL_34 imX7_text seX7_text lkX7_text k0_0 rc7 (Nat.le_of_ble_eq_true rfl) ((x_X7_text  ep24).mono (by omega)) ?_
              refine e_aload_n dL_law_365 rfl ?_
              refine e_aload_n dL_law_366 rfl ?_
              refine e_iload dL_law_367 rfl ?_
              refine e_iconst (x := (1 : Int32)) dL_law_369 (by decide) ?_
              refine e_iadd dL_law_370 ?_
              refine e_sldJ dL_law_371 rfl c23.2 c23.1 ?_
              obtain ⟨p25, ep25, h⟩ := Option.bind_eq_some_iff.mp h
              refine c_VI (M' := mX8_text) [.int (X.2 ((a4 + (1 : Int32)).toNatClampNeg))] dL_law_372 rfl wmL_37 imX8_text seX8_text lkX8_text k0_174 rc8 (Nat.le_of_ble_eq_true rfl) ((x_X8_text  ep25).mono (by omega)) ?_
              refine e_icmp_eq (tgt := 2757) dL_law_375 (by decide) (fun c26 => ?_) (fun c26 => ?_)
              · rw [if_pos c26] at h
                refine e_less (bc' := n * 2) (bs' := n * 16) (by omega) (by omega) ?_
                exact b_L_law_2757 (fun v a4  hh => ih v a4  hh) h
              · rw [if_neg c26] at h
                refine e_iconst (x := (0 : Int32)) dL_law_378 (by decide) ?_
                obtain rfl := Option.some.inj h
                exact e_iret dL_law_379 rfl rfl ⟨rfl, rfl, rfl⟩
            · rw [if_neg c22] at h
              have nc22 := tab_ne c22 (k := 3) (by decide)
              by_cases c27 : ((X.2 a4.toNatClampNeg) &&& (63 : Int32)) = (4 : Int32)
              · rw [if_pos c27] at h
                refine e_tabIn (off := 340) (tgt := 380) dL_law_40 (by rw [c27]; decide) (by rw [c27]; decide) (by rw [c27]; rfl) (by decide) ?_
                refine e_aload_n dL_law_380 rfl ?_
                refine e_aload_n dL_law_381 rfl ?_
                refine e_iload dL_law_382 rfl ?_
                refine e_iconst (x := (1 : Int32)) dL_law_384 (by decide) ?_
                refine e_iadd dL_law_385 ?_
                obtain ⟨c28, h⟩ := grd h
                refine e_sldJ dL_law_386 rfl c28.2 c28.1 ?_
                refine e_aload_n dL_law_387 rfl ?_
                refine e_iload dL_law_388 rfl ?_
                refine e_iconst (x := (2 : Int32)) dL_law_390 (by decide) ?_
                refine e_iadd dL_law_391 ?_
                obtain ⟨c29, h⟩ := grd h
                refine e_sldJ dL_law_392 rfl c29.2 c29.1 ?_
                refine e_aload_n dL_law_393 rfl ?_
                obtain ⟨p30, ep30, h⟩ := Option.bind_eq_some_iff.mp h
                refine e_drop rfl dL_law_394 wmL_38 (by decide) (Nat.le_of_ble_eq_true rfl) ep30 (by omega) (by omega) ?_
                refine e_istore (lv' := [(5, .int p30.1), (0, .ref 1000000), (1, .ref 0), (2, .ref 174), (3, .ref 197), (4, .int a4)]) dL_law_397 (by decide) rfl ?_
                refine e_aload_n dL_law_399 rfl ?_
                refine e_aload_n dL_law_400 rfl ?_
                refine e_iload dL_law_401 rfl ?_
                refine e_iconst (x := (1 : Int32)) dL_law_403 (by decide) ?_
                refine e_iadd dL_law_404 ?_
                refine e_sldJ dL_law_405 rfl c28.2 c28.1 ?_
                refine e_aload_n dL_law_406 rfl ?_
                refine e_iload dL_law_407 rfl ?_
                refine e_iconst (x := (2 : Int32)) dL_law_409 (by decide) ?_
                refine e_iadd dL_law_410 ?_
                refine e_sldJ dL_law_411 rfl c29.2 c29.1 ?_
                obtain ⟨p31, ep31, h⟩ := Option.bind_eq_some_iff.mp h
                refine c_VI (M' := mX8_drop) [.int (X.2 ((a4 + (1 : Int32)).toNatClampNeg)), .int (X.2 ((a4 + (2 : Int32)).toNatClampNeg))] dL_law_412 rfl wmL_43 imX8_drop seX8_drop lkX8_drop k0_174 rc8 (Nat.le_of_ble_eq_true rfl) ((x_X8_drop  ep31).mono (by omega)) ?_
                refine e_istore (lv' := [(6, .int p31.1), (5, .int p30.1), (0, .ref 1000000), (1, .ref 0), (2, .ref 174), (3, .ref 197), (4, .int a4)]) dL_law_415 (by decide) rfl ?_
                refine e_aload_n dL_law_417 rfl ?_
                refine c_VI (M' := mX8_thrown) [] dL_law_418 rfl wmL_44 imX8_thrown seX8_thrown lkX8_thrown k0_174 rc8 (Nat.le_of_ble_eq_true rfl) ((x_X8_thrown ).mono (by omega)) ?_
                refine e_iload dL_law_421 rfl ?_
                refine e_icmp_eq (tgt := 428) dL_law_423 (by decide) (fun c35 => ?_) (fun c35 => ?_)
                · rw [if_pos c35] at h
                  refine e_iload dL_law_428 rfl ?_
                  refine e_if_ne (tgt := 445) dL_law_430 (by decide) (fun c34 => ?_) (fun c34 => ?_)
                  · rw [if_neg c34] at h
                    refine e_less (bc' := n * 2) (bs' := n * 16) (by omega) (by omega) ?_
                    refine e_sub [2, 3, 4, 5, 6] rfl ?_
                    exact b_L_law_445 (fun v a4  hh => ih v a4  hh) h
                  · rw [if_pos c34] at h
                    refine e_aload_n dL_law_433 rfl ?_
                    refine e_iconst (x := (0 : Int32)) dL_law_434 (by decide) ?_
                    refine e_laldJ (j := 0) dL_law_435 k0_197 (by decide) (by decide) (by decide) ?_
                    refine e_iload dL_law_436 rfl ?_
                    refine e_i2l dL_law_438 ?_
                    refine e_lcmp dL_law_439 ?_
                    refine e_if_eq (tgt := 445) dL_law_440 (by decide) (fun c33 => ?_) (fun c33 => ?_)
                    · rw [if_pos c33] at h
                      refine e_less (bc' := n * 2) (bs' := n * 16) (by omega) (by omega) ?_
                      refine e_sub [2, 3, 4, 5, 6] rfl ?_
                      exact b_L_law_445 (fun v a4  hh => ih v a4  hh) h
                    · rw [if_neg c33] at h
                      refine e_iconst (x := (0 : Int32)) dL_law_443 (by decide) ?_
                      obtain rfl := Option.some.inj h
                      exact e_iret dL_law_444 rfl rfl ⟨rfl, rfl, rfl⟩
                · rw [if_neg c35] at h
                  refine e_iconst (x := (0 : Int32)) dL_law_426 (by decide) ?_
                  obtain rfl := Option.some.inj h
                  exact e_iret dL_law_427 rfl rfl ⟨rfl, rfl, rfl⟩
              · rw [if_neg c27] at h
                have nc27 := tab_ne c27 (k := 4) (by decide)
                by_cases c36 : ((X.2 a4.toNatClampNeg) &&& (63 : Int32)) = (5 : Int32)
                · rw [if_pos c36] at h
                  refine e_tabIn (off := 408) (tgt := 448) dL_law_40 (by rw [c36]; decide) (by rw [c36]; decide) (by rw [c36]; rfl) (by decide) ?_
                  refine e_aload_n dL_law_448 rfl ?_
                  refine e_aload_n dL_law_449 rfl ?_
                  refine e_iload dL_law_450 rfl ?_
                  refine e_iconst (x := (1 : Int32)) dL_law_452 (by decide) ?_
                  refine e_iadd dL_law_453 ?_
                  obtain ⟨c37, h⟩ := grd h
                  refine e_sldJ dL_law_454 rfl c37.2 c37.1 ?_
                  obtain ⟨p38, ep38, h⟩ := Option.bind_eq_some_iff.mp h
                  refine c_VZ (M' := mX7_pace) [.int (X.2 ((a4 + (1 : Int32)).toNatClampNeg))] dL_law_455 rfl wmL_48 imX7_pace seX7_pace lkX7_pace k0_0 rc7 (Nat.le_of_ble_eq_true rfl) ((x_X7_pace  ep38).mono (by omega)) ?_
                  refine e_aload_n dL_law_458 rfl ?_
                  refine e_aload_n dL_law_459 rfl ?_
                  refine e_iload dL_law_460 rfl ?_
                  refine e_iconst (x := (1 : Int32)) dL_law_462 (by decide) ?_
                  refine e_iadd dL_law_463 ?_
                  refine e_sldJ dL_law_464 rfl c37.2 c37.1 ?_
                  obtain ⟨p39, ep39, h⟩ := Option.bind_eq_some_iff.mp h
                  refine c_VZ (M' := mX8_pace) [.int (X.2 ((a4 + (1 : Int32)).toNatClampNeg))] dL_law_465 rfl wmL_51 imX8_pace seX8_pace lkX8_pace k0_174 rc8 (Nat.le_of_ble_eq_true rfl) ((x_X8_pace  ep39).mono (by omega)) ?_
                  refine e_icmp_eq (tgt := 2757) dL_law_468 (by decide) (fun c40 => ?_) (fun c40 => ?_)
                  · rw [if_pos c40] at h
                    refine e_less (bc' := n * 2) (bs' := n * 16) (by omega) (by omega) ?_
                    exact b_L_law_2757 (fun v a4  hh => ih v a4  hh) h
                  · rw [if_neg c40] at h
                    refine e_iconst (x := (0 : Int32)) dL_law_471 (by decide) ?_
                    obtain rfl := Option.some.inj h
                    exact e_iret dL_law_472 rfl rfl ⟨rfl, rfl, rfl⟩
                · rw [if_neg c36] at h
                  have nc36 := tab_ne c36 (k := 5) (by decide)
                  by_cases c41 : ((X.2 a4.toNatClampNeg) &&& (63 : Int32)) = (6 : Int32)
                  · rw [if_pos c41] at h
                    refine e_tabIn (off := 433) (tgt := 473) dL_law_40 (by rw [c41]; decide) (by rw [c41]; decide) (by rw [c41]; rfl) (by decide) ?_
                    refine e_aload_n dL_law_473 rfl ?_
                    refine e_aload_n dL_law_474 rfl ?_
                    refine e_iload dL_law_475 rfl ?_
                    refine e_iconst (x := (1 : Int32)) dL_law_477 (by decide) ?_
                    refine e_iadd dL_law_478 ?_
                    obtain ⟨c42, h⟩ := grd h
                    refine e_sldJ dL_law_479 rfl c42.2 c42.1 ?_
                    refine e_aload_n dL_law_480 rfl ?_
                    refine e_iload dL_law_481 rfl ?_
                    refine e_iconst (x := (2 : Int32)) dL_law_483 (by decide) ?_
                    refine e_iadd dL_law_484 ?_
                    obtain ⟨c43, h⟩ := grd h
                    refine e_sldJ dL_law_485 rfl c43.2 c43.1 ?_
                    refine e_aload_n dL_law_486 rfl ?_
                    refine e_iload dL_law_487 rfl ?_
                    refine e_iconst (x := (3 : Int32)) dL_law_489 (by decide) ?_
                    refine e_iadd dL_law_490 ?_
                    obtain ⟨c44, h⟩ := grd h
                    refine e_sldJ dL_law_491 rfl c44.2 c44.1 ?_
                    refine e_i2l dL_law_492 ?_
                    refine e_bipush (x := (32 : Int32)) dL_law_493 (by decide) ?_
                    refine e_lshl dL_law_495 ?_
                    refine e_aload_n dL_law_496 rfl ?_
                    refine e_iload dL_law_497 rfl ?_
                    refine e_iconst (x := (4 : Int32)) dL_law_499 (by decide) ?_
                    refine e_iadd dL_law_500 ?_
                    obtain ⟨c45, h⟩ := grd h
                    refine e_sldJ dL_law_501 rfl c45.2 c45.1 ?_
                    refine e_i2l dL_law_502 ?_
                    refine e_ldc2 dL_law_503 wcL_52 ?_
                    refine e_land dL_law_506 ?_
                    refine e_lor dL_law_507 ?_
                    obtain ⟨p46, ep46, h⟩ := Option.bind_eq_some_iff.mp h
                    refine c_VI (M' := mX7_start) [.int (X.2 ((a4 + (1 : Int32)).toNatClampNeg)), .int (X.2 ((a4 + (2 : Int32)).toNatClampNeg)), .long ((((X.2 ((a4 + (3 : Int32)).toNatClampNeg)).toInt64) <<< ((32 : Int32).toInt64 &&& 63)) ||| (((X.2 ((a4 + (4 : Int32)).toNatClampNeg)).toInt64) &&& (4294967295 : Int64)))] dL_law_508 rfl wmL_54 imX7_start seX7_start lkX7_start k0_0 rc7 (Nat.le_of_ble_eq_true rfl) ((x_X7_start  ep46).mono (by omega)) ?_
                    refine e_aload_n dL_law_511 rfl ?_
                    refine e_aload_n dL_law_512 rfl ?_
                    refine e_iload dL_law_513 rfl ?_
                    refine e_iconst (x := (1 : Int32)) dL_law_515 (by decide) ?_
                    refine e_iadd dL_law_516 ?_
                    refine e_sldJ dL_law_517 rfl c42.2 c42.1 ?_
                    refine e_aload_n dL_law_518 rfl ?_
                    refine e_iload dL_law_519 rfl ?_
                    refine e_iconst (x := (2 : Int32)) dL_law_521 (by decide) ?_
                    refine e_iadd dL_law_522 ?_
                    refine e_sldJ dL_law_523 rfl c43.2 c43.1 ?_
                    refine e_aload_n dL_law_524 rfl ?_
                    refine e_iload dL_law_525 rfl ?_
                    refine e_iconst (x := (3 : Int32)) dL_law_527 (by decide) ?_
                    refine e_iadd dL_law_528 ?_
                    refine e_sldJ dL_law_529 rfl c44.2 c44.1 ?_
                    refine e_i2l dL_law_530 ?_
                    refine e_bipush (x := (32 : Int32)) dL_law_531 (by decide) ?_
                    refine e_lshl dL_law_533 ?_
                    refine e_aload_n dL_law_534 rfl ?_
                    refine e_iload dL_law_535 rfl ?_
                    refine e_iconst (x := (4 : Int32)) dL_law_537 (by decide) ?_
                    refine e_iadd dL_law_538 ?_
                    refine e_sldJ dL_law_539 rfl c45.2 c45.1 ?_
                    refine e_i2l dL_law_540 ?_
                    refine e_ldc2 dL_law_541 wcL_52 ?_
                    refine e_land dL_law_544 ?_
                    refine e_lor dL_law_545 ?_
                    obtain ⟨p47, ep47, h⟩ := Option.bind_eq_some_iff.mp h
                    refine c_VI (M' := mX8_start) [.int (X.2 ((a4 + (1 : Int32)).toNatClampNeg)), .int (X.2 ((a4 + (2 : Int32)).toNatClampNeg)), .long ((((X.2 ((a4 + (3 : Int32)).toNatClampNeg)).toInt64) <<< ((32 : Int32).toInt64 &&& 63)) ||| (((X.2 ((a4 + (4 : Int32)).toNatClampNeg)).toInt64) &&& (4294967295 : Int64)))] dL_law_546 rfl wmL_58 imX8_start seX8_start lkX8_start k0_174 rc8 (Nat.le_of_ble_eq_true rfl) ((x_X8_start  ep47).mono (by omega)) ?_
                    refine e_icmp_eq (tgt := 2757) dL_law_549 (by decide) (fun c48 => ?_) (fun c48 => ?_)
                    · rw [if_pos c48] at h
                      refine e_less (bc' := n * 2) (bs' := n * 16) (by omega) (by omega) ?_
                      exact b_L_law_2757 (fun v a4  hh => ih v a4  hh) h
                    · rw [if_neg c48] at h
                      refine e_iconst (x := (0 : Int32)) dL_law_552 (by decide) ?_
                      obtain rfl := Option.some.inj h
                      exact e_iret dL_law_553 rfl rfl ⟨rfl, rfl, rfl⟩
                  · rw [if_neg c41] at h
                    have nc41 := tab_ne c41 (k := 6) (by decide)
                    by_cases c49 : ((X.2 a4.toNatClampNeg) &&& (63 : Int32)) = (7 : Int32)
                    · rw [if_pos c49] at h
                      refine e_tabIn (off := 514) (tgt := 554) dL_law_40 (by rw [c49]; decide) (by rw [c49]; decide) (by rw [c49]; rfl) (by decide) ?_
                      refine e_aload_n dL_law_554 rfl ?_
                      refine e_aload_n dL_law_555 rfl ?_
                      refine e_iload dL_law_556 rfl ?_
                      refine e_iconst (x := (1 : Int32)) dL_law_558 (by decide) ?_
                      refine e_iadd dL_law_559 ?_
                      obtain ⟨c50, h⟩ := grd h
                      refine e_sldJ dL_law_560 rfl c50.2 c50.1 ?_
                      obtain ⟨p51, ep51, h⟩ := Option.bind_eq_some_iff.mp h
                      refine c_VI (M' := mX7_tick) [.int (X.2 ((a4 + (1 : Int32)).toNatClampNeg))] dL_law_561 rfl wmL_59 imX7_tick seX7_tick lkX7_tick k0_0 rc7 (Nat.le_of_ble_eq_true rfl) ((x_X7_tick  ep51).mono (by omega)) ?_
                      refine e_aload_n dL_law_564 rfl ?_
                      refine e_aload_n dL_law_565 rfl ?_
                      refine e_iload dL_law_566 rfl ?_
                      refine e_iconst (x := (1 : Int32)) dL_law_568 (by decide) ?_
                      refine e_iadd dL_law_569 ?_
                      refine e_sldJ dL_law_570 rfl c50.2 c50.1 ?_
                      obtain ⟨p52, ep52, h⟩ := Option.bind_eq_some_iff.mp h
                      refine c_VI (M' := mX8_tick) [.int (X.2 ((a4 + (1 : Int32)).toNatClampNeg))] dL_law_571 rfl wmL_62 imX8_tick seX8_tick lkX8_tick k0_174 rc8 (Nat.le_of_ble_eq_true rfl) ((x_X8_tick  ep52).mono (by omega)) ?_
                      refine e_icmp_eq (tgt := 2757) dL_law_574 (by decide) (fun c53 => ?_) (fun c53 => ?_)
                      · rw [if_pos c53] at h
                        refine e_less (bc' := n * 2) (bs' := n * 16) (by omega) (by omega) ?_
                        exact b_L_law_2757 (fun v a4  hh => ih v a4  hh) h
                      · rw [if_neg c53] at h
                        refine e_iconst (x := (0 : Int32)) dL_law_577 (by decide) ?_
                        obtain rfl := Option.some.inj h
                        exact e_iret dL_law_578 rfl rfl ⟨rfl, rfl, rfl⟩
                    · rw [if_neg c49] at h
                      have nc49 := tab_ne c49 (k := 7) (by decide)
                      by_cases c54 : ((X.2 a4.toNatClampNeg) &&& (63 : Int32)) = (8 : Int32)
                      · rw [if_pos c54] at h
                        refine e_tabIn (off := 539) (tgt := 579) dL_law_40 (by rw [c54]; decide) (by rw [c54]; decide) (by rw [c54]; rfl) (by decide) ?_
                        refine e_aload_n dL_law_579 rfl ?_
                        refine e_aload_n dL_law_580 rfl ?_
                        refine e_iload dL_law_581 rfl ?_
                        refine e_iconst (x := (1 : Int32)) dL_law_583 (by decide) ?_
                        refine e_iadd dL_law_584 ?_
                        obtain ⟨c55, h⟩ := grd h
                        refine e_sldJ dL_law_585 rfl c55.2 c55.1 ?_
                        refine e_aload_n dL_law_586 rfl ?_
                        refine e_iload dL_law_587 rfl ?_
                        refine e_iconst (x := (2 : Int32)) dL_law_589 (by decide) ?_
                        refine e_iadd dL_law_590 ?_
                        obtain ⟨c56, h⟩ := grd h
                        refine e_sldJ dL_law_591 rfl c56.2 c56.1 ?_
                        obtain ⟨p57, ep57, h⟩ := Option.bind_eq_some_iff.mp h
                        refine c_VI (M' := mX7_body) [.int (X.2 ((a4 + (1 : Int32)).toNatClampNeg)), .int (X.2 ((a4 + (2 : Int32)).toNatClampNeg))] dL_law_592 rfl wmL_63 imX7_body seX7_body lkX7_body k0_0 rc7 (Nat.le_of_ble_eq_true rfl) ((x_X7_body  ep57).mono (by omega)) ?_
                        refine e_aload_n dL_law_595 rfl ?_
                        refine e_aload_n dL_law_596 rfl ?_
                        refine e_iload dL_law_597 rfl ?_
                        refine e_iconst (x := (1 : Int32)) dL_law_599 (by decide) ?_
                        refine e_iadd dL_law_600 ?_
                        refine e_sldJ dL_law_601 rfl c55.2 c55.1 ?_
                        refine e_aload_n dL_law_602 rfl ?_
                        refine e_iload dL_law_603 rfl ?_
                        refine e_iconst (x := (2 : Int32)) dL_law_605 (by decide) ?_
                        refine e_iadd dL_law_606 ?_
                        refine e_sldJ dL_law_607 rfl c56.2 c56.1 ?_
                        obtain ⟨p58, ep58, h⟩ := Option.bind_eq_some_iff.mp h
                        refine c_VI (M' := mX8_body) [.int (X.2 ((a4 + (1 : Int32)).toNatClampNeg)), .int (X.2 ((a4 + (2 : Int32)).toNatClampNeg))] dL_law_608 rfl wmL_66 imX8_body seX8_body lkX8_body k0_174 rc8 (Nat.le_of_ble_eq_true rfl) ((x_X8_body  ep58).mono (by omega)) ?_
                        refine e_icmp_eq (tgt := 2757) dL_law_611 (by decide) (fun c59 => ?_) (fun c59 => ?_)
                        · rw [if_pos c59] at h
                          refine e_less (bc' := n * 2) (bs' := n * 16) (by omega) (by omega) ?_
                          exact b_L_law_2757 (fun v a4  hh => ih v a4  hh) h
                        · rw [if_neg c59] at h
                          refine e_iconst (x := (0 : Int32)) dL_law_614 (by decide) ?_
                          obtain rfl := Option.some.inj h
                          exact e_iret dL_law_615 rfl rfl ⟨rfl, rfl, rfl⟩
                      · rw [if_neg c54] at h
                        have nc54 := tab_ne c54 (k := 8) (by decide)
                        by_cases c60 : ((X.2 a4.toNatClampNeg) &&& (63 : Int32)) = (9 : Int32)
                        · rw [if_pos c60] at h
                          refine e_tabIn (off := 576) (tgt := 616) dL_law_40 (by rw [c60]; decide) (by rw [c60]; decide) (by rw [c60]; rfl) (by decide) ?_
                          refine e_aload_n dL_law_616 rfl ?_
                          refine e_aload_n dL_law_617 rfl ?_
                          refine e_iload dL_law_618 rfl ?_
                          refine e_iconst (x := (1 : Int32)) dL_law_620 (by decide) ?_
                          refine e_iadd dL_law_621 ?_
                          obtain ⟨c61, h⟩ := grd h
                          refine e_sldJ dL_law_622 rfl c61.2 c61.1 ?_
                          obtain ⟨p62, ep62, h⟩ := Option.bind_eq_some_iff.mp h
                          refine c_VI (M' := mX7_water) [.int (X.2 ((a4 + (1 : Int32)).toNatClampNeg))] dL_law_623 rfl wmL_67 imX7_water seX7_water lkX7_water k0_0 rc7 (Nat.le_of_ble_eq_true rfl) ((x_X7_water  ep62).mono (by omega)) ?_
                          refine e_aload_n dL_law_626 rfl ?_
                          refine e_aload_n dL_law_627 rfl ?_
                          refine e_iload dL_law_628 rfl ?_
                          refine e_iconst (x := (1 : Int32)) dL_law_630 (by decide) ?_
                          refine e_iadd dL_law_631 ?_
                          refine e_sldJ dL_law_632 rfl c61.2 c61.1 ?_
                          obtain ⟨p63, ep63, h⟩ := Option.bind_eq_some_iff.mp h
                          refine c_VI (M' := mX8_water) [.int (X.2 ((a4 + (1 : Int32)).toNatClampNeg))] dL_law_633 rfl wmL_70 imX8_water seX8_water lkX8_water k0_174 rc8 (Nat.le_of_ble_eq_true rfl) ((x_X8_water  ep63).mono (by omega)) ?_
                          refine e_icmp_eq (tgt := 2757) dL_law_636 (by decide) (fun c64 => ?_) (fun c64 => ?_)
                          · rw [if_pos c64] at h
                            refine e_less (bc' := n * 2) (bs' := n * 16) (by omega) (by omega) ?_
                            exact b_L_law_2757 (fun v a4  hh => ih v a4  hh) h
                          · rw [if_neg c64] at h
                            refine e_iconst (x := (0 : Int32)) dL_law_639 (by decide) ?_
                            obtain rfl := Option.some.inj h
                            exact e_iret dL_law_640 rfl rfl ⟨rfl, rfl, rfl⟩
                        · rw [if_neg c60] at h
                          have nc60 := tab_ne c60 (k := 9) (by decide)
                          by_cases c65 : ((X.2 a4.toNatClampNeg) &&& (63 : Int32)) = (10 : Int32)
                          · rw [if_pos c65] at h
                            refine e_tabIn (off := 601) (tgt := 641) dL_law_40 (by rw [c65]; decide) (by rw [c65]; decide) (by rw [c65]; rfl) (by decide) ?_
                            refine e_aload_n dL_law_641 rfl ?_
                            refine e_aload_n dL_law_642 rfl ?_
                            refine e_iload dL_law_643 rfl ?_
                            refine e_iconst (x := (1 : Int32)) dL_law_645 (by decide) ?_
                            refine e_iadd dL_law_646 ?_
                            obtain ⟨c66, h⟩ := grd h
                            refine e_sldJ dL_law_647 rfl c66.2 c66.1 ?_
                            refine e_aload_n dL_law_648 rfl ?_
                            refine e_iload dL_law_649 rfl ?_
                            refine e_iconst (x := (2 : Int32)) dL_law_651 (by decide) ?_
                            refine e_iadd dL_law_652 ?_
                            obtain ⟨c67, h⟩ := grd h
                            refine e_sldJ dL_law_653 rfl c67.2 c67.1 ?_
                            obtain ⟨p68, ep68, h⟩ := Option.bind_eq_some_iff.mp h
                            refine c_VI (M' := mX7_free) [.int (X.2 ((a4 + (1 : Int32)).toNatClampNeg)), .int (X.2 ((a4 + (2 : Int32)).toNatClampNeg))] dL_law_654 rfl wmL_71 imX7_free seX7_free lkX7_free k0_0 rc7 (Nat.le_of_ble_eq_true rfl) ((x_X7_free  ep68).mono (by omega)) ?_
                            refine e_aload_n dL_law_657 rfl ?_
                            refine e_aload_n dL_law_658 rfl ?_
                            refine e_iload dL_law_659 rfl ?_
                            refine e_iconst (x := (1 : Int32)) dL_law_661 (by decide) ?_
                            refine e_iadd dL_law_662 ?_
                            refine e_sldJ dL_law_663 rfl c66.2 c66.1 ?_
                            refine e_aload_n dL_law_664 rfl ?_
                            refine e_iload dL_law_665 rfl ?_
                            refine e_iconst (x := (2 : Int32)) dL_law_667 (by decide) ?_
                            refine e_iadd dL_law_668 ?_
                            refine e_sldJ dL_law_669 rfl c67.2 c67.1 ?_
                            obtain ⟨p69, ep69, h⟩ := Option.bind_eq_some_iff.mp h
                            refine c_VI (M' := mX8_free) [.int (X.2 ((a4 + (1 : Int32)).toNatClampNeg)), .int (X.2 ((a4 + (2 : Int32)).toNatClampNeg))] dL_law_670 rfl wmL_74 imX8_free seX8_free lkX8_free k0_174 rc8 (Nat.le_of_ble_eq_true rfl) ((x_X8_free  ep69).mono (by omega)) ?_
                            refine e_icmp_eq (tgt := 2757) dL_law_673 (by decide) (fun c70 => ?_) (fun c70 => ?_)
                            · rw [if_pos c70] at h
                              refine e_less (bc' := n * 2) (bs' := n * 16) (by omega) (by omega) ?_
                              exact b_L_law_2757 (fun v a4  hh => ih v a4  hh) h
                            · rw [if_neg c70] at h
                              refine e_iconst (x := (0 : Int32)) dL_law_676 (by decide) ?_
                              obtain rfl := Option.some.inj h
                              exact e_iret dL_law_677 rfl rfl ⟨rfl, rfl, rfl⟩
                          · rw [if_neg c65] at h
                            have nc65 := tab_ne c65 (k := 10) (by decide)
                            by_cases c71 : ((X.2 a4.toNatClampNeg) &&& (63 : Int32)) = (11 : Int32)
                            · rw [if_pos c71] at h
                              refine e_tabIn (off := 638) (tgt := 678) dL_law_40 (by rw [c71]; decide) (by rw [c71]; decide) (by rw [c71]; rfl) (by decide) ?_
                              refine e_aload_n dL_law_678 rfl ?_
                              refine e_aload_n dL_law_679 rfl ?_
                              refine e_iload dL_law_680 rfl ?_
                              refine e_iconst (x := (1 : Int32)) dL_law_682 (by decide) ?_
                              refine e_iadd dL_law_683 ?_
                              obtain ⟨c72, h⟩ := grd h
                              refine e_sldJ dL_law_684 rfl c72.2 c72.1 ?_
                              refine e_aload_n dL_law_685 rfl ?_
                              refine e_iload dL_law_686 rfl ?_
                              refine e_iconst (x := (2 : Int32)) dL_law_688 (by decide) ?_
                              refine e_iadd dL_law_689 ?_
                              obtain ⟨c73, h⟩ := grd h
                              refine e_sldJ dL_law_690 rfl c73.2 c73.1 ?_
                              obtain ⟨p74, ep74, h⟩ := Option.bind_eq_some_iff.mp h
                              refine c_VI (M' := mX7_lies) [.int (X.2 ((a4 + (1 : Int32)).toNatClampNeg)), .int (X.2 ((a4 + (2 : Int32)).toNatClampNeg))] dL_law_691 rfl wmL_75 imX7_lies seX7_lies lkX7_lies k0_0 rc7 (Nat.le_of_ble_eq_true rfl) ((x_X7_lies  ep74).mono (by omega)) ?_
                              refine e_aload_n dL_law_694 rfl ?_
                              refine e_aload_n dL_law_695 rfl ?_
                              refine e_iload dL_law_696 rfl ?_
                              refine e_iconst (x := (1 : Int32)) dL_law_698 (by decide) ?_
                              refine e_iadd dL_law_699 ?_
                              refine e_sldJ dL_law_700 rfl c72.2 c72.1 ?_
                              refine e_aload_n dL_law_701 rfl ?_
                              refine e_iload dL_law_702 rfl ?_
                              refine e_iconst (x := (2 : Int32)) dL_law_704 (by decide) ?_
                              refine e_iadd dL_law_705 ?_
                              refine e_sldJ dL_law_706 rfl c73.2 c73.1 ?_
                              obtain ⟨p75, ep75, h⟩ := Option.bind_eq_some_iff.mp h
                              refine c_VI (M' := mX8_lies) [.int (X.2 ((a4 + (1 : Int32)).toNatClampNeg)), .int (X.2 ((a4 + (2 : Int32)).toNatClampNeg))] dL_law_707 rfl wmL_78 imX8_lies seX8_lies lkX8_lies k0_174 rc8 (Nat.le_of_ble_eq_true rfl) ((x_X8_lies  ep75).mono (by omega)) ?_
                              refine e_icmp_eq (tgt := 2757) dL_law_710 (by decide) (fun c76 => ?_) (fun c76 => ?_)
                              · rw [if_pos c76] at h
                                refine e_less (bc' := n * 2) (bs' := n * 16) (by omega) (by omega) ?_
                                exact b_L_law_2757 (fun v a4  hh => ih v a4  hh) h
                              · rw [if_neg c76] at h
                                refine e_iconst (x := (0 : Int32)) dL_law_713 (by decide) ?_
                                obtain rfl := Option.some.inj h
                                exact e_iret dL_law_714 rfl rfl ⟨rfl, rfl, rfl⟩
                            · rw [if_neg c71] at h
                              have nc71 := tab_ne c71 (k := 11) (by decide)
                              by_cases c77 : ((X.2 a4.toNatClampNeg) &&& (63 : Int32)) = (12 : Int32)
                              · rw [if_pos c77] at h
                                refine e_tabIn (off := 675) (tgt := 715) dL_law_40 (by rw [c77]; decide) (by rw [c77]; decide) (by rw [c77]; rfl) (by decide) ?_
                                refine e_aload_n dL_law_715 rfl ?_
                                refine e_aload_n dL_law_716 rfl ?_
                                refine e_iload dL_law_717 rfl ?_
                                refine e_iconst (x := (1 : Int32)) dL_law_719 (by decide) ?_
                                refine e_iadd dL_law_720 ?_
                                obtain ⟨c78, h⟩ := grd h
                                refine e_sldJ dL_law_721 rfl c78.2 c78.1 ?_
                                refine e_aload_n dL_law_722 rfl ?_
                                refine e_iload dL_law_723 rfl ?_
                                refine e_iconst (x := (2 : Int32)) dL_law_725 (by decide) ?_
                                refine e_iadd dL_law_726 ?_
                                obtain ⟨c79, h⟩ := grd h
                                refine e_sldJ dL_law_727 rfl c79.2 c79.1 ?_
                                obtain ⟨p80, ep80, h⟩ := Option.bind_eq_some_iff.mp h
                                refine c_VI (M' := mX7_heap) [.int (X.2 ((a4 + (1 : Int32)).toNatClampNeg)), .int (X.2 ((a4 + (2 : Int32)).toNatClampNeg))] dL_law_728 rfl wmL_79 imX7_heap seX7_heap lkX7_heap k0_0 rc7 (Nat.le_of_ble_eq_true rfl) ((x_X7_heap  ep80).mono (by omega)) ?_
                                refine e_aload_n dL_law_731 rfl ?_
                                refine e_aload_n dL_law_732 rfl ?_
                                refine e_iload dL_law_733 rfl ?_
                                refine e_iconst (x := (1 : Int32)) dL_law_735 (by decide) ?_
                                refine e_iadd dL_law_736 ?_
                                refine e_sldJ dL_law_737 rfl c78.2 c78.1 ?_
                                refine e_aload_n dL_law_738 rfl ?_
                                refine e_iload dL_law_739 rfl ?_
                                refine e_iconst (x := (2 : Int32)) dL_law_741 (by decide) ?_
                                refine e_iadd dL_law_742 ?_
                                refine e_sldJ dL_law_743 rfl c79.2 c79.1 ?_
                                obtain ⟨p81, ep81, h⟩ := Option.bind_eq_some_iff.mp h
                                refine c_VI (M' := mX8_heap) [.int (X.2 ((a4 + (1 : Int32)).toNatClampNeg)), .int (X.2 ((a4 + (2 : Int32)).toNatClampNeg))] dL_law_744 rfl wmL_82 imX8_heap seX8_heap lkX8_heap k0_174 rc8 (Nat.le_of_ble_eq_true rfl) ((x_X8_heap  ep81).mono (by omega)) ?_
                                refine e_icmp_eq (tgt := 2757) dL_law_747 (by decide) (fun c82 => ?_) (fun c82 => ?_)
                                · rw [if_pos c82] at h
                                  refine e_less (bc' := n * 2) (bs' := n * 16) (by omega) (by omega) ?_
                                  exact b_L_law_2757 (fun v a4  hh => ih v a4  hh) h
                                · rw [if_neg c82] at h
                                  refine e_iconst (x := (0 : Int32)) dL_law_750 (by decide) ?_
                                  obtain rfl := Option.some.inj h
                                  exact e_iret dL_law_751 rfl rfl ⟨rfl, rfl, rfl⟩
                              · rw [if_neg c77] at h
                                have nc77 := tab_ne c77 (k := 12) (by decide)
                                by_cases c83 : ((X.2 a4.toNatClampNeg) &&& (63 : Int32)) = (13 : Int32)
                                · rw [if_pos c83] at h
                                  refine e_tabIn (off := 712) (tgt := 752) dL_law_40 (by rw [c83]; decide) (by rw [c83]; decide) (by rw [c83]; rfl) (by decide) ?_
                                  refine e_aload_n dL_law_752 rfl ?_
                                  refine e_aload_n dL_law_753 rfl ?_
                                  refine e_iload dL_law_754 rfl ?_
                                  refine e_iconst (x := (1 : Int32)) dL_law_756 (by decide) ?_
                                  refine e_iadd dL_law_757 ?_
                                  obtain ⟨c84, h⟩ := grd h
                                  refine e_sldJ dL_law_758 rfl c84.2 c84.1 ?_
                                  obtain ⟨p85, ep85, h⟩ := Option.bind_eq_some_iff.mp h
                                  refine c_VI (M' := mX7_flow) [.int (X.2 ((a4 + (1 : Int32)).toNatClampNeg))] dL_law_759 rfl wmL_83 imX7_flow seX7_flow lkX7_flow k0_0 rc7 (Nat.le_of_ble_eq_true rfl) ((x_X7_flow  ep85).mono (by omega)) ?_
                                  refine e_aload_n dL_law_762 rfl ?_
                                  refine e_aload_n dL_law_763 rfl ?_
                                  refine e_iload dL_law_764 rfl ?_
                                  refine e_iconst (x := (1 : Int32)) dL_law_766 (by decide) ?_
                                  refine e_iadd dL_law_767 ?_
                                  refine e_sldJ dL_law_768 rfl c84.2 c84.1 ?_
                                  obtain ⟨p86, ep86, h⟩ := Option.bind_eq_some_iff.mp h
                                  refine c_VI (M' := mX8_flow) [.int (X.2 ((a4 + (1 : Int32)).toNatClampNeg))] dL_law_769 rfl wmL_86 imX8_flow seX8_flow lkX8_flow k0_174 rc8 (Nat.le_of_ble_eq_true rfl) ((x_X8_flow  ep86).mono (by omega)) ?_
                                  refine e_icmp_eq (tgt := 2757) dL_law_772 (by decide) (fun c87 => ?_) (fun c87 => ?_)
                                  · rw [if_pos c87] at h
                                    refine e_less (bc' := n * 2) (bs' := n * 16) (by omega) (by omega) ?_
                                    exact b_L_law_2757 (fun v a4  hh => ih v a4  hh) h
                                  · rw [if_neg c87] at h
                                    refine e_iconst (x := (0 : Int32)) dL_law_775 (by decide) ?_
                                    obtain rfl := Option.some.inj h
                                    exact e_iret dL_law_776 rfl rfl ⟨rfl, rfl, rfl⟩
                                · rw [if_neg c83] at h
                                  have nc83 := tab_ne c83 (k := 13) (by decide)
                                  by_cases c88 : ((X.2 a4.toNatClampNeg) &&& (63 : Int32)) = (14 : Int32)
                                  · rw [if_pos c88] at h
                                    refine e_tabIn (off := 737) (tgt := 777) dL_law_40 (by rw [c88]; decide) (by rw [c88]; decide) (by rw [c88]; rfl) (by decide) ?_
                                    refine e_aload_n dL_law_777 rfl ?_
                                    refine e_aload_n dL_law_778 rfl ?_
                                    refine e_iload dL_law_779 rfl ?_
                                    refine e_iconst (x := (1 : Int32)) dL_law_781 (by decide) ?_
                                    refine e_iadd dL_law_782 ?_
                                    obtain ⟨c89, h⟩ := grd h
                                    refine e_sldJ dL_law_783 rfl c89.2 c89.1 ?_
                                    obtain ⟨p90, ep90, h⟩ := Option.bind_eq_some_iff.mp h
                                    refine c_VI (M' := mX7_about) [.int (X.2 ((a4 + (1 : Int32)).toNatClampNeg))] dL_law_784 rfl wmL_87 imX7_about seX7_about lkX7_about k0_0 rc7 (Nat.le_of_ble_eq_true rfl) ((x_X7_about  ep90).mono (by omega)) ?_
                                    refine e_aload_n dL_law_787 rfl ?_
                                    refine e_aload_n dL_law_788 rfl ?_
                                    refine e_iload dL_law_789 rfl ?_
                                    refine e_iconst (x := (1 : Int32)) dL_law_791 (by decide) ?_
                                    refine e_iadd dL_law_792 ?_
                                    refine e_sldJ dL_law_793 rfl c89.2 c89.1 ?_
                                    obtain ⟨p91, ep91, h⟩ := Option.bind_eq_some_iff.mp h
                                    refine c_VI (M' := mX8_about) [.int (X.2 ((a4 + (1 : Int32)).toNatClampNeg))] dL_law_794 rfl wmL_90 imX8_about seX8_about lkX8_about k0_174 rc8 (Nat.le_of_ble_eq_true rfl) ((x_X8_about  ep91).mono (by omega)) ?_
                                    refine e_icmp_eq (tgt := 2757) dL_law_797 (by decide) (fun c92 => ?_) (fun c92 => ?_)
                                    · rw [if_pos c92] at h
                                      refine e_less (bc' := n * 2) (bs' := n * 16) (by omega) (by omega) ?_
                                      exact b_L_law_2757 (fun v a4  hh => ih v a4  hh) h
                                    · rw [if_neg c92] at h
                                      refine e_iconst (x := (0 : Int32)) dL_law_800 (by decide) ?_
                                      obtain rfl := Option.some.inj h
                                      exact e_iret dL_law_801 rfl rfl ⟨rfl, rfl, rfl⟩
                                  · rw [if_neg c88] at h
                                    have nc88 := tab_ne c88 (k := 14) (by decide)
                                    by_cases c93 : ((X.2 a4.toNatClampNeg) &&& (63 : Int32)) = (15 : Int32)
                                    · rw [if_pos c93] at h
                                      refine e_tabIn (off := 762) (tgt := 802) dL_law_40 (by rw [c93]; decide) (by rw [c93]; decide) (by rw [c93]; rfl) (by decide) ?_
                                      refine e_aload_n dL_law_802 rfl ?_
                                      refine e_aload_n dL_law_803 rfl ?_
                                      refine e_iload dL_law_804 rfl ?_
                                      refine e_iconst (x := (1 : Int32)) dL_law_806 (by decide) ?_
                                      refine e_iadd dL_law_807 ?_
                                      obtain ⟨c94, h⟩ := grd h
                                      refine e_sldJ dL_law_808 rfl c94.2 c94.1 ?_
                                      refine c_VI (M' := mX7_rush) [.int (X.2 ((a4 + (1 : Int32)).toNatClampNeg))] dL_law_809 rfl wmL_91 imX7_rush seX7_rush lkX7_rush k0_0 rc7 (Nat.le_of_ble_eq_true rfl) ((x_X7_rush ).mono (by omega)) ?_
                                      refine e_aload_n dL_law_812 rfl ?_
                                      refine e_aload_n dL_law_813 rfl ?_
                                      refine e_iload dL_law_814 rfl ?_
                                      refine e_iconst (x := (1 : Int32)) dL_law_816 (by decide) ?_
                                      refine e_iadd dL_law_817 ?_
                                      refine e_sldJ dL_law_818 rfl c94.2 c94.1 ?_
                                      refine c_VI (M' := mX8_rush) [.int (X.2 ((a4 + (1 : Int32)).toNatClampNeg))] dL_law_819 rfl wmL_94 imX8_rush seX8_rush lkX8_rush k0_174 rc8 (Nat.le_of_ble_eq_true rfl) ((x_X8_rush ).mono (by omega)) ?_
                                      refine e_icmp_eq (tgt := 2757) dL_law_822 (by decide) (fun c97 => ?_) (fun c97 => ?_)
                                      · rw [if_pos c97] at h
                                        refine e_less (bc' := n * 2) (bs' := n * 16) (by omega) (by omega) ?_
                                        exact b_L_law_2757 (fun v a4  hh => ih v a4  hh) h
                                      · rw [if_neg c97] at h
                                        refine e_iconst (x := (0 : Int32)) dL_law_825 (by decide) ?_
                                        obtain rfl := Option.some.inj h
                                        exact e_iret dL_law_826 rfl rfl ⟨rfl, rfl, rfl⟩
                                    · rw [if_neg c93] at h
                                      have nc93 := tab_ne c93 (k := 15) (by decide)
                                      by_cases c98 : ((X.2 a4.toNatClampNeg) &&& (63 : Int32)) = (16 : Int32)
                                      · rw [if_pos c98] at h
                                        refine e_tabIn (off := 787) (tgt := 827) dL_law_40 (by rw [c98]; decide) (by rw [c98]; decide) (by rw [c98]; rfl) (by decide) ?_
                                        refine e_aload_n dL_law_827 rfl ?_
                                        refine c_VI (M' := mX7_speed) [] dL_law_828 rfl wmL_95 imX7_speed seX7_speed lkX7_speed k0_0 rc7 (Nat.le_of_ble_eq_true rfl) ((x_X7_speed ).mono (by omega)) ?_
                                        refine e_aload_n dL_law_831 rfl ?_
                                        refine c_VI (M' := mX8_speed) [] dL_law_832 rfl wmL_98 imX8_speed seX8_speed lkX8_speed k0_174 rc8 (Nat.le_of_ble_eq_true rfl) ((x_X8_speed ).mono (by omega)) ?_
                                        refine e_icmp_eq (tgt := 2757) dL_law_835 (by decide) (fun c101 => ?_) (fun c101 => ?_)
                                        · rw [if_pos c101] at h
                                          refine e_less (bc' := n * 2) (bs' := n * 16) (by omega) (by omega) ?_
                                          exact b_L_law_2757 (fun v a4  hh => ih v a4  hh) h
                                        · rw [if_neg c101] at h
                                          refine e_iconst (x := (0 : Int32)) dL_law_838 (by decide) ?_
                                          obtain rfl := Option.some.inj h
                                          exact e_iret dL_law_839 rfl rfl ⟨rfl, rfl, rfl⟩
                                      · rw [if_neg c98] at h
                                        have nc98 := tab_ne c98 (k := 16) (by decide)
                                        by_cases c102 : ((X.2 a4.toNatClampNeg) &&& (63 : Int32)) = (17 : Int32)
                                        · rw [if_pos c102] at h
                                          refine e_tabIn (off := 800) (tgt := 840) dL_law_40 (by rw [c102]; decide) (by rw [c102]; decide) (by rw [c102]; rfl) (by decide) ?_
                                          refine e_aload_n dL_law_840 rfl ?_
                                          refine e_aload_n dL_law_841 rfl ?_
                                          refine e_iload dL_law_842 rfl ?_
                                          refine e_iconst (x := (1 : Int32)) dL_law_844 (by decide) ?_
                                          refine e_iadd dL_law_845 ?_
                                          obtain ⟨c103, h⟩ := grd h
                                          refine e_sldJ dL_law_846 rfl c103.2 c103.1 ?_
                                          obtain ⟨p104, ep104, h⟩ := Option.bind_eq_some_iff.mp h
                                          refine c_VI (M' := mX7_met) [.int (X.2 ((a4 + (1 : Int32)).toNatClampNeg))] dL_law_847 rfl wmL_99 imX7_met seX7_met lkX7_met k0_0 rc7 (Nat.le_of_ble_eq_true rfl) ((x_X7_met  ep104).mono (by omega)) ?_
                                          refine e_aload_n dL_law_850 rfl ?_
                                          refine e_aload_n dL_law_851 rfl ?_
                                          refine e_iload dL_law_852 rfl ?_
                                          refine e_iconst (x := (1 : Int32)) dL_law_854 (by decide) ?_
                                          refine e_iadd dL_law_855 ?_
                                          refine e_sldJ dL_law_856 rfl c103.2 c103.1 ?_
                                          obtain ⟨p105, ep105, h⟩ := Option.bind_eq_some_iff.mp h
                                          refine c_VI (M' := mX8_met) [.int (X.2 ((a4 + (1 : Int32)).toNatClampNeg))] dL_law_857 rfl wmL_102 imX8_met seX8_met lkX8_met k0_174 rc8 (Nat.le_of_ble_eq_true rfl) ((x_X8_met  ep105).mono (by omega)) ?_
                                          refine e_icmp_eq (tgt := 2757) dL_law_860 (by decide) (fun c106 => ?_) (fun c106 => ?_)
                                          · rw [if_pos c106] at h
                                            refine e_less (bc' := n * 2) (bs' := n * 16) (by omega) (by omega) ?_
                                            exact b_L_law_2757 (fun v a4  hh => ih v a4  hh) h
                                          · rw [if_neg c106] at h
                                            refine e_iconst (x := (0 : Int32)) dL_law_863 (by decide) ?_
                                            obtain rfl := Option.some.inj h
                                            exact e_iret dL_law_864 rfl rfl ⟨rfl, rfl, rfl⟩
                                        · rw [if_neg c102] at h
                                          have nc102 := tab_ne c102 (k := 17) (by decide)
                                          by_cases c107 : ((X.2 a4.toNatClampNeg) &&& (63 : Int32)) = (18 : Int32)
                                          · rw [if_pos c107] at h
                                            refine e_tabIn (off := 825) (tgt := 865) dL_law_40 (by rw [c107]; decide) (by rw [c107]; decide) (by rw [c107]; rfl) (by decide) ?_
                                            refine e_aload_n dL_law_865 rfl ?_
                                            refine e_aload_n dL_law_866 rfl ?_
                                            refine e_iload dL_law_867 rfl ?_
                                            refine e_iconst (x := (1 : Int32)) dL_law_869 (by decide) ?_
                                            refine e_iadd dL_law_870 ?_
                                            obtain ⟨c108, h⟩ := grd h
                                            refine e_sldJ dL_law_871 rfl c108.2 c108.1 ?_
                                            refine e_aload_n dL_law_872 rfl ?_
                                            refine e_iload dL_law_873 rfl ?_
                                            refine e_iconst (x := (2 : Int32)) dL_law_875 (by decide) ?_
                                            refine e_iadd dL_law_876 ?_
                                            obtain ⟨c109, h⟩ := grd h
                                            refine e_sldJ dL_law_877 rfl c109.2 c109.1 ?_
                                            refine e_aload_n dL_law_878 rfl ?_
                                            refine e_iload dL_law_879 rfl ?_
                                            refine e_iconst (x := (3 : Int32)) dL_law_881 (by decide) ?_
                                            refine e_iadd dL_law_882 ?_
                                            obtain ⟨c110, h⟩ := grd h
                                            refine e_sldJ dL_law_883 rfl c110.2 c110.1 ?_
                                            refine e_i2l dL_law_884 ?_
                                            refine e_bipush (x := (32 : Int32)) dL_law_885 (by decide) ?_
                                            refine e_lshl dL_law_887 ?_
                                            refine e_aload_n dL_law_888 rfl ?_
                                            refine e_iload dL_law_889 rfl ?_
                                            refine e_iconst (x := (4 : Int32)) dL_law_891 (by decide) ?_
                                            refine e_iadd dL_law_892 ?_
                                            obtain ⟨c111, h⟩ := grd h
                                            refine e_sldJ dL_law_893 rfl c111.2 c111.1 ?_
                                            refine e_i2l dL_law_894 ?_
                                            refine e_ldc2 dL_law_895 wcL_52 ?_
                                            refine e_land dL_law_898 ?_
                                            refine e_lor dL_law_899 ?_
                                            refine e_aload_n dL_law_900 rfl ?_
                                            refine e_iload dL_law_901 rfl ?_
                                            refine e_iconst (x := (5 : Int32)) dL_law_903 (by decide) ?_
                                            refine e_iadd dL_law_904 ?_
                                            obtain ⟨c112, h⟩ := grd h
                                            refine e_sldJ dL_law_905 rfl c112.2 c112.1 ?_
                                            refine e_aload_n dL_law_906 rfl ?_
                                            refine e_iload dL_law_907 rfl ?_
                                            refine e_bipush (x := (6 : Int32)) dL_law_909 (by decide) ?_
                                            refine e_iadd dL_law_911 ?_
                                            obtain ⟨c113, h⟩ := grd h
                                            refine e_sldJ dL_law_912 rfl c113.2 c113.1 ?_
                                            obtain ⟨p114, ep114, h⟩ := Option.bind_eq_some_iff.mp h
                                            refine c_VI (M' := mX7_tried) [.int (X.2 ((a4 + (1 : Int32)).toNatClampNeg)), .int (X.2 ((a4 + (2 : Int32)).toNatClampNeg)), .long ((((X.2 ((a4 + (3 : Int32)).toNatClampNeg)).toInt64) <<< ((32 : Int32).toInt64 &&& 63)) ||| (((X.2 ((a4 + (4 : Int32)).toNatClampNeg)).toInt64) &&& (4294967295 : Int64))), .int (X.2 ((a4 + (5 : Int32)).toNatClampNeg)), .int (X.2 ((a4 + (6 : Int32)).toNatClampNeg))] dL_law_913 rfl wmL_103 imX7_tried seX7_tried lkX7_tried k0_0 rc7 (Nat.le_of_ble_eq_true rfl) ((x_X7_tried  ep114).mono (by omega)) ?_
                                            refine e_aload_n dL_law_916 rfl ?_
                                            refine e_aload_n dL_law_917 rfl ?_
                                            refine e_iload dL_law_918 rfl ?_
                                            refine e_iconst (x := (1 : Int32)) dL_law_920 (by decide) ?_
                                            refine e_iadd dL_law_921 ?_
                                            refine e_sldJ dL_law_922 rfl c108.2 c108.1 ?_
                                            refine e_aload_n dL_law_923 rfl ?_
                                            refine e_iload dL_law_924 rfl ?_
                                            refine e_iconst (x := (2 : Int32)) dL_law_926 (by decide) ?_
                                            refine e_iadd dL_law_927 ?_
                                            refine e_sldJ dL_law_928 rfl c109.2 c109.1 ?_
                                            refine e_aload_n dL_law_929 rfl ?_
                                            refine e_iload dL_law_930 rfl ?_
                                            refine e_iconst (x := (3 : Int32)) dL_law_932 (by decide) ?_
                                            refine e_iadd dL_law_933 ?_
                                            refine e_sldJ dL_law_934 rfl c110.2 c110.1 ?_
                                            refine e_i2l dL_law_935 ?_
                                            refine e_bipush (x := (32 : Int32)) dL_law_936 (by decide) ?_
                                            refine e_lshl dL_law_938 ?_
                                            refine e_aload_n dL_law_939 rfl ?_
                                            refine e_iload dL_law_940 rfl ?_
                                            refine e_iconst (x := (4 : Int32)) dL_law_942 (by decide) ?_
                                            refine e_iadd dL_law_943 ?_
                                            refine e_sldJ dL_law_944 rfl c111.2 c111.1 ?_
                                            refine e_i2l dL_law_945 ?_
                                            refine e_ldc2 dL_law_946 wcL_52 ?_
                                            refine e_land dL_law_949 ?_
                                            refine e_lor dL_law_950 ?_
                                            refine e_aload_n dL_law_951 rfl ?_
                                            refine e_iload dL_law_952 rfl ?_
                                            refine e_iconst (x := (5 : Int32)) dL_law_954 (by decide) ?_
                                            refine e_iadd dL_law_955 ?_
                                            refine e_sldJ dL_law_956 rfl c112.2 c112.1 ?_
                                            refine e_aload_n dL_law_957 rfl ?_
                                            refine e_iload dL_law_958 rfl ?_
                                            refine e_bipush (x := (6 : Int32)) dL_law_960 (by decide) ?_
                                            refine e_iadd dL_law_962 ?_
                                            refine e_sldJ dL_law_963 rfl c113.2 c113.1 ?_
                                            obtain ⟨p115, ep115, h⟩ := Option.bind_eq_some_iff.mp h
                                            refine c_VI (M' := mX8_tried) [.int (X.2 ((a4 + (1 : Int32)).toNatClampNeg)), .int (X.2 ((a4 + (2 : Int32)).toNatClampNeg)), .long ((((X.2 ((a4 + (3 : Int32)).toNatClampNeg)).toInt64) <<< ((32 : Int32).toInt64 &&& 63)) ||| (((X.2 ((a4 + (4 : Int32)).toNatClampNeg)).toInt64) &&& (4294967295 : Int64))), .int (X.2 ((a4 + (5 : Int32)).toNatClampNeg)), .int (X.2 ((a4 + (6 : Int32)).toNatClampNeg))] dL_law_964 rfl wmL_107 imX8_tried seX8_tried lkX8_tried k0_174 rc8 (Nat.le_of_ble_eq_true rfl) ((x_X8_tried  ep115).mono (by omega)) ?_
                                            refine e_icmp_eq (tgt := 2757) dL_law_967 (by decide) (fun c116 => ?_) (fun c116 => ?_)
                                            · rw [if_pos c116] at h
                                              refine e_less (bc' := n * 2) (bs' := n * 16) (by omega) (by omega) ?_
                                              exact b_L_law_2757 (fun v a4  hh => ih v a4  hh) h
                                            · rw [if_neg c116] at h
                                              refine e_iconst (x := (0 : Int32)) dL_law_970 (by decide) ?_
                                              obtain rfl := Option.some.inj h
                                              exact e_iret dL_law_971 rfl rfl ⟨rfl, rfl, rfl⟩
                                          · rw [if_neg c107] at h
                                            have nc107 := tab_ne c107 (k := 18) (by decide)
                                            by_cases c117 : ((X.2 a4.toNatClampNeg) &&& (63 : Int32)) = (19 : Int32)
                                            · rw [if_pos c117] at h
                                              refine e_tabIn (off := 932) (tgt := 972) dL_law_40 (by rw [c117]; decide) (by rw [c117]; decide) (by rw [c117]; rfl) (by decide) ?_
                                              refine e_aload_n dL_law_972 rfl ?_
                                              refine e_aload_n dL_law_973 rfl ?_
                                              refine e_iload dL_law_974 rfl ?_
                                              refine e_iconst (x := (1 : Int32)) dL_law_976 (by decide) ?_
                                              refine e_iadd dL_law_977 ?_
                                              obtain ⟨c118, h⟩ := grd h
                                              refine e_sldJ dL_law_978 rfl c118.2 c118.1 ?_
                                              refine e_aload_n dL_law_979 rfl ?_
                                              refine e_iload dL_law_980 rfl ?_
                                              refine e_iconst (x := (2 : Int32)) dL_law_982 (by decide) ?_
                                              refine e_iadd dL_law_983 ?_
                                              obtain ⟨c119, h⟩ := grd h
                                              refine e_sldJ dL_law_984 rfl c119.2 c119.1 ?_
                                              refine e_aload_n dL_law_985 rfl ?_
                                              refine e_iload dL_law_986 rfl ?_
                                              refine e_iconst (x := (3 : Int32)) dL_law_988 (by decide) ?_
                                              refine e_iadd dL_law_989 ?_
                                              obtain ⟨c120, h⟩ := grd h
                                              refine e_sldJ dL_law_990 rfl c120.2 c120.1 ?_
                                              refine e_aload_n dL_law_991 rfl ?_
                                              refine e_iload dL_law_992 rfl ?_
                                              refine e_iconst (x := (4 : Int32)) dL_law_994 (by decide) ?_
                                              refine e_iadd dL_law_995 ?_
                                              obtain ⟨c121, h⟩ := grd h
                                              refine e_sldJ dL_law_996 rfl c121.2 c121.1 ?_
                                              refine e_aload_n dL_law_997 rfl ?_
                                              refine e_iload dL_law_998 rfl ?_
                                              refine e_iconst (x := (5 : Int32)) dL_law_1000 (by decide) ?_
                                              refine e_iadd dL_law_1001 ?_
                                              obtain ⟨c122, h⟩ := grd h
                                              refine e_sldJ dL_law_1002 rfl c122.2 c122.1 ?_
                                              refine e_i2l dL_law_1003 ?_
                                              refine e_bipush (x := (32 : Int32)) dL_law_1004 (by decide) ?_
                                              refine e_lshl dL_law_1006 ?_
                                              refine e_aload_n dL_law_1007 rfl ?_
                                              refine e_iload dL_law_1008 rfl ?_
                                              refine e_bipush (x := (6 : Int32)) dL_law_1010 (by decide) ?_
                                              refine e_iadd dL_law_1012 ?_
                                              obtain ⟨c123, h⟩ := grd h
                                              refine e_sldJ dL_law_1013 rfl c123.2 c123.1 ?_
                                              refine e_i2l dL_law_1014 ?_
                                              refine e_ldc2 dL_law_1015 wcL_52 ?_
                                              refine e_land dL_law_1018 ?_
                                              refine e_lor dL_law_1019 ?_
                                              refine e_aload_n dL_law_1020 rfl ?_
                                              refine e_iload dL_law_1021 rfl ?_
                                              refine e_bipush (x := (7 : Int32)) dL_law_1023 (by decide) ?_
                                              refine e_iadd dL_law_1025 ?_
                                              obtain ⟨c124, h⟩ := grd h
                                              refine e_sldJ dL_law_1026 rfl c124.2 c124.1 ?_
                                              obtain ⟨p125, ep125, h⟩ := Option.bind_eq_some_iff.mp h
                                              refine c_VI (M' := mX7_least) [.int (X.2 ((a4 + (1 : Int32)).toNatClampNeg)), .int (X.2 ((a4 + (2 : Int32)).toNatClampNeg)), .int (X.2 ((a4 + (3 : Int32)).toNatClampNeg)), .int (X.2 ((a4 + (4 : Int32)).toNatClampNeg)), .long ((((X.2 ((a4 + (5 : Int32)).toNatClampNeg)).toInt64) <<< ((32 : Int32).toInt64 &&& 63)) ||| (((X.2 ((a4 + (6 : Int32)).toNatClampNeg)).toInt64) &&& (4294967295 : Int64))), .int (X.2 ((a4 + (7 : Int32)).toNatClampNeg))] dL_law_1027 rfl wmL_108 imX7_least seX7_least lkX7_least k0_0 rc7 (Nat.le_of_ble_eq_true rfl) ((x_X7_least  ep125).mono (by omega)) ?_
                                              refine e_aload_n dL_law_1030 rfl ?_
                                              refine e_aload_n dL_law_1031 rfl ?_
                                              refine e_iload dL_law_1032 rfl ?_
                                              refine e_iconst (x := (1 : Int32)) dL_law_1034 (by decide) ?_
                                              refine e_iadd dL_law_1035 ?_
                                              refine e_sldJ dL_law_1036 rfl c118.2 c118.1 ?_
                                              refine e_aload_n dL_law_1037 rfl ?_
                                              refine e_iload dL_law_1038 rfl ?_
                                              refine e_iconst (x := (2 : Int32)) dL_law_1040 (by decide) ?_
                                              refine e_iadd dL_law_1041 ?_
                                              refine e_sldJ dL_law_1042 rfl c119.2 c119.1 ?_
                                              refine e_aload_n dL_law_1043 rfl ?_
                                              refine e_iload dL_law_1044 rfl ?_
                                              refine e_iconst (x := (3 : Int32)) dL_law_1046 (by decide) ?_
                                              refine e_iadd dL_law_1047 ?_
                                              refine e_sldJ dL_law_1048 rfl c120.2 c120.1 ?_
                                              refine e_aload_n dL_law_1049 rfl ?_
                                              refine e_iload dL_law_1050 rfl ?_
                                              refine e_iconst (x := (4 : Int32)) dL_law_1052 (by decide) ?_
                                              refine e_iadd dL_law_1053 ?_
                                              refine e_sldJ dL_law_1054 rfl c121.2 c121.1 ?_
                                              refine e_aload_n dL_law_1055 rfl ?_
                                              refine e_iload dL_law_1056 rfl ?_
                                              refine e_iconst (x := (5 : Int32)) dL_law_1058 (by decide) ?_
                                              refine e_iadd dL_law_1059 ?_
                                              refine e_sldJ dL_law_1060 rfl c122.2 c122.1 ?_
                                              refine e_i2l dL_law_1061 ?_
                                              refine e_bipush (x := (32 : Int32)) dL_law_1062 (by decide) ?_
                                              refine e_lshl dL_law_1064 ?_
                                              refine e_aload_n dL_law_1065 rfl ?_
                                              refine e_iload dL_law_1066 rfl ?_
                                              refine e_bipush (x := (6 : Int32)) dL_law_1068 (by decide) ?_
                                              refine e_iadd dL_law_1070 ?_
                                              refine e_sldJ dL_law_1071 rfl c123.2 c123.1 ?_
                                              refine e_i2l dL_law_1072 ?_
                                              refine e_ldc2 dL_law_1073 wcL_52 ?_
                                              refine e_land dL_law_1076 ?_
                                              refine e_lor dL_law_1077 ?_
                                              refine e_aload_n dL_law_1078 rfl ?_
                                              refine e_iload dL_law_1079 rfl ?_
                                              refine e_bipush (x := (7 : Int32)) dL_law_1081 (by decide) ?_
                                              refine e_iadd dL_law_1083 ?_
                                              refine e_sldJ dL_law_1084 rfl c124.2 c124.1 ?_
                                              obtain ⟨p126, ep126, h⟩ := Option.bind_eq_some_iff.mp h
                                              refine c_VI (M' := mX8_least) [.int (X.2 ((a4 + (1 : Int32)).toNatClampNeg)), .int (X.2 ((a4 + (2 : Int32)).toNatClampNeg)), .int (X.2 ((a4 + (3 : Int32)).toNatClampNeg)), .int (X.2 ((a4 + (4 : Int32)).toNatClampNeg)), .long ((((X.2 ((a4 + (5 : Int32)).toNatClampNeg)).toInt64) <<< ((32 : Int32).toInt64 &&& 63)) ||| (((X.2 ((a4 + (6 : Int32)).toNatClampNeg)).toInt64) &&& (4294967295 : Int64))), .int (X.2 ((a4 + (7 : Int32)).toNatClampNeg))] dL_law_1085 rfl wmL_112 imX8_least seX8_least lkX8_least k0_174 rc8 (Nat.le_of_ble_eq_true rfl) ((x_X8_least  ep126).mono (by omega)) ?_
                                              refine e_icmp_eq (tgt := 2757) dL_law_1088 (by decide) (fun c127 => ?_) (fun c127 => ?_)
                                              · rw [if_pos c127] at h
                                                refine e_less (bc' := n * 2) (bs' := n * 16) (by omega) (by omega) ?_
                                                exact b_L_law_2757 (fun v a4  hh => ih v a4  hh) h
                                              · rw [if_neg c127] at h
                                                refine e_iconst (x := (0 : Int32)) dL_law_1091 (by decide) ?_
                                                obtain rfl := Option.some.inj h
                                                exact e_iret dL_law_1092 rfl rfl ⟨rfl, rfl, rfl⟩
                                            · rw [if_neg c117] at h
                                              have nc117 := tab_ne c117 (k := 19) (by decide)
                                              by_cases c128 : ((X.2 a4.toNatClampNeg) &&& (63 : Int32)) = (20 : Int32)
                                              · rw [if_pos c128] at h
                                                refine e_tabIn (off := 1053) (tgt := 1093) dL_law_40 (by rw [c128]; decide) (by rw [c128]; decide) (by rw [c128]; rfl) (by decide) ?_
                                                refine e_aload_n dL_law_1093 rfl ?_
                                                obtain ⟨p129, ep129, h⟩ := Option.bind_eq_some_iff.mp h
                                                refine c_VI (M' := mX7_stain) [] dL_law_1094 rfl wmL_113 imX7_stain seX7_stain lkX7_stain k0_0 rc7 (Nat.le_of_ble_eq_true rfl) ((x_X7_stain  ep129).mono (by omega)) ?_
                                                refine e_aload_n dL_law_1097 rfl ?_
                                                obtain ⟨p130, ep130, h⟩ := Option.bind_eq_some_iff.mp h
                                                refine c_VI (M' := mX8_stain) [] dL_law_1098 rfl wmL_116 imX8_stain seX8_stain lkX8_stain k0_174 rc8 (Nat.le_of_ble_eq_true rfl) ((x_X8_stain  ep130).mono (by omega)) ?_
                                                refine e_icmp_eq (tgt := 2757) dL_law_1101 (by decide) (fun c131 => ?_) (fun c131 => ?_)
                                                · rw [if_pos c131] at h
                                                  refine e_less (bc' := n * 2) (bs' := n * 16) (by omega) (by omega) ?_
                                                  exact b_L_law_2757 (fun v a4  hh => ih v a4  hh) h
                                                · rw [if_neg c131] at h
                                                  refine e_iconst (x := (0 : Int32)) dL_law_1104 (by decide) ?_
                                                  obtain rfl := Option.some.inj h
                                                  exact e_iret dL_law_1105 rfl rfl ⟨rfl, rfl, rfl⟩
                                              · rw [if_neg c128] at h
                                                have nc128 := tab_ne c128 (k := 20) (by decide)
                                                by_cases c132 : ((X.2 a4.toNatClampNeg) &&& (63 : Int32)) = (21 : Int32)
                                                · rw [if_pos c132] at h
                                                  refine e_tabIn (off := 1066) (tgt := 1106) dL_law_40 (by rw [c132]; decide) (by rw [c132]; decide) (by rw [c132]; rfl) (by decide) ?_
                                                  refine e_aload_n dL_law_1106 rfl ?_
                                                  refine e_aload_n dL_law_1107 rfl ?_
                                                  refine e_iload dL_law_1108 rfl ?_
                                                  refine e_iconst (x := (1 : Int32)) dL_law_1110 (by decide) ?_
                                                  refine e_iadd dL_law_1111 ?_
                                                  obtain ⟨c133, h⟩ := grd h
                                                  refine e_sldJ dL_law_1112 rfl c133.2 c133.1 ?_
                                                  refine e_aload_n dL_law_1113 rfl ?_
                                                  refine e_iload dL_law_1114 rfl ?_
                                                  refine e_iconst (x := (2 : Int32)) dL_law_1116 (by decide) ?_
                                                  refine e_iadd dL_law_1117 ?_
                                                  obtain ⟨c134, h⟩ := grd h
                                                  refine e_sldJ dL_law_1118 rfl c134.2 c134.1 ?_
                                                  refine e_aload_n dL_law_1119 rfl ?_
                                                  refine e_iload dL_law_1120 rfl ?_
                                                  refine e_iconst (x := (3 : Int32)) dL_law_1122 (by decide) ?_
                                                  refine e_iadd dL_law_1123 ?_
                                                  obtain ⟨c135, h⟩ := grd h
                                                  refine e_sldJ dL_law_1124 rfl c135.2 c135.1 ?_
                                                  obtain ⟨p136, ep136, h⟩ := Option.bind_eq_some_iff.mp h
                                                  refine c_VZ (M' := mX7_grain) [.int (X.2 ((a4 + (1 : Int32)).toNatClampNeg)), .int (X.2 ((a4 + (2 : Int32)).toNatClampNeg)), .int (X.2 ((a4 + (3 : Int32)).toNatClampNeg))] dL_law_1125 rfl wmL_117 imX7_grain seX7_grain lkX7_grain k0_0 rc7 (Nat.le_of_ble_eq_true rfl) ((x_X7_grain  ep136).mono (by omega)) ?_
                                                  refine e_aload_n dL_law_1128 rfl ?_
                                                  refine e_aload_n dL_law_1129 rfl ?_
                                                  refine e_iload dL_law_1130 rfl ?_
                                                  refine e_iconst (x := (1 : Int32)) dL_law_1132 (by decide) ?_
                                                  refine e_iadd dL_law_1133 ?_
                                                  refine e_sldJ dL_law_1134 rfl c133.2 c133.1 ?_
                                                  refine e_aload_n dL_law_1135 rfl ?_
                                                  refine e_iload dL_law_1136 rfl ?_
                                                  refine e_iconst (x := (2 : Int32)) dL_law_1138 (by decide) ?_
                                                  refine e_iadd dL_law_1139 ?_
                                                  refine e_sldJ dL_law_1140 rfl c134.2 c134.1 ?_
                                                  refine e_aload_n dL_law_1141 rfl ?_
                                                  refine e_iload dL_law_1142 rfl ?_
                                                  refine e_iconst (x := (3 : Int32)) dL_law_1144 (by decide) ?_
                                                  refine e_iadd dL_law_1145 ?_
                                                  refine e_sldJ dL_law_1146 rfl c135.2 c135.1 ?_
                                                  obtain ⟨p137, ep137, h⟩ := Option.bind_eq_some_iff.mp h
                                                  refine c_VZ (M' := mX8_grain) [.int (X.2 ((a4 + (1 : Int32)).toNatClampNeg)), .int (X.2 ((a4 + (2 : Int32)).toNatClampNeg)), .int (X.2 ((a4 + (3 : Int32)).toNatClampNeg))] dL_law_1147 rfl wmL_121 imX8_grain seX8_grain lkX8_grain k0_174 rc8 (Nat.le_of_ble_eq_true rfl) ((x_X8_grain  ep137).mono (by omega)) ?_
                                                  refine e_icmp_eq (tgt := 2757) dL_law_1150 (by decide) (fun c138 => ?_) (fun c138 => ?_)
                                                  · rw [if_pos c138] at h
                                                    refine e_less (bc' := n * 2) (bs' := n * 16) (by omega) (by omega) ?_
                                                    exact b_L_law_2757 (fun v a4  hh => ih v a4  hh) h
                                                  · rw [if_neg c138] at h
                                                    refine e_iconst (x := (0 : Int32)) dL_law_1153 (by decide) ?_
                                                    obtain rfl := Option.some.inj h
                                                    exact e_iret dL_law_1154 rfl rfl ⟨rfl, rfl, rfl⟩
                                                · rw [if_neg c132] at h
                                                  have nc132 := tab_ne c132 (k := 21) (by decide)
                                                  by_cases c139 : ((X.2 a4.toNatClampNeg) &&& (63 : Int32)) = (22 : Int32)
                                                  · rw [if_pos c139] at h
                                                    refine e_tabIn (off := 1115) (tgt := 1155) dL_law_40 (by rw [c139]; decide) (by rw [c139]; decide) (by rw [c139]; rfl) (by decide) ?_
                                                    refine e_aload_n dL_law_1155 rfl ?_
                                                    refine e_aload_n dL_law_1156 rfl ?_
                                                    refine e_iload dL_law_1157 rfl ?_
                                                    refine e_iconst (x := (1 : Int32)) dL_law_1159 (by decide) ?_
                                                    refine e_iadd dL_law_1160 ?_
                                                    obtain ⟨c140, h⟩ := grd h
                                                    refine e_sldJ dL_law_1161 rfl c140.2 c140.1 ?_
                                                    obtain ⟨p141, ep141, h⟩ := Option.bind_eq_some_iff.mp h
                                                    refine c_VI (M' := mX7_print) [.int (X.2 ((a4 + (1 : Int32)).toNatClampNeg))] dL_law_1162 rfl wmL_122 imX7_print seX7_print lkX7_print k0_0 rc7 (Nat.le_of_ble_eq_true rfl) ((x_X7_print  ep141).mono (by omega)) ?_
                                                    refine e_aload_n dL_law_1165 rfl ?_
                                                    refine e_aload_n dL_law_1166 rfl ?_
                                                    refine e_iload dL_law_1167 rfl ?_
                                                    refine e_iconst (x := (1 : Int32)) dL_law_1169 (by decide) ?_
                                                    refine e_iadd dL_law_1170 ?_
                                                    refine e_sldJ dL_law_1171 rfl c140.2 c140.1 ?_
                                                    obtain ⟨p142, ep142, h⟩ := Option.bind_eq_some_iff.mp h
                                                    refine c_VI (M' := mX8_print) [.int (X.2 ((a4 + (1 : Int32)).toNatClampNeg))] dL_law_1172 rfl wmL_125 imX8_print seX8_print lkX8_print k0_174 rc8 (Nat.le_of_ble_eq_true rfl) ((x_X8_print  ep142).mono (by omega)) ?_
                                                    refine e_icmp_eq (tgt := 2757) dL_law_1175 (by decide) (fun c143 => ?_) (fun c143 => ?_)
                                                    · rw [if_pos c143] at h
                                                      refine e_less (bc' := n * 2) (bs' := n * 16) (by omega) (by omega) ?_
                                                      exact b_L_law_2757 (fun v a4  hh => ih v a4  hh) h
                                                    · rw [if_neg c143] at h
                                                      refine e_iconst (x := (0 : Int32)) dL_law_1178 (by decide) ?_
                                                      obtain rfl := Option.some.inj h
                                                      exact e_iret dL_law_1179 rfl rfl ⟨rfl, rfl, rfl⟩
                                                  · rw [if_neg c139] at h
                                                    have nc139 := tab_ne c139 (k := 22) (by decide)
                                                    by_cases c144 : ((X.2 a4.toNatClampNeg) &&& (63 : Int32)) = (23 : Int32)
                                                    · rw [if_pos c144] at h
                                                      refine e_tabIn (off := 1140) (tgt := 1180) dL_law_40 (by rw [c144]; decide) (by rw [c144]; decide) (by rw [c144]; rfl) (by decide) ?_
                                                      refine e_aload_n dL_law_1180 rfl ?_
                                                      refine e_aload_n dL_law_1181 rfl ?_
                                                      refine e_iload dL_law_1182 rfl ?_
                                                      refine e_iconst (x := (1 : Int32)) dL_law_1184 (by decide) ?_
                                                      refine e_iadd dL_law_1185 ?_
                                                      obtain ⟨c145, h⟩ := grd h
                                                      refine e_sldJ dL_law_1186 rfl c145.2 c145.1 ?_
                                                      refine e_aload_n dL_law_1187 rfl ?_
                                                      refine e_iload dL_law_1188 rfl ?_
                                                      refine e_iconst (x := (2 : Int32)) dL_law_1190 (by decide) ?_
                                                      refine e_iadd dL_law_1191 ?_
                                                      obtain ⟨c146, h⟩ := grd h
                                                      refine e_sldJ dL_law_1192 rfl c146.2 c146.1 ?_
                                                      refine e_aload_n dL_law_1193 rfl ?_
                                                      refine e_iload dL_law_1194 rfl ?_
                                                      refine e_iconst (x := (3 : Int32)) dL_law_1196 (by decide) ?_
                                                      refine e_iadd dL_law_1197 ?_
                                                      obtain ⟨c147, h⟩ := grd h
                                                      refine e_sldJ dL_law_1198 rfl c147.2 c147.1 ?_
                                                      refine e_aload_n dL_law_1199 rfl ?_
                                                      refine e_iload dL_law_1200 rfl ?_
                                                      refine e_iconst (x := (4 : Int32)) dL_law_1202 (by decide) ?_
                                                      refine e_iadd dL_law_1203 ?_
                                                      obtain ⟨c148, h⟩ := grd h
                                                      refine e_sldJ dL_law_1204 rfl c148.2 c148.1 ?_
                                                      refine e_i2l dL_law_1205 ?_
                                                      refine e_bipush (x := (32 : Int32)) dL_law_1206 (by decide) ?_
                                                      refine e_lshl dL_law_1208 ?_
                                                      refine e_aload_n dL_law_1209 rfl ?_
                                                      refine e_iload dL_law_1210 rfl ?_
                                                      refine e_iconst (x := (5 : Int32)) dL_law_1212 (by decide) ?_
                                                      refine e_iadd dL_law_1213 ?_
                                                      obtain ⟨c149, h⟩ := grd h
                                                      refine e_sldJ dL_law_1214 rfl c149.2 c149.1 ?_
                                                      refine e_i2l dL_law_1215 ?_
                                                      refine e_ldc2 dL_law_1216 wcL_52 ?_
                                                      refine e_land dL_law_1219 ?_
                                                      refine e_lor dL_law_1220 ?_
                                                      refine e_aload_n dL_law_1221 rfl ?_
                                                      refine e_iload dL_law_1222 rfl ?_
                                                      refine e_bipush (x := (6 : Int32)) dL_law_1224 (by decide) ?_
                                                      refine e_iadd dL_law_1226 ?_
                                                      obtain ⟨c150, h⟩ := grd h
                                                      refine e_sldJ dL_law_1227 rfl c150.2 c150.1 ?_
                                                      refine e_aload_n dL_law_1228 rfl ?_
                                                      refine e_iload dL_law_1229 rfl ?_
                                                      refine e_bipush (x := (7 : Int32)) dL_law_1231 (by decide) ?_
                                                      refine e_iadd dL_law_1233 ?_
                                                      obtain ⟨c151, h⟩ := grd h
                                                      refine e_sldJ dL_law_1234 rfl c151.2 c151.1 ?_
                                                      obtain ⟨p152, ep152, h⟩ := Option.bind_eq_some_iff.mp h
                                                      refine c_VI (M' := mX7_read) [.int (X.2 ((a4 + (1 : Int32)).toNatClampNeg)), .int (X.2 ((a4 + (2 : Int32)).toNatClampNeg)), .int (X.2 ((a4 + (3 : Int32)).toNatClampNeg)), .long ((((X.2 ((a4 + (4 : Int32)).toNatClampNeg)).toInt64) <<< ((32 : Int32).toInt64 &&& 63)) ||| (((X.2 ((a4 + (5 : Int32)).toNatClampNeg)).toInt64) &&& (4294967295 : Int64))), .int (X.2 ((a4 + (6 : Int32)).toNatClampNeg)), .int (X.2 ((a4 + (7 : Int32)).toNatClampNeg))] dL_law_1235 rfl wmL_126 imX7_read seX7_read lkX7_read k0_0 rc7 (Nat.le_of_ble_eq_true rfl) ((x_X7_read  ep152).mono (by omega)) ?_
                                                      refine e_aload_n dL_law_1238 rfl ?_
                                                      refine e_aload_n dL_law_1239 rfl ?_
                                                      refine e_iload dL_law_1240 rfl ?_
                                                      refine e_iconst (x := (1 : Int32)) dL_law_1242 (by decide) ?_
                                                      refine e_iadd dL_law_1243 ?_
                                                      refine e_sldJ dL_law_1244 rfl c145.2 c145.1 ?_
                                                      refine e_aload_n dL_law_1245 rfl ?_
                                                      refine e_iload dL_law_1246 rfl ?_
                                                      refine e_iconst (x := (2 : Int32)) dL_law_1248 (by decide) ?_
                                                      refine e_iadd dL_law_1249 ?_
                                                      refine e_sldJ dL_law_1250 rfl c146.2 c146.1 ?_
                                                      refine e_aload_n dL_law_1251 rfl ?_
                                                      refine e_iload dL_law_1252 rfl ?_
                                                      refine e_iconst (x := (3 : Int32)) dL_law_1254 (by decide) ?_
                                                      refine e_iadd dL_law_1255 ?_
                                                      refine e_sldJ dL_law_1256 rfl c147.2 c147.1 ?_
                                                      refine e_aload_n dL_law_1257 rfl ?_
                                                      refine e_iload dL_law_1258 rfl ?_
                                                      refine e_iconst (x := (4 : Int32)) dL_law_1260 (by decide) ?_
                                                      refine e_iadd dL_law_1261 ?_
                                                      refine e_sldJ dL_law_1262 rfl c148.2 c148.1 ?_
                                                      refine e_i2l dL_law_1263 ?_
                                                      refine e_bipush (x := (32 : Int32)) dL_law_1264 (by decide) ?_
                                                      refine e_lshl dL_law_1266 ?_
                                                      refine e_aload_n dL_law_1267 rfl ?_
                                                      refine e_iload dL_law_1268 rfl ?_
                                                      refine e_iconst (x := (5 : Int32)) dL_law_1270 (by decide) ?_
                                                      refine e_iadd dL_law_1271 ?_
                                                      refine e_sldJ dL_law_1272 rfl c149.2 c149.1 ?_
                                                      refine e_i2l dL_law_1273 ?_
                                                      refine e_ldc2 dL_law_1274 wcL_52 ?_
                                                      refine e_land dL_law_1277 ?_
                                                      refine e_lor dL_law_1278 ?_
                                                      refine e_aload_n dL_law_1279 rfl ?_
                                                      refine e_iload dL_law_1280 rfl ?_
                                                      refine e_bipush (x := (6 : Int32)) dL_law_1282 (by decide) ?_
                                                      refine e_iadd dL_law_1284 ?_
                                                      refine e_sldJ dL_law_1285 rfl c150.2 c150.1 ?_
                                                      refine e_aload_n dL_law_1286 rfl ?_
                                                      refine e_iload dL_law_1287 rfl ?_
                                                      refine e_bipush (x := (7 : Int32)) dL_law_1289 (by decide) ?_
                                                      refine e_iadd dL_law_1291 ?_
                                                      refine e_sldJ dL_law_1292 rfl c151.2 c151.1 ?_
                                                      obtain ⟨p153, ep153, h⟩ := Option.bind_eq_some_iff.mp h
                                                      refine c_VI (M' := mX8_read) [.int (X.2 ((a4 + (1 : Int32)).toNatClampNeg)), .int (X.2 ((a4 + (2 : Int32)).toNatClampNeg)), .int (X.2 ((a4 + (3 : Int32)).toNatClampNeg)), .long ((((X.2 ((a4 + (4 : Int32)).toNatClampNeg)).toInt64) <<< ((32 : Int32).toInt64 &&& 63)) ||| (((X.2 ((a4 + (5 : Int32)).toNatClampNeg)).toInt64) &&& (4294967295 : Int64))), .int (X.2 ((a4 + (6 : Int32)).toNatClampNeg)), .int (X.2 ((a4 + (7 : Int32)).toNatClampNeg))] dL_law_1293 rfl wmL_130 imX8_read seX8_read lkX8_read k0_174 rc8 (Nat.le_of_ble_eq_true rfl) ((x_X8_read  ep153).mono (by omega)) ?_
                                                      refine e_icmp_eq (tgt := 2757) dL_law_1296 (by decide) (fun c154 => ?_) (fun c154 => ?_)
                                                      · rw [if_pos c154] at h
                                                        refine e_less (bc' := n * 2) (bs' := n * 16) (by omega) (by omega) ?_
                                                        exact b_L_law_2757 (fun v a4  hh => ih v a4  hh) h
                                                      · rw [if_neg c154] at h
                                                        refine e_iconst (x := (0 : Int32)) dL_law_1299 (by decide) ?_
                                                        obtain rfl := Option.some.inj h
                                                        exact e_iret dL_law_1300 rfl rfl ⟨rfl, rfl, rfl⟩
                                                    · rw [if_neg c144] at h
                                                      have nc144 := tab_ne c144 (k := 23) (by decide)
                                                      by_cases c155 : ((X.2 a4.toNatClampNeg) &&& (63 : Int32)) = (24 : Int32)
                                                      · rw [if_pos c155] at h
                                                        refine e_tabIn (off := 1261) (tgt := 1301) dL_law_40 (by rw [c155]; decide) (by rw [c155]; decide) (by rw [c155]; rfl) (by decide) ?_
                                                        refine e_aload_n dL_law_1301 rfl ?_
                                                        refine e_aload_n dL_law_1302 rfl ?_
                                                        refine e_iload dL_law_1303 rfl ?_
                                                        refine e_iconst (x := (1 : Int32)) dL_law_1305 (by decide) ?_
                                                        refine e_iadd dL_law_1306 ?_
                                                        obtain ⟨c156, h⟩ := grd h
                                                        refine e_sldJ dL_law_1307 rfl c156.2 c156.1 ?_
                                                        refine e_aload_n dL_law_1308 rfl ?_
                                                        refine e_iload dL_law_1309 rfl ?_
                                                        refine e_iconst (x := (2 : Int32)) dL_law_1311 (by decide) ?_
                                                        refine e_iadd dL_law_1312 ?_
                                                        obtain ⟨c157, h⟩ := grd h
                                                        refine e_sldJ dL_law_1313 rfl c157.2 c157.1 ?_
                                                        obtain ⟨p158, ep158, h⟩ := Option.bind_eq_some_iff.mp h
                                                        refine c_VZ (M' := mX7_weigh) [.int (X.2 ((a4 + (1 : Int32)).toNatClampNeg)), .int (X.2 ((a4 + (2 : Int32)).toNatClampNeg))] dL_law_1314 rfl wmL_131 imX7_weigh seX7_weigh lkX7_weigh k0_0 rc7 (Nat.le_of_ble_eq_true rfl) ((x_X7_weigh  ep158).mono (by omega)) ?_
                                                        refine e_aload_n dL_law_1317 rfl ?_
                                                        refine e_aload_n dL_law_1318 rfl ?_
                                                        refine e_iload dL_law_1319 rfl ?_
                                                        refine e_iconst (x := (1 : Int32)) dL_law_1321 (by decide) ?_
                                                        refine e_iadd dL_law_1322 ?_
                                                        refine e_sldJ dL_law_1323 rfl c156.2 c156.1 ?_
                                                        refine e_aload_n dL_law_1324 rfl ?_
                                                        refine e_iload dL_law_1325 rfl ?_
                                                        refine e_iconst (x := (2 : Int32)) dL_law_1327 (by decide) ?_
                                                        refine e_iadd dL_law_1328 ?_
                                                        refine e_sldJ dL_law_1329 rfl c157.2 c157.1 ?_
                                                        obtain ⟨p159, ep159, h⟩ := Option.bind_eq_some_iff.mp h
                                                        refine c_VZ (M' := mX8_weigh) [.int (X.2 ((a4 + (1 : Int32)).toNatClampNeg)), .int (X.2 ((a4 + (2 : Int32)).toNatClampNeg))] dL_law_1330 rfl wmL_135 imX8_weigh seX8_weigh lkX8_weigh k0_174 rc8 (Nat.le_of_ble_eq_true rfl) ((x_X8_weigh  ep159).mono (by omega)) ?_
                                                        refine e_icmp_eq (tgt := 2757) dL_law_1333 (by decide) (fun c160 => ?_) (fun c160 => ?_)
                                                        · rw [if_pos c160] at h
                                                          refine e_less (bc' := n * 2) (bs' := n * 16) (by omega) (by omega) ?_
                                                          exact b_L_law_2757 (fun v a4  hh => ih v a4  hh) h
                                                        · rw [if_neg c160] at h
                                                          refine e_iconst (x := (0 : Int32)) dL_law_1336 (by decide) ?_
                                                          obtain rfl := Option.some.inj h
                                                          exact e_iret dL_law_1337 rfl rfl ⟨rfl, rfl, rfl⟩
                                                      · rw [if_neg c155] at h
                                                        have nc155 := tab_ne c155 (k := 24) (by decide)
                                                        by_cases c161 : ((X.2 a4.toNatClampNeg) &&& (63 : Int32)) = (25 : Int32)
                                                        · rw [if_pos c161] at h
                                                          refine e_tabIn (off := 1298) (tgt := 1338) dL_law_40 (by rw [c161]; decide) (by rw [c161]; decide) (by rw [c161]; rfl) (by decide) ?_
                                                          refine e_aload_n dL_law_1338 rfl ?_
                                                          refine e_aload_n dL_law_1339 rfl ?_
                                                          refine e_iload dL_law_1340 rfl ?_
                                                          refine e_iconst (x := (1 : Int32)) dL_law_1342 (by decide) ?_
                                                          refine e_iadd dL_law_1343 ?_
                                                          obtain ⟨c162, h⟩ := grd h
                                                          refine e_sldJ dL_law_1344 rfl c162.2 c162.1 ?_
                                                          refine e_aload_n dL_law_1345 rfl ?_
                                                          refine e_iload dL_law_1346 rfl ?_
                                                          refine e_iconst (x := (2 : Int32)) dL_law_1348 (by decide) ?_
                                                          refine e_iadd dL_law_1349 ?_
                                                          obtain ⟨c163, h⟩ := grd h
                                                          refine e_sldJ dL_law_1350 rfl c163.2 c163.1 ?_
                                                          refine e_aload_n dL_law_1351 rfl ?_
                                                          refine e_iload dL_law_1352 rfl ?_
                                                          refine e_iconst (x := (3 : Int32)) dL_law_1354 (by decide) ?_
                                                          refine e_iadd dL_law_1355 ?_
                                                          obtain ⟨c164, h⟩ := grd h
                                                          refine e_sldJ dL_law_1356 rfl c164.2 c164.1 ?_
                                                          refine e_aload_n dL_law_1357 rfl ?_
                                                          refine e_iload dL_law_1358 rfl ?_
                                                          refine e_iconst (x := (4 : Int32)) dL_law_1360 (by decide) ?_
                                                          refine e_iadd dL_law_1361 ?_
                                                          obtain ⟨c165, h⟩ := grd h
                                                          refine e_sldJ dL_law_1362 rfl c165.2 c165.1 ?_
                                                          refine e_i2l dL_law_1363 ?_
                                                          refine e_bipush (x := (32 : Int32)) dL_law_1364 (by decide) ?_
                                                          refine e_lshl dL_law_1366 ?_
                                                          refine e_aload_n dL_law_1367 rfl ?_
                                                          refine e_iload dL_law_1368 rfl ?_
                                                          refine e_iconst (x := (5 : Int32)) dL_law_1370 (by decide) ?_
                                                          refine e_iadd dL_law_1371 ?_
                                                          obtain ⟨c166, h⟩ := grd h
                                                          refine e_sldJ dL_law_1372 rfl c166.2 c166.1 ?_
                                                          refine e_i2l dL_law_1373 ?_
                                                          refine e_ldc2 dL_law_1374 wcL_52 ?_
                                                          refine e_land dL_law_1377 ?_
                                                          refine e_lor dL_law_1378 ?_
                                                          refine e_aload_n dL_law_1379 rfl ?_
                                                          refine e_iload dL_law_1380 rfl ?_
                                                          refine e_bipush (x := (6 : Int32)) dL_law_1382 (by decide) ?_
                                                          refine e_iadd dL_law_1384 ?_
                                                          obtain ⟨c167, h⟩ := grd h
                                                          refine e_sldJ dL_law_1385 rfl c167.2 c167.1 ?_
                                                          refine e_aload_n dL_law_1386 rfl ?_
                                                          refine e_iload dL_law_1387 rfl ?_
                                                          refine e_bipush (x := (7 : Int32)) dL_law_1389 (by decide) ?_
                                                          refine e_iadd dL_law_1391 ?_
                                                          obtain ⟨c168, h⟩ := grd h
                                                          refine e_sldJ dL_law_1392 rfl c168.2 c168.1 ?_
                                                          obtain ⟨p169, ep169, h⟩ := Option.bind_eq_some_iff.mp h
                                                          refine c_VI (M' := mX7_odds) [.int (X.2 ((a4 + (1 : Int32)).toNatClampNeg)), .int (X.2 ((a4 + (2 : Int32)).toNatClampNeg)), .int (X.2 ((a4 + (3 : Int32)).toNatClampNeg)), .long ((((X.2 ((a4 + (4 : Int32)).toNatClampNeg)).toInt64) <<< ((32 : Int32).toInt64 &&& 63)) ||| (((X.2 ((a4 + (5 : Int32)).toNatClampNeg)).toInt64) &&& (4294967295 : Int64))), .int (X.2 ((a4 + (6 : Int32)).toNatClampNeg)), .int (X.2 ((a4 + (7 : Int32)).toNatClampNeg))] dL_law_1393 rfl wmL_136 imX7_odds seX7_odds lkX7_odds k0_0 rc7 (Nat.le_of_ble_eq_true rfl) ((x_X7_odds  ep169).mono (by omega)) ?_
                                                          refine e_aload_n dL_law_1396 rfl ?_
                                                          refine e_aload_n dL_law_1397 rfl ?_
                                                          refine e_iload dL_law_1398 rfl ?_
                                                          refine e_iconst (x := (1 : Int32)) dL_law_1400 (by decide) ?_
                                                          refine e_iadd dL_law_1401 ?_
                                                          refine e_sldJ dL_law_1402 rfl c162.2 c162.1 ?_
                                                          refine e_aload_n dL_law_1403 rfl ?_
                                                          refine e_iload dL_law_1404 rfl ?_
                                                          refine e_iconst (x := (2 : Int32)) dL_law_1406 (by decide) ?_
                                                          refine e_iadd dL_law_1407 ?_
                                                          refine e_sldJ dL_law_1408 rfl c163.2 c163.1 ?_
                                                          refine e_aload_n dL_law_1409 rfl ?_
                                                          refine e_iload dL_law_1410 rfl ?_
                                                          refine e_iconst (x := (3 : Int32)) dL_law_1412 (by decide) ?_
                                                          refine e_iadd dL_law_1413 ?_
                                                          refine e_sldJ dL_law_1414 rfl c164.2 c164.1 ?_
                                                          refine e_aload_n dL_law_1415 rfl ?_
                                                          refine e_iload dL_law_1416 rfl ?_
                                                          refine e_iconst (x := (4 : Int32)) dL_law_1418 (by decide) ?_
                                                          refine e_iadd dL_law_1419 ?_
                                                          refine e_sldJ dL_law_1420 rfl c165.2 c165.1 ?_
                                                          refine e_i2l dL_law_1421 ?_
                                                          refine e_bipush (x := (32 : Int32)) dL_law_1422 (by decide) ?_
                                                          refine e_lshl dL_law_1424 ?_
                                                          refine e_aload_n dL_law_1425 rfl ?_
                                                          refine e_iload dL_law_1426 rfl ?_
                                                          refine e_iconst (x := (5 : Int32)) dL_law_1428 (by decide) ?_
                                                          refine e_iadd dL_law_1429 ?_
                                                          refine e_sldJ dL_law_1430 rfl c166.2 c166.1 ?_
                                                          refine e_i2l dL_law_1431 ?_
                                                          refine e_ldc2 dL_law_1432 wcL_52 ?_
                                                          refine e_land dL_law_1435 ?_
                                                          refine e_lor dL_law_1436 ?_
                                                          refine e_aload_n dL_law_1437 rfl ?_
                                                          refine e_iload dL_law_1438 rfl ?_
                                                          refine e_bipush (x := (6 : Int32)) dL_law_1440 (by decide) ?_
                                                          refine e_iadd dL_law_1442 ?_
                                                          refine e_sldJ dL_law_1443 rfl c167.2 c167.1 ?_
                                                          refine e_aload_n dL_law_1444 rfl ?_
                                                          refine e_iload dL_law_1445 rfl ?_
                                                          refine e_bipush (x := (7 : Int32)) dL_law_1447 (by decide) ?_
                                                          refine e_iadd dL_law_1449 ?_
                                                          refine e_sldJ dL_law_1450 rfl c168.2 c168.1 ?_
                                                          obtain ⟨p170, ep170, h⟩ := Option.bind_eq_some_iff.mp h
                                                          refine c_VI (M' := mX8_odds) [.int (X.2 ((a4 + (1 : Int32)).toNatClampNeg)), .int (X.2 ((a4 + (2 : Int32)).toNatClampNeg)), .int (X.2 ((a4 + (3 : Int32)).toNatClampNeg)), .long ((((X.2 ((a4 + (4 : Int32)).toNatClampNeg)).toInt64) <<< ((32 : Int32).toInt64 &&& 63)) ||| (((X.2 ((a4 + (5 : Int32)).toNatClampNeg)).toInt64) &&& (4294967295 : Int64))), .int (X.2 ((a4 + (6 : Int32)).toNatClampNeg)), .int (X.2 ((a4 + (7 : Int32)).toNatClampNeg))] dL_law_1451 rfl wmL_139 imX8_odds seX8_odds lkX8_odds k0_174 rc8 (Nat.le_of_ble_eq_true rfl) ((x_X8_odds  ep170).mono (by omega)) ?_
                                                          refine e_icmp_eq (tgt := 2757) dL_law_1454 (by decide) (fun c171 => ?_) (fun c171 => ?_)
                                                          · rw [if_pos c171] at h
                                                            refine e_less (bc' := n * 2) (bs' := n * 16) (by omega) (by omega) ?_
                                                            exact b_L_law_2757 (fun v a4  hh => ih v a4  hh) h
                                                          · rw [if_neg c171] at h
                                                            refine e_iconst (x := (0 : Int32)) dL_law_1457 (by decide) ?_
                                                            obtain rfl := Option.some.inj h
                                                            exact e_iret dL_law_1458 rfl rfl ⟨rfl, rfl, rfl⟩
                                                        · rw [if_neg c161] at h
                                                          have nc161 := tab_ne c161 (k := 25) (by decide)
                                                          by_cases c172 : ((X.2 a4.toNatClampNeg) &&& (63 : Int32)) = (26 : Int32)
                                                          · rw [if_pos c172] at h
                                                            refine e_tabIn (off := 1419) (tgt := 1459) dL_law_40 (by rw [c172]; decide) (by rw [c172]; decide) (by rw [c172]; rfl) (by decide) ?_
                                                            refine e_aload_n dL_law_1459 rfl ?_
                                                            refine e_aload_n dL_law_1460 rfl ?_
                                                            refine e_iload dL_law_1461 rfl ?_
                                                            refine e_iconst (x := (1 : Int32)) dL_law_1463 (by decide) ?_
                                                            refine e_iadd dL_law_1464 ?_
                                                            obtain ⟨c173, h⟩ := grd h
                                                            refine e_sldJ dL_law_1465 rfl c173.2 c173.1 ?_
                                                            refine e_aload_n dL_law_1466 rfl ?_
                                                            refine e_iload dL_law_1467 rfl ?_
                                                            refine e_iconst (x := (2 : Int32)) dL_law_1469 (by decide) ?_
                                                            refine e_iadd dL_law_1470 ?_
                                                            obtain ⟨c174, h⟩ := grd h
                                                            refine e_sldJ dL_law_1471 rfl c174.2 c174.1 ?_
                                                            refine e_aload_n dL_law_1472 rfl ?_
                                                            refine e_iload dL_law_1473 rfl ?_
                                                            refine e_iconst (x := (3 : Int32)) dL_law_1475 (by decide) ?_
                                                            refine e_iadd dL_law_1476 ?_
                                                            obtain ⟨c175, h⟩ := grd h
                                                            refine e_sldJ dL_law_1477 rfl c175.2 c175.1 ?_
                                                            refine e_aload_n dL_law_1478 rfl ?_
                                                            refine e_iload dL_law_1479 rfl ?_
                                                            refine e_iconst (x := (4 : Int32)) dL_law_1481 (by decide) ?_
                                                            refine e_iadd dL_law_1482 ?_
                                                            obtain ⟨c176, h⟩ := grd h
                                                            refine e_sldJ dL_law_1483 rfl c176.2 c176.1 ?_
                                                            refine e_i2l dL_law_1484 ?_
                                                            refine e_bipush (x := (32 : Int32)) dL_law_1485 (by decide) ?_
                                                            refine e_lshl dL_law_1487 ?_
                                                            refine e_aload_n dL_law_1488 rfl ?_
                                                            refine e_iload dL_law_1489 rfl ?_
                                                            refine e_iconst (x := (5 : Int32)) dL_law_1491 (by decide) ?_
                                                            refine e_iadd dL_law_1492 ?_
                                                            obtain ⟨c177, h⟩ := grd h
                                                            refine e_sldJ dL_law_1493 rfl c177.2 c177.1 ?_
                                                            refine e_i2l dL_law_1494 ?_
                                                            refine e_ldc2 dL_law_1495 wcL_52 ?_
                                                            refine e_land dL_law_1498 ?_
                                                            refine e_lor dL_law_1499 ?_
                                                            refine e_aload_n dL_law_1500 rfl ?_
                                                            refine e_iload dL_law_1501 rfl ?_
                                                            refine e_bipush (x := (6 : Int32)) dL_law_1503 (by decide) ?_
                                                            refine e_iadd dL_law_1505 ?_
                                                            obtain ⟨c178, h⟩ := grd h
                                                            refine e_sldJ dL_law_1506 rfl c178.2 c178.1 ?_
                                                            obtain ⟨p179, ep179, h⟩ := Option.bind_eq_some_iff.mp h
                                                            refine c_VI (M' := mX7_parts) [.int (X.2 ((a4 + (1 : Int32)).toNatClampNeg)), .int (X.2 ((a4 + (2 : Int32)).toNatClampNeg)), .int (X.2 ((a4 + (3 : Int32)).toNatClampNeg)), .long ((((X.2 ((a4 + (4 : Int32)).toNatClampNeg)).toInt64) <<< ((32 : Int32).toInt64 &&& 63)) ||| (((X.2 ((a4 + (5 : Int32)).toNatClampNeg)).toInt64) &&& (4294967295 : Int64))), .int (X.2 ((a4 + (6 : Int32)).toNatClampNeg))] dL_law_1507 rfl wmL_140 imX7_parts seX7_parts lkX7_parts k0_0 rc7 (Nat.le_of_ble_eq_true rfl) ((x_X7_parts  ep179).mono (by omega)) ?_
                                                            refine e_aload_n dL_law_1510 rfl ?_
                                                            refine e_aload_n dL_law_1511 rfl ?_
                                                            refine e_iload dL_law_1512 rfl ?_
                                                            refine e_iconst (x := (1 : Int32)) dL_law_1514 (by decide) ?_
                                                            refine e_iadd dL_law_1515 ?_
                                                            refine e_sldJ dL_law_1516 rfl c173.2 c173.1 ?_
                                                            refine e_aload_n dL_law_1517 rfl ?_
                                                            refine e_iload dL_law_1518 rfl ?_
                                                            refine e_iconst (x := (2 : Int32)) dL_law_1520 (by decide) ?_
                                                            refine e_iadd dL_law_1521 ?_
                                                            refine e_sldJ dL_law_1522 rfl c174.2 c174.1 ?_
                                                            refine e_aload_n dL_law_1523 rfl ?_
                                                            refine e_iload dL_law_1524 rfl ?_
                                                            refine e_iconst (x := (3 : Int32)) dL_law_1526 (by decide) ?_
                                                            refine e_iadd dL_law_1527 ?_
                                                            refine e_sldJ dL_law_1528 rfl c175.2 c175.1 ?_
                                                            refine e_aload_n dL_law_1529 rfl ?_
                                                            refine e_iload dL_law_1530 rfl ?_
                                                            refine e_iconst (x := (4 : Int32)) dL_law_1532 (by decide) ?_
                                                            refine e_iadd dL_law_1533 ?_
                                                            refine e_sldJ dL_law_1534 rfl c176.2 c176.1 ?_
                                                            refine e_i2l dL_law_1535 ?_
                                                            refine e_bipush (x := (32 : Int32)) dL_law_1536 (by decide) ?_
                                                            refine e_lshl dL_law_1538 ?_
                                                            refine e_aload_n dL_law_1539 rfl ?_
                                                            refine e_iload dL_law_1540 rfl ?_
                                                            refine e_iconst (x := (5 : Int32)) dL_law_1542 (by decide) ?_
                                                            refine e_iadd dL_law_1543 ?_
                                                            refine e_sldJ dL_law_1544 rfl c177.2 c177.1 ?_
                                                            refine e_i2l dL_law_1545 ?_
                                                            refine e_ldc2 dL_law_1546 wcL_52 ?_
                                                            refine e_land dL_law_1549 ?_
                                                            refine e_lor dL_law_1550 ?_
                                                            refine e_aload_n dL_law_1551 rfl ?_
                                                            refine e_iload dL_law_1552 rfl ?_
                                                            refine e_bipush (x := (6 : Int32)) dL_law_1554 (by decide) ?_
                                                            refine e_iadd dL_law_1556 ?_
                                                            refine e_sldJ dL_law_1557 rfl c178.2 c178.1 ?_
                                                            obtain ⟨p180, ep180, h⟩ := Option.bind_eq_some_iff.mp h
                                                            refine c_VI (M' := mX8_parts) [.int (X.2 ((a4 + (1 : Int32)).toNatClampNeg)), .int (X.2 ((a4 + (2 : Int32)).toNatClampNeg)), .int (X.2 ((a4 + (3 : Int32)).toNatClampNeg)), .long ((((X.2 ((a4 + (4 : Int32)).toNatClampNeg)).toInt64) <<< ((32 : Int32).toInt64 &&& 63)) ||| (((X.2 ((a4 + (5 : Int32)).toNatClampNeg)).toInt64) &&& (4294967295 : Int64))), .int (X.2 ((a4 + (6 : Int32)).toNatClampNeg))] dL_law_1558 rfl wmL_144 imX8_parts seX8_parts lkX8_parts k0_174 rc8 (Nat.le_of_ble_eq_true rfl) ((x_X8_parts  ep180).mono (by omega)) ?_
                                                            refine e_icmp_eq (tgt := 2757) dL_law_1561 (by decide) (fun c181 => ?_) (fun c181 => ?_)
                                                            · rw [if_pos c181] at h
                                                              refine e_less (bc' := n * 2) (bs' := n * 16) (by omega) (by omega) ?_
                                                              exact b_L_law_2757 (fun v a4  hh => ih v a4  hh) h
                                                            · rw [if_neg c181] at h
                                                              refine e_iconst (x := (0 : Int32)) dL_law_1564 (by decide) ?_
                                                              obtain rfl := Option.some.inj h
                                                              exact e_iret dL_law_1565 rfl rfl ⟨rfl, rfl, rfl⟩
                                                          · rw [if_neg c172] at h
                                                            have nc172 := tab_ne c172 (k := 26) (by decide)
                                                            by_cases c182 : ((X.2 a4.toNatClampNeg) &&& (63 : Int32)) = (27 : Int32)
                                                            · rw [if_pos c182] at h
                                                              refine e_tabIn (off := 1526) (tgt := 1566) dL_law_40 (by rw [c182]; decide) (by rw [c182]; decide) (by rw [c182]; rfl) (by decide) ?_
                                                              refine e_aload_n dL_law_1566 rfl ?_
                                                              refine e_aload_n dL_law_1567 rfl ?_
                                                              refine e_iload dL_law_1568 rfl ?_
                                                              refine e_iconst (x := (1 : Int32)) dL_law_1570 (by decide) ?_
                                                              refine e_iadd dL_law_1571 ?_
                                                              obtain ⟨c183, h⟩ := grd h
                                                              refine e_sldJ dL_law_1572 rfl c183.2 c183.1 ?_
                                                              refine e_aload_n dL_law_1573 rfl ?_
                                                              refine e_iload dL_law_1574 rfl ?_
                                                              refine e_iconst (x := (2 : Int32)) dL_law_1576 (by decide) ?_
                                                              refine e_iadd dL_law_1577 ?_
                                                              obtain ⟨c184, h⟩ := grd h
                                                              refine e_sldJ dL_law_1578 rfl c184.2 c184.1 ?_
                                                              refine e_aload_n dL_law_1579 rfl ?_
                                                              refine e_iload dL_law_1580 rfl ?_
                                                              refine e_iconst (x := (3 : Int32)) dL_law_1582 (by decide) ?_
                                                              refine e_iadd dL_law_1583 ?_
                                                              obtain ⟨c185, h⟩ := grd h
                                                              refine e_sldJ dL_law_1584 rfl c185.2 c185.1 ?_
                                                              refine e_aload_n dL_law_1585 rfl ?_
                                                              refine e_iload dL_law_1586 rfl ?_
                                                              refine e_iconst (x := (4 : Int32)) dL_law_1588 (by decide) ?_
                                                              refine e_iadd dL_law_1589 ?_
                                                              obtain ⟨c186, h⟩ := grd h
                                                              refine e_sldJ dL_law_1590 rfl c186.2 c186.1 ?_
                                                              refine e_i2l dL_law_1591 ?_
                                                              refine e_bipush (x := (32 : Int32)) dL_law_1592 (by decide) ?_
                                                              refine e_lshl dL_law_1594 ?_
                                                              refine e_aload_n dL_law_1595 rfl ?_
                                                              refine e_iload dL_law_1596 rfl ?_
                                                              refine e_iconst (x := (5 : Int32)) dL_law_1598 (by decide) ?_
                                                              refine e_iadd dL_law_1599 ?_
                                                              obtain ⟨c187, h⟩ := grd h
                                                              refine e_sldJ dL_law_1600 rfl c187.2 c187.1 ?_
                                                              refine e_i2l dL_law_1601 ?_
                                                              refine e_ldc2 dL_law_1602 wcL_52 ?_
                                                              refine e_land dL_law_1605 ?_
                                                              refine e_lor dL_law_1606 ?_
                                                              refine e_aload_n dL_law_1607 rfl ?_
                                                              refine e_iload dL_law_1608 rfl ?_
                                                              refine e_bipush (x := (6 : Int32)) dL_law_1610 (by decide) ?_
                                                              refine e_iadd dL_law_1612 ?_
                                                              obtain ⟨c188, h⟩ := grd h
                                                              refine e_sldJ dL_law_1613 rfl c188.2 c188.1 ?_
                                                              obtain ⟨p189, ep189, h⟩ := Option.bind_eq_some_iff.mp h
                                                              refine c_VI (M' := mX7_next) [.int (X.2 ((a4 + (1 : Int32)).toNatClampNeg)), .int (X.2 ((a4 + (2 : Int32)).toNatClampNeg)), .int (X.2 ((a4 + (3 : Int32)).toNatClampNeg)), .long ((((X.2 ((a4 + (4 : Int32)).toNatClampNeg)).toInt64) <<< ((32 : Int32).toInt64 &&& 63)) ||| (((X.2 ((a4 + (5 : Int32)).toNatClampNeg)).toInt64) &&& (4294967295 : Int64))), .int (X.2 ((a4 + (6 : Int32)).toNatClampNeg))] dL_law_1614 rfl wmL_145 imX7_next seX7_next lkX7_next k0_0 rc7 (Nat.le_of_ble_eq_true rfl) ((x_X7_next  ep189).mono (by omega)) ?_
                                                              refine e_aload_n dL_law_1617 rfl ?_
                                                              refine e_aload_n dL_law_1618 rfl ?_
                                                              refine e_iload dL_law_1619 rfl ?_
                                                              refine e_iconst (x := (1 : Int32)) dL_law_1621 (by decide) ?_
                                                              refine e_iadd dL_law_1622 ?_
                                                              refine e_sldJ dL_law_1623 rfl c183.2 c183.1 ?_
                                                              refine e_aload_n dL_law_1624 rfl ?_
                                                              refine e_iload dL_law_1625 rfl ?_
                                                              refine e_iconst (x := (2 : Int32)) dL_law_1627 (by decide) ?_
                                                              refine e_iadd dL_law_1628 ?_
                                                              refine e_sldJ dL_law_1629 rfl c184.2 c184.1 ?_
                                                              refine e_aload_n dL_law_1630 rfl ?_
                                                              refine e_iload dL_law_1631 rfl ?_
                                                              refine e_iconst (x := (3 : Int32)) dL_law_1633 (by decide) ?_
                                                              refine e_iadd dL_law_1634 ?_
                                                              refine e_sldJ dL_law_1635 rfl c185.2 c185.1 ?_
                                                              refine e_aload_n dL_law_1636 rfl ?_
                                                              refine e_iload dL_law_1637 rfl ?_
                                                              refine e_iconst (x := (4 : Int32)) dL_law_1639 (by decide) ?_
                                                              refine e_iadd dL_law_1640 ?_
                                                              refine e_sldJ dL_law_1641 rfl c186.2 c186.1 ?_
                                                              refine e_i2l dL_law_1642 ?_
                                                              refine e_bipush (x := (32 : Int32)) dL_law_1643 (by decide) ?_
                                                              refine e_lshl dL_law_1645 ?_
                                                              refine e_aload_n dL_law_1646 rfl ?_
                                                              refine e_iload dL_law_1647 rfl ?_
                                                              refine e_iconst (x := (5 : Int32)) dL_law_1649 (by decide) ?_
                                                              refine e_iadd dL_law_1650 ?_
                                                              refine e_sldJ dL_law_1651 rfl c187.2 c187.1 ?_
                                                              refine e_i2l dL_law_1652 ?_
                                                              refine e_ldc2 dL_law_1653 wcL_52 ?_
                                                              refine e_land dL_law_1656 ?_
                                                              refine e_lor dL_law_1657 ?_
                                                              refine e_aload_n dL_law_1658 rfl ?_
                                                              refine e_iload dL_law_1659 rfl ?_
                                                              refine e_bipush (x := (6 : Int32)) dL_law_1661 (by decide) ?_
                                                              refine e_iadd dL_law_1663 ?_
                                                              refine e_sldJ dL_law_1664 rfl c188.2 c188.1 ?_
                                                              obtain ⟨p190, ep190, h⟩ := Option.bind_eq_some_iff.mp h
                                                              refine c_VI (M' := mX8_next) [.int (X.2 ((a4 + (1 : Int32)).toNatClampNeg)), .int (X.2 ((a4 + (2 : Int32)).toNatClampNeg)), .int (X.2 ((a4 + (3 : Int32)).toNatClampNeg)), .long ((((X.2 ((a4 + (4 : Int32)).toNatClampNeg)).toInt64) <<< ((32 : Int32).toInt64 &&& 63)) ||| (((X.2 ((a4 + (5 : Int32)).toNatClampNeg)).toInt64) &&& (4294967295 : Int64))), .int (X.2 ((a4 + (6 : Int32)).toNatClampNeg))] dL_law_1665 rfl wmL_148 imX8_next seX8_next lkX8_next k0_174 rc8 (Nat.le_of_ble_eq_true rfl) ((x_X8_next  ep190).mono (by omega)) ?_
                                                              refine e_icmp_eq (tgt := 2757) dL_law_1668 (by decide) (fun c191 => ?_) (fun c191 => ?_)
                                                              · rw [if_pos c191] at h
                                                                refine e_less (bc' := n * 2) (bs' := n * 16) (by omega) (by omega) ?_
                                                                exact b_L_law_2757 (fun v a4  hh => ih v a4  hh) h
                                                              · rw [if_neg c191] at h
                                                                refine e_iconst (x := (0 : Int32)) dL_law_1671 (by decide) ?_
                                                                obtain rfl := Option.some.inj h
                                                                exact e_iret dL_law_1672 rfl rfl ⟨rfl, rfl, rfl⟩
                                                            · rw [if_neg c182] at h
                                                              have nc182 := tab_ne c182 (k := 27) (by decide)
                                                              by_cases c192 : ((X.2 a4.toNatClampNeg) &&& (63 : Int32)) = (28 : Int32)
                                                              · rw [if_pos c192] at h
                                                                refine e_tabIn (off := 1633) (tgt := 1673) dL_law_40 (by rw [c192]; decide) (by rw [c192]; decide) (by rw [c192]; rfl) (by decide) ?_
                                                                refine e_aload_n dL_law_1673 rfl ?_
                                                                refine e_aload_n dL_law_1674 rfl ?_
                                                                refine e_iload dL_law_1675 rfl ?_
                                                                refine e_iconst (x := (1 : Int32)) dL_law_1677 (by decide) ?_
                                                                refine e_iadd dL_law_1678 ?_
                                                                obtain ⟨c193, h⟩ := grd h
                                                                refine e_sldJ dL_law_1679 rfl c193.2 c193.1 ?_
                                                                refine e_aload_n dL_law_1680 rfl ?_
                                                                refine e_iload dL_law_1681 rfl ?_
                                                                refine e_iconst (x := (2 : Int32)) dL_law_1683 (by decide) ?_
                                                                refine e_iadd dL_law_1684 ?_
                                                                obtain ⟨c194, h⟩ := grd h
                                                                refine e_sldJ dL_law_1685 rfl c194.2 c194.1 ?_
                                                                refine e_aload_n dL_law_1686 rfl ?_
                                                                refine e_iload dL_law_1687 rfl ?_
                                                                refine e_iconst (x := (3 : Int32)) dL_law_1689 (by decide) ?_
                                                                refine e_iadd dL_law_1690 ?_
                                                                obtain ⟨c195, h⟩ := grd h
                                                                refine e_sldJ dL_law_1691 rfl c195.2 c195.1 ?_
                                                                refine e_aload_n dL_law_1692 rfl ?_
                                                                refine e_iload dL_law_1693 rfl ?_
                                                                refine e_iconst (x := (4 : Int32)) dL_law_1695 (by decide) ?_
                                                                refine e_iadd dL_law_1696 ?_
                                                                obtain ⟨c196, h⟩ := grd h
                                                                refine e_sldJ dL_law_1697 rfl c196.2 c196.1 ?_
                                                                refine e_i2l dL_law_1698 ?_
                                                                refine e_bipush (x := (32 : Int32)) dL_law_1699 (by decide) ?_
                                                                refine e_lshl dL_law_1701 ?_
                                                                refine e_aload_n dL_law_1702 rfl ?_
                                                                refine e_iload dL_law_1703 rfl ?_
                                                                refine e_iconst (x := (5 : Int32)) dL_law_1705 (by decide) ?_
                                                                refine e_iadd dL_law_1706 ?_
                                                                obtain ⟨c197, h⟩ := grd h
                                                                refine e_sldJ dL_law_1707 rfl c197.2 c197.1 ?_
                                                                refine e_i2l dL_law_1708 ?_
                                                                refine e_ldc2 dL_law_1709 wcL_52 ?_
                                                                refine e_land dL_law_1712 ?_
                                                                refine e_lor dL_law_1713 ?_
                                                                refine e_aload_n dL_law_1714 rfl ?_
                                                                refine e_iload dL_law_1715 rfl ?_
                                                                refine e_bipush (x := (6 : Int32)) dL_law_1717 (by decide) ?_
                                                                refine e_iadd dL_law_1719 ?_
                                                                obtain ⟨c198, h⟩ := grd h
                                                                refine e_sldJ dL_law_1720 rfl c198.2 c198.1 ?_
                                                                refine e_aload_n dL_law_1721 rfl ?_
                                                                refine e_iload dL_law_1722 rfl ?_
                                                                refine e_bipush (x := (7 : Int32)) dL_law_1724 (by decide) ?_
                                                                refine e_iadd dL_law_1726 ?_
                                                                obtain ⟨c199, h⟩ := grd h
                                                                refine e_sldJ dL_law_1727 rfl c199.2 c199.1 ?_
                                                                obtain ⟨p200, ep200, h⟩ := Option.bind_eq_some_iff.mp h
                                                                refine c_VI (M' := mX7_printed) [.int (X.2 ((a4 + (1 : Int32)).toNatClampNeg)), .int (X.2 ((a4 + (2 : Int32)).toNatClampNeg)), .int (X.2 ((a4 + (3 : Int32)).toNatClampNeg)), .long ((((X.2 ((a4 + (4 : Int32)).toNatClampNeg)).toInt64) <<< ((32 : Int32).toInt64 &&& 63)) ||| (((X.2 ((a4 + (5 : Int32)).toNatClampNeg)).toInt64) &&& (4294967295 : Int64))), .int (X.2 ((a4 + (6 : Int32)).toNatClampNeg)), .int (X.2 ((a4 + (7 : Int32)).toNatClampNeg))] dL_law_1728 rfl wmL_149 imX7_printed seX7_printed lkX7_printed k0_0 rc7 (Nat.le_of_ble_eq_true rfl) ((x_X7_printed  ep200).mono (by omega)) ?_
                                                                refine e_aload_n dL_law_1731 rfl ?_
                                                                refine e_aload_n dL_law_1732 rfl ?_
                                                                refine e_iload dL_law_1733 rfl ?_
                                                                refine e_iconst (x := (1 : Int32)) dL_law_1735 (by decide) ?_
                                                                refine e_iadd dL_law_1736 ?_
                                                                refine e_sldJ dL_law_1737 rfl c193.2 c193.1 ?_
                                                                refine e_aload_n dL_law_1738 rfl ?_
                                                                refine e_iload dL_law_1739 rfl ?_
                                                                refine e_iconst (x := (2 : Int32)) dL_law_1741 (by decide) ?_
                                                                refine e_iadd dL_law_1742 ?_
                                                                refine e_sldJ dL_law_1743 rfl c194.2 c194.1 ?_
                                                                refine e_aload_n dL_law_1744 rfl ?_
                                                                refine e_iload dL_law_1745 rfl ?_
                                                                refine e_iconst (x := (3 : Int32)) dL_law_1747 (by decide) ?_
                                                                refine e_iadd dL_law_1748 ?_
                                                                refine e_sldJ dL_law_1749 rfl c195.2 c195.1 ?_
                                                                refine e_aload_n dL_law_1750 rfl ?_
                                                                refine e_iload dL_law_1751 rfl ?_
                                                                refine e_iconst (x := (4 : Int32)) dL_law_1753 (by decide) ?_
                                                                refine e_iadd dL_law_1754 ?_
                                                                refine e_sldJ dL_law_1755 rfl c196.2 c196.1 ?_
                                                                refine e_i2l dL_law_1756 ?_
                                                                refine e_bipush (x := (32 : Int32)) dL_law_1757 (by decide) ?_
                                                                refine e_lshl dL_law_1759 ?_
                                                                refine e_aload_n dL_law_1760 rfl ?_
                                                                refine e_iload dL_law_1761 rfl ?_
                                                                refine e_iconst (x := (5 : Int32)) dL_law_1763 (by decide) ?_
                                                                refine e_iadd dL_law_1764 ?_
                                                                refine e_sldJ dL_law_1765 rfl c197.2 c197.1 ?_
                                                                refine e_i2l dL_law_1766 ?_
                                                                refine e_ldc2 dL_law_1767 wcL_52 ?_
                                                                refine e_land dL_law_1770 ?_
                                                                refine e_lor dL_law_1771 ?_
                                                                refine e_aload_n dL_law_1772 rfl ?_
                                                                refine e_iload dL_law_1773 rfl ?_
                                                                refine e_bipush (x := (6 : Int32)) dL_law_1775 (by decide) ?_
                                                                refine e_iadd dL_law_1777 ?_
                                                                refine e_sldJ dL_law_1778 rfl c198.2 c198.1 ?_
                                                                refine e_aload_n dL_law_1779 rfl ?_
                                                                refine e_iload dL_law_1780 rfl ?_
                                                                refine e_bipush (x := (7 : Int32)) dL_law_1782 (by decide) ?_
                                                                refine e_iadd dL_law_1784 ?_
                                                                refine e_sldJ dL_law_1785 rfl c199.2 c199.1 ?_
                                                                obtain ⟨p201, ep201, h⟩ := Option.bind_eq_some_iff.mp h
                                                                refine c_VI (M' := mX8_printed) [.int (X.2 ((a4 + (1 : Int32)).toNatClampNeg)), .int (X.2 ((a4 + (2 : Int32)).toNatClampNeg)), .int (X.2 ((a4 + (3 : Int32)).toNatClampNeg)), .long ((((X.2 ((a4 + (4 : Int32)).toNatClampNeg)).toInt64) <<< ((32 : Int32).toInt64 &&& 63)) ||| (((X.2 ((a4 + (5 : Int32)).toNatClampNeg)).toInt64) &&& (4294967295 : Int64))), .int (X.2 ((a4 + (6 : Int32)).toNatClampNeg)), .int (X.2 ((a4 + (7 : Int32)).toNatClampNeg))] dL_law_1786 rfl wmL_152 imX8_printed seX8_printed lkX8_printed k0_174 rc8 (Nat.le_of_ble_eq_true rfl) ((x_X8_printed  ep201).mono (by omega)) ?_
                                                                refine e_icmp_eq (tgt := 2757) dL_law_1789 (by decide) (fun c202 => ?_) (fun c202 => ?_)
                                                                · rw [if_pos c202] at h
                                                                  refine e_less (bc' := n * 2) (bs' := n * 16) (by omega) (by omega) ?_
                                                                  exact b_L_law_2757 (fun v a4  hh => ih v a4  hh) h
                                                                · rw [if_neg c202] at h
                                                                  refine e_iconst (x := (0 : Int32)) dL_law_1792 (by decide) ?_
                                                                  obtain rfl := Option.some.inj h
                                                                  exact e_iret dL_law_1793 rfl rfl ⟨rfl, rfl, rfl⟩
                                                              · rw [if_neg c192] at h
                                                                have nc192 := tab_ne c192 (k := 28) (by decide)
                                                                by_cases c203 : ((X.2 a4.toNatClampNeg) &&& (63 : Int32)) = (29 : Int32)
                                                                · rw [if_pos c203] at h
                                                                  refine e_tabIn (off := 1754) (tgt := 1794) dL_law_40 (by rw [c203]; decide) (by rw [c203]; decide) (by rw [c203]; rfl) (by decide) ?_
                                                                  refine e_aload_n dL_law_1794 rfl ?_
                                                                  refine e_aload_n dL_law_1795 rfl ?_
                                                                  refine e_iload dL_law_1796 rfl ?_
                                                                  refine e_iconst (x := (1 : Int32)) dL_law_1798 (by decide) ?_
                                                                  refine e_iadd dL_law_1799 ?_
                                                                  obtain ⟨c204, h⟩ := grd h
                                                                  refine e_sldJ dL_law_1800 rfl c204.2 c204.1 ?_
                                                                  refine e_aload_n dL_law_1801 rfl ?_
                                                                  refine e_iload dL_law_1802 rfl ?_
                                                                  refine e_iconst (x := (2 : Int32)) dL_law_1804 (by decide) ?_
                                                                  refine e_iadd dL_law_1805 ?_
                                                                  obtain ⟨c205, h⟩ := grd h
                                                                  refine e_sldJ dL_law_1806 rfl c205.2 c205.1 ?_
                                                                  refine e_aload_n dL_law_1807 rfl ?_
                                                                  refine e_iload dL_law_1808 rfl ?_
                                                                  refine e_iconst (x := (3 : Int32)) dL_law_1810 (by decide) ?_
                                                                  refine e_iadd dL_law_1811 ?_
                                                                  obtain ⟨c206, h⟩ := grd h
                                                                  refine e_sldJ dL_law_1812 rfl c206.2 c206.1 ?_
                                                                  refine e_i2l dL_law_1813 ?_
                                                                  refine e_bipush (x := (32 : Int32)) dL_law_1814 (by decide) ?_
                                                                  refine e_lshl dL_law_1816 ?_
                                                                  refine e_aload_n dL_law_1817 rfl ?_
                                                                  refine e_iload dL_law_1818 rfl ?_
                                                                  refine e_iconst (x := (4 : Int32)) dL_law_1820 (by decide) ?_
                                                                  refine e_iadd dL_law_1821 ?_
                                                                  obtain ⟨c207, h⟩ := grd h
                                                                  refine e_sldJ dL_law_1822 rfl c207.2 c207.1 ?_
                                                                  refine e_i2l dL_law_1823 ?_
                                                                  refine e_ldc2 dL_law_1824 wcL_52 ?_
                                                                  refine e_land dL_law_1827 ?_
                                                                  refine e_lor dL_law_1828 ?_
                                                                  refine e_aload_n dL_law_1829 rfl ?_
                                                                  refine e_iload dL_law_1830 rfl ?_
                                                                  refine e_iconst (x := (5 : Int32)) dL_law_1832 (by decide) ?_
                                                                  refine e_iadd dL_law_1833 ?_
                                                                  obtain ⟨c208, h⟩ := grd h
                                                                  refine e_sldJ dL_law_1834 rfl c208.2 c208.1 ?_
                                                                  obtain ⟨p209, ep209, h⟩ := Option.bind_eq_some_iff.mp h
                                                                  refine c_VI (M' := mX7_dots) [.int (X.2 ((a4 + (1 : Int32)).toNatClampNeg)), .int (X.2 ((a4 + (2 : Int32)).toNatClampNeg)), .long ((((X.2 ((a4 + (3 : Int32)).toNatClampNeg)).toInt64) <<< ((32 : Int32).toInt64 &&& 63)) ||| (((X.2 ((a4 + (4 : Int32)).toNatClampNeg)).toInt64) &&& (4294967295 : Int64))), .int (X.2 ((a4 + (5 : Int32)).toNatClampNeg))] dL_law_1835 rfl wmL_153 imX7_dots seX7_dots lkX7_dots k0_0 rc7 (Nat.le_of_ble_eq_true rfl) ((x_X7_dots  ep209).mono (by omega)) ?_
                                                                  refine e_aload_n dL_law_1838 rfl ?_
                                                                  refine e_aload_n dL_law_1839 rfl ?_
                                                                  refine e_iload dL_law_1840 rfl ?_
                                                                  refine e_iconst (x := (1 : Int32)) dL_law_1842 (by decide) ?_
                                                                  refine e_iadd dL_law_1843 ?_
                                                                  refine e_sldJ dL_law_1844 rfl c204.2 c204.1 ?_
                                                                  refine e_aload_n dL_law_1845 rfl ?_
                                                                  refine e_iload dL_law_1846 rfl ?_
                                                                  refine e_iconst (x := (2 : Int32)) dL_law_1848 (by decide) ?_
                                                                  refine e_iadd dL_law_1849 ?_
                                                                  refine e_sldJ dL_law_1850 rfl c205.2 c205.1 ?_
                                                                  refine e_aload_n dL_law_1851 rfl ?_
                                                                  refine e_iload dL_law_1852 rfl ?_
                                                                  refine e_iconst (x := (3 : Int32)) dL_law_1854 (by decide) ?_
                                                                  refine e_iadd dL_law_1855 ?_
                                                                  refine e_sldJ dL_law_1856 rfl c206.2 c206.1 ?_
                                                                  refine e_i2l dL_law_1857 ?_
                                                                  refine e_bipush (x := (32 : Int32)) dL_law_1858 (by decide) ?_
                                                                  refine e_lshl dL_law_1860 ?_
                                                                  refine e_aload_n dL_law_1861 rfl ?_
                                                                  refine e_iload dL_law_1862 rfl ?_
                                                                  refine e_iconst (x := (4 : Int32)) dL_law_1864 (by decide) ?_
                                                                  refine e_iadd dL_law_1865 ?_
                                                                  refine e_sldJ dL_law_1866 rfl c207.2 c207.1 ?_
                                                                  refine e_i2l dL_law_1867 ?_
                                                                  refine e_ldc2 dL_law_1868 wcL_52 ?_
                                                                  refine e_land dL_law_1871 ?_
                                                                  refine e_lor dL_law_1872 ?_
                                                                  refine e_aload_n dL_law_1873 rfl ?_
                                                                  refine e_iload dL_law_1874 rfl ?_
                                                                  refine e_iconst (x := (5 : Int32)) dL_law_1876 (by decide) ?_
                                                                  refine e_iadd dL_law_1877 ?_
                                                                  refine e_sldJ dL_law_1878 rfl c208.2 c208.1 ?_
                                                                  obtain ⟨p210, ep210, h⟩ := Option.bind_eq_some_iff.mp h
                                                                  refine c_VI (M' := mX8_dots) [.int (X.2 ((a4 + (1 : Int32)).toNatClampNeg)), .int (X.2 ((a4 + (2 : Int32)).toNatClampNeg)), .long ((((X.2 ((a4 + (3 : Int32)).toNatClampNeg)).toInt64) <<< ((32 : Int32).toInt64 &&& 63)) ||| (((X.2 ((a4 + (4 : Int32)).toNatClampNeg)).toInt64) &&& (4294967295 : Int64))), .int (X.2 ((a4 + (5 : Int32)).toNatClampNeg))] dL_law_1879 rfl wmL_157 imX8_dots seX8_dots lkX8_dots k0_174 rc8 (Nat.le_of_ble_eq_true rfl) ((x_X8_dots  ep210).mono (by omega)) ?_
                                                                  refine e_icmp_eq (tgt := 2757) dL_law_1882 (by decide) (fun c211 => ?_) (fun c211 => ?_)
                                                                  · rw [if_pos c211] at h
                                                                    refine e_less (bc' := n * 2) (bs' := n * 16) (by omega) (by omega) ?_
                                                                    exact b_L_law_2757 (fun v a4  hh => ih v a4  hh) h
                                                                  · rw [if_neg c211] at h
                                                                    refine e_iconst (x := (0 : Int32)) dL_law_1885 (by decide) ?_
                                                                    obtain rfl := Option.some.inj h
                                                                    exact e_iret dL_law_1886 rfl rfl ⟨rfl, rfl, rfl⟩
                                                                · rw [if_neg c203] at h
                                                                  have nc203 := tab_ne c203 (k := 29) (by decide)
                                                                  by_cases c212 : ((X.2 a4.toNatClampNeg) &&& (63 : Int32)) = (30 : Int32)
                                                                  · rw [if_pos c212] at h
                                                                    refine e_tabIn (off := 1847) (tgt := 1887) dL_law_40 (by rw [c212]; decide) (by rw [c212]; decide) (by rw [c212]; rfl) (by decide) ?_
                                                                    refine e_aload_n dL_law_1887 rfl ?_
                                                                    refine e_aload_n dL_law_1888 rfl ?_
                                                                    refine e_iload dL_law_1889 rfl ?_
                                                                    refine e_iconst (x := (1 : Int32)) dL_law_1891 (by decide) ?_
                                                                    refine e_iadd dL_law_1892 ?_
                                                                    obtain ⟨c213, h⟩ := grd h
                                                                    refine e_sldJ dL_law_1893 rfl c213.2 c213.1 ?_
                                                                    obtain ⟨p214, ep214, h⟩ := Option.bind_eq_some_iff.mp h
                                                                    refine c_VI (M' := mX7_came) [.int (X.2 ((a4 + (1 : Int32)).toNatClampNeg))] dL_law_1894 rfl wmL_158 imX7_came seX7_came lkX7_came k0_0 rc7 (Nat.le_of_ble_eq_true rfl) ((x_X7_came  ep214).mono (by omega)) ?_
                                                                    refine e_aload_n dL_law_1897 rfl ?_
                                                                    refine e_aload_n dL_law_1898 rfl ?_
                                                                    refine e_iload dL_law_1899 rfl ?_
                                                                    refine e_iconst (x := (1 : Int32)) dL_law_1901 (by decide) ?_
                                                                    refine e_iadd dL_law_1902 ?_
                                                                    refine e_sldJ dL_law_1903 rfl c213.2 c213.1 ?_
                                                                    obtain ⟨p215, ep215, h⟩ := Option.bind_eq_some_iff.mp h
                                                                    refine c_VI (M' := mX8_came) [.int (X.2 ((a4 + (1 : Int32)).toNatClampNeg))] dL_law_1904 rfl wmL_161 imX8_came seX8_came lkX8_came k0_174 rc8 (Nat.le_of_ble_eq_true rfl) ((x_X8_came  ep215).mono (by omega)) ?_
                                                                    refine e_icmp_eq (tgt := 2757) dL_law_1907 (by decide) (fun c216 => ?_) (fun c216 => ?_)
                                                                    · rw [if_pos c216] at h
                                                                      refine e_less (bc' := n * 2) (bs' := n * 16) (by omega) (by omega) ?_
                                                                      exact b_L_law_2757 (fun v a4  hh => ih v a4  hh) h
                                                                    · rw [if_neg c216] at h
                                                                      refine e_iconst (x := (0 : Int32)) dL_law_1910 (by decide) ?_
                                                                      obtain rfl := Option.some.inj h
                                                                      exact e_iret dL_law_1911 rfl rfl ⟨rfl, rfl, rfl⟩
                                                                  · rw [if_neg c212] at h
                                                                    have nc212 := tab_ne c212 (k := 30) (by decide)
                                                                    by_cases c217 : ((X.2 a4.toNatClampNeg) &&& (63 : Int32)) = (31 : Int32)
                                                                    · rw [if_pos c217] at h
                                                                      refine e_tabIn (off := 1872) (tgt := 1912) dL_law_40 (by rw [c217]; decide) (by rw [c217]; decide) (by rw [c217]; rfl) (by decide) ?_
                                                                      refine e_aload_n dL_law_1912 rfl ?_
                                                                      refine e_aload_n dL_law_1913 rfl ?_
                                                                      refine e_iload dL_law_1914 rfl ?_
                                                                      refine e_iconst (x := (1 : Int32)) dL_law_1916 (by decide) ?_
                                                                      refine e_iadd dL_law_1917 ?_
                                                                      obtain ⟨c218, h⟩ := grd h
                                                                      refine e_sldJ dL_law_1918 rfl c218.2 c218.1 ?_
                                                                      obtain ⟨p219, ep219, h⟩ := Option.bind_eq_some_iff.mp h
                                                                      refine c_VI (M' := mX7_middle) [.int (X.2 ((a4 + (1 : Int32)).toNatClampNeg))] dL_law_1919 rfl wmL_162 imX7_middle seX7_middle lkX7_middle k0_0 rc7 (Nat.le_of_ble_eq_true rfl) ((x_X7_middle  ep219).mono (by omega)) ?_
                                                                      refine e_aload_n dL_law_1922 rfl ?_
                                                                      refine e_aload_n dL_law_1923 rfl ?_
                                                                      refine e_iload dL_law_1924 rfl ?_
                                                                      refine e_iconst (x := (1 : Int32)) dL_law_1926 (by decide) ?_
                                                                      refine e_iadd dL_law_1927 ?_
                                                                      refine e_sldJ dL_law_1928 rfl c218.2 c218.1 ?_
                                                                      obtain ⟨p220, ep220, h⟩ := Option.bind_eq_some_iff.mp h
                                                                      refine c_VI (M' := mX8_middle) [.int (X.2 ((a4 + (1 : Int32)).toNatClampNeg))] dL_law_1929 rfl wmL_165 imX8_middle seX8_middle lkX8_middle k0_174 rc8 (Nat.le_of_ble_eq_true rfl) ((x_X8_middle  ep220).mono (by omega)) ?_
                                                                      refine e_icmp_eq (tgt := 2757) dL_law_1932 (by decide) (fun c221 => ?_) (fun c221 => ?_)
                                                                      · rw [if_pos c221] at h
                                                                        refine e_less (bc' := n * 2) (bs' := n * 16) (by omega) (by omega) ?_
                                                                        exact b_L_law_2757 (fun v a4  hh => ih v a4  hh) h
                                                                      · rw [if_neg c221] at h
                                                                        refine e_iconst (x := (0 : Int32)) dL_law_1935 (by decide) ?_
                                                                        obtain rfl := Option.some.inj h
                                                                        exact e_iret dL_law_1936 rfl rfl ⟨rfl, rfl, rfl⟩
                                                                    · rw [if_neg c217] at h
                                                                      have nc217 := tab_ne c217 (k := 31) (by decide)
                                                                      by_cases c222 : ((X.2 a4.toNatClampNeg) &&& (63 : Int32)) = (32 : Int32)
                                                                      · rw [if_pos c222] at h
                                                                        refine e_tabIn (off := 1897) (tgt := 1937) dL_law_40 (by rw [c222]; decide) (by rw [c222]; decide) (by rw [c222]; rfl) (by decide) ?_
                                                                        refine e_aload_n dL_law_1937 rfl ?_
                                                                        refine e_aload_n dL_law_1938 rfl ?_
                                                                        refine e_iload dL_law_1939 rfl ?_
                                                                        refine e_iconst (x := (1 : Int32)) dL_law_1941 (by decide) ?_
                                                                        refine e_iadd dL_law_1942 ?_
                                                                        obtain ⟨c223, h⟩ := grd h
                                                                        refine e_sldJ dL_law_1943 rfl c223.2 c223.1 ?_
                                                                        refine e_aload_n dL_law_1944 rfl ?_
                                                                        refine e_iload dL_law_1945 rfl ?_
                                                                        refine e_iconst (x := (2 : Int32)) dL_law_1947 (by decide) ?_
                                                                        refine e_iadd dL_law_1948 ?_
                                                                        obtain ⟨c224, h⟩ := grd h
                                                                        refine e_sldJ dL_law_1949 rfl c224.2 c224.1 ?_
                                                                        refine e_aload_n dL_law_1950 rfl ?_
                                                                        refine e_iload dL_law_1951 rfl ?_
                                                                        refine e_iconst (x := (3 : Int32)) dL_law_1953 (by decide) ?_
                                                                        refine e_iadd dL_law_1954 ?_
                                                                        obtain ⟨c225, h⟩ := grd h
                                                                        refine e_sldJ dL_law_1955 rfl c225.2 c225.1 ?_
                                                                        refine e_i2l dL_law_1956 ?_
                                                                        refine e_bipush (x := (32 : Int32)) dL_law_1957 (by decide) ?_
                                                                        refine e_lshl dL_law_1959 ?_
                                                                        refine e_aload_n dL_law_1960 rfl ?_
                                                                        refine e_iload dL_law_1961 rfl ?_
                                                                        refine e_iconst (x := (4 : Int32)) dL_law_1963 (by decide) ?_
                                                                        refine e_iadd dL_law_1964 ?_
                                                                        obtain ⟨c226, h⟩ := grd h
                                                                        refine e_sldJ dL_law_1965 rfl c226.2 c226.1 ?_
                                                                        refine e_i2l dL_law_1966 ?_
                                                                        refine e_ldc2 dL_law_1967 wcL_52 ?_
                                                                        refine e_land dL_law_1970 ?_
                                                                        refine e_lor dL_law_1971 ?_
                                                                        obtain ⟨p227, ep227, h⟩ := Option.bind_eq_some_iff.mp h
                                                                        refine c_VI (M' := mX7_dry) [.int (X.2 ((a4 + (1 : Int32)).toNatClampNeg)), .int (X.2 ((a4 + (2 : Int32)).toNatClampNeg)), .long ((((X.2 ((a4 + (3 : Int32)).toNatClampNeg)).toInt64) <<< ((32 : Int32).toInt64 &&& 63)) ||| (((X.2 ((a4 + (4 : Int32)).toNatClampNeg)).toInt64) &&& (4294967295 : Int64)))] dL_law_1972 rfl wmL_166 imX7_dry seX7_dry lkX7_dry k0_0 rc7 (Nat.le_of_ble_eq_true rfl) ((x_X7_dry  ep227).mono (by omega)) ?_
                                                                        refine e_aload_n dL_law_1975 rfl ?_
                                                                        refine e_aload_n dL_law_1976 rfl ?_
                                                                        refine e_iload dL_law_1977 rfl ?_
                                                                        refine e_iconst (x := (1 : Int32)) dL_law_1979 (by decide) ?_
                                                                        refine e_iadd dL_law_1980 ?_
                                                                        refine e_sldJ dL_law_1981 rfl c223.2 c223.1 ?_
                                                                        refine e_aload_n dL_law_1982 rfl ?_
                                                                        refine e_iload dL_law_1983 rfl ?_
                                                                        refine e_iconst (x := (2 : Int32)) dL_law_1985 (by decide) ?_
                                                                        refine e_iadd dL_law_1986 ?_
                                                                        refine e_sldJ dL_law_1987 rfl c224.2 c224.1 ?_
                                                                        refine e_aload_n dL_law_1988 rfl ?_
                                                                        refine e_iload dL_law_1989 rfl ?_
                                                                        refine e_iconst (x := (3 : Int32)) dL_law_1991 (by decide) ?_
                                                                        refine e_iadd dL_law_1992 ?_
                                                                        refine e_sldJ dL_law_1993 rfl c225.2 c225.1 ?_
                                                                        refine e_i2l dL_law_1994 ?_
                                                                        refine e_bipush (x := (32 : Int32)) dL_law_1995 (by decide) ?_
                                                                        refine e_lshl dL_law_1997 ?_
                                                                        refine e_aload_n dL_law_1998 rfl ?_
                                                                        refine e_iload dL_law_1999 rfl ?_
                                                                        refine e_iconst (x := (4 : Int32)) dL_law_2001 (by decide) ?_
                                                                        refine e_iadd dL_law_2002 ?_
                                                                        refine e_sldJ dL_law_2003 rfl c226.2 c226.1 ?_
                                                                        refine e_i2l dL_law_2004 ?_
                                                                        refine e_ldc2 dL_law_2005 wcL_52 ?_
                                                                        refine e_land dL_law_2008 ?_
                                                                        refine e_lor dL_law_2009 ?_
                                                                        obtain ⟨p228, ep228, h⟩ := Option.bind_eq_some_iff.mp h
                                                                        refine c_VI (M' := mX8_dry) [.int (X.2 ((a4 + (1 : Int32)).toNatClampNeg)), .int (X.2 ((a4 + (2 : Int32)).toNatClampNeg)), .long ((((X.2 ((a4 + (3 : Int32)).toNatClampNeg)).toInt64) <<< ((32 : Int32).toInt64 &&& 63)) ||| (((X.2 ((a4 + (4 : Int32)).toNatClampNeg)).toInt64) &&& (4294967295 : Int64)))] dL_law_2010 rfl wmL_169 imX8_dry seX8_dry lkX8_dry k0_174 rc8 (Nat.le_of_ble_eq_true rfl) ((x_X8_dry  ep228).mono (by omega)) ?_
                                                                        refine e_icmp_eq (tgt := 2757) dL_law_2013 (by decide) (fun c229 => ?_) (fun c229 => ?_)
                                                                        · rw [if_pos c229] at h
                                                                          refine e_less (bc' := n * 2) (bs' := n * 16) (by omega) (by omega) ?_
                                                                          exact b_L_law_2757 (fun v a4  hh => ih v a4  hh) h
                                                                        · rw [if_neg c229] at h
                                                                          refine e_iconst (x := (0 : Int32)) dL_law_2016 (by decide) ?_
                                                                          obtain rfl := Option.some.inj h
                                                                          exact e_iret dL_law_2017 rfl rfl ⟨rfl, rfl, rfl⟩
                                                                      · rw [if_neg c222] at h
                                                                        have nc222 := tab_ne c222 (k := 32) (by decide)
                                                                        by_cases c230 : ((X.2 a4.toNatClampNeg) &&& (63 : Int32)) = (33 : Int32)
                                                                        · rw [if_pos c230] at h
                                                                          refine e_tabIn (off := 1978) (tgt := 2018) dL_law_40 (by rw [c230]; decide) (by rw [c230]; decide) (by rw [c230]; rfl) (by decide) ?_
                                                                          refine e_aload_n dL_law_2018 rfl ?_
                                                                          refine e_aload_n dL_law_2019 rfl ?_
                                                                          refine e_iload dL_law_2020 rfl ?_
                                                                          refine e_iconst (x := (1 : Int32)) dL_law_2022 (by decide) ?_
                                                                          refine e_iadd dL_law_2023 ?_
                                                                          obtain ⟨c231, h⟩ := grd h
                                                                          refine e_sldJ dL_law_2024 rfl c231.2 c231.1 ?_
                                                                          refine e_aload_n dL_law_2025 rfl ?_
                                                                          refine e_iload dL_law_2026 rfl ?_
                                                                          refine e_iconst (x := (2 : Int32)) dL_law_2028 (by decide) ?_
                                                                          refine e_iadd dL_law_2029 ?_
                                                                          obtain ⟨c232, h⟩ := grd h
                                                                          refine e_sldJ dL_law_2030 rfl c232.2 c232.1 ?_
                                                                          refine e_aload_n dL_law_2031 rfl ?_
                                                                          refine e_iload dL_law_2032 rfl ?_
                                                                          refine e_iconst (x := (3 : Int32)) dL_law_2034 (by decide) ?_
                                                                          refine e_iadd dL_law_2035 ?_
                                                                          obtain ⟨c233, h⟩ := grd h
                                                                          refine e_sldJ dL_law_2036 rfl c233.2 c233.1 ?_
                                                                          refine e_aload_n dL_law_2037 rfl ?_
                                                                          refine e_iload dL_law_2038 rfl ?_
                                                                          refine e_iconst (x := (4 : Int32)) dL_law_2040 (by decide) ?_
                                                                          refine e_iadd dL_law_2041 ?_
                                                                          obtain ⟨c234, h⟩ := grd h
                                                                          refine e_sldJ dL_law_2042 rfl c234.2 c234.1 ?_
                                                                          refine e_i2l dL_law_2043 ?_
                                                                          refine e_bipush (x := (32 : Int32)) dL_law_2044 (by decide) ?_
                                                                          refine e_lshl dL_law_2046 ?_
                                                                          refine e_aload_n dL_law_2047 rfl ?_
                                                                          refine e_iload dL_law_2048 rfl ?_
                                                                          refine e_iconst (x := (5 : Int32)) dL_law_2050 (by decide) ?_
                                                                          refine e_iadd dL_law_2051 ?_
                                                                          obtain ⟨c235, h⟩ := grd h
                                                                          refine e_sldJ dL_law_2052 rfl c235.2 c235.1 ?_
                                                                          refine e_i2l dL_law_2053 ?_
                                                                          refine e_ldc2 dL_law_2054 wcL_52 ?_
                                                                          refine e_land dL_law_2057 ?_
                                                                          refine e_lor dL_law_2058 ?_
                                                                          refine e_aload_n dL_law_2059 rfl ?_
                                                                          refine e_iload dL_law_2060 rfl ?_
                                                                          refine e_bipush (x := (6 : Int32)) dL_law_2062 (by decide) ?_
                                                                          refine e_iadd dL_law_2064 ?_
                                                                          obtain ⟨c236, h⟩ := grd h
                                                                          refine e_sldJ dL_law_2065 rfl c236.2 c236.1 ?_
                                                                          refine e_aload_n dL_law_2066 rfl ?_
                                                                          refine e_iload dL_law_2067 rfl ?_
                                                                          refine e_bipush (x := (7 : Int32)) dL_law_2069 (by decide) ?_
                                                                          refine e_iadd dL_law_2071 ?_
                                                                          obtain ⟨c237, h⟩ := grd h
                                                                          refine e_sldJ dL_law_2072 rfl c237.2 c237.1 ?_
                                                                          obtain ⟨p238, ep238, h⟩ := Option.bind_eq_some_iff.mp h
                                                                          refine c_VI (M' := mX7_luck) [.int (X.2 ((a4 + (1 : Int32)).toNatClampNeg)), .int (X.2 ((a4 + (2 : Int32)).toNatClampNeg)), .int (X.2 ((a4 + (3 : Int32)).toNatClampNeg)), .long ((((X.2 ((a4 + (4 : Int32)).toNatClampNeg)).toInt64) <<< ((32 : Int32).toInt64 &&& 63)) ||| (((X.2 ((a4 + (5 : Int32)).toNatClampNeg)).toInt64) &&& (4294967295 : Int64))), .int (X.2 ((a4 + (6 : Int32)).toNatClampNeg)), .int (X.2 ((a4 + (7 : Int32)).toNatClampNeg))] dL_law_2073 rfl wmL_170 imX7_luck seX7_luck lkX7_luck k0_0 rc7 (Nat.le_of_ble_eq_true rfl) ((x_X7_luck  ep238).mono (by omega)) ?_
                                                                          refine e_aload_n dL_law_2076 rfl ?_
                                                                          refine e_aload_n dL_law_2077 rfl ?_
                                                                          refine e_iload dL_law_2078 rfl ?_
                                                                          refine e_iconst (x := (1 : Int32)) dL_law_2080 (by decide) ?_
                                                                          refine e_iadd dL_law_2081 ?_
                                                                          refine e_sldJ dL_law_2082 rfl c231.2 c231.1 ?_
                                                                          refine e_aload_n dL_law_2083 rfl ?_
                                                                          refine e_iload dL_law_2084 rfl ?_
                                                                          refine e_iconst (x := (2 : Int32)) dL_law_2086 (by decide) ?_
                                                                          refine e_iadd dL_law_2087 ?_
                                                                          refine e_sldJ dL_law_2088 rfl c232.2 c232.1 ?_
                                                                          refine e_aload_n dL_law_2089 rfl ?_
                                                                          refine e_iload dL_law_2090 rfl ?_
                                                                          refine e_iconst (x := (3 : Int32)) dL_law_2092 (by decide) ?_
                                                                          refine e_iadd dL_law_2093 ?_
                                                                          refine e_sldJ dL_law_2094 rfl c233.2 c233.1 ?_
                                                                          refine e_aload_n dL_law_2095 rfl ?_
                                                                          refine e_iload dL_law_2096 rfl ?_
                                                                          refine e_iconst (x := (4 : Int32)) dL_law_2098 (by decide) ?_
                                                                          refine e_iadd dL_law_2099 ?_
                                                                          refine e_sldJ dL_law_2100 rfl c234.2 c234.1 ?_
                                                                          refine e_i2l dL_law_2101 ?_
                                                                          refine e_bipush (x := (32 : Int32)) dL_law_2102 (by decide) ?_
                                                                          refine e_lshl dL_law_2104 ?_
                                                                          refine e_aload_n dL_law_2105 rfl ?_
                                                                          refine e_iload dL_law_2106 rfl ?_
                                                                          refine e_iconst (x := (5 : Int32)) dL_law_2108 (by decide) ?_
                                                                          refine e_iadd dL_law_2109 ?_
                                                                          refine e_sldJ dL_law_2110 rfl c235.2 c235.1 ?_
                                                                          refine e_i2l dL_law_2111 ?_
                                                                          refine e_ldc2 dL_law_2112 wcL_52 ?_
                                                                          refine e_land dL_law_2115 ?_
                                                                          refine e_lor dL_law_2116 ?_
                                                                          refine e_aload_n dL_law_2117 rfl ?_
                                                                          refine e_iload dL_law_2118 rfl ?_
                                                                          refine e_bipush (x := (6 : Int32)) dL_law_2120 (by decide) ?_
                                                                          refine e_iadd dL_law_2122 ?_
                                                                          refine e_sldJ dL_law_2123 rfl c236.2 c236.1 ?_
                                                                          refine e_aload_n dL_law_2124 rfl ?_
                                                                          refine e_iload dL_law_2125 rfl ?_
                                                                          refine e_bipush (x := (7 : Int32)) dL_law_2127 (by decide) ?_
                                                                          refine e_iadd dL_law_2129 ?_
                                                                          refine e_sldJ dL_law_2130 rfl c237.2 c237.1 ?_
                                                                          obtain ⟨p239, ep239, h⟩ := Option.bind_eq_some_iff.mp h
                                                                          refine c_VI (M' := mX8_luck) [.int (X.2 ((a4 + (1 : Int32)).toNatClampNeg)), .int (X.2 ((a4 + (2 : Int32)).toNatClampNeg)), .int (X.2 ((a4 + (3 : Int32)).toNatClampNeg)), .long ((((X.2 ((a4 + (4 : Int32)).toNatClampNeg)).toInt64) <<< ((32 : Int32).toInt64 &&& 63)) ||| (((X.2 ((a4 + (5 : Int32)).toNatClampNeg)).toInt64) &&& (4294967295 : Int64))), .int (X.2 ((a4 + (6 : Int32)).toNatClampNeg)), .int (X.2 ((a4 + (7 : Int32)).toNatClampNeg))] dL_law_2131 rfl wmL_173 imX8_luck seX8_luck lkX8_luck k0_174 rc8 (Nat.le_of_ble_eq_true rfl) ((x_X8_luck  ep239).mono (by omega)) ?_
                                                                          refine e_icmp_eq (tgt := 2757) dL_law_2134 (by decide) (fun c240 => ?_) (fun c240 => ?_)
                                                                          · rw [if_pos c240] at h
                                                                            refine e_less (bc' := n * 2) (bs' := n * 16) (by omega) (by omega) ?_
                                                                            exact b_L_law_2757 (fun v a4  hh => ih v a4  hh) h
                                                                          · rw [if_neg c240] at h
                                                                            refine e_iconst (x := (0 : Int32)) dL_law_2137 (by decide) ?_
                                                                            obtain rfl := Option.some.inj h
                                                                            exact e_iret dL_law_2138 rfl rfl ⟨rfl, rfl, rfl⟩
                                                                        · rw [if_neg c230] at h
                                                                          have nc230 := tab_ne c230 (k := 33) (by decide)
                                                                          by_cases c241 : ((X.2 a4.toNatClampNeg) &&& (63 : Int32)) = (34 : Int32)
                                                                          · rw [if_pos c241] at h
                                                                            refine e_tabIn (off := 2099) (tgt := 2139) dL_law_40 (by rw [c241]; decide) (by rw [c241]; decide) (by rw [c241]; rfl) (by decide) ?_
                                                                            refine e_aload_n dL_law_2139 rfl ?_
                                                                            refine e_aload_n dL_law_2140 rfl ?_
                                                                            refine e_iload dL_law_2141 rfl ?_
                                                                            refine e_iconst (x := (1 : Int32)) dL_law_2143 (by decide) ?_
                                                                            refine e_iadd dL_law_2144 ?_
                                                                            obtain ⟨c242, h⟩ := grd h
                                                                            refine e_sldJ dL_law_2145 rfl c242.2 c242.1 ?_
                                                                            refine e_aload_n dL_law_2146 rfl ?_
                                                                            refine e_iload dL_law_2147 rfl ?_
                                                                            refine e_iconst (x := (2 : Int32)) dL_law_2149 (by decide) ?_
                                                                            refine e_iadd dL_law_2150 ?_
                                                                            obtain ⟨c243, h⟩ := grd h
                                                                            refine e_sldJ dL_law_2151 rfl c243.2 c243.1 ?_
                                                                            refine e_aload_n dL_law_2152 rfl ?_
                                                                            refine e_iload dL_law_2153 rfl ?_
                                                                            refine e_iconst (x := (3 : Int32)) dL_law_2155 (by decide) ?_
                                                                            refine e_iadd dL_law_2156 ?_
                                                                            obtain ⟨c244, h⟩ := grd h
                                                                            refine e_sldJ dL_law_2157 rfl c244.2 c244.1 ?_
                                                                            refine e_aload_n dL_law_2158 rfl ?_
                                                                            refine e_iload dL_law_2159 rfl ?_
                                                                            refine e_iconst (x := (4 : Int32)) dL_law_2161 (by decide) ?_
                                                                            refine e_iadd dL_law_2162 ?_
                                                                            obtain ⟨c245, h⟩ := grd h
                                                                            refine e_sldJ dL_law_2163 rfl c245.2 c245.1 ?_
                                                                            refine e_aload_n dL_law_2164 rfl ?_
                                                                            refine e_iload dL_law_2165 rfl ?_
                                                                            refine e_iconst (x := (5 : Int32)) dL_law_2167 (by decide) ?_
                                                                            refine e_iadd dL_law_2168 ?_
                                                                            obtain ⟨c246, h⟩ := grd h
                                                                            refine e_sldJ dL_law_2169 rfl c246.2 c246.1 ?_
                                                                            refine e_aload_n dL_law_2170 rfl ?_
                                                                            refine e_iload dL_law_2171 rfl ?_
                                                                            refine e_bipush (x := (6 : Int32)) dL_law_2173 (by decide) ?_
                                                                            refine e_iadd dL_law_2175 ?_
                                                                            obtain ⟨c247, h⟩ := grd h
                                                                            refine e_sldJ dL_law_2176 rfl c247.2 c247.1 ?_
                                                                            refine e_aload_n dL_law_2177 rfl ?_
                                                                            refine e_iload dL_law_2178 rfl ?_
                                                                            refine e_bipush (x := (7 : Int32)) dL_law_2180 (by decide) ?_
                                                                            refine e_iadd dL_law_2182 ?_
                                                                            obtain ⟨c248, h⟩ := grd h
                                                                            refine e_sldJ dL_law_2183 rfl c248.2 c248.1 ?_
                                                                            refine e_i2l dL_law_2184 ?_
                                                                            refine e_bipush (x := (32 : Int32)) dL_law_2185 (by decide) ?_
                                                                            refine e_lshl dL_law_2187 ?_
                                                                            refine e_aload_n dL_law_2188 rfl ?_
                                                                            refine e_iload dL_law_2189 rfl ?_
                                                                            refine e_bipush (x := (8 : Int32)) dL_law_2191 (by decide) ?_
                                                                            refine e_iadd dL_law_2193 ?_
                                                                            obtain ⟨c249, h⟩ := grd h
                                                                            refine e_sldJ dL_law_2194 rfl c249.2 c249.1 ?_
                                                                            refine e_i2l dL_law_2195 ?_
                                                                            refine e_ldc2 dL_law_2196 wcL_52 ?_
                                                                            refine e_land dL_law_2199 ?_
                                                                            refine e_lor dL_law_2200 ?_
                                                                            refine e_aload_n dL_law_2201 rfl ?_
                                                                            refine e_iload dL_law_2202 rfl ?_
                                                                            refine e_bipush (x := (9 : Int32)) dL_law_2204 (by decide) ?_
                                                                            refine e_iadd dL_law_2206 ?_
                                                                            obtain ⟨c250, h⟩ := grd h
                                                                            refine e_sldJ dL_law_2207 rfl c250.2 c250.1 ?_
                                                                            obtain ⟨p251, ep251, h⟩ := Option.bind_eq_some_iff.mp h
                                                                            refine c_VI (M' := mX7_line) [.int (X.2 ((a4 + (1 : Int32)).toNatClampNeg)), .int (X.2 ((a4 + (2 : Int32)).toNatClampNeg)), .int (X.2 ((a4 + (3 : Int32)).toNatClampNeg)), .int (X.2 ((a4 + (4 : Int32)).toNatClampNeg)), .int (X.2 ((a4 + (5 : Int32)).toNatClampNeg)), .int (X.2 ((a4 + (6 : Int32)).toNatClampNeg)), .long ((((X.2 ((a4 + (7 : Int32)).toNatClampNeg)).toInt64) <<< ((32 : Int32).toInt64 &&& 63)) ||| (((X.2 ((a4 + (8 : Int32)).toNatClampNeg)).toInt64) &&& (4294967295 : Int64))), .int (X.2 ((a4 + (9 : Int32)).toNatClampNeg))] dL_law_2208 rfl wmL_174 imX7_line seX7_line lkX7_line k0_0 rc7 (Nat.le_of_ble_eq_true rfl) ((x_X7_line  ep251).mono (by omega)) ?_
                                                                            refine e_aload_n dL_law_2211 rfl ?_
                                                                            refine e_aload_n dL_law_2212 rfl ?_
                                                                            refine e_iload dL_law_2213 rfl ?_
                                                                            refine e_iconst (x := (1 : Int32)) dL_law_2215 (by decide) ?_
                                                                            refine e_iadd dL_law_2216 ?_
                                                                            refine e_sldJ dL_law_2217 rfl c242.2 c242.1 ?_
                                                                            refine e_aload_n dL_law_2218 rfl ?_
                                                                            refine e_iload dL_law_2219 rfl ?_
                                                                            refine e_iconst (x := (2 : Int32)) dL_law_2221 (by decide) ?_
                                                                            refine e_iadd dL_law_2222 ?_
                                                                            refine e_sldJ dL_law_2223 rfl c243.2 c243.1 ?_
                                                                            refine e_aload_n dL_law_2224 rfl ?_
                                                                            refine e_iload dL_law_2225 rfl ?_
                                                                            refine e_iconst (x := (3 : Int32)) dL_law_2227 (by decide) ?_
                                                                            refine e_iadd dL_law_2228 ?_
                                                                            refine e_sldJ dL_law_2229 rfl c244.2 c244.1 ?_
                                                                            refine e_aload_n dL_law_2230 rfl ?_
                                                                            refine e_iload dL_law_2231 rfl ?_
                                                                            refine e_iconst (x := (4 : Int32)) dL_law_2233 (by decide) ?_
                                                                            refine e_iadd dL_law_2234 ?_
                                                                            refine e_sldJ dL_law_2235 rfl c245.2 c245.1 ?_
                                                                            refine e_aload_n dL_law_2236 rfl ?_
                                                                            refine e_iload dL_law_2237 rfl ?_
                                                                            refine e_iconst (x := (5 : Int32)) dL_law_2239 (by decide) ?_
                                                                            refine e_iadd dL_law_2240 ?_
                                                                            refine e_sldJ dL_law_2241 rfl c246.2 c246.1 ?_
                                                                            refine e_aload_n dL_law_2242 rfl ?_
                                                                            refine e_iload dL_law_2243 rfl ?_
                                                                            refine e_bipush (x := (6 : Int32)) dL_law_2245 (by decide) ?_
                                                                            refine e_iadd dL_law_2247 ?_
                                                                            refine e_sldJ dL_law_2248 rfl c247.2 c247.1 ?_
                                                                            refine e_aload_n dL_law_2249 rfl ?_
                                                                            refine e_iload dL_law_2250 rfl ?_
                                                                            refine e_bipush (x := (7 : Int32)) dL_law_2252 (by decide) ?_
                                                                            refine e_iadd dL_law_2254 ?_
                                                                            refine e_sldJ dL_law_2255 rfl c248.2 c248.1 ?_
                                                                            refine e_i2l dL_law_2256 ?_
                                                                            refine e_bipush (x := (32 : Int32)) dL_law_2257 (by decide) ?_
                                                                            refine e_lshl dL_law_2259 ?_
                                                                            refine e_aload_n dL_law_2260 rfl ?_
                                                                            refine e_iload dL_law_2261 rfl ?_
                                                                            refine e_bipush (x := (8 : Int32)) dL_law_2263 (by decide) ?_
                                                                            refine e_iadd dL_law_2265 ?_
                                                                            refine e_sldJ dL_law_2266 rfl c249.2 c249.1 ?_
                                                                            refine e_i2l dL_law_2267 ?_
                                                                            refine e_ldc2 dL_law_2268 wcL_52 ?_
                                                                            refine e_land dL_law_2271 ?_
                                                                            refine e_lor dL_law_2272 ?_
                                                                            refine e_aload_n dL_law_2273 rfl ?_
                                                                            refine e_iload dL_law_2274 rfl ?_
                                                                            refine e_bipush (x := (9 : Int32)) dL_law_2276 (by decide) ?_
                                                                            refine e_iadd dL_law_2278 ?_
                                                                            refine e_sldJ dL_law_2279 rfl c250.2 c250.1 ?_
                                                                            obtain ⟨p252, ep252, h⟩ := Option.bind_eq_some_iff.mp h
                                                                            refine c_VI (M' := mX8_line) [.int (X.2 ((a4 + (1 : Int32)).toNatClampNeg)), .int (X.2 ((a4 + (2 : Int32)).toNatClampNeg)), .int (X.2 ((a4 + (3 : Int32)).toNatClampNeg)), .int (X.2 ((a4 + (4 : Int32)).toNatClampNeg)), .int (X.2 ((a4 + (5 : Int32)).toNatClampNeg)), .int (X.2 ((a4 + (6 : Int32)).toNatClampNeg)), .long ((((X.2 ((a4 + (7 : Int32)).toNatClampNeg)).toInt64) <<< ((32 : Int32).toInt64 &&& 63)) ||| (((X.2 ((a4 + (8 : Int32)).toNatClampNeg)).toInt64) &&& (4294967295 : Int64))), .int (X.2 ((a4 + (9 : Int32)).toNatClampNeg))] dL_law_2280 rfl wmL_178 imX8_line seX8_line lkX8_line k0_174 rc8 (Nat.le_of_ble_eq_true rfl) ((x_X8_line  ep252).mono (by omega)) ?_
                                                                            refine e_icmp_eq (tgt := 2757) dL_law_2283 (by decide) (fun c253 => ?_) (fun c253 => ?_)
                                                                            · rw [if_pos c253] at h
                                                                              refine e_less (bc' := n * 2) (bs' := n * 16) (by omega) (by omega) ?_
                                                                              exact b_L_law_2757 (fun v a4  hh => ih v a4  hh) h
                                                                            · rw [if_neg c253] at h
                                                                              refine e_iconst (x := (0 : Int32)) dL_law_2286 (by decide) ?_
                                                                              obtain rfl := Option.some.inj h
                                                                              exact e_iret dL_law_2287 rfl rfl ⟨rfl, rfl, rfl⟩
                                                                          · rw [if_neg c241] at h
                                                                            have nc241 := tab_ne c241 (k := 34) (by decide)
                                                                            by_cases c254 : ((X.2 a4.toNatClampNeg) &&& (63 : Int32)) = (35 : Int32)
                                                                            · rw [if_pos c254] at h
                                                                              refine e_tabIn (off := 2248) (tgt := 2288) dL_law_40 (by rw [c254]; decide) (by rw [c254]; decide) (by rw [c254]; rfl) (by decide) ?_
                                                                              refine e_aload_n dL_law_2288 rfl ?_
                                                                              refine e_aload_n dL_law_2289 rfl ?_
                                                                              refine e_iload dL_law_2290 rfl ?_
                                                                              refine e_iconst (x := (1 : Int32)) dL_law_2292 (by decide) ?_
                                                                              refine e_iadd dL_law_2293 ?_
                                                                              obtain ⟨c255, h⟩ := grd h
                                                                              refine e_sldJ dL_law_2294 rfl c255.2 c255.1 ?_
                                                                              refine e_aload_n dL_law_2295 rfl ?_
                                                                              refine e_iload dL_law_2296 rfl ?_
                                                                              refine e_iconst (x := (2 : Int32)) dL_law_2298 (by decide) ?_
                                                                              refine e_iadd dL_law_2299 ?_
                                                                              obtain ⟨c256, h⟩ := grd h
                                                                              refine e_sldJ dL_law_2300 rfl c256.2 c256.1 ?_
                                                                              refine e_aload_n dL_law_2301 rfl ?_
                                                                              refine e_iload dL_law_2302 rfl ?_
                                                                              refine e_iconst (x := (3 : Int32)) dL_law_2304 (by decide) ?_
                                                                              refine e_iadd dL_law_2305 ?_
                                                                              obtain ⟨c257, h⟩ := grd h
                                                                              refine e_sldJ dL_law_2306 rfl c257.2 c257.1 ?_
                                                                              refine e_aload_n dL_law_2307 rfl ?_
                                                                              refine e_iload dL_law_2308 rfl ?_
                                                                              refine e_iconst (x := (4 : Int32)) dL_law_2310 (by decide) ?_
                                                                              refine e_iadd dL_law_2311 ?_
                                                                              obtain ⟨c258, h⟩ := grd h
                                                                              refine e_sldJ dL_law_2312 rfl c258.2 c258.1 ?_
                                                                              refine e_i2l dL_law_2313 ?_
                                                                              refine e_bipush (x := (32 : Int32)) dL_law_2314 (by decide) ?_
                                                                              refine e_lshl dL_law_2316 ?_
                                                                              refine e_aload_n dL_law_2317 rfl ?_
                                                                              refine e_iload dL_law_2318 rfl ?_
                                                                              refine e_iconst (x := (5 : Int32)) dL_law_2320 (by decide) ?_
                                                                              refine e_iadd dL_law_2321 ?_
                                                                              obtain ⟨c259, h⟩ := grd h
                                                                              refine e_sldJ dL_law_2322 rfl c259.2 c259.1 ?_
                                                                              refine e_i2l dL_law_2323 ?_
                                                                              refine e_ldc2 dL_law_2324 wcL_52 ?_
                                                                              refine e_land dL_law_2327 ?_
                                                                              refine e_lor dL_law_2328 ?_
                                                                              refine e_aload_n dL_law_2329 rfl ?_
                                                                              refine e_iload dL_law_2330 rfl ?_
                                                                              refine e_bipush (x := (6 : Int32)) dL_law_2332 (by decide) ?_
                                                                              refine e_iadd dL_law_2334 ?_
                                                                              obtain ⟨c260, h⟩ := grd h
                                                                              refine e_sldJ dL_law_2335 rfl c260.2 c260.1 ?_
                                                                              obtain ⟨p261, ep261, h⟩ := Option.bind_eq_some_iff.mp h
                                                                              refine c_VI (M' := mX7_alike) [.int (X.2 ((a4 + (1 : Int32)).toNatClampNeg)), .int (X.2 ((a4 + (2 : Int32)).toNatClampNeg)), .int (X.2 ((a4 + (3 : Int32)).toNatClampNeg)), .long ((((X.2 ((a4 + (4 : Int32)).toNatClampNeg)).toInt64) <<< ((32 : Int32).toInt64 &&& 63)) ||| (((X.2 ((a4 + (5 : Int32)).toNatClampNeg)).toInt64) &&& (4294967295 : Int64))), .int (X.2 ((a4 + (6 : Int32)).toNatClampNeg))] dL_law_2336 rfl wmL_179 imX7_alike seX7_alike lkX7_alike k0_0 rc7 (Nat.le_of_ble_eq_true rfl) ((x_X7_alike  ep261).mono (by omega)) ?_
                                                                              refine e_aload_n dL_law_2339 rfl ?_
                                                                              refine e_aload_n dL_law_2340 rfl ?_
                                                                              refine e_iload dL_law_2341 rfl ?_
                                                                              refine e_iconst (x := (1 : Int32)) dL_law_2343 (by decide) ?_
                                                                              refine e_iadd dL_law_2344 ?_
                                                                              refine e_sldJ dL_law_2345 rfl c255.2 c255.1 ?_
                                                                              refine e_aload_n dL_law_2346 rfl ?_
                                                                              refine e_iload dL_law_2347 rfl ?_
                                                                              refine e_iconst (x := (2 : Int32)) dL_law_2349 (by decide) ?_
                                                                              refine e_iadd dL_law_2350 ?_
                                                                              refine e_sldJ dL_law_2351 rfl c256.2 c256.1 ?_
                                                                              refine e_aload_n dL_law_2352 rfl ?_
                                                                              refine e_iload dL_law_2353 rfl ?_
                                                                              refine e_iconst (x := (3 : Int32)) dL_law_2355 (by decide) ?_
                                                                              refine e_iadd dL_law_2356 ?_
                                                                              refine e_sldJ dL_law_2357 rfl c257.2 c257.1 ?_
                                                                              refine e_aload_n dL_law_2358 rfl ?_
                                                                              refine e_iload dL_law_2359 rfl ?_
                                                                              refine e_iconst (x := (4 : Int32)) dL_law_2361 (by decide) ?_
                                                                              refine e_iadd dL_law_2362 ?_
                                                                              refine e_sldJ dL_law_2363 rfl c258.2 c258.1 ?_
                                                                              refine e_i2l dL_law_2364 ?_
                                                                              refine e_bipush (x := (32 : Int32)) dL_law_2365 (by decide) ?_
                                                                              refine e_lshl dL_law_2367 ?_
                                                                              refine e_aload_n dL_law_2368 rfl ?_
                                                                              refine e_iload dL_law_2369 rfl ?_
                                                                              refine e_iconst (x := (5 : Int32)) dL_law_2371 (by decide) ?_
                                                                              refine e_iadd dL_law_2372 ?_
                                                                              refine e_sldJ dL_law_2373 rfl c259.2 c259.1 ?_
                                                                              refine e_i2l dL_law_2374 ?_
                                                                              refine e_ldc2 dL_law_2375 wcL_52 ?_
                                                                              refine e_land dL_law_2378 ?_
                                                                              refine e_lor dL_law_2379 ?_
                                                                              refine e_aload_n dL_law_2380 rfl ?_
                                                                              refine e_iload dL_law_2381 rfl ?_
                                                                              refine e_bipush (x := (6 : Int32)) dL_law_2383 (by decide) ?_
                                                                              refine e_iadd dL_law_2385 ?_
                                                                              refine e_sldJ dL_law_2386 rfl c260.2 c260.1 ?_
                                                                              obtain ⟨p262, ep262, h⟩ := Option.bind_eq_some_iff.mp h
                                                                              refine c_VI (M' := mX8_alike) [.int (X.2 ((a4 + (1 : Int32)).toNatClampNeg)), .int (X.2 ((a4 + (2 : Int32)).toNatClampNeg)), .int (X.2 ((a4 + (3 : Int32)).toNatClampNeg)), .long ((((X.2 ((a4 + (4 : Int32)).toNatClampNeg)).toInt64) <<< ((32 : Int32).toInt64 &&& 63)) ||| (((X.2 ((a4 + (5 : Int32)).toNatClampNeg)).toInt64) &&& (4294967295 : Int64))), .int (X.2 ((a4 + (6 : Int32)).toNatClampNeg))] dL_law_2387 rfl wmL_182 imX8_alike seX8_alike lkX8_alike k0_174 rc8 (Nat.le_of_ble_eq_true rfl) ((x_X8_alike  ep262).mono (by omega)) ?_
                                                                              refine e_icmp_eq (tgt := 2757) dL_law_2390 (by decide) (fun c263 => ?_) (fun c263 => ?_)
                                                                              · rw [if_pos c263] at h
                                                                                refine e_less (bc' := n * 2) (bs' := n * 16) (by omega) (by omega) ?_
                                                                                exact b_L_law_2757 (fun v a4  hh => ih v a4  hh) h
                                                                              · rw [if_neg c263] at h
                                                                                refine e_iconst (x := (0 : Int32)) dL_law_2393 (by decide) ?_
                                                                                obtain rfl := Option.some.inj h
                                                                                exact e_iret dL_law_2394 rfl rfl ⟨rfl, rfl, rfl⟩
                                                                            · rw [if_neg c254] at h
                                                                              have nc254 := tab_ne c254 (k := 35) (by decide)
                                                                              by_cases c264 : ((X.2 a4.toNatClampNeg) &&& (63 : Int32)) = (36 : Int32)
                                                                              · rw [if_pos c264] at h
                                                                                refine e_tabIn (off := 2355) (tgt := 2395) dL_law_40 (by rw [c264]; decide) (by rw [c264]; decide) (by rw [c264]; rfl) (by decide) ?_
                                                                                refine e_aload_n dL_law_2395 rfl ?_
                                                                                refine e_aload_n dL_law_2396 rfl ?_
                                                                                refine e_iload dL_law_2397 rfl ?_
                                                                                refine e_iconst (x := (1 : Int32)) dL_law_2399 (by decide) ?_
                                                                                refine e_iadd dL_law_2400 ?_
                                                                                obtain ⟨c265, h⟩ := grd h
                                                                                refine e_sldJ dL_law_2401 rfl c265.2 c265.1 ?_
                                                                                refine e_aload_n dL_law_2402 rfl ?_
                                                                                refine e_iload dL_law_2403 rfl ?_
                                                                                refine e_iconst (x := (2 : Int32)) dL_law_2405 (by decide) ?_
                                                                                refine e_iadd dL_law_2406 ?_
                                                                                obtain ⟨c266, h⟩ := grd h
                                                                                refine e_sldJ dL_law_2407 rfl c266.2 c266.1 ?_
                                                                                obtain ⟨p267, ep267, h⟩ := Option.bind_eq_some_iff.mp h
                                                                                refine c_VI (M' := mX7_turned) [.int (X.2 ((a4 + (1 : Int32)).toNatClampNeg)), .int (X.2 ((a4 + (2 : Int32)).toNatClampNeg))] dL_law_2408 rfl wmL_183 imX7_turned seX7_turned lkX7_turned k0_0 rc7 (Nat.le_of_ble_eq_true rfl) ((x_X7_turned  ep267).mono (by omega)) ?_
                                                                                refine e_aload_n dL_law_2411 rfl ?_
                                                                                refine e_aload_n dL_law_2412 rfl ?_
                                                                                refine e_iload dL_law_2413 rfl ?_
                                                                                refine e_iconst (x := (1 : Int32)) dL_law_2415 (by decide) ?_
                                                                                refine e_iadd dL_law_2416 ?_
                                                                                refine e_sldJ dL_law_2417 rfl c265.2 c265.1 ?_
                                                                                refine e_aload_n dL_law_2418 rfl ?_
                                                                                refine e_iload dL_law_2419 rfl ?_
                                                                                refine e_iconst (x := (2 : Int32)) dL_law_2421 (by decide) ?_
                                                                                refine e_iadd dL_law_2422 ?_
                                                                                refine e_sldJ dL_law_2423 rfl c266.2 c266.1 ?_
                                                                                obtain ⟨p268, ep268, h⟩ := Option.bind_eq_some_iff.mp h
                                                                                refine c_VI (M' := mX8_turned) [.int (X.2 ((a4 + (1 : Int32)).toNatClampNeg)), .int (X.2 ((a4 + (2 : Int32)).toNatClampNeg))] dL_law_2424 rfl wmL_186 imX8_turned seX8_turned lkX8_turned k0_174 rc8 (Nat.le_of_ble_eq_true rfl) ((x_X8_turned  ep268).mono (by omega)) ?_
                                                                                refine e_icmp_eq (tgt := 2757) dL_law_2427 (by decide) (fun c269 => ?_) (fun c269 => ?_)
                                                                                · rw [if_pos c269] at h
                                                                                  refine e_less (bc' := n * 2) (bs' := n * 16) (by omega) (by omega) ?_
                                                                                  exact b_L_law_2757 (fun v a4  hh => ih v a4  hh) h
                                                                                · rw [if_neg c269] at h
                                                                                  refine e_iconst (x := (0 : Int32)) dL_law_2430 (by decide) ?_
                                                                                  obtain rfl := Option.some.inj h
                                                                                  exact e_iret dL_law_2431 rfl rfl ⟨rfl, rfl, rfl⟩
                                                                              · rw [if_neg c264] at h
                                                                                have nc264 := tab_ne c264 (k := 36) (by decide)
                                                                                by_cases c270 : ((X.2 a4.toNatClampNeg) &&& (63 : Int32)) = (37 : Int32)
                                                                                · rw [if_pos c270] at h
                                                                                  refine e_tabIn (off := 2392) (tgt := 2432) dL_law_40 (by rw [c270]; decide) (by rw [c270]; decide) (by rw [c270]; rfl) (by decide) ?_
                                                                                  refine e_aload_n dL_law_2432 rfl ?_
                                                                                  refine e_aload_n dL_law_2433 rfl ?_
                                                                                  refine e_iload dL_law_2434 rfl ?_
                                                                                  refine e_iconst (x := (1 : Int32)) dL_law_2436 (by decide) ?_
                                                                                  refine e_iadd dL_law_2437 ?_
                                                                                  obtain ⟨c271, h⟩ := grd h
                                                                                  refine e_sldJ dL_law_2438 rfl c271.2 c271.1 ?_
                                                                                  refine e_aload_n dL_law_2439 rfl ?_
                                                                                  refine e_iload dL_law_2440 rfl ?_
                                                                                  refine e_iconst (x := (2 : Int32)) dL_law_2442 (by decide) ?_
                                                                                  refine e_iadd dL_law_2443 ?_
                                                                                  obtain ⟨c272, h⟩ := grd h
                                                                                  refine e_sldJ dL_law_2444 rfl c272.2 c272.1 ?_
                                                                                  obtain ⟨p273, ep273, h⟩ := Option.bind_eq_some_iff.mp h
                                                                                  refine c_VI (M' := mX7_join) [.int (X.2 ((a4 + (1 : Int32)).toNatClampNeg)), .int (X.2 ((a4 + (2 : Int32)).toNatClampNeg))] dL_law_2445 rfl wmL_187 imX7_join seX7_join lkX7_join k0_0 rc7 (Nat.le_of_ble_eq_true rfl) ((x_X7_join  ep273).mono (by omega)) ?_
                                                                                  refine e_aload_n dL_law_2448 rfl ?_
                                                                                  refine e_aload_n dL_law_2449 rfl ?_
                                                                                  refine e_iload dL_law_2450 rfl ?_
                                                                                  refine e_iconst (x := (1 : Int32)) dL_law_2452 (by decide) ?_
                                                                                  refine e_iadd dL_law_2453 ?_
                                                                                  refine e_sldJ dL_law_2454 rfl c271.2 c271.1 ?_
                                                                                  refine e_aload_n dL_law_2455 rfl ?_
                                                                                  refine e_iload dL_law_2456 rfl ?_
                                                                                  refine e_iconst (x := (2 : Int32)) dL_law_2458 (by decide) ?_
                                                                                  refine e_iadd dL_law_2459 ?_
                                                                                  refine e_sldJ dL_law_2460 rfl c272.2 c272.1 ?_
                                                                                  obtain ⟨p274, ep274, h⟩ := Option.bind_eq_some_iff.mp h
                                                                                  refine c_VI (M' := mX8_join) [.int (X.2 ((a4 + (1 : Int32)).toNatClampNeg)), .int (X.2 ((a4 + (2 : Int32)).toNatClampNeg))] dL_law_2461 rfl wmL_190 imX8_join seX8_join lkX8_join k0_174 rc8 (Nat.le_of_ble_eq_true rfl) ((x_X8_join  ep274).mono (by omega)) ?_
                                                                                  refine e_icmp_eq (tgt := 2757) dL_law_2464 (by decide) (fun c275 => ?_) (fun c275 => ?_)
                                                                                  · rw [if_pos c275] at h
                                                                                    refine e_less (bc' := n * 2) (bs' := n * 16) (by omega) (by omega) ?_
                                                                                    exact b_L_law_2757 (fun v a4  hh => ih v a4  hh) h
                                                                                  · rw [if_neg c275] at h
                                                                                    refine e_iconst (x := (0 : Int32)) dL_law_2467 (by decide) ?_
                                                                                    obtain rfl := Option.some.inj h
                                                                                    exact e_iret dL_law_2468 rfl rfl ⟨rfl, rfl, rfl⟩
                                                                                · rw [if_neg c270] at h
                                                                                  have nc270 := tab_ne c270 (k := 37) (by decide)
                                                                                  by_cases c276 : ((X.2 a4.toNatClampNeg) &&& (63 : Int32)) = (38 : Int32)
                                                                                  · rw [if_pos c276] at h
                                                                                    refine e_tabIn (off := 2429) (tgt := 2469) dL_law_40 (by rw [c276]; decide) (by rw [c276]; decide) (by rw [c276]; rfl) (by decide) ?_
                                                                                    refine e_aload_n dL_law_2469 rfl ?_
                                                                                    refine e_aload_n dL_law_2470 rfl ?_
                                                                                    refine e_iload dL_law_2471 rfl ?_
                                                                                    refine e_iconst (x := (1 : Int32)) dL_law_2473 (by decide) ?_
                                                                                    refine e_iadd dL_law_2474 ?_
                                                                                    obtain ⟨c277, h⟩ := grd h
                                                                                    refine e_sldJ dL_law_2475 rfl c277.2 c277.1 ?_
                                                                                    refine e_aload_n dL_law_2476 rfl ?_
                                                                                    refine e_iload dL_law_2477 rfl ?_
                                                                                    refine e_iconst (x := (2 : Int32)) dL_law_2479 (by decide) ?_
                                                                                    refine e_iadd dL_law_2480 ?_
                                                                                    obtain ⟨c278, h⟩ := grd h
                                                                                    refine e_sldJ dL_law_2481 rfl c278.2 c278.1 ?_
                                                                                    obtain ⟨p279, ep279, h⟩ := Option.bind_eq_some_iff.mp h
                                                                                    refine c_VI (M' := mX7_blot) [.int (X.2 ((a4 + (1 : Int32)).toNatClampNeg)), .int (X.2 ((a4 + (2 : Int32)).toNatClampNeg))] dL_law_2482 rfl wmL_191 imX7_blot seX7_blot lkX7_blot k0_0 rc7 (Nat.le_of_ble_eq_true rfl) ((x_X7_blot  ep279).mono (by omega)) ?_
                                                                                    refine e_aload_n dL_law_2485 rfl ?_
                                                                                    refine e_aload_n dL_law_2486 rfl ?_
                                                                                    refine e_iload dL_law_2487 rfl ?_
                                                                                    refine e_iconst (x := (1 : Int32)) dL_law_2489 (by decide) ?_
                                                                                    refine e_iadd dL_law_2490 ?_
                                                                                    refine e_sldJ dL_law_2491 rfl c277.2 c277.1 ?_
                                                                                    refine e_aload_n dL_law_2492 rfl ?_
                                                                                    refine e_iload dL_law_2493 rfl ?_
                                                                                    refine e_iconst (x := (2 : Int32)) dL_law_2495 (by decide) ?_
                                                                                    refine e_iadd dL_law_2496 ?_
                                                                                    refine e_sldJ dL_law_2497 rfl c278.2 c278.1 ?_
                                                                                    obtain ⟨p280, ep280, h⟩ := Option.bind_eq_some_iff.mp h
                                                                                    refine c_VI (M' := mX8_blot) [.int (X.2 ((a4 + (1 : Int32)).toNatClampNeg)), .int (X.2 ((a4 + (2 : Int32)).toNatClampNeg))] dL_law_2498 rfl wmL_194 imX8_blot seX8_blot lkX8_blot k0_174 rc8 (Nat.le_of_ble_eq_true rfl) ((x_X8_blot  ep280).mono (by omega)) ?_
                                                                                    refine e_icmp_eq (tgt := 2757) dL_law_2501 (by decide) (fun c281 => ?_) (fun c281 => ?_)
                                                                                    · rw [if_pos c281] at h
                                                                                      refine e_less (bc' := n * 2) (bs' := n * 16) (by omega) (by omega) ?_
                                                                                      exact b_L_law_2757 (fun v a4  hh => ih v a4  hh) h
                                                                                    · rw [if_neg c281] at h
                                                                                      refine e_iconst (x := (0 : Int32)) dL_law_2504 (by decide) ?_
                                                                                      obtain rfl := Option.some.inj h
                                                                                      exact e_iret dL_law_2505 rfl rfl ⟨rfl, rfl, rfl⟩
                                                                                  · rw [if_neg c276] at h
                                                                                    have nc276 := tab_ne c276 (k := 38) (by decide)
                                                                                    by_cases c282 : ((X.2 a4.toNatClampNeg) &&& (63 : Int32)) = (39 : Int32)
                                                                                    · rw [if_pos c282] at h
                                                                                      refine e_tabIn (off := 2466) (tgt := 2506) dL_law_40 (by rw [c282]; decide) (by rw [c282]; decide) (by rw [c282]; rfl) (by decide) ?_
                                                                                      refine e_aload_n dL_law_2506 rfl ?_
                                                                                      refine e_aload_n dL_law_2507 rfl ?_
                                                                                      refine e_iload dL_law_2508 rfl ?_
                                                                                      refine e_iconst (x := (1 : Int32)) dL_law_2510 (by decide) ?_
                                                                                      refine e_iadd dL_law_2511 ?_
                                                                                      obtain ⟨c283, h⟩ := grd h
                                                                                      refine e_sldJ dL_law_2512 rfl c283.2 c283.1 ?_
                                                                                      refine e_aload_n dL_law_2513 rfl ?_
                                                                                      refine e_iload dL_law_2514 rfl ?_
                                                                                      refine e_iconst (x := (2 : Int32)) dL_law_2516 (by decide) ?_
                                                                                      refine e_iadd dL_law_2517 ?_
                                                                                      obtain ⟨c284, h⟩ := grd h
                                                                                      refine e_sldJ dL_law_2518 rfl c284.2 c284.1 ?_
                                                                                      refine e_aload_n dL_law_2519 rfl ?_
                                                                                      refine e_iload dL_law_2520 rfl ?_
                                                                                      refine e_iconst (x := (3 : Int32)) dL_law_2522 (by decide) ?_
                                                                                      refine e_iadd dL_law_2523 ?_
                                                                                      obtain ⟨c285, h⟩ := grd h
                                                                                      refine e_sldJ dL_law_2524 rfl c285.2 c285.1 ?_
                                                                                      refine e_aload_n dL_law_2525 rfl ?_
                                                                                      refine e_iload dL_law_2526 rfl ?_
                                                                                      refine e_iconst (x := (4 : Int32)) dL_law_2528 (by decide) ?_
                                                                                      refine e_iadd dL_law_2529 ?_
                                                                                      obtain ⟨c286, h⟩ := grd h
                                                                                      refine e_sldJ dL_law_2530 rfl c286.2 c286.1 ?_
                                                                                      refine e_i2l dL_law_2531 ?_
                                                                                      refine e_bipush (x := (32 : Int32)) dL_law_2532 (by decide) ?_
                                                                                      refine e_lshl dL_law_2534 ?_
                                                                                      refine e_aload_n dL_law_2535 rfl ?_
                                                                                      refine e_iload dL_law_2536 rfl ?_
                                                                                      refine e_iconst (x := (5 : Int32)) dL_law_2538 (by decide) ?_
                                                                                      refine e_iadd dL_law_2539 ?_
                                                                                      obtain ⟨c287, h⟩ := grd h
                                                                                      refine e_sldJ dL_law_2540 rfl c287.2 c287.1 ?_
                                                                                      refine e_i2l dL_law_2541 ?_
                                                                                      refine e_ldc2 dL_law_2542 wcL_52 ?_
                                                                                      refine e_land dL_law_2545 ?_
                                                                                      refine e_lor dL_law_2546 ?_
                                                                                      refine e_aload_n dL_law_2547 rfl ?_
                                                                                      refine e_iload dL_law_2548 rfl ?_
                                                                                      refine e_bipush (x := (6 : Int32)) dL_law_2550 (by decide) ?_
                                                                                      refine e_iadd dL_law_2552 ?_
                                                                                      obtain ⟨c288, h⟩ := grd h
                                                                                      refine e_sldJ dL_law_2553 rfl c288.2 c288.1 ?_
                                                                                      obtain ⟨p289, ep289, h⟩ := Option.bind_eq_some_iff.mp h
                                                                                      refine c_VI (M' := mX7_steps) [.int (X.2 ((a4 + (1 : Int32)).toNatClampNeg)), .int (X.2 ((a4 + (2 : Int32)).toNatClampNeg)), .int (X.2 ((a4 + (3 : Int32)).toNatClampNeg)), .long ((((X.2 ((a4 + (4 : Int32)).toNatClampNeg)).toInt64) <<< ((32 : Int32).toInt64 &&& 63)) ||| (((X.2 ((a4 + (5 : Int32)).toNatClampNeg)).toInt64) &&& (4294967295 : Int64))), .int (X.2 ((a4 + (6 : Int32)).toNatClampNeg))] dL_law_2554 rfl wmL_195 imX7_steps seX7_steps lkX7_steps k0_0 rc7 (Nat.le_of_ble_eq_true rfl) ((x_X7_steps  ep289).mono (by omega)) ?_
                                                                                      refine e_aload_n dL_law_2557 rfl ?_
                                                                                      refine e_aload_n dL_law_2558 rfl ?_
                                                                                      refine e_iload dL_law_2559 rfl ?_
                                                                                      refine e_iconst (x := (1 : Int32)) dL_law_2561 (by decide) ?_
                                                                                      refine e_iadd dL_law_2562 ?_
                                                                                      refine e_sldJ dL_law_2563 rfl c283.2 c283.1 ?_
                                                                                      refine e_aload_n dL_law_2564 rfl ?_
                                                                                      refine e_iload dL_law_2565 rfl ?_
                                                                                      refine e_iconst (x := (2 : Int32)) dL_law_2567 (by decide) ?_
                                                                                      refine e_iadd dL_law_2568 ?_
                                                                                      refine e_sldJ dL_law_2569 rfl c284.2 c284.1 ?_
                                                                                      refine e_aload_n dL_law_2570 rfl ?_
                                                                                      refine e_iload dL_law_2571 rfl ?_
                                                                                      refine e_iconst (x := (3 : Int32)) dL_law_2573 (by decide) ?_
                                                                                      refine e_iadd dL_law_2574 ?_
                                                                                      refine e_sldJ dL_law_2575 rfl c285.2 c285.1 ?_
                                                                                      refine e_aload_n dL_law_2576 rfl ?_
                                                                                      refine e_iload dL_law_2577 rfl ?_
                                                                                      refine e_iconst (x := (4 : Int32)) dL_law_2579 (by decide) ?_
                                                                                      refine e_iadd dL_law_2580 ?_
                                                                                      refine e_sldJ dL_law_2581 rfl c286.2 c286.1 ?_
                                                                                      refine e_i2l dL_law_2582 ?_
                                                                                      refine e_bipush (x := (32 : Int32)) dL_law_2583 (by decide) ?_
                                                                                      refine e_lshl dL_law_2585 ?_
                                                                                      refine e_aload_n dL_law_2586 rfl ?_
                                                                                      refine e_iload dL_law_2587 rfl ?_
                                                                                      refine e_iconst (x := (5 : Int32)) dL_law_2589 (by decide) ?_
                                                                                      refine e_iadd dL_law_2590 ?_
                                                                                      refine e_sldJ dL_law_2591 rfl c287.2 c287.1 ?_
                                                                                      refine e_i2l dL_law_2592 ?_
                                                                                      refine e_ldc2 dL_law_2593 wcL_52 ?_
                                                                                      refine e_land dL_law_2596 ?_
                                                                                      refine e_lor dL_law_2597 ?_
                                                                                      refine e_aload_n dL_law_2598 rfl ?_
                                                                                      refine e_iload dL_law_2599 rfl ?_
                                                                                      refine e_bipush (x := (6 : Int32)) dL_law_2601 (by decide) ?_
                                                                                      refine e_iadd dL_law_2603 ?_
                                                                                      refine e_sldJ dL_law_2604 rfl c288.2 c288.1 ?_
                                                                                      obtain ⟨p290, ep290, h⟩ := Option.bind_eq_some_iff.mp h
                                                                                      refine c_VI (M' := mX8_steps) [.int (X.2 ((a4 + (1 : Int32)).toNatClampNeg)), .int (X.2 ((a4 + (2 : Int32)).toNatClampNeg)), .int (X.2 ((a4 + (3 : Int32)).toNatClampNeg)), .long ((((X.2 ((a4 + (4 : Int32)).toNatClampNeg)).toInt64) <<< ((32 : Int32).toInt64 &&& 63)) ||| (((X.2 ((a4 + (5 : Int32)).toNatClampNeg)).toInt64) &&& (4294967295 : Int64))), .int (X.2 ((a4 + (6 : Int32)).toNatClampNeg))] dL_law_2605 rfl wmL_198 imX8_steps seX8_steps lkX8_steps k0_174 rc8 (Nat.le_of_ble_eq_true rfl) ((x_X8_steps  ep290).mono (by omega)) ?_
                                                                                      refine e_icmp_eq (tgt := 2757) dL_law_2608 (by decide) (fun c291 => ?_) (fun c291 => ?_)
                                                                                      · rw [if_pos c291] at h
                                                                                        refine e_less (bc' := n * 2) (bs' := n * 16) (by omega) (by omega) ?_
                                                                                        exact b_L_law_2757 (fun v a4  hh => ih v a4  hh) h
                                                                                      · rw [if_neg c291] at h
                                                                                        refine e_iconst (x := (0 : Int32)) dL_law_2611 (by decide) ?_
                                                                                        obtain rfl := Option.some.inj h
                                                                                        exact e_iret dL_law_2612 rfl rfl ⟨rfl, rfl, rfl⟩
                                                                                    · rw [if_neg c282] at h
                                                                                      have nc282 := tab_ne c282 (k := 39) (by decide)
                                                                                      by_cases c292 : ((X.2 a4.toNatClampNeg) &&& (63 : Int32)) = (40 : Int32)
                                                                                      · rw [if_pos c292] at h
                                                                                        refine e_tabIn (off := 2573) (tgt := 2613) dL_law_40 (by rw [c292]; decide) (by rw [c292]; decide) (by rw [c292]; rfl) (by decide) ?_
                                                                                        refine e_aload_n dL_law_2613 rfl ?_
                                                                                        refine e_aload_n dL_law_2614 rfl ?_
                                                                                        refine e_iload dL_law_2615 rfl ?_
                                                                                        refine e_iconst (x := (1 : Int32)) dL_law_2617 (by decide) ?_
                                                                                        refine e_iadd dL_law_2618 ?_
                                                                                        obtain ⟨c293, h⟩ := grd h
                                                                                        refine e_sldJ dL_law_2619 rfl c293.2 c293.1 ?_
                                                                                        refine e_aload_n dL_law_2620 rfl ?_
                                                                                        refine e_iload dL_law_2621 rfl ?_
                                                                                        refine e_iconst (x := (2 : Int32)) dL_law_2623 (by decide) ?_
                                                                                        refine e_iadd dL_law_2624 ?_
                                                                                        obtain ⟨c294, h⟩ := grd h
                                                                                        refine e_sldJ dL_law_2625 rfl c294.2 c294.1 ?_
                                                                                        refine e_aload_n dL_law_2626 rfl ?_
                                                                                        refine e_iload dL_law_2627 rfl ?_
                                                                                        refine e_iconst (x := (3 : Int32)) dL_law_2629 (by decide) ?_
                                                                                        refine e_iadd dL_law_2630 ?_
                                                                                        obtain ⟨c295, h⟩ := grd h
                                                                                        refine e_sldJ dL_law_2631 rfl c295.2 c295.1 ?_
                                                                                        refine e_aload_n dL_law_2632 rfl ?_
                                                                                        refine e_iload dL_law_2633 rfl ?_
                                                                                        refine e_iconst (x := (4 : Int32)) dL_law_2635 (by decide) ?_
                                                                                        refine e_iadd dL_law_2636 ?_
                                                                                        obtain ⟨c296, h⟩ := grd h
                                                                                        refine e_sldJ dL_law_2637 rfl c296.2 c296.1 ?_
                                                                                        refine e_i2l dL_law_2638 ?_
                                                                                        refine e_bipush (x := (32 : Int32)) dL_law_2639 (by decide) ?_
                                                                                        refine e_lshl dL_law_2641 ?_
                                                                                        refine e_aload_n dL_law_2642 rfl ?_
                                                                                        refine e_iload dL_law_2643 rfl ?_
                                                                                        refine e_iconst (x := (5 : Int32)) dL_law_2645 (by decide) ?_
                                                                                        refine e_iadd dL_law_2646 ?_
                                                                                        obtain ⟨c297, h⟩ := grd h
                                                                                        refine e_sldJ dL_law_2647 rfl c297.2 c297.1 ?_
                                                                                        refine e_i2l dL_law_2648 ?_
                                                                                        refine e_ldc2 dL_law_2649 wcL_52 ?_
                                                                                        refine e_land dL_law_2652 ?_
                                                                                        refine e_lor dL_law_2653 ?_
                                                                                        obtain ⟨p298, ep298, h⟩ := Option.bind_eq_some_iff.mp h
                                                                                        refine c_VI (M' := mX7_saved) [.int (X.2 ((a4 + (1 : Int32)).toNatClampNeg)), .int (X.2 ((a4 + (2 : Int32)).toNatClampNeg)), .int (X.2 ((a4 + (3 : Int32)).toNatClampNeg)), .long ((((X.2 ((a4 + (4 : Int32)).toNatClampNeg)).toInt64) <<< ((32 : Int32).toInt64 &&& 63)) ||| (((X.2 ((a4 + (5 : Int32)).toNatClampNeg)).toInt64) &&& (4294967295 : Int64)))] dL_law_2654 rfl wmL_199 imX7_saved seX7_saved lkX7_saved k0_0 rc7 (Nat.le_of_ble_eq_true rfl) ((x_X7_saved  ep298).mono (by omega)) ?_
                                                                                        refine e_aload_n dL_law_2657 rfl ?_
                                                                                        refine e_aload_n dL_law_2658 rfl ?_
                                                                                        refine e_iload dL_law_2659 rfl ?_
                                                                                        refine e_iconst (x := (1 : Int32)) dL_law_2661 (by decide) ?_
                                                                                        refine e_iadd dL_law_2662 ?_
                                                                                        refine e_sldJ dL_law_2663 rfl c293.2 c293.1 ?_
                                                                                        refine e_aload_n dL_law_2664 rfl ?_
                                                                                        refine e_iload dL_law_2665 rfl ?_
                                                                                        refine e_iconst (x := (2 : Int32)) dL_law_2667 (by decide) ?_
                                                                                        refine e_iadd dL_law_2668 ?_
                                                                                        refine e_sldJ dL_law_2669 rfl c294.2 c294.1 ?_
                                                                                        refine e_aload_n dL_law_2670 rfl ?_
                                                                                        refine e_iload dL_law_2671 rfl ?_
                                                                                        refine e_iconst (x := (3 : Int32)) dL_law_2673 (by decide) ?_
                                                                                        refine e_iadd dL_law_2674 ?_
                                                                                        refine e_sldJ dL_law_2675 rfl c295.2 c295.1 ?_
                                                                                        refine e_aload_n dL_law_2676 rfl ?_
                                                                                        refine e_iload dL_law_2677 rfl ?_
                                                                                        refine e_iconst (x := (4 : Int32)) dL_law_2679 (by decide) ?_
                                                                                        refine e_iadd dL_law_2680 ?_
                                                                                        refine e_sldJ dL_law_2681 rfl c296.2 c296.1 ?_
                                                                                        refine e_i2l dL_law_2682 ?_
                                                                                        refine e_bipush (x := (32 : Int32)) dL_law_2683 (by decide) ?_
                                                                                        refine e_lshl dL_law_2685 ?_
                                                                                        refine e_aload_n dL_law_2686 rfl ?_
                                                                                        refine e_iload dL_law_2687 rfl ?_
                                                                                        refine e_iconst (x := (5 : Int32)) dL_law_2689 (by decide) ?_
                                                                                        refine e_iadd dL_law_2690 ?_
                                                                                        refine e_sldJ dL_law_2691 rfl c297.2 c297.1 ?_
                                                                                        refine e_i2l dL_law_2692 ?_
                                                                                        refine e_ldc2 dL_law_2693 wcL_52 ?_
                                                                                        refine e_land dL_law_2696 ?_
                                                                                        refine e_lor dL_law_2697 ?_
                                                                                        obtain ⟨p299, ep299, h⟩ := Option.bind_eq_some_iff.mp h
                                                                                        refine c_VI (M' := mX8_saved) [.int (X.2 ((a4 + (1 : Int32)).toNatClampNeg)), .int (X.2 ((a4 + (2 : Int32)).toNatClampNeg)), .int (X.2 ((a4 + (3 : Int32)).toNatClampNeg)), .long ((((X.2 ((a4 + (4 : Int32)).toNatClampNeg)).toInt64) <<< ((32 : Int32).toInt64 &&& 63)) ||| (((X.2 ((a4 + (5 : Int32)).toNatClampNeg)).toInt64) &&& (4294967295 : Int64)))] dL_law_2698 rfl wmL_203 imX8_saved seX8_saved lkX8_saved k0_174 rc8 (Nat.le_of_ble_eq_true rfl) ((x_X8_saved  ep299).mono (by omega)) ?_
                                                                                        refine e_icmp_eq (tgt := 2757) dL_law_2701 (by decide) (fun c300 => ?_) (fun c300 => ?_)
                                                                                        · rw [if_pos c300] at h
                                                                                          refine e_less (bc' := n * 2) (bs' := n * 16) (by omega) (by omega) ?_
                                                                                          exact b_L_law_2757 (fun v a4  hh => ih v a4  hh) h
                                                                                        · rw [if_neg c300] at h
                                                                                          refine e_iconst (x := (0 : Int32)) dL_law_2704 (by decide) ?_
                                                                                          obtain rfl := Option.some.inj h
                                                                                          exact e_iret dL_law_2705 rfl rfl ⟨rfl, rfl, rfl⟩
                                                                                      · rw [if_neg c292] at h
                                                                                        have nc292 := tab_ne c292 (k := 40) (by decide)
                                                                                        by_cases c301 : ((X.2 a4.toNatClampNeg) &&& (63 : Int32)) = (41 : Int32)
                                                                                        · rw [if_pos c301] at h
                                                                                          refine e_tabIn (off := 2666) (tgt := 2706) dL_law_40 (by rw [c301]; decide) (by rw [c301]; decide) (by rw [c301]; rfl) (by decide) ?_
                                                                                          refine e_aload_n dL_law_2706 rfl ?_
                                                                                          obtain ⟨p302, ep302, h⟩ := Option.bind_eq_some_iff.mp h
                                                                                          refine c_VI (M' := mX7_image) [] dL_law_2707 rfl wmL_204 imX7_image seX7_image lkX7_image k0_0 rc7 (Nat.le_of_ble_eq_true rfl) ((x_X7_image  ep302).mono (by omega)) ?_
                                                                                          refine e_aload_n dL_law_2710 rfl ?_
                                                                                          obtain ⟨p303, ep303, h⟩ := Option.bind_eq_some_iff.mp h
                                                                                          refine c_VI (M' := mX8_image) [] dL_law_2711 rfl wmL_207 imX8_image seX8_image lkX8_image k0_174 rc8 (Nat.le_of_ble_eq_true rfl) ((x_X8_image  ep303).mono (by omega)) ?_
                                                                                          refine e_icmp_eq (tgt := 2757) dL_law_2714 (by decide) (fun c304 => ?_) (fun c304 => ?_)
                                                                                          · rw [if_pos c304] at h
                                                                                            refine e_less (bc' := n * 2) (bs' := n * 16) (by omega) (by omega) ?_
                                                                                            exact b_L_law_2757 (fun v a4  hh => ih v a4  hh) h
                                                                                          · rw [if_neg c304] at h
                                                                                            refine e_iconst (x := (0 : Int32)) dL_law_2717 (by decide) ?_
                                                                                            obtain rfl := Option.some.inj h
                                                                                            exact e_iret dL_law_2718 rfl rfl ⟨rfl, rfl, rfl⟩
                                                                                        · rw [if_neg c301] at h
                                                                                          have nc301 := tab_ne c301 (k := 41) (by decide)
                                                                                          by_cases c305 : ((X.2 a4.toNatClampNeg) &&& (63 : Int32)) = (42 : Int32)
                                                                                          · rw [if_pos c305] at h
                                                                                            refine e_tabIn (off := 2679) (tgt := 2719) dL_law_40 (by rw [c305]; decide) (by rw [c305]; decide) (by rw [c305]; rfl) (by decide) ?_
                                                                                            refine e_aload_n dL_law_2719 rfl ?_
                                                                                            obtain ⟨p306, ep306, h⟩ := Option.bind_eq_some_iff.mp h
                                                                                            refine c_VI (M' := mX7_back) [] dL_law_2720 rfl wmL_208 imX7_back seX7_back lkX7_back k0_0 rc7 (Nat.le_of_ble_eq_true rfl) ((x_X7_back  ep306).mono (by omega)) ?_
                                                                                            refine e_aload_n dL_law_2723 rfl ?_
                                                                                            obtain ⟨p307, ep307, h⟩ := Option.bind_eq_some_iff.mp h
                                                                                            refine c_VI (M' := mX8_back) [] dL_law_2724 rfl wmL_211 imX8_back seX8_back lkX8_back k0_174 rc8 (Nat.le_of_ble_eq_true rfl) ((x_X8_back  ep307).mono (by omega)) ?_
                                                                                            refine e_icmp_eq (tgt := 2757) dL_law_2727 (by decide) (fun c308 => ?_) (fun c308 => ?_)
                                                                                            · rw [if_pos c308] at h
                                                                                              refine e_less (bc' := n * 2) (bs' := n * 16) (by omega) (by omega) ?_
                                                                                              exact b_L_law_2757 (fun v a4  hh => ih v a4  hh) h
                                                                                            · rw [if_neg c308] at h
                                                                                              refine e_iconst (x := (0 : Int32)) dL_law_2730 (by decide) ?_
                                                                                              obtain rfl := Option.some.inj h
                                                                                              exact e_iret dL_law_2731 rfl rfl ⟨rfl, rfl, rfl⟩
                                                                                          · rw [if_neg c305] at h
                                                                                            have nc305 := tab_ne c305 (k := 42) (by decide)
                                                                                            by_cases c309 : ((X.2 a4.toNatClampNeg) &&& (63 : Int32)) = (43 : Int32)
                                                                                            · rw [if_pos c309] at h
                                                                                              refine e_tabIn (off := 2692) (tgt := 2732) dL_law_40 (by rw [c309]; decide) (by rw [c309]; decide) (by rw [c309]; rfl) (by decide) ?_
                                                                                              refine e_aload_n dL_law_2732 rfl ?_
                                                                                              refine e_aload_n dL_law_2733 rfl ?_
                                                                                              refine e_iload dL_law_2734 rfl ?_
                                                                                              refine e_iconst (x := (1 : Int32)) dL_law_2736 (by decide) ?_
                                                                                              refine e_iadd dL_law_2737 ?_
                                                                                              obtain ⟨c310, h⟩ := grd h
                                                                                              refine e_sldJ dL_law_2738 rfl c310.2 c310.1 ?_
                                                                                              refine c_VI (M' := mX7_count) [.int (X.2 ((a4 + (1 : Int32)).toNatClampNeg))] dL_law_2739 rfl wmL_212 imX7_count seX7_count lkX7_count k0_0 rc7 (Nat.le_of_ble_eq_true rfl) ((x_X7_count ).mono (by omega)) ?_
                                                                                              refine e_aload_n dL_law_2742 rfl ?_
                                                                                              refine e_aload_n dL_law_2743 rfl ?_
                                                                                              refine e_iload dL_law_2744 rfl ?_
                                                                                              refine e_iconst (x := (1 : Int32)) dL_law_2746 (by decide) ?_
                                                                                              refine e_iadd dL_law_2747 ?_
                                                                                              refine e_sldJ dL_law_2748 rfl c310.2 c310.1 ?_
                                                                                              refine c_VI (M' := mX8_count) [.int (X.2 ((a4 + (1 : Int32)).toNatClampNeg))] dL_law_2749 rfl wmL_215 imX8_count seX8_count lkX8_count k0_174 rc8 (Nat.le_of_ble_eq_true rfl) ((x_X8_count ).mono (by omega)) ?_
                                                                                              refine e_icmp_eq (tgt := 2757) dL_law_2752 (by decide) (fun c313 => ?_) (fun c313 => ?_)
                                                                                              · rw [if_pos c313] at h
                                                                                                refine e_less (bc' := n * 2) (bs' := n * 16) (by omega) (by omega) ?_
                                                                                                exact b_L_law_2757 (fun v a4  hh => ih v a4  hh) h
                                                                                              · rw [if_neg c313] at h
                                                                                                refine e_iconst (x := (0 : Int32)) dL_law_2755 (by decide) ?_
                                                                                                obtain rfl := Option.some.inj h
                                                                                                exact e_iret dL_law_2756 rfl rfl ⟨rfl, rfl, rfl⟩
                                                                                            · rw [if_neg c309] at h
                                                                                              have nc309 := tab_ne c309 (k := 43) (by decide)
                                                                                              refine e_tabOut (tgt := 2757) dL_law_40 (by omega) (by decide) ?_
                                                                                              refine e_less (bc' := n * 2) (bs' := n * 16) (by omega) (by omega) ?_
                                                                                              exact b_L_law_2757 (fun v a4  hh => ih v a4  hh) h
