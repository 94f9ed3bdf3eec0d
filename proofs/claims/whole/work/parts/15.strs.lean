theorem seX0_become : Cond.selects yX0_become.cls yX0_become yX0_become ∈ rtbl := rtbl_at 678 (by decide +kernel) (by decide +kernel)
theorem seX0_takeIn : Cond.selects yX0_takeIn.cls yX0_takeIn yX0_takeIn ∈ rtbl := rtbl_at 673 (by decide +kernel) (by decide +kernel)
theorem seX0_copy : Cond.selects yX0_copy.cls yX0_copy yX0_copy ∈ rtbl := rtbl_at 908 (by decide +kernel) (by decide +kernel)
theorem seX0_width : Cond.selects yX0_width.cls yX0_width yX0_width ∈ rtbl := rtbl_at 698 (by decide +kernel) (by decide +kernel)
theorem seX0_weightOf : Cond.selects yX0_weightOf.cls yX0_weightOf yX0_weightOf ∈ rtbl := rtbl_at 690 (by decide +kernel) (by decide +kernel)
theorem seX1_faultOfDrop : Cond.selects yX1_faultOfDrop.cls yX1_faultOfDrop yX1_faultOfDrop ∈ rtbl := rtbl_at 569 (by decide +kernel) (by decide +kernel)
theorem seX2_add : Cond.selects yX2_add.cls yX2_add yX2_add ∈ rtbl := rtbl_at 464 (by decide +kernel) (by decide +kernel)
theorem seX2_endSkip : Cond.selects yX2_endSkip.cls yX2_endSkip yX2_endSkip ∈ rtbl := rtbl_at 560 (by decide +kernel) (by decide +kernel)
theorem seX2_copy : Cond.selects yX2_copy.cls yX2_copy yX2_copy ∈ rtbl := rtbl_at 614 (by decide +kernel) (by decide +kernel)
theorem seX2_worth : Cond.selects yX2_worth.cls yX2_worth yX2_worth ∈ rtbl := rtbl_at 722 (by decide +kernel) (by decide +kernel)
theorem seX3_faultOfLaw : Cond.selects yX3_faultOfLaw.cls yX3_faultOfLaw yX3_faultOfLaw ∈ rtbl := rtbl_at 428 (by decide +kernel) (by decide +kernel)
theorem seX3_faultOfWant : Cond.selects yX3_faultOfWant.cls yX3_faultOfWant yX3_faultOfWant ∈ rtbl := rtbl_at 564 (by decide +kernel) (by decide +kernel)
theorem seX4_has : Cond.selects yX4_has.cls yX4_has yX4_has ∈ rtbl := rtbl_at 643 (by decide +kernel) (by decide +kernel)
theorem seX4_at : Cond.selects yX4_at.cls yX4_at yX4_at ∈ rtbl := rtbl_at 660 (by decide +kernel) (by decide +kernel)
theorem seX4_keep : Cond.selects yX4_keep.cls yX4_keep yX4_keep ∈ rtbl := rtbl_at 610 (by decide +kernel) (by decide +kernel)
theorem seX5_clear : Cond.selects yX5_clear.cls yX5_clear yX5_clear ∈ rtbl := rtbl_at 665 (by decide +kernel) (by decide +kernel)
theorem seX5_put : Cond.selects yX5_put.cls yX5_put yX5_put ∈ rtbl := rtbl_at 669 (by decide +kernel) (by decide +kernel)
theorem seX5_begin : Cond.selects yX5_begin.cls yX5_begin yX5_begin ∈ rtbl := rtbl_at 682 (by decide +kernel) (by decide +kernel)
theorem seX5_goOn : Cond.selects yX5_goOn.cls yX5_goOn yX5_goOn ∈ rtbl := rtbl_at 709 (by decide +kernel) (by decide +kernel)
theorem seX5_ofBody : Cond.selects yX5_ofBody.cls yX5_ofBody yX5_ofBody ∈ rtbl := rtbl_at 786 (by decide +kernel) (by decide +kernel)
theorem seX5_tell : Cond.selects yX5_tell.cls yX5_tell yX5_tell ∈ rtbl := rtbl_at 825 (by decide +kernel) (by decide +kernel)
theorem seX5_tellWants : Cond.selects yX5_tellWants.cls yX5_tellWants yX5_tellWants ∈ rtbl := rtbl_at 892 (by decide +kernel) (by decide +kernel)
theorem seX5_lyingAt : Cond.selects yX5_lyingAt.cls yX5_lyingAt yX5_lyingAt ∈ rtbl := rtbl_at 812 (by decide +kernel) (by decide +kernel)
theorem seX5_lyingAll : Cond.selects yX5_lyingAll.cls yX5_lyingAll yX5_lyingAll ∈ rtbl := rtbl_at 843 (by decide +kernel) (by decide +kernel)
theorem seX5_even : Cond.selects yX5_even.cls yX5_even yX5_even ∈ rtbl := rtbl_at 839 (by decide +kernel) (by decide +kernel)
theorem seX5_center : Cond.selects yX5_center.cls yX5_center yX5_center ∈ rtbl := rtbl_at 872 (by decide +kernel) (by decide +kernel)
theorem seX5_spread : Cond.selects yX5_spread.cls yX5_spread yX5_spread ∈ rtbl := rtbl_at 876 (by decide +kernel) (by decide +kernel)
theorem seX5_writeLying : Cond.selects yX5_writeLying.cls yX5_writeLying yX5_writeLying ∈ rtbl := rtbl_at 963 (by decide +kernel) (by decide +kernel)
theorem seX5_offFrom : Cond.selects yX5_offFrom.cls yX5_offFrom yX5_offFrom ∈ rtbl := rtbl_at 967 (by decide +kernel) (by decide +kernel)
theorem seX5_farthestFrom : Cond.selects yX5_farthestFrom.cls yX5_farthestFrom yX5_farthestFrom ∈ rtbl := rtbl_at 1017 (by decide +kernel) (by decide +kernel)
theorem seX5_copy : Cond.selects yX5_copy.cls yX5_copy yX5_copy ∈ rtbl := rtbl_at 903 (by decide +kernel) (by decide +kernel)
theorem seX6_append : Cond.selects yX6_append.cls yX6_append yX6_append ∈ rtbl := rtbl_at 416 (by decide +kernel) (by decide +kernel)
theorem seX6_byteAt : Cond.selects yX6_byteAt.cls yX6_byteAt yX6_byteAt ∈ rtbl := rtbl_at 448 (by decide +kernel) (by decide +kernel)
theorem seX7_feed : Cond.selects yX7_feed.cls yX7_feed yX7_feed ∈ rtbl := rtbl_at 409 (by decide +kernel) (by decide +kernel)
theorem seX7_end : Cond.selects yX7_end.cls yX7_end yX7_end ∈ rtbl := rtbl_at 420 (by decide +kernel) (by decide +kernel)
theorem seX7_fault : Cond.selects yX7_fault.cls yX7_fault yX7_fault ∈ rtbl := rtbl_at 424 (by decide +kernel) (by decide +kernel)
theorem seX7_text : Cond.selects yX7_text.cls yX7_text yX7_text ∈ rtbl := rtbl_at 600 (by decide +kernel) (by decide +kernel)
theorem seX7_drop : Cond.selects yX7_drop.cls yX7_drop yX7_drop ∈ rtbl := rtbl_at 1059 (by decide +kernel) (by decide +kernel)
theorem seX7_pace : Cond.selects yX7_pace.cls yX7_pace yX7_pace ∈ rtbl := rtbl_at 619 (by decide +kernel) (by decide +kernel)
theorem seX7_weigh : Cond.selects yX7_weigh.cls yX7_weigh yX7_weigh ∈ rtbl := rtbl_at 623 (by decide +kernel) (by decide +kernel)
theorem seX7_count : Cond.selects yX7_count.cls yX7_count yX7_count ∈ rtbl := rtbl_at 631 (by decide +kernel) (by decide +kernel)
theorem seX7_start : Cond.selects yX7_start.cls yX7_start yX7_start ∈ rtbl := rtbl_at 635 (by decide +kernel) (by decide +kernel)
theorem seX7_tick : Cond.selects yX7_tick.cls yX7_tick yX7_tick ∈ rtbl := rtbl_at 702 (by decide +kernel) (by decide +kernel)
theorem seX7_body : Cond.selects yX7_body.cls yX7_body yX7_body ∈ rtbl := rtbl_at 782 (by decide +kernel) (by decide +kernel)
theorem seX7_water : Cond.selects yX7_water.cls yX7_water yX7_water ∈ rtbl := rtbl_at 790 (by decide +kernel) (by decide +kernel)
theorem seX7_free : Cond.selects yX7_free.cls yX7_free yX7_free ∈ rtbl := rtbl_at 797 (by decide +kernel) (by decide +kernel)
theorem seX7_lies : Cond.selects yX7_lies.cls yX7_lies yX7_lies ∈ rtbl := rtbl_at 804 (by decide +kernel) (by decide +kernel)
theorem seX7_heap : Cond.selects yX7_heap.cls yX7_heap yX7_heap ∈ rtbl := rtbl_at 808 (by decide +kernel) (by decide +kernel)
theorem seX7_flow : Cond.selects yX7_flow.cls yX7_flow yX7_flow ∈ rtbl := rtbl_at 816 (by decide +kernel) (by decide +kernel)
theorem seX7_about : Cond.selects yX7_about.cls yX7_about yX7_about ∈ rtbl := rtbl_at 821 (by decide +kernel) (by decide +kernel)
theorem seX7_rush : Cond.selects yX7_rush.cls yX7_rush yX7_rush ∈ rtbl := rtbl_at 855 (by decide +kernel) (by decide +kernel)
theorem seX7_speed : Cond.selects yX7_speed.cls yX7_speed yX7_speed ∈ rtbl := rtbl_at 859 (by decide +kernel) (by decide +kernel)
theorem seX7_came : Cond.selects yX7_came.cls yX7_came yX7_came ∈ rtbl := rtbl_at 863 (by decide +kernel) (by decide +kernel)
theorem seX7_middle : Cond.selects yX7_middle.cls yX7_middle yX7_middle ∈ rtbl := rtbl_at 867 (by decide +kernel) (by decide +kernel)
theorem seX7_met : Cond.selects yX7_met.cls yX7_met yX7_met ∈ rtbl := rtbl_at 884 (by decide +kernel) (by decide +kernel)
theorem seX7_image : Cond.selects yX7_image.cls yX7_image yX7_image ∈ rtbl := rtbl_at 899 (by decide +kernel) (by decide +kernel)
theorem seX7_back : Cond.selects yX7_back.cls yX7_back yX7_back ∈ rtbl := rtbl_at 912 (by decide +kernel) (by decide +kernel)
theorem seX7_tried : Cond.selects yX7_tried.cls yX7_tried yX7_tried ∈ rtbl := rtbl_at 916 (by decide +kernel) (by decide +kernel)
theorem seX7_least : Cond.selects yX7_least.cls yX7_least yX7_least ∈ rtbl := rtbl_at 920 (by decide +kernel) (by decide +kernel)
theorem seX7_line : Cond.selects yX7_line.cls yX7_line yX7_line ∈ rtbl := rtbl_at 943 (by decide +kernel) (by decide +kernel)
theorem seX7_luck : Cond.selects yX7_luck.cls yX7_luck yX7_luck ∈ rtbl := rtbl_at 947 (by decide +kernel) (by decide +kernel)
theorem seX7_dry : Cond.selects yX7_dry.cls yX7_dry yX7_dry ∈ rtbl := rtbl_at 951 (by decide +kernel) (by decide +kernel)
theorem seX7_parts : Cond.selects yX7_parts.cls yX7_parts yX7_parts ∈ rtbl := rtbl_at 955 (by decide +kernel) (by decide +kernel)
theorem seX7_next : Cond.selects yX7_next.cls yX7_next yX7_next ∈ rtbl := rtbl_at 971 (by decide +kernel) (by decide +kernel)
theorem seX7_alike : Cond.selects yX7_alike.cls yX7_alike yX7_alike ∈ rtbl := rtbl_at 975 (by decide +kernel) (by decide +kernel)
theorem seX7_printed : Cond.selects yX7_printed.cls yX7_printed yX7_printed ∈ rtbl := rtbl_at 980 (by decide +kernel) (by decide +kernel)
theorem seX7_dots : Cond.selects yX7_dots.cls yX7_dots yX7_dots ∈ rtbl := rtbl_at 993 (by decide +kernel) (by decide +kernel)
theorem seX7_stain : Cond.selects yX7_stain.cls yX7_stain yX7_stain ∈ rtbl := rtbl_at 997 (by decide +kernel) (by decide +kernel)
theorem seX7_grain : Cond.selects yX7_grain.cls yX7_grain yX7_grain ∈ rtbl := rtbl_at 1001 (by decide +kernel) (by decide +kernel)
theorem seX7_print : Cond.selects yX7_print.cls yX7_print yX7_print ∈ rtbl := rtbl_at 1009 (by decide +kernel) (by decide +kernel)
theorem seX7_read : Cond.selects yX7_read.cls yX7_read yX7_read ∈ rtbl := rtbl_at 1013 (by decide +kernel) (by decide +kernel)
theorem seX7_odds : Cond.selects yX7_odds.cls yX7_odds yX7_odds ∈ rtbl := rtbl_at 1021 (by decide +kernel) (by decide +kernel)
theorem seX7_turned : Cond.selects yX7_turned.cls yX7_turned yX7_turned ∈ rtbl := rtbl_at 1026 (by decide +kernel) (by decide +kernel)
theorem seX7_join : Cond.selects yX7_join.cls yX7_join yX7_join ∈ rtbl := rtbl_at 1030 (by decide +kernel) (by decide +kernel)
theorem seX7_blot : Cond.selects yX7_blot.cls yX7_blot yX7_blot ∈ rtbl := rtbl_at 1035 (by decide +kernel) (by decide +kernel)
theorem seX7_steps : Cond.selects yX7_steps.cls yX7_steps yX7_steps ∈ rtbl := rtbl_at 1039 (by decide +kernel) (by decide +kernel)
theorem seX7_saved : Cond.selects yX7_saved.cls yX7_saved yX7_saved ∈ rtbl := rtbl_at 1051 (by decide +kernel) (by decide +kernel)
theorem seX8_thrown : Cond.selects yX8_thrown.cls yX8_thrown yX8_thrown ∈ rtbl := rtbl_at 1263 (by decide +kernel) (by decide +kernel)
theorem seX8_feed : Cond.selects yX8_feed.cls yX8_feed yX8_feed ∈ rtbl := rtbl_at 1267 (by decide +kernel) (by decide +kernel)
theorem seX8_end : Cond.selects yX8_end.cls yX8_end yX8_end ∈ rtbl := rtbl_at 1274 (by decide +kernel) (by decide +kernel)
theorem seX8_fault : Cond.selects yX8_fault.cls yX8_fault yX8_fault ∈ rtbl := rtbl_at 1278 (by decide +kernel) (by decide +kernel)
theorem seX8_text : Cond.selects yX8_text.cls yX8_text yX8_text ∈ rtbl := rtbl_at 1398 (by decide +kernel) (by decide +kernel)
theorem seX8_drop : Cond.selects yX8_drop.cls yX8_drop yX8_drop ∈ rtbl := rtbl_at 1402 (by decide +kernel) (by decide +kernel)
theorem seX8_pace : Cond.selects yX8_pace.cls yX8_pace yX8_pace ∈ rtbl := rtbl_at 1410 (by decide +kernel) (by decide +kernel)
theorem seX8_start : Cond.selects yX8_start.cls yX8_start yX8_start ∈ rtbl := rtbl_at 1414 (by decide +kernel) (by decide +kernel)
theorem seX8_tick : Cond.selects yX8_tick.cls yX8_tick yX8_tick ∈ rtbl := rtbl_at 1450 (by decide +kernel) (by decide +kernel)
theorem seX8_body : Cond.selects yX8_body.cls yX8_body yX8_body ∈ rtbl := rtbl_at 1537 (by decide +kernel) (by decide +kernel)
theorem seX8_water : Cond.selects yX8_water.cls yX8_water yX8_water ∈ rtbl := rtbl_at 1541 (by decide +kernel) (by decide +kernel)
theorem seX8_free : Cond.selects yX8_free.cls yX8_free yX8_free ∈ rtbl := rtbl_at 1548 (by decide +kernel) (by decide +kernel)
theorem seX8_lies : Cond.selects yX8_lies.cls yX8_lies yX8_lies ∈ rtbl := rtbl_at 1552 (by decide +kernel) (by decide +kernel)
theorem seX8_heap : Cond.selects yX8_heap.cls yX8_heap yX8_heap ∈ rtbl := rtbl_at 1556 (by decide +kernel) (by decide +kernel)
theorem seX8_flow : Cond.selects yX8_flow.cls yX8_flow yX8_flow ∈ rtbl := rtbl_at 1560 (by decide +kernel) (by decide +kernel)
theorem seX8_about : Cond.selects yX8_about.cls yX8_about yX8_about ∈ rtbl := rtbl_at 1565 (by decide +kernel) (by decide +kernel)
theorem seX8_rush : Cond.selects yX8_rush.cls yX8_rush yX8_rush ∈ rtbl := rtbl_at 1589 (by decide +kernel) (by decide +kernel)
theorem seX8_speed : Cond.selects yX8_speed.cls yX8_speed yX8_speed ∈ rtbl := rtbl_at 1593 (by decide +kernel) (by decide +kernel)
theorem seX8_met : Cond.selects yX8_met.cls yX8_met yX8_met ∈ rtbl := rtbl_at 1597 (by decide +kernel) (by decide +kernel)
theorem seX8_tried : Cond.selects yX8_tried.cls yX8_tried yX8_tried ∈ rtbl := rtbl_at 1606 (by decide +kernel) (by decide +kernel)
theorem seX8_least : Cond.selects yX8_least.cls yX8_least yX8_least ∈ rtbl := rtbl_at 1625 (by decide +kernel) (by decide +kernel)
theorem seX8_stain : Cond.selects yX8_stain.cls yX8_stain yX8_stain ∈ rtbl := rtbl_at 1629 (by decide +kernel) (by decide +kernel)
theorem seX8_grain : Cond.selects yX8_grain.cls yX8_grain yX8_grain ∈ rtbl := rtbl_at 1633 (by decide +kernel) (by decide +kernel)
theorem seX8_print : Cond.selects yX8_print.cls yX8_print yX8_print ∈ rtbl := rtbl_at 1641 (by decide +kernel) (by decide +kernel)
theorem seX8_read : Cond.selects yX8_read.cls yX8_read yX8_read ∈ rtbl := rtbl_at 1645 (by decide +kernel) (by decide +kernel)
theorem seX8_weigh : Cond.selects yX8_weigh.cls yX8_weigh yX8_weigh ∈ rtbl := rtbl_at 1653 (by decide +kernel) (by decide +kernel)
theorem seX8_odds : Cond.selects yX8_odds.cls yX8_odds yX8_odds ∈ rtbl := rtbl_at 1657 (by decide +kernel) (by decide +kernel)
theorem seX8_parts : Cond.selects yX8_parts.cls yX8_parts yX8_parts ∈ rtbl := rtbl_at 1662 (by decide +kernel) (by decide +kernel)
theorem seX8_next : Cond.selects yX8_next.cls yX8_next yX8_next ∈ rtbl := rtbl_at 1670 (by decide +kernel) (by decide +kernel)
theorem seX8_printed : Cond.selects yX8_printed.cls yX8_printed yX8_printed ∈ rtbl := rtbl_at 1674 (by decide +kernel) (by decide +kernel)
theorem seX8_dots : Cond.selects yX8_dots.cls yX8_dots yX8_dots ∈ rtbl := rtbl_at 1686 (by decide +kernel) (by decide +kernel)
theorem seX8_image : Cond.selects yX8_image.cls yX8_image yX8_image ∈ rtbl := rtbl_at 1690 (by decide +kernel) (by decide +kernel)
theorem seX8_back : Cond.selects yX8_back.cls yX8_back yX8_back ∈ rtbl := rtbl_at 1694 (by decide +kernel) (by decide +kernel)
theorem seX8_came : Cond.selects yX8_came.cls yX8_came yX8_came ∈ rtbl := rtbl_at 1698 (by decide +kernel) (by decide +kernel)
theorem seX8_middle : Cond.selects yX8_middle.cls yX8_middle yX8_middle ∈ rtbl := rtbl_at 1702 (by decide +kernel) (by decide +kernel)
theorem seX8_dry : Cond.selects yX8_dry.cls yX8_dry yX8_dry ∈ rtbl := rtbl_at 1706 (by decide +kernel) (by decide +kernel)
theorem seX8_luck : Cond.selects yX8_luck.cls yX8_luck yX8_luck ∈ rtbl := rtbl_at 1710 (by decide +kernel) (by decide +kernel)
theorem seX8_line : Cond.selects yX8_line.cls yX8_line yX8_line ∈ rtbl := rtbl_at 1714 (by decide +kernel) (by decide +kernel)
theorem seX8_alike : Cond.selects yX8_alike.cls yX8_alike yX8_alike ∈ rtbl := rtbl_at 1722 (by decide +kernel) (by decide +kernel)
theorem seX8_turned : Cond.selects yX8_turned.cls yX8_turned yX8_turned ∈ rtbl := rtbl_at 1726 (by decide +kernel) (by decide +kernel)
theorem seX8_join : Cond.selects yX8_join.cls yX8_join yX8_join ∈ rtbl := rtbl_at 1730 (by decide +kernel) (by decide +kernel)
theorem seX8_blot : Cond.selects yX8_blot.cls yX8_blot yX8_blot ∈ rtbl := rtbl_at 1734 (by decide +kernel) (by decide +kernel)
theorem seX8_steps : Cond.selects yX8_steps.cls yX8_steps yX8_steps ∈ rtbl := rtbl_at 1738 (by decide +kernel) (by decide +kernel)
theorem seX8_saved : Cond.selects yX8_saved.cls yX8_saved yX8_saved ∈ rtbl := rtbl_at 1746 (by decide +kernel) (by decide +kernel)
theorem seX8_count : Cond.selects yX8_count.cls yX8_count yX8_count ∈ rtbl := rtbl_at 1750 (by decide +kernel) (by decide +kernel)
theorem seJ0_length_8abf5 : Cond.selects yJ0_length_8abf5.cls yJ0_length_8abf5 yJ0_length_8abf5 ∈ rtbl := rtbl_at 245 (by decide +kernel) (by decide +kernel)
theorem seJ0_indexOf_0f7a4 : Cond.selects yJ0_indexOf_0f7a4.cls yJ0_indexOf_0f7a4 yJ0_indexOf_0f7a4 ∈ rtbl := rtbl_at 468 (by decide +kernel) (by decide +kernel)
theorem seJ0_indexOf_7cf53 : Cond.selects yJ0_indexOf_7cf53.cls yJ0_indexOf_7cf53 yJ0_indexOf_7cf53 ∈ rtbl := rtbl_at 472 (by decide +kernel) (by decide +kernel)
theorem seJ0_coder_7d493 : Cond.selects yJ0_coder_7d493.cls yJ0_coder_7d493 yJ0_coder_7d493 ∈ rtbl := rtbl_at 249 (by decide +kernel) (by decide +kernel)
theorem seJ0_isLatin1_aae02 : Cond.selects yJ0_isLatin1_aae02.cls yJ0_isLatin1_aae02 yJ0_isLatin1_aae02 ∈ rtbl := rtbl_at 476 (by decide +kernel) (by decide +kernel)
/-! texts of the machine's own: what they answer -/
section STRROWS
variable {M M' : rM} {d bc bs pc idx : Nat} {lv : List (Nat × Value)} {st : List Value} {S : rS} {v : rV} {Post : Option Value → rS → rV → Prop}
theorem rad_ext {G : rG} {S : rS} {s : State} {H : Heap} (h : rX G S s H) {i : Nat} (hi : i < 3) : va_O "java/lang/String" (rad G (1000010 + i)) (rA G) s H ∧ va_OF "java/lang/String" "code\x72" "B" (.int 0) (rad G (1000010 + i)) (rA G) s H ∧ va_OF "java/lang/String" "value" "[B" (.ref (rad G (1000020 + i))) (rad G (1000010 + i)) (rA G) s H ∧ va_T .byte (rad G (1000020 + i)) (rlen.getD i 0) (fun j => .int ((rbyt.getD i []).getD j 0)) (rA G) s H := h.2.2.1.1 i hi
theorem e_i2b {x y : Int32} (hd : decode M.2.1 pc = .ok (.i2b, 1)) (hv : x.toInt8.toInt32 = y) (k : Ev M d bc bs (pc + 1) lv (.int y :: st) S v Post) : Ev M d bc bs pc lv (.int x :: st) S v Post := fun G p l e R s m args below meth c Q C H locs cells slots ls hK hH hS hl hcc hs => lv_i2b C.1.1 C.1.2.1 hd hv (k G p l e R s m args below meth c Q C H locs cells slots ls hK hH hS hl hcc hs)
theorem e_compact (hd : decode M.2.1 pc = .ok (.getstatic idx, 3)) (hw : Cond.fieldLink M.1.cls idx "java/lang/String" "COMPACT_STRINGS" "Z" ∈ rtbl) (k : Ev M d bc bs (pc + 3) lv (.int 1 :: st) S v Post) : Ev M d bc bs pc lv st S v Post := fun G p l e R s m args below meth c Q C H locs cells slots ls hK hH hS hl hcc hs => va_gets C.1.1 C.1.2.1 C.2.2.1.2.1.2.2.2.2.2.2.2.2 hS C.1.2.2.2.1 (C.1.2.2.2.2 _ hw) (fun _ h => h) hd (k G p l e R s m args below meth c Q C H locs cells slots ls hK hH hS hl hcc hs)
theorem e_coder {i : Nat} (hi : i < 3) (hd : decode M.2.1 pc = .ok (.getfield idx, 3)) (hw : Cond.fieldLink M.1.cls idx "java/lang/String" "code\x72" "B" ∈ rtbl) (k : Ev M d bc bs (pc + 3) lv (.int 0 :: st) S v Post) : Ev M d bc bs pc lv (.ref (1000010 + i) :: st) S v Post := fun G p l e R s m args below meth c Q C H locs cells slots ls hK hH hS hl hcc hs => vk_getf C.1.1 C.1.2.1 (rad_ext C.2.2.1.2.1 hi).2.1 hS C.1.2.2.2.1 (C.1.2.2.2.2 _ hw) (fun _ h => h) hd (k G p l e R s m args below meth c Q C H locs cells slots ls hK hH hS hl hcc hs)
theorem e_value {i : Nat} (hi : i < 3) (hd : decode M.2.1 pc = .ok (.getfield idx, 3)) (hw : Cond.fieldLink M.1.cls idx "java/lang/String" "value" "[B" ∈ rtbl) (k : Ev M d bc bs (pc + 3) lv (.ref (1000020 + i) :: st) S v Post) : Ev M d bc bs pc lv (.ref (1000010 + i) :: st) S v Post := fun G p l e R s m args below meth c Q C H locs cells slots ls hK hH hS hl hcc hs => vk_getf C.1.1 C.1.2.1 (rad_ext C.2.2.1.2.1 hi).2.2.1 hS C.1.2.2.2.1 (C.1.2.2.2.2 _ hw) (fun _ h => h) hd (k G p l e R s m args below meth c Q C H locs cells slots ls hK hH hS hl hcc hs)
theorem e_blen {i : Nat} {x : Int32} (hi : i < 3) (hd : decode M.2.1 pc = .ok (.arraylength, 1)) (hx : Int32.ofNat (rlen.getD i 0) = x) (k : Ev M d bc bs (pc + 1) lv (.int x :: st) S v Post) : Ev M d bc bs pc lv (.ref (1000020 + i) :: st) S v Post := fun G p l e R s m args below meth c Q C H locs cells slots ls hK hH hS hl hcc hs => va_tlen C.1.1 C.1.2.1 (rad_ext C.2.2.1.2.1 hi).2.2.2 hS hx hd (k G p l e R s m args below meth c Q C H locs cells slots ls hK hH hS hl hcc hs)
theorem e_bald {i j : Nat} {a : Int32} (hi : i < 3) (hd : decode M.2.1 pc = .ok (.baload, 1)) (hj : a.toNatClampNeg = j) (hn : j < rlen.getD i 0) (h0 : ¬ a < 0) (k : Ev M d bc bs (pc + 1) lv (.int ((rbyt.getD i []).getD j 0) :: st) S v Post) : Ev M d bc bs pc lv (.int a :: .ref (1000020 + i) :: st) S v Post := fun G p l e R s m args below meth c Q C H locs cells slots ls hK hH hS hl hcc hs => va_tb C.1.1 C.1.2.1 (rad_ext C.2.2.1.2.1 hi).2.2.2 hS (vin_of hj hn h0) (v := .int ((rbyt.getD i []).getD j 0)) (by rw [hj]) hd (k G p l e R s m args below meth c Q C H locs cells slots ls hK hH hS hl hcc hs)
/-- a call whose receiver is one of the texts -/
theorem e_callVS {i mc ms : Nat} {PostM : Option Value → rS → rV → Prop} (hi : i < 3) (av : List Value) {st0 : List Value} (hcs : M'.1.cls = "java/lang/String") (hd : decode M.2.1 pc = .ok (.invokevirtual idx, 3)) (hs0 : st0 = av.reverse ++ .ref (1000010 + i) :: st) (hw : Cond.methodLink M.1.cls idx M'.1 ∈ rtbl) (hin : Cond.instanceMethod M'.1 ∈ rtbl) (hse : Cond.selects M'.1.cls M'.1 M'.1 ∈ rtbl) (hL : rLk M' av.length) (hsum : (st.map fun w => w.category).sum ≤ 8) (h : EvM M' d mc ms (.ref (1000010 + i) :: av) S v PostM) (hmc : mc ≤ bc) (hms : ms ≤ bs)
    (kk : ∀ (r : Option Value) (S' : rS) (v' : rV), PostM r S' v' → (S'.2.2.2 = S.2.2.2 ∧ Ev M (d + 1) (bc - mc) (bs - ms) (pc + 3) lv (r.toList ++ st) S' v' Post)) : Ev M (d + 1) bc bs pc lv st0 S v Post := fun G p l e R s m args below meth c Q C H locs cells slots ls hK hH hS hl hcc hs => by
  subst hs0
  have hrc : ∃ cell : Cell, H[rad G (1000010 + i)]? = some cell ∧ cell.vm.isStatics = false ∧ s.vm.findClass M'.1.cls = some cell.cls := by
    obtain ⟨cell, h1, h2, h3, -⟩ := ((rad_ext C.2.2.1.2.1 hi).1).kept hS.2.1
    exact ⟨cell, h1, h2, by rw [hcs]; exact h3⟩
  refine rcall (PostM := PostM) C hS hl hcc hs hmc hms (va_runV (l := l) (bytes := M'.2.1) (maxL := M'.2.2.1) (ret := M'.2.2.2) (C := M'.1.cls) (b := rad G (1000010 + i)) (As := av.map (rcv G)) (n := av.length) ⟨C.1.1, C.1.2.1, C.1.2.2.1, C.1.2.2.2.1, C.1.2.2.2.2⟩ (h d (Nat.le_refl d) G l) ?_ ⟨rblind G (.ref (1000010 + i) :: av) S v, hrc, rpre (av := .ref (1000010 + i) :: av) C hK hH hS⟩ rfl (by simp) hl.1 (rst_eqb G av (1000010 + i) st) (by show 2 * 0 + _ ≤ 8; rw [rcv_sum]; omega) hd ⟨by omega, by omega⟩) kk
  exact cwV (ws' := rtbl) av.length C.1.2.2.2.2 (fun w hw2 => by
    rcases List.mem_append.mp hw2 with h2 | h2
    · simp only [List.mem_cons, List.not_mem_nil, or_false] at h2
      rcases h2 with rfl | rfl | rfl | rfl
      · exact rgood hw
      · exact rgood hin
      · exact rgood hse
      · exact rgood hL.2.1
    · exact rws_good hL.1 w h2) rfl rfl rfl ⟨rfl, hL.2.2.1⟩ (rroom C.2.2.2.1 hL.2.2.2)
end STRROWS
/-- an answer that is an int, nothing changed -/
abbrev rPs (S : rS) (v : rV) (x : Int32) : Option Value → rS → rV → Prop := fun o S' v' => o = some (.int x) ∧ S' = S ∧ v' = v
section STRM
variable {S : rS} {v : rV}
theorem x_coder {i : Nat} (hi : i < 3) : EvM mJ0_coder_7d493 1 0 0 [.ref (1000010 + i)] S v (rPs S v 0) := by
  refine evm_of (by decide +kernel) (fun G => Nat.le_of_ble_eq_true rfl) ?_
  show Ev mJ0_coder_7d493 1 0 0 0 [(0, .ref (1000010 + i))] [] S v _
  refine e_compact dJ0_coder_7d493_0 wfJ0_38 ?_
  refine e_if_eq (tgt := 13) dJ0_coder_7d493_3 (by decide) (fun c => absurd c (by decide)) (fun c => ?_)
  refine e_aload_n dJ0_coder_7d493_6 rfl ?_
  refine e_coder hi dJ0_coder_7d493_7 wfJ0_15 ?_
  refine e_goto (tgt := 14) dJ0_coder_7d493_10 (by decide) ?_
  exact e_iret dJ0_coder_7d493_14 rfl rfl ⟨rfl, rfl, rfl⟩
theorem x_isLatin1 {i : Nat} (hi : i < 3) : EvM mJ0_isLatin1_aae02 1 0 0 [.ref (1000010 + i)] S v (rPs S v 1) := by
  refine evm_of (by decide +kernel) (fun G => Nat.le_of_ble_eq_true rfl) ?_
  show Ev mJ0_isLatin1_aae02 1 0 0 0 [(0, .ref (1000010 + i))] [] S v _
  refine e_compact dJ0_isLatin1_aae02_0 wfJ0_38 ?_
  refine e_if_eq (tgt := 17) dJ0_isLatin1_aae02_3 (by decide) (fun c => absurd c (by decide)) (fun c => ?_)
  refine e_aload_n dJ0_isLatin1_aae02_6 rfl ?_
  refine e_coder hi dJ0_isLatin1_aae02_7 wfJ0_15 ?_
  refine e_if_ne (tgt := 17) dJ0_isLatin1_aae02_10 (by decide) (fun c => absurd rfl c) (fun c => ?_)
  refine e_iconst (x := 1) dJ0_isLatin1_aae02_13 (by decide) ?_
  refine e_goto (tgt := 18) dJ0_isLatin1_aae02_14 (by decide) ?_
  exact e_iret dJ0_isLatin1_aae02_18 rfl rfl ⟨rfl, rfl, rfl⟩
theorem x_strlen {i : Nat} {x : Int32} (hi : i < 3) (hx : Int32.ofNat (rlen.getD i 0) = x) : EvM mJ0_length_8abf5 2 0 0 [.ref (1000010 + i)] S v (rPs S v x) := by
  refine evm_of (by decide +kernel) (fun G => Nat.le_of_ble_eq_true rfl) ?_
  show Ev mJ0_length_8abf5 2 0 0 0 [(0, .ref (1000010 + i))] [] S v _
  refine e_aload_n dJ0_length_8abf5_0 rfl ?_
  refine e_value hi dJ0_length_8abf5_1 wfJ0_9 ?_
  refine e_blen hi dJ0_length_8abf5_4 hx ?_
  refine e_aload_n dJ0_length_8abf5_5 rfl ?_
  refine e_callVS (M' := mJ0_coder_7d493) hi [] rfl dJ0_length_8abf5_6 rfl wmJ0_335 imJ0_coder_7d493 seJ0_coder_7d493 lkJ0_coder_7d493 (Nat.le_of_ble_eq_true rfl) (x_coder hi) (Nat.zero_le _) (Nat.zero_le _) (fun r S' v' hp => ?_)
  obtain ⟨rfl, rfl, rfl⟩ := hp
  refine ⟨rfl, ?_⟩
  refine e_ishr (x := x) (y := 0) dJ0_length_8abf5_9 ?_
  have e : x >>> ((0 : Int32) &&& 31) = x := sb_shr0 x
  exact e_iret dJ0_length_8abf5_10 rfl rfl ⟨by rw [e], rfl, rfl⟩
theorem x_canEncode {c : Int32} : EvM mJ1_canEncode_9a6ad 1 0 0 [.int c] S v (rPs S v (if c < 0 then 0 else if 255 < c then 0 else 1)) := by
  refine evm_of (by decide +kernel) (fun G => Nat.le_of_ble_eq_true rfl) ?_
  show Ev mJ1_canEncode_9a6ad 1 0 0 0 [(0, .int c)] [] S v _
  refine e_iload_n dJ1_canEncode_9a6ad_0 rfl ?_
  refine e_if_lt (tgt := 15) dJ1_canEncode_9a6ad_1 (by decide) (fun q => ?_) (fun q => ?_)
  · refine e_iconst (x := 0) dJ1_canEncode_9a6ad_15 (by decide) ?_
    exact e_iret dJ1_canEncode_9a6ad_16 rfl rfl ⟨by rw [if_pos q], rfl, rfl⟩
  · refine e_iload_n dJ1_canEncode_9a6ad_4 rfl ?_
    refine e_sipush (x := 255) dJ1_canEncode_9a6ad_5 (by decide) ?_
    refine e_icmp_gt (tgt := 15) dJ1_canEncode_9a6ad_8 (by decide) (fun q2 => ?_) (fun q2 => ?_)
    · refine e_iconst (x := 0) dJ1_canEncode_9a6ad_15 (by decide) ?_
      exact e_iret dJ1_canEncode_9a6ad_16 rfl rfl ⟨by rw [if_neg q, if_pos q2], rfl, rfl⟩
    · refine e_iconst (x := 1) dJ1_canEncode_9a6ad_11 (by decide) ?_
      refine e_goto (tgt := 16) dJ1_canEncode_9a6ad_12 (by decide) ?_
      exact e_iret dJ1_canEncode_9a6ad_16 rfl rfl ⟨by rw [if_neg q, if_neg q2], rfl, rfl⟩
theorem b_ixc {i : Nat} (hi : i < 3) {c8 : Int32} {c : Int32} : ∀ (l : List Int32) (j : Nat), (rbyt.getD i []).drop j = l → j ≤ rlen.getD i 0 → Ev mJ1_indexOfChar_4cfef 1 0 0 7 [(5, .int (nI j)), (4, .int c8), (0, .ref (1000020 + i)), (1, .int c), (2, .int 0), (3, .int (nI (rlen.getD i 0)))] [] S v (rPs S v (sfrom c8 l j)) := by
  have hlen : (rbyt.getD i []).length = rlen.getD i 0 ∧ rlen.getD i 0 ≤ 12 := by
    rcases (by omega : i = 0 ∨ i = 1 ∨ i = 2) with rfl | rfl | rfl <;> decide
  intro l
  induction l with
  | nil =>
    intro j hj hle
    have hlj : rlen.getD i 0 ≤ j := by
      have := List.drop_eq_nil_iff.mp hj
      omega
    refine e_iload dJ1_indexOfChar_4cfef_7 rfl ?_
    refine e_iload_n dJ1_indexOfChar_4cfef_9 rfl ?_
    refine e_icmp_ge (tgt := 31) dJ1_indexOfChar_4cfef_10 (by decide) (fun q => ?_) (fun q => absurd (nI_le hlj (by omega)) q)
    refine e_iconst (x := -1) dJ1_indexOfChar_4cfef_31 (by decide) ?_
    exact e_iret dJ1_indexOfChar_4cfef_32 rfl rfl ⟨rfl, rfl, rfl⟩
  | cons b l ih =>
    intro j hj hle
    have hjl : j < (rbyt.getD i []).length := by
      rcases Nat.lt_or_ge j (rbyt.getD i []).length with q | q
      · exact q
      · rw [List.drop_eq_nil_of_le q] at hj
        cases hj
    have hb : (rbyt.getD i []).getD j 0 = b := by
      rw [List.drop_eq_getElem_cons hjl] at hj
      rw [List.getD_eq_getElem?_getD, List.getElem?_eq_getElem hjl]
      exact (List.cons.inj hj).1
    have hl2 : (rbyt.getD i []).drop (j + 1) = l := by
      rw [List.drop_eq_getElem_cons hjl] at hj
      exact (List.cons.inj hj).2
    refine e_iload dJ1_indexOfChar_4cfef_7 rfl ?_
    refine e_iload_n dJ1_indexOfChar_4cfef_9 rfl ?_
    refine e_icmp_ge (tgt := 31) dJ1_indexOfChar_4cfef_10 (by decide) (fun q => absurd q (nI_ge (by omega) (by omega))) (fun q => ?_)
    refine e_aload_n dJ1_indexOfChar_4cfef_13 rfl ?_
    refine e_iload dJ1_indexOfChar_4cfef_14 rfl ?_
    refine e_bald hi dJ1_indexOfChar_4cfef_16 (nI_clamp (by omega)) (by omega) (nI_pos (by omega)) ?_
    refine e_iload dJ1_indexOfChar_4cfef_17 rfl ?_
    rw [hb]
    refine e_icmp_ne (tgt := 25) dJ1_indexOfChar_4cfef_19 (by decide) (fun q2 => ?_) (fun q2 => ?_)
    · refine e_iinc (y := nI (j + 1)) (lv' := [(5, .int (nI (j + 1))), (4, .int c8), (0, .ref (1000020 + i)), (1, .int c), (2, .int 0), (3, .int (nI (rlen.getD i 0)))]) dJ1_indexOfChar_4cfef_25 rfl (nI_1 j) (by decide) rfl ?_
      refine e_goto (tgt := 7) dJ1_indexOfChar_4cfef_28 (by decide) ?_
      have e : sfrom c8 (b :: l) j = sfrom c8 l (j + 1) := by
        show (if b = c8 then nI j else sfrom c8 l (j + 1)) = _
        rw [if_neg q2]
      rw [e]
      exact ih (j + 1) hl2 (by omega)
    · refine e_iload dJ1_indexOfChar_4cfef_22 rfl ?_
      exact e_iret dJ1_indexOfChar_4cfef_24 rfl rfl ⟨by
        show _ = some (Value.int (if b = c8 then nI j else sfrom c8 l (j + 1)))
        rw [if_pos q2], rfl, rfl⟩
theorem x_ixc {i : Nat} (hi : i < 3) {c : Int32} : EvM mJ1_indexOfChar_4cfef 1 0 0 [.ref (1000020 + i), .int c, .int 0, .int (nI (rlen.getD i 0))] S v (rPs S v (sfrom c.toInt8.toInt32 (rbyt.getD i []) 0)) := by
  refine evm_of (by decide +kernel) (fun G => Nat.le_of_ble_eq_true rfl) ?_
  show Ev mJ1_indexOfChar_4cfef 1 0 0 0 [(0, .ref (1000020 + i)), (1, .int c), (2, .int 0), (3, .int (nI (rlen.getD i 0)))] [] S v _
  refine e_iload_n dJ1_indexOfChar_4cfef_0 rfl ?_
  refine e_i2b dJ1_indexOfChar_4cfef_1 rfl ?_
  refine e_istore (lv' := [(4, .int c.toInt8.toInt32), (0, .ref (1000020 + i)), (1, .int c), (2, .int 0), (3, .int (nI (rlen.getD i 0)))]) dJ1_indexOfChar_4cfef_2 (by decide) rfl ?_
  refine e_iload_n dJ1_indexOfChar_4cfef_4 rfl ?_
  refine e_istore (lv' := [(5, .int 0), (4, .int c.toInt8.toInt32), (0, .ref (1000020 + i)), (1, .int c), (2, .int 0), (3, .int (nI (rlen.getD i 0)))]) dJ1_indexOfChar_4cfef_5 (by decide) rfl ?_
  exact b_ixc hi (rbyt.getD i []) 0 rfl (Nat.zero_le _)
theorem x_lix {i : Nat} (hi : i < 3) {c : Int32} : EvM mJ1_indexOf_4cfef 2 0 0 [.ref (1000020 + i), .int c, .int 0, .int (nI (rlen.getD i 0))] S v (rPs S v (sidx i c)) := by
  have hlen : rlen.getD i 0 ≤ 12 ∧ 0 < rlen.getD i 0 := by
    rcases (by omega : i = 0 ∨ i = 1 ∨ i = 2) with rfl | rfl | rfl <;> decide
  refine evm_of (by decide +kernel) (fun G => Nat.le_of_ble_eq_true rfl) ?_
  show Ev mJ1_indexOf_4cfef 2 0 0 0 [(0, .ref (1000020 + i)), (1, .int c), (2, .int 0), (3, .int (nI (rlen.getD i 0)))] [] S v _
  refine e_iload_n dJ1_indexOf_4cfef_0 rfl ?_
  refine e_callS (M' := mJ1_canEncode_9a6ad) [.int c] dJ1_indexOf_4cfef_1 rfl wmJ1_88 stJ1_canEncode_9a6ad lkJ1_canEncode_9a6ad (Nat.le_of_ble_eq_true rfl) x_canEncode (Nat.zero_le _) (Nat.zero_le _) (fun r S' v' hp => ?_)
  obtain ⟨rfl, rfl, rfl⟩ := hp
  refine ⟨rfl, ?_⟩
  refine e_if_ne (x := if c < 0 then 0 else if 255 < c then 0 else 1) (tgt := 9) dJ1_indexOf_4cfef_4 (by decide) (fun q => ?_) (fun q => ?_)
  · have h0 : ¬ c < 0 := fun h => q (if_pos h)
    have h1 : ¬ 255 < c := fun h => q (by rw [if_neg h0, if_pos h])
    refine e_iload_n dJ1_indexOf_4cfef_9 rfl ?_
    refine e_iconst (x := 0) dJ1_indexOf_4cfef_10 (by decide) ?_
    refine e_max dJ1_indexOf_4cfef_11 wmJ1_92 wmst_max winimath wmcd_max (by omega) (Nat.le_of_ble_eq_true rfl) ?_
    refine e_istore_n (lv' := [(2, .int 0), (0, .ref (1000020 + i)), (1, .int c), (3, .int (nI (rlen.getD i 0)))]) dJ1_indexOf_4cfef_14 (by decide) rfl ?_
    refine e_iload_n dJ1_indexOf_4cfef_15 rfl ?_
    refine e_aload_n dJ1_indexOf_4cfef_16 rfl ?_
    refine e_blen hi dJ1_indexOf_4cfef_17 (x := nI (rlen.getD i 0)) rfl ?_
    refine e_min dJ1_indexOf_4cfef_18 wmJ1_38 wmst_min winimath wmcd_min (by omega) (Nat.le_of_ble_eq_true rfl) ?_
    refine e_nameI (y := nI (rlen.getD i 0)) (by split <;> rfl) ?_
    refine e_istore_n (lv' := [(3, .int (nI (rlen.getD i 0))), (2, .int 0), (0, .ref (1000020 + i)), (1, .int c)]) dJ1_indexOf_4cfef_21 (by decide) rfl ?_
    refine e_iload_n dJ1_indexOf_4cfef_22 rfl ?_
    refine e_iload_n dJ1_indexOf_4cfef_23 rfl ?_
    refine e_icmp_lt (tgt := 29) dJ1_indexOf_4cfef_24 (by decide) (fun q2 => ?_) (fun q2 => absurd (nI_lt hlen.2 (by omega)) q2)
    refine e_aload_n dJ1_indexOf_4cfef_29 rfl ?_
    refine e_iload_n dJ1_indexOf_4cfef_30 rfl ?_
    refine e_iload_n dJ1_indexOf_4cfef_31 rfl ?_
    refine e_iload_n dJ1_indexOf_4cfef_32 rfl ?_
    refine e_callS (M' := mJ1_indexOfChar_4cfef) [.ref (1000020 + i), .int c, .int 0, .int (nI (rlen.getD i 0))] dJ1_indexOf_4cfef_33 rfl wmJ1_95 stJ1_indexOfChar_4cfef lkJ1_indexOfChar_4cfef (Nat.le_of_ble_eq_true rfl) (x_ixc hi) (Nat.zero_le _) (Nat.zero_le _) (fun r S' v' hp => ?_)
    obtain ⟨rfl, rfl, rfl⟩ := hp
    refine ⟨rfl, ?_⟩
    exact e_iret (x := sfrom c.toInt8.toInt32 (rbyt.getD i []) 0) dJ1_indexOf_4cfef_36 rfl rfl ⟨by unfold sidx; rw [if_neg h0, if_neg h1], rfl, rfl⟩
  · have hs : sidx i c = -1 := by
      unfold sidx
      by_cases h0 : c < 0
      · rw [if_pos h0]
      · by_cases h1 : 255 < c
        · rw [if_neg h0, if_pos h1]
        · rw [if_neg h0, if_neg h1] at q
          exact absurd q (by decide)
    refine e_iconst (x := -1) dJ1_indexOf_4cfef_7 (by decide) ?_
    exact e_iret dJ1_indexOf_4cfef_8 rfl rfl ⟨by rw [hs], rfl, rfl⟩
theorem x_ix2 {i : Nat} (hi : i < 3) {c : Int32} : EvM mJ0_indexOf_7cf53 3 0 0 [.ref (1000010 + i), .int c, .int 0] S v (rPs S v (sidx i c)) := by
  refine evm_of (by decide +kernel) (fun G => Nat.le_of_ble_eq_true rfl) ?_
  show Ev mJ0_indexOf_7cf53 3 0 0 0 [(0, .ref (1000010 + i)), (1, .int c), (2, .int 0)] [] S v _
  refine e_aload_n dJ0_indexOf_7cf53_0 rfl ?_
  refine e_callVS (M' := mJ0_isLatin1_aae02) hi [] rfl dJ0_indexOf_7cf53_1 rfl wmJ0_492 imJ0_isLatin1_aae02 seJ0_isLatin1_aae02 lkJ0_isLatin1_aae02 (Nat.le_of_ble_eq_true rfl) ((x_isLatin1 hi).mono (by omega)) (Nat.zero_le _) (Nat.zero_le _) (fun r S' v' hp => ?_)
  obtain ⟨rfl, rfl, rfl⟩ := hp
  refine ⟨rfl, ?_⟩
  refine e_if_eq (x := 1) (tgt := 23) dJ0_indexOf_7cf53_4 (by decide) (fun q => absurd q (by decide)) (fun q => ?_)
  refine e_aload_n dJ0_indexOf_7cf53_7 rfl ?_
  refine e_value hi dJ0_indexOf_7cf53_8 wfJ0_9 ?_
  refine e_iload_n dJ0_indexOf_7cf53_11 rfl ?_
  refine e_iload_n dJ0_indexOf_7cf53_12 rfl ?_
  refine e_aload_n dJ0_indexOf_7cf53_13 rfl ?_
  refine e_callVS (M' := mJ0_length_8abf5) hi [] rfl dJ0_indexOf_7cf53_14 rfl wmJ0_505 imJ0_length_8abf5 seJ0_length_8abf5 lkJ0_length_8abf5 (Nat.le_of_ble_eq_true rfl) (x_strlen hi (x := nI (rlen.getD i 0)) rfl) (Nat.zero_le _) (Nat.zero_le _) (fun r S' v' hp => ?_)
  obtain ⟨rfl, rfl, rfl⟩ := hp
  refine ⟨rfl, ?_⟩
  refine e_callS (M' := mJ1_indexOf_4cfef) (st := []) [.ref (1000020 + i), .int c, .int 0, .int (nI (rlen.getD i 0))] dJ0_indexOf_7cf53_17 rfl wmJ0_637 stJ1_indexOf_4cfef lkJ1_indexOf_4cfef (Nat.le_of_ble_eq_true rfl) (x_lix hi) (Nat.zero_le _) (Nat.zero_le _) (fun r S' v' hp => ?_)
  obtain ⟨rfl, rfl, rfl⟩ := hp
  refine ⟨rfl, ?_⟩
  refine e_goto (tgt := 36) dJ0_indexOf_7cf53_20 (by decide) ?_
  exact e_iret (x := sidx i c) dJ0_indexOf_7cf53_36 rfl rfl ⟨rfl, rfl, rfl⟩
theorem x_ix {i : Nat} (hi : i < 3) {c : Int32} : EvM mJ0_indexOf_0f7a4 4 0 0 [.ref (1000010 + i), .int c] S v (rPs S v (sidx i c)) := by
  refine evm_of (by decide +kernel) (fun G => Nat.le_of_ble_eq_true rfl) ?_
  show Ev mJ0_indexOf_0f7a4 4 0 0 0 [(0, .ref (1000010 + i)), (1, .int c)] [] S v _
  refine e_aload_n dJ0_indexOf_0f7a4_0 rfl ?_
  refine e_iload_n dJ0_indexOf_0f7a4_1 rfl ?_
  refine e_iconst (x := 0) dJ0_indexOf_0f7a4_2 (by decide) ?_
  refine e_callVS (M' := mJ0_indexOf_7cf53) hi [.int c, .int 0] rfl dJ0_indexOf_0f7a4_3 rfl wmJ0_633 imJ0_indexOf_7cf53 seJ0_indexOf_7cf53 lkJ0_indexOf_7cf53 (Nat.le_of_ble_eq_true rfl) (x_ix2 hi) (Nat.zero_le _) (Nat.zero_le _) (fun r S' v' hp => ?_)
  obtain ⟨rfl, rfl, rfl⟩ := hp
  refine ⟨rfl, ?_⟩
  exact e_iret (x := sidx i c) dJ0_indexOf_0f7a4_6 rfl rfl ⟨rfl, rfl, rfl⟩
end STRM
section STRS
variable {M : rM} {d bc bs pc idx : Nat} {lv : List (Nat × Value)} {st : List Value} {v : rV} {S : rS} {Post : Option Value → rS → rV → Prop}
theorem e_indexOf {i : Nat} {c : Int32} (hi : i < 3) (hd : decode M.2.1 pc = .ok (.invokevirtual idx, 3)) (hw : Cond.methodLink M.1.cls idx yJ0_indexOf_0f7a4 ∈ rtbl) (hD : 10 ≤ d) (hsum : (st.map fun w => w.category).sum ≤ 8)
    (kk : Ev M d bc bs (pc + 3) lv (.int (sidx i c) :: st) S v Post) : Ev M d bc bs pc lv (.int c :: .ref (1000010 + i) :: st) S v Post := by
  obtain ⟨d', rfl⟩ : ∃ d', d = d' + 1 := ⟨d - 1, by omega⟩
  exact e_callVS (M' := mJ0_indexOf_0f7a4) hi [.int c] rfl hd rfl hw imJ0_indexOf_0f7a4 seJ0_indexOf_0f7a4 lkJ0_indexOf_0f7a4 hsum ((x_ix hi).mono (by omega)) (Nat.zero_le _) (Nat.zero_le _) (fun r S' v' hp => by
    obtain ⟨rfl, rfl, rfl⟩ := hp
    exact ⟨rfl, kk⟩)
theorem e_strlen {i : Nat} (hi : i < 3) (hd : decode M.2.1 pc = .ok (.invokevirtual idx, 3)) (hw : Cond.methodLink M.1.cls idx yJ0_length_8abf5 ∈ rtbl) (hD : 10 ≤ d) (hsum : (st.map fun w => w.category).sum ≤ 8)
    (kk : Ev M d bc bs (pc + 3) lv (.int (nI (rlen.getD i 0)) :: st) S v Post) : Ev M d bc bs pc lv (.ref (1000010 + i) :: st) S v Post := by
  obtain ⟨d', rfl⟩ : ∃ d', d = d' + 1 := ⟨d - 1, by omega⟩
  exact e_callVS (M' := mJ0_length_8abf5) hi [] rfl hd rfl hw imJ0_length_8abf5 seJ0_length_8abf5 lkJ0_length_8abf5 hsum ((x_strlen hi rfl).mono (by omega)) (Nat.zero_le _) (Nat.zero_le _) (fun r S' v' hp => by
    obtain ⟨rfl, rfl, rfl⟩ := hp
    exact ⟨rfl, kk⟩)
theorem e_alenJ {k n : Nat} {ty : FieldType} {x : Int32} (hd : decode M.2.1 pc = .ok (.arraylength, 1)) (hk : S.1[k]? = some (.inl (n, ty))) (hty : ty = .int ∨ ty = .long ∨ ty.isReference = true) (hx : Int32.ofNat n = x)
    (kk : Ev M d bc bs (pc + 1) lv (.int x :: st) S v Post) : Ev M d bc bs pc lv (.ref k :: st) S v Post := e_alen hd hk hty (by rw [hx]; exact kk)
theorem e_strlenJ {i : Nat} {x : Int32} (hi : i < 3) (hd : decode M.2.1 pc = .ok (.invokevirtual idx, 3)) (hw : Cond.methodLink M.1.cls idx yJ0_length_8abf5 ∈ rtbl) (hD : 10 ≤ d) (hsum : (st.map fun w => w.category).sum ≤ 8) (hx : nI (rlen.getD i 0) = x)
    (kk : Ev M d bc bs (pc + 3) lv (.int x :: st) S v Post) : Ev M d bc bs pc lv (.ref (1000010 + i) :: st) S v Post := e_strlen hi hd hw hD hsum (by rw [hx]; exact kk)
end STRS
