/-! decode rows -/
theorem dX7_init_0 : decode mX7_init.2.1 0 = .ok (.aload_n 0, 1) := by decide +kernel
theorem dX7_init_1 : decode mX7_init.2.1 1 = .ok (.invokespecial 3, 3) := by decide +kernel
theorem dX7_init_4 : decode mX7_init.2.1 4 = .ok (.aload_n 0, 1) := by decide +kernel
theorem dX7_init_5 : decode mX7_init.2.1 5 = .ok (.new 9, 3) := by decide +kernel
theorem dX7_init_8 : decode mX7_init.2.1 8 = .ok (.dup, 1) := by decide +kernel
theorem dX7_init_9 : decode mX7_init.2.1 9 = .ok (.invokespecial 11, 3) := by decide +kernel
theorem dX7_init_12 : decode mX7_init.2.1 12 = .ok (.putfield 12, 3) := by decide +kernel
theorem dX7_init_15 : decode mX7_init.2.1 15 = .ok (.aload_n 0, 1) := by decide +kernel
theorem dX7_init_16 : decode mX7_init.2.1 16 = .ok (.new 16, 3) := by decide +kernel
theorem dX7_init_19 : decode mX7_init.2.1 19 = .ok (.dup, 1) := by decide +kernel
theorem dX7_init_20 : decode mX7_init.2.1 20 = .ok (.aload_n 0, 1) := by decide +kernel
theorem dX7_init_21 : decode mX7_init.2.1 21 = .ok (.getfield 12, 3) := by decide +kernel
theorem dX7_init_24 : decode mX7_init.2.1 24 = .ok (.invokespecial 18, 3) := by decide +kernel
theorem dX7_init_27 : decode mX7_init.2.1 27 = .ok (.putfield 21, 3) := by decide +kernel
theorem dX7_init_30 : decode mX7_init.2.1 30 = .ok (.aload_n 0, 1) := by decide +kernel
theorem dX7_init_31 : decode mX7_init.2.1 31 = .ok (.new 25, 3) := by decide +kernel
theorem dX7_init_34 : decode mX7_init.2.1 34 = .ok (.dup, 1) := by decide +kernel
theorem dX7_init_35 : decode mX7_init.2.1 35 = .ok (.aload_n 0, 1) := by decide +kernel
theorem dX7_init_36 : decode mX7_init.2.1 36 = .ok (.getfield 12, 3) := by decide +kernel
theorem dX7_init_39 : decode mX7_init.2.1 39 = .ok (.invokespecial 27, 3) := by decide +kernel
theorem dX7_init_42 : decode mX7_init.2.1 42 = .ok (.putfield 28, 3) := by decide +kernel
theorem dX7_init_45 : decode mX7_init.2.1 45 = .ok (.aload_n 0, 1) := by decide +kernel
theorem dX7_init_46 : decode mX7_init.2.1 46 = .ok (.new 32, 3) := by decide +kernel
theorem dX7_init_49 : decode mX7_init.2.1 49 = .ok (.dup, 1) := by decide +kernel
theorem dX7_init_50 : decode mX7_init.2.1 50 = .ok (.invokespecial 34, 3) := by decide +kernel
theorem dX7_init_53 : decode mX7_init.2.1 53 = .ok (.putfield 35, 3) := by decide +kernel
theorem dX7_init_56 : decode mX7_init.2.1 56 = .ok (.aload_n 0, 1) := by decide +kernel
theorem dX7_init_57 : decode mX7_init.2.1 57 = .ok (.new 32, 3) := by decide +kernel
theorem dX7_init_60 : decode mX7_init.2.1 60 = .ok (.dup, 1) := by decide +kernel
theorem dX7_init_61 : decode mX7_init.2.1 61 = .ok (.invokespecial 34, 3) := by decide +kernel
theorem dX7_init_64 : decode mX7_init.2.1 64 = .ok (.putfield 39, 3) := by decide +kernel
theorem dX7_init_67 : decode mX7_init.2.1 67 = .ok (.aload_n 0, 1) := by decide +kernel
theorem dX7_init_68 : decode mX7_init.2.1 68 = .ok (.bipush 12, 2) := by decide +kernel
theorem dX7_init_70 : decode mX7_init.2.1 70 = .ok (.bipush 12, 2) := by decide +kernel
theorem dX7_init_72 : decode mX7_init.2.1 72 = .ok (.multianewarray 42 2, 4) := by decide +kernel
theorem dX7_init_76 : decode mX7_init.2.1 76 = .ok (.putfield 44, 3) := by decide +kernel
theorem dX7_init_79 : decode mX7_init.2.1 79 = .ok (.aload_n 0, 1) := by decide +kernel
theorem dX7_init_80 : decode mX7_init.2.1 80 = .ok (.bipush 12, 2) := by decide +kernel
theorem dX7_init_82 : decode mX7_init.2.1 82 = .ok (.newarray .int, 2) := by decide +kernel
theorem dX7_init_84 : decode mX7_init.2.1 84 = .ok (.putfield 47, 3) := by decide +kernel
theorem dX7_init_87 : decode mX7_init.2.1 87 = .ok (.aload_n 0, 1) := by decide +kernel
theorem dX7_init_88 : decode mX7_init.2.1 88 = .ok (.bipush 12, 2) := by decide +kernel
theorem dX7_init_90 : decode mX7_init.2.1 90 = .ok (.newarray .int, 2) := by decide +kernel
theorem dX7_init_92 : decode mX7_init.2.1 92 = .ok (.putfield 51, 3) := by decide +kernel
theorem dX7_init_95 : decode mX7_init.2.1 95 = .ok (.aload_n 0, 1) := by decide +kernel
theorem dX7_init_96 : decode mX7_init.2.1 96 = .ok (.bipush 6, 2) := by decide +kernel
theorem dX7_init_98 : decode mX7_init.2.1 98 = .ok (.bipush 24, 2) := by decide +kernel
theorem dX7_init_100 : decode mX7_init.2.1 100 = .ok (.multianewarray 42 2, 4) := by decide +kernel
theorem dX7_init_104 : decode mX7_init.2.1 104 = .ok (.putfield 54, 3) := by decide +kernel
theorem dX7_init_107 : decode mX7_init.2.1 107 = .ok (.aload_n 0, 1) := by decide +kernel
theorem dX7_init_108 : decode mX7_init.2.1 108 = .ok (.bipush 24, 2) := by decide +kernel
theorem dX7_init_110 : decode mX7_init.2.1 110 = .ok (.newarray .int, 2) := by decide +kernel
theorem dX7_init_112 : decode mX7_init.2.1 112 = .ok (.putfield 57, 3) := by decide +kernel
theorem dX7_init_115 : decode mX7_init.2.1 115 = .ok (.aload_n 0, 1) := by decide +kernel
theorem dX7_init_116 : decode mX7_init.2.1 116 = .ok (.new 60, 3) := by decide +kernel
theorem dX7_init_119 : decode mX7_init.2.1 119 = .ok (.dup, 1) := by decide +kernel
theorem dX7_init_120 : decode mX7_init.2.1 120 = .ok (.invokespecial 62, 3) := by decide +kernel
theorem dX7_init_123 : decode mX7_init.2.1 123 = .ok (.putfield 63, 3) := by decide +kernel
theorem dX7_init_126 : decode mX7_init.2.1 126 = .ok (.aload_n 0, 1) := by decide +kernel
theorem dX7_init_127 : decode mX7_init.2.1 127 = .ok (.new 60, 3) := by decide +kernel
theorem dX7_init_130 : decode mX7_init.2.1 130 = .ok (.dup, 1) := by decide +kernel
theorem dX7_init_131 : decode mX7_init.2.1 131 = .ok (.invokespecial 62, 3) := by decide +kernel
theorem dX7_init_134 : decode mX7_init.2.1 134 = .ok (.putfield 67, 3) := by decide +kernel
theorem dX7_init_137 : decode mX7_init.2.1 137 = .ok (.aload_n 0, 1) := by decide +kernel
theorem dX7_init_138 : decode mX7_init.2.1 138 = .ok (.new 60, 3) := by decide +kernel
theorem dX7_init_141 : decode mX7_init.2.1 141 = .ok (.dup, 1) := by decide +kernel
theorem dX7_init_142 : decode mX7_init.2.1 142 = .ok (.invokespecial 62, 3) := by decide +kernel
theorem dX7_init_145 : decode mX7_init.2.1 145 = .ok (.putfield 70, 3) := by decide +kernel
theorem dX7_init_148 : decode mX7_init.2.1 148 = .ok (.aload_n 0, 1) := by decide +kernel
theorem dX7_init_149 : decode mX7_init.2.1 149 = .ok (.iconst 3, 1) := by decide +kernel
theorem dX7_init_150 : decode mX7_init.2.1 150 = .ok (.putfield 73, 3) := by decide +kernel
theorem dX7_init_153 : decode mX7_init.2.1 153 = .ok (.iconst 0, 1) := by decide +kernel
theorem dX7_init_154 : decode mX7_init.2.1 154 = .ok (.istore_n 1, 1) := by decide +kernel
theorem dX7_init_155 : decode mX7_init.2.1 155 = .ok (.iload_n 1, 1) := by decide +kernel
theorem dX7_init_156 : decode mX7_init.2.1 156 = .ok (.aload_n 0, 1) := by decide +kernel
theorem dX7_init_157 : decode mX7_init.2.1 157 = .ok (.getfield 47, 3) := by decide +kernel
theorem dX7_init_160 : decode mX7_init.2.1 160 = .ok (.arraylength, 1) := by decide +kernel
theorem dX7_init_161 : decode mX7_init.2.1 161 = .ok (.if_icmp .ge 16, 3) := by decide +kernel
theorem dX7_init_164 : decode mX7_init.2.1 164 = .ok (.aload_n 0, 1) := by decide +kernel
theorem dX7_init_165 : decode mX7_init.2.1 165 = .ok (.getfield 47, 3) := by decide +kernel
theorem dX7_init_168 : decode mX7_init.2.1 168 = .ok (.iload_n 1, 1) := by decide +kernel
theorem dX7_init_169 : decode mX7_init.2.1 169 = .ok (.iconst 1, 1) := by decide +kernel
theorem dX7_init_170 : decode mX7_init.2.1 170 = .ok (.iastore, 1) := by decide +kernel
theorem dX7_init_171 : decode mX7_init.2.1 171 = .ok (.iinc 1 1, 3) := by decide +kernel
theorem dX7_init_174 : decode mX7_init.2.1 174 = .ok (.goto (-19), 3) := by decide +kernel
theorem dX7_init_177 : decode mX7_init.2.1 177 = .ok (.return_, 1) := by decide +kernel
theorem dX7_feed_0 : decode mX7_feed.2.1 0 = .ok (.iload_n 1, 1) := by decide +kernel
theorem dX7_feed_1 : decode mX7_feed.2.1 1 = .ok (.invokestatic 77, 3) := by decide +kernel
theorem dX7_feed_4 : decode mX7_feed.2.1 4 = .ok (.iload_n 2, 1) := by decide +kernel
theorem dX7_feed_5 : decode mX7_feed.2.1 5 = .ok (.invokestatic 77, 3) := by decide +kernel
theorem dX7_feed_8 : decode mX7_feed.2.1 8 = .ok (.iadd, 1) := by decide +kernel
theorem dX7_feed_9 : decode mX7_feed.2.1 9 = .ok (.iload_n 3, 1) := by decide +kernel
theorem dX7_feed_10 : decode mX7_feed.2.1 10 = .ok (.invokestatic 77, 3) := by decide +kernel
theorem dX7_feed_13 : decode mX7_feed.2.1 13 = .ok (.iadd, 1) := by decide +kernel
theorem dX7_feed_14 : decode mX7_feed.2.1 14 = .ok (.iload 4, 2) := by decide +kernel
theorem dX7_feed_16 : decode mX7_feed.2.1 16 = .ok (.invokestatic 77, 3) := by decide +kernel
theorem dX7_feed_19 : decode mX7_feed.2.1 19 = .ok (.iadd, 1) := by decide +kernel
theorem dX7_feed_20 : decode mX7_feed.2.1 20 = .ok (.iload 5, 2) := by decide +kernel
theorem dX7_feed_22 : decode mX7_feed.2.1 22 = .ok (.invokestatic 77, 3) := by decide +kernel
theorem dX7_feed_25 : decode mX7_feed.2.1 25 = .ok (.iadd, 1) := by decide +kernel
theorem dX7_feed_26 : decode mX7_feed.2.1 26 = .ok (.istore 6, 2) := by decide +kernel
theorem dX7_feed_28 : decode mX7_feed.2.1 28 = .ok (.aload_n 0, 1) := by decide +kernel
theorem dX7_feed_29 : decode mX7_feed.2.1 29 = .ok (.getfield 12, 3) := by decide +kernel
theorem dX7_feed_32 : decode mX7_feed.2.1 32 = .ok (.getfield 81, 3) := by decide +kernel
theorem dX7_feed_35 : decode mX7_feed.2.1 35 = .ok (.iload 6, 2) := by decide +kernel
theorem dX7_feed_37 : decode mX7_feed.2.1 37 = .ok (.iadd, 1) := by decide +kernel
theorem dX7_feed_38 : decode mX7_feed.2.1 38 = .ok (.sipush 160, 3) := by decide +kernel
theorem dX7_feed_41 : decode mX7_feed.2.1 41 = .ok (.if_icmp .le 5, 3) := by decide +kernel
theorem dX7_feed_44 : decode mX7_feed.2.1 44 = .ok (.iconst (-1), 1) := by decide +kernel
theorem dX7_feed_45 : decode mX7_feed.2.1 45 = .ok (.ireturn, 1) := by decide +kernel
theorem dX7_feed_46 : decode mX7_feed.2.1 46 = .ok (.aload_n 0, 1) := by decide +kernel
theorem dX7_feed_47 : decode mX7_feed.2.1 47 = .ok (.getfield 12, 3) := by decide +kernel
theorem dX7_feed_50 : decode mX7_feed.2.1 50 = .ok (.iload_n 1, 1) := by decide +kernel
theorem dX7_feed_51 : decode mX7_feed.2.1 51 = .ok (.invokevirtual 84, 3) := by decide +kernel
theorem dX7_feed_54 : decode mX7_feed.2.1 54 = .ok (.aload_n 0, 1) := by decide +kernel
theorem dX7_feed_55 : decode mX7_feed.2.1 55 = .ok (.getfield 12, 3) := by decide +kernel
theorem dX7_feed_58 : decode mX7_feed.2.1 58 = .ok (.iload_n 2, 1) := by decide +kernel
theorem dX7_feed_59 : decode mX7_feed.2.1 59 = .ok (.invokevirtual 84, 3) := by decide +kernel
theorem dX7_feed_62 : decode mX7_feed.2.1 62 = .ok (.aload_n 0, 1) := by decide +kernel
theorem dX7_feed_63 : decode mX7_feed.2.1 63 = .ok (.getfield 12, 3) := by decide +kernel
theorem dX7_feed_66 : decode mX7_feed.2.1 66 = .ok (.iload_n 3, 1) := by decide +kernel
theorem dX7_feed_67 : decode mX7_feed.2.1 67 = .ok (.invokevirtual 84, 3) := by decide +kernel
theorem dX7_feed_70 : decode mX7_feed.2.1 70 = .ok (.aload_n 0, 1) := by decide +kernel
theorem dX7_feed_71 : decode mX7_feed.2.1 71 = .ok (.getfield 12, 3) := by decide +kernel
theorem dX7_feed_74 : decode mX7_feed.2.1 74 = .ok (.iload 4, 2) := by decide +kernel
theorem dX7_feed_76 : decode mX7_feed.2.1 76 = .ok (.invokevirtual 84, 3) := by decide +kernel
theorem dX7_feed_79 : decode mX7_feed.2.1 79 = .ok (.aload_n 0, 1) := by decide +kernel
theorem dX7_feed_80 : decode mX7_feed.2.1 80 = .ok (.getfield 12, 3) := by decide +kernel
theorem dX7_feed_83 : decode mX7_feed.2.1 83 = .ok (.iload 5, 2) := by decide +kernel
theorem dX7_feed_85 : decode mX7_feed.2.1 85 = .ok (.invokevirtual 84, 3) := by decide +kernel
theorem dX7_feed_88 : decode mX7_feed.2.1 88 = .ok (.aload_n 0, 1) := by decide +kernel
theorem dX7_feed_89 : decode mX7_feed.2.1 89 = .ok (.getfield 12, 3) := by decide +kernel
theorem dX7_feed_92 : decode mX7_feed.2.1 92 = .ok (.getfield 81, 3) := by decide +kernel
theorem dX7_feed_95 : decode mX7_feed.2.1 95 = .ok (.ireturn, 1) := by decide +kernel
theorem dX7_end_0 : decode mX7_end.2.1 0 = .ok (.iload_n 1, 1) := by decide +kernel
theorem dX7_end_1 : decode mX7_end.2.1 1 = .ok (.ifCond .lt 14, 3) := by decide +kernel
theorem dX7_end_4 : decode mX7_end.2.1 4 = .ok (.iload_n 1, 1) := by decide +kernel
theorem dX7_end_5 : decode mX7_end.2.1 5 = .ok (.aload_n 0, 1) := by decide +kernel
theorem dX7_end_6 : decode mX7_end.2.1 6 = .ok (.getfield 12, 3) := by decide +kernel
theorem dX7_end_9 : decode mX7_end.2.1 9 = .ok (.getfield 81, 3) := by decide +kernel
theorem dX7_end_12 : decode mX7_end.2.1 12 = .ok (.if_icmp .le 5, 3) := by decide +kernel
theorem dX7_end_15 : decode mX7_end.2.1 15 = .ok (.iconst 0, 1) := by decide +kernel
theorem dX7_end_16 : decode mX7_end.2.1 16 = .ok (.ireturn, 1) := by decide +kernel
theorem dX7_end_17 : decode mX7_end.2.1 17 = .ok (.aload_n 0, 1) := by decide +kernel
theorem dX7_end_18 : decode mX7_end.2.1 18 = .ok (.getfield 12, 3) := by decide +kernel
theorem dX7_end_21 : decode mX7_end.2.1 21 = .ok (.iload_n 1, 1) := by decide +kernel
theorem dX7_end_22 : decode mX7_end.2.1 22 = .ok (.putfield 81, 3) := by decide +kernel
theorem dX7_end_25 : decode mX7_end.2.1 25 = .ok (.iconst 1, 1) := by decide +kernel
theorem dX7_end_26 : decode mX7_end.2.1 26 = .ok (.ireturn, 1) := by decide +kernel
theorem dX7_fault_0 : decode mX7_fault.2.1 0 = .ok (.iload_n 1, 1) := by decide +kernel
theorem dX7_fault_1 : decode mX7_fault.2.1 1 = .ok (.ifCond .ne 11, 3) := by decide +kernel
theorem dX7_fault_4 : decode mX7_fault.2.1 4 = .ok (.aload_n 0, 1) := by decide +kernel
theorem dX7_fault_5 : decode mX7_fault.2.1 5 = .ok (.getfield 21, 3) := by decide +kernel
theorem dX7_fault_8 : decode mX7_fault.2.1 8 = .ok (.invokevirtual 88, 3) := by decide +kernel
theorem dX7_fault_11 : decode mX7_fault.2.1 11 = .ok (.ireturn, 1) := by decide +kernel
theorem dX7_fault_12 : decode mX7_fault.2.1 12 = .ok (.iload_n 1, 1) := by decide +kernel
theorem dX7_fault_13 : decode mX7_fault.2.1 13 = .ok (.iconst 1, 1) := by decide +kernel
theorem dX7_fault_14 : decode mX7_fault.2.1 14 = .ok (.if_icmp .ne 11, 3) := by decide +kernel
theorem dX7_fault_17 : decode mX7_fault.2.1 17 = .ok (.aload_n 0, 1) := by decide +kernel
theorem dX7_fault_18 : decode mX7_fault.2.1 18 = .ok (.getfield 21, 3) := by decide +kernel
theorem dX7_fault_21 : decode mX7_fault.2.1 21 = .ok (.invokevirtual 92, 3) := by decide +kernel
theorem dX7_fault_24 : decode mX7_fault.2.1 24 = .ok (.ireturn, 1) := by decide +kernel
theorem dX7_fault_25 : decode mX7_fault.2.1 25 = .ok (.iload_n 1, 1) := by decide +kernel
theorem dX7_fault_26 : decode mX7_fault.2.1 26 = .ok (.iconst 2, 1) := by decide +kernel
theorem dX7_fault_27 : decode mX7_fault.2.1 27 = .ok (.if_icmp .ne 11, 3) := by decide +kernel
theorem dX7_fault_30 : decode mX7_fault.2.1 30 = .ok (.aload_n 0, 1) := by decide +kernel
theorem dX7_fault_31 : decode mX7_fault.2.1 31 = .ok (.getfield 28, 3) := by decide +kernel
theorem dX7_fault_34 : decode mX7_fault.2.1 34 = .ok (.invokevirtual 95, 3) := by decide +kernel
theorem dX7_fault_37 : decode mX7_fault.2.1 37 = .ok (.ireturn, 1) := by decide +kernel
theorem dX7_fault_38 : decode mX7_fault.2.1 38 = .ok (.bipush (-2), 2) := by decide +kernel
theorem dX7_fault_40 : decode mX7_fault.2.1 40 = .ok (.ireturn, 1) := by decide +kernel
theorem dX7_text_0 : decode mX7_text.2.1 0 = .ok (.aload_n 0, 1) := by decide +kernel
theorem dX7_text_1 : decode mX7_text.2.1 1 = .ok (.iload_n 1, 1) := by decide +kernel
theorem dX7_text_2 : decode mX7_text.2.1 2 = .ok (.invokevirtual 98, 3) := by decide +kernel
theorem dX7_text_5 : decode mX7_text.2.1 5 = .ok (.iconst (-1), 1) := by decide +kernel
theorem dX7_text_6 : decode mX7_text.2.1 6 = .ok (.if_icmp .eq 5, 3) := by decide +kernel
theorem dX7_text_9 : decode mX7_text.2.1 9 = .ok (.iconst (-1), 1) := by decide +kernel
theorem dX7_text_10 : decode mX7_text.2.1 10 = .ok (.ireturn, 1) := by decide +kernel
theorem dX7_text_11 : decode mX7_text.2.1 11 = .ok (.iload_n 1, 1) := by decide +kernel
theorem dX7_text_12 : decode mX7_text.2.1 12 = .ok (.iconst 2, 1) := by decide +kernel
theorem dX7_text_13 : decode mX7_text.2.1 13 = .ok (.if_icmp .ne 10, 3) := by decide +kernel
theorem dX7_text_16 : decode mX7_text.2.1 16 = .ok (.aload_n 0, 1) := by decide +kernel
theorem dX7_text_17 : decode mX7_text.2.1 17 = .ok (.invokevirtual 101, 3) := by decide +kernel
theorem dX7_text_20 : decode mX7_text.2.1 20 = .ok (.goto 28, 3) := by decide +kernel
theorem dX7_text_23 : decode mX7_text.2.1 23 = .ok (.iload_n 1, 1) := by decide +kernel
theorem dX7_text_24 : decode mX7_text.2.1 24 = .ok (.ifCond .ne 10, 3) := by decide +kernel
theorem dX7_text_27 : decode mX7_text.2.1 27 = .ok (.aload_n 0, 1) := by decide +kernel
theorem dX7_text_28 : decode mX7_text.2.1 28 = .ok (.getfield 35, 3) := by decide +kernel
theorem dX7_text_31 : decode mX7_text.2.1 31 = .ok (.goto 7, 3) := by decide +kernel
theorem dX7_text_34 : decode mX7_text.2.1 34 = .ok (.aload_n 0, 1) := by decide +kernel
theorem dX7_text_35 : decode mX7_text.2.1 35 = .ok (.getfield 39, 3) := by decide +kernel
theorem dX7_text_38 : decode mX7_text.2.1 38 = .ok (.aload_n 0, 1) := by decide +kernel
theorem dX7_text_39 : decode mX7_text.2.1 39 = .ok (.getfield 21, 3) := by decide +kernel
theorem dX7_text_42 : decode mX7_text.2.1 42 = .ok (.getfield 104, 3) := by decide +kernel
theorem dX7_text_45 : decode mX7_text.2.1 45 = .ok (.invokevirtual 108, 3) := by decide +kernel
theorem dX7_text_48 : decode mX7_text.2.1 48 = .ok (.istore_n 2, 1) := by decide +kernel
theorem dX7_text_49 : decode mX7_text.2.1 49 = .ok (.iload_n 2, 1) := by decide +kernel
theorem dX7_text_50 : decode mX7_text.2.1 50 = .ok (.iconst (-1), 1) := by decide +kernel
theorem dX7_text_51 : decode mX7_text.2.1 51 = .ok (.if_icmp .eq 11, 3) := by decide +kernel
theorem dX7_text_54 : decode mX7_text.2.1 54 = .ok (.aload_n 0, 1) := by decide +kernel
theorem dX7_text_55 : decode mX7_text.2.1 55 = .ok (.getfield 12, 3) := by decide +kernel
theorem dX7_text_58 : decode mX7_text.2.1 58 = .ok (.iconst 0, 1) := by decide +kernel
theorem dX7_text_59 : decode mX7_text.2.1 59 = .ok (.putfield 81, 3) := by decide +kernel
theorem dX7_text_62 : decode mX7_text.2.1 62 = .ok (.iload_n 2, 1) := by decide +kernel
theorem dX7_text_63 : decode mX7_text.2.1 63 = .ok (.ireturn, 1) := by decide +kernel
theorem dX7_keepDrop_0 : decode mX7_keepDrop.2.1 0 = .ok (.aload_n 0, 1) := by decide +kernel
theorem dX7_keepDrop_1 : decode mX7_keepDrop.2.1 1 = .ok (.getfield 112, 3) := by decide +kernel
theorem dX7_keepDrop_4 : decode mX7_keepDrop.2.1 4 = .ok (.aload_n 0, 1) := by decide +kernel
theorem dX7_keepDrop_5 : decode mX7_keepDrop.2.1 5 = .ok (.getfield 44, 3) := by decide +kernel
theorem dX7_keepDrop_8 : decode mX7_keepDrop.2.1 8 = .ok (.arraylength, 1) := by decide +kernel
theorem dX7_keepDrop_9 : decode mX7_keepDrop.2.1 9 = .ok (.if_icmp .lt 5, 3) := by decide +kernel
theorem dX7_keepDrop_12 : decode mX7_keepDrop.2.1 12 = .ok (.iconst (-1), 1) := by decide +kernel
theorem dX7_keepDrop_13 : decode mX7_keepDrop.2.1 13 = .ok (.ireturn, 1) := by decide +kernel
theorem dX7_keepDrop_14 : decode mX7_keepDrop.2.1 14 = .ok (.aload_n 0, 1) := by decide +kernel
theorem dX7_keepDrop_15 : decode mX7_keepDrop.2.1 15 = .ok (.getfield 28, 3) := by decide +kernel
theorem dX7_keepDrop_18 : decode mX7_keepDrop.2.1 18 = .ok (.getfield 115, 3) := by decide +kernel
theorem dX7_keepDrop_21 : decode mX7_keepDrop.2.1 21 = .ok (.iconst 0, 1) := by decide +kernel
theorem dX7_keepDrop_22 : decode mX7_keepDrop.2.1 22 = .ok (.aload_n 0, 1) := by decide +kernel
theorem dX7_keepDrop_23 : decode mX7_keepDrop.2.1 23 = .ok (.getfield 44, 3) := by decide +kernel
theorem dX7_keepDrop_26 : decode mX7_keepDrop.2.1 26 = .ok (.aload_n 0, 1) := by decide +kernel
theorem dX7_keepDrop_27 : decode mX7_keepDrop.2.1 27 = .ok (.getfield 112, 3) := by decide +kernel
theorem dX7_keepDrop_30 : decode mX7_keepDrop.2.1 30 = .ok (.aaload, 1) := by decide +kernel
theorem dX7_keepDrop_31 : decode mX7_keepDrop.2.1 31 = .ok (.iconst 0, 1) := by decide +kernel
theorem dX7_keepDrop_32 : decode mX7_keepDrop.2.1 32 = .ok (.bipush 12, 2) := by decide +kernel
theorem dX7_keepDrop_34 : decode mX7_keepDrop.2.1 34 = .ok (.invokestatic 118, 3) := by decide +kernel
theorem dX7_keepDrop_37 : decode mX7_keepDrop.2.1 37 = .ok (.aload_n 0, 1) := by decide +kernel
theorem dX7_keepDrop_38 : decode mX7_keepDrop.2.1 38 = .ok (.dup, 1) := by decide +kernel
theorem dX7_keepDrop_39 : decode mX7_keepDrop.2.1 39 = .ok (.getfield 112, 3) := by decide +kernel
theorem dX7_keepDrop_42 : decode mX7_keepDrop.2.1 42 = .ok (.iconst 1, 1) := by decide +kernel
theorem dX7_keepDrop_43 : decode mX7_keepDrop.2.1 43 = .ok (.iadd, 1) := by decide +kernel
theorem dX7_keepDrop_44 : decode mX7_keepDrop.2.1 44 = .ok (.putfield 112, 3) := by decide +kernel
theorem dX7_keepDrop_47 : decode mX7_keepDrop.2.1 47 = .ok (.aload_n 0, 1) := by decide +kernel
theorem dX7_keepDrop_48 : decode mX7_keepDrop.2.1 48 = .ok (.getfield 112, 3) := by decide +kernel
theorem dX7_keepDrop_51 : decode mX7_keepDrop.2.1 51 = .ok (.iconst 1, 1) := by decide +kernel
theorem dX7_keepDrop_52 : decode mX7_keepDrop.2.1 52 = .ok (.isub, 1) := by decide +kernel
theorem dX7_keepDrop_53 : decode mX7_keepDrop.2.1 53 = .ok (.ireturn, 1) := by decide +kernel
theorem dX7_drop_0 : decode mX7_drop.2.1 0 = .ok (.aload_n 0, 1) := by decide +kernel
theorem dX7_drop_1 : decode mX7_drop.2.1 1 = .ok (.iload_n 1, 1) := by decide +kernel
theorem dX7_drop_2 : decode mX7_drop.2.1 2 = .ok (.invokevirtual 124, 3) := by decide +kernel
theorem dX7_drop_5 : decode mX7_drop.2.1 5 = .ok (.ifCond .eq 13, 3) := by decide +kernel
theorem dX7_drop_8 : decode mX7_drop.2.1 8 = .ok (.iload_n 2, 1) := by decide +kernel
theorem dX7_drop_9 : decode mX7_drop.2.1 9 = .ok (.ifCond .lt 9, 3) := by decide +kernel
theorem dX7_drop_12 : decode mX7_drop.2.1 12 = .ok (.iload_n 2, 1) := by decide +kernel
theorem dX7_drop_13 : decode mX7_drop.2.1 13 = .ok (.bipush 12, 2) := by decide +kernel
theorem dX7_drop_15 : decode mX7_drop.2.1 15 = .ok (.if_icmp .lt 11, 3) := by decide +kernel
theorem dX7_drop_18 : decode mX7_drop.2.1 18 = .ok (.new 128, 3) := by decide +kernel
theorem dX7_drop_21 : decode mX7_drop.2.1 21 = .ok (.dup, 1) := by decide +kernel
theorem dX7_drop_22 : decode mX7_drop.2.1 22 = .ok (.invokespecial 130, 3) := by decide +kernel
theorem dX7_drop_25 : decode mX7_drop.2.1 25 = .ok (.athrow, 1) := by decide +kernel
theorem dX7_drop_26 : decode mX7_drop.2.1 26 = .ok (.aload_n 0, 1) := by decide +kernel
theorem dX7_drop_27 : decode mX7_drop.2.1 27 = .ok (.getfield 44, 3) := by decide +kernel
theorem dX7_drop_30 : decode mX7_drop.2.1 30 = .ok (.iload_n 1, 1) := by decide +kernel
theorem dX7_drop_31 : decode mX7_drop.2.1 31 = .ok (.aaload, 1) := by decide +kernel
theorem dX7_drop_32 : decode mX7_drop.2.1 32 = .ok (.iload_n 2, 1) := by decide +kernel
theorem dX7_drop_33 : decode mX7_drop.2.1 33 = .ok (.iaload, 1) := by decide +kernel
theorem dX7_drop_34 : decode mX7_drop.2.1 34 = .ok (.ireturn, 1) := by decide +kernel
theorem dX7_pace_0 : decode mX7_pace.2.1 0 = .ok (.iload_n 1, 1) := by decide +kernel
theorem dX7_pace_1 : decode mX7_pace.2.1 1 = .ok (.ifCond .lt 9, 3) := by decide +kernel
theorem dX7_pace_4 : decode mX7_pace.2.1 4 = .ok (.iload_n 1, 1) := by decide +kernel
theorem dX7_pace_5 : decode mX7_pace.2.1 5 = .ok (.bipush 99, 2) := by decide +kernel
theorem dX7_pace_7 : decode mX7_pace.2.1 7 = .ok (.if_icmp .le 5, 3) := by decide +kernel
theorem dX7_pace_10 : decode mX7_pace.2.1 10 = .ok (.iconst 0, 1) := by decide +kernel
theorem dX7_pace_11 : decode mX7_pace.2.1 11 = .ok (.ireturn, 1) := by decide +kernel
theorem dX7_pace_12 : decode mX7_pace.2.1 12 = .ok (.aload_n 0, 1) := by decide +kernel
theorem dX7_pace_13 : decode mX7_pace.2.1 13 = .ok (.iload_n 1, 1) := by decide +kernel
theorem dX7_pace_14 : decode mX7_pace.2.1 14 = .ok (.putfield 73, 3) := by decide +kernel
theorem dX7_pace_17 : decode mX7_pace.2.1 17 = .ok (.iconst 1, 1) := by decide +kernel
theorem dX7_pace_18 : decode mX7_pace.2.1 18 = .ok (.ireturn, 1) := by decide +kernel
theorem dX7_weigh_0 : decode mX7_weigh.2.1 0 = .ok (.aload_n 0, 1) := by decide +kernel
theorem dX7_weigh_1 : decode mX7_weigh.2.1 1 = .ok (.iload_n 1, 1) := by decide +kernel
theorem dX7_weigh_2 : decode mX7_weigh.2.1 2 = .ok (.invokevirtual 124, 3) := by decide +kernel
theorem dX7_weigh_5 : decode mX7_weigh.2.1 5 = .ok (.ifCond .eq 14, 3) := by decide +kernel
theorem dX7_weigh_8 : decode mX7_weigh.2.1 8 = .ok (.iload_n 2, 1) := by decide +kernel
theorem dX7_weigh_9 : decode mX7_weigh.2.1 9 = .ok (.iconst 1, 1) := by decide +kernel
theorem dX7_weigh_10 : decode mX7_weigh.2.1 10 = .ok (.if_icmp .lt 9, 3) := by decide +kernel
theorem dX7_weigh_13 : decode mX7_weigh.2.1 13 = .ok (.iload_n 2, 1) := by decide +kernel
theorem dX7_weigh_14 : decode mX7_weigh.2.1 14 = .ok (.bipush 9, 2) := by decide +kernel
theorem dX7_weigh_16 : decode mX7_weigh.2.1 16 = .ok (.if_icmp .le 5, 3) := by decide +kernel
theorem dX7_weigh_19 : decode mX7_weigh.2.1 19 = .ok (.iconst 0, 1) := by decide +kernel
theorem dX7_weigh_20 : decode mX7_weigh.2.1 20 = .ok (.ireturn, 1) := by decide +kernel
theorem dX7_weigh_21 : decode mX7_weigh.2.1 21 = .ok (.aload_n 0, 1) := by decide +kernel
theorem dX7_weigh_22 : decode mX7_weigh.2.1 22 = .ok (.getfield 47, 3) := by decide +kernel
theorem dX7_weigh_25 : decode mX7_weigh.2.1 25 = .ok (.iload_n 1, 1) := by decide +kernel
theorem dX7_weigh_26 : decode mX7_weigh.2.1 26 = .ok (.iload_n 2, 1) := by decide +kernel
theorem dX7_weigh_27 : decode mX7_weigh.2.1 27 = .ok (.iastore, 1) := by decide +kernel
theorem dX7_weigh_28 : decode mX7_weigh.2.1 28 = .ok (.iconst 1, 1) := by decide +kernel
theorem dX7_weigh_29 : decode mX7_weigh.2.1 29 = .ok (.ireturn, 1) := by decide +kernel
theorem dX7_count_0 : decode mX7_count.2.1 0 = .ok (.iload_n 1, 1) := by decide +kernel
theorem dX7_count_1 : decode mX7_count.2.1 1 = .ok (.tableswitch 78 0 5 #[39, 47, 55, 60, 65, 73], 39) := by decide +kernel
theorem dX7_count_40 : decode mX7_count.2.1 40 = .ok (.aload_n 0, 1) := by decide +kernel
theorem dX7_count_41 : decode mX7_count.2.1 41 = .ok (.getfield 35, 3) := by decide +kernel
theorem dX7_count_44 : decode mX7_count.2.1 44 = .ok (.getfield 131, 3) := by decide +kernel
theorem dX7_count_47 : decode mX7_count.2.1 47 = .ok (.ireturn, 1) := by decide +kernel
theorem dX7_count_48 : decode mX7_count.2.1 48 = .ok (.aload_n 0, 1) := by decide +kernel
theorem dX7_count_49 : decode mX7_count.2.1 49 = .ok (.getfield 39, 3) := by decide +kernel
theorem dX7_count_52 : decode mX7_count.2.1 52 = .ok (.getfield 131, 3) := by decide +kernel
theorem dX7_count_55 : decode mX7_count.2.1 55 = .ok (.ireturn, 1) := by decide +kernel
theorem dX7_count_56 : decode mX7_count.2.1 56 = .ok (.aload_n 0, 1) := by decide +kernel
theorem dX7_count_57 : decode mX7_count.2.1 57 = .ok (.getfield 112, 3) := by decide +kernel
theorem dX7_count_60 : decode mX7_count.2.1 60 = .ok (.ireturn, 1) := by decide +kernel
theorem dX7_count_61 : decode mX7_count.2.1 61 = .ok (.aload_n 0, 1) := by decide +kernel
theorem dX7_count_62 : decode mX7_count.2.1 62 = .ok (.getfield 134, 3) := by decide +kernel
theorem dX7_count_65 : decode mX7_count.2.1 65 = .ok (.ireturn, 1) := by decide +kernel
theorem dX7_count_66 : decode mX7_count.2.1 66 = .ok (.aload_n 0, 1) := by decide +kernel
theorem dX7_count_67 : decode mX7_count.2.1 67 = .ok (.getfield 12, 3) := by decide +kernel
theorem dX7_count_70 : decode mX7_count.2.1 70 = .ok (.getfield 81, 3) := by decide +kernel
theorem dX7_count_73 : decode mX7_count.2.1 73 = .ok (.ireturn, 1) := by decide +kernel
theorem dX7_count_74 : decode mX7_count.2.1 74 = .ok (.aload_n 0, 1) := by decide +kernel
theorem dX7_count_75 : decode mX7_count.2.1 75 = .ok (.getfield 73, 3) := by decide +kernel
theorem dX7_count_78 : decode mX7_count.2.1 78 = .ok (.ireturn, 1) := by decide +kernel
theorem dX7_count_79 : decode mX7_count.2.1 79 = .ok (.iconst (-1), 1) := by decide +kernel
theorem dX7_count_80 : decode mX7_count.2.1 80 = .ok (.ireturn, 1) := by decide +kernel
theorem dX7_isDrop_0 : decode mX7_isDrop.2.1 0 = .ok (.iload_n 1, 1) := by decide +kernel
theorem dX7_isDrop_1 : decode mX7_isDrop.2.1 1 = .ok (.ifCond .lt 24, 3) := by decide +kernel
theorem dX7_isDrop_4 : decode mX7_isDrop.2.1 4 = .ok (.iload_n 1, 1) := by decide +kernel
theorem dX7_isDrop_5 : decode mX7_isDrop.2.1 5 = .ok (.aload_n 0, 1) := by decide +kernel
theorem dX7_isDrop_6 : decode mX7_isDrop.2.1 6 = .ok (.getfield 112, 3) := by decide +kernel
theorem dX7_isDrop_9 : decode mX7_isDrop.2.1 9 = .ok (.if_icmp .ge 16, 3) := by decide +kernel
theorem dX7_isDrop_12 : decode mX7_isDrop.2.1 12 = .ok (.iload_n 1, 1) := by decide +kernel
theorem dX7_isDrop_13 : decode mX7_isDrop.2.1 13 = .ok (.aload_n 0, 1) := by decide +kernel
theorem dX7_isDrop_14 : decode mX7_isDrop.2.1 14 = .ok (.getfield 44, 3) := by decide +kernel
theorem dX7_isDrop_17 : decode mX7_isDrop.2.1 17 = .ok (.arraylength, 1) := by decide +kernel
theorem dX7_isDrop_18 : decode mX7_isDrop.2.1 18 = .ok (.if_icmp .ge 7, 3) := by decide +kernel
theorem dX7_isDrop_21 : decode mX7_isDrop.2.1 21 = .ok (.iconst 1, 1) := by decide +kernel
theorem dX7_isDrop_22 : decode mX7_isDrop.2.1 22 = .ok (.goto 4, 3) := by decide +kernel
theorem dX7_isDrop_25 : decode mX7_isDrop.2.1 25 = .ok (.iconst 0, 1) := by decide +kernel
theorem dX7_isDrop_26 : decode mX7_isDrop.2.1 26 = .ok (.ireturn, 1) := by decide +kernel
theorem dX7_isStain_0 : decode mX7_isStain.2.1 0 = .ok (.iload_n 1, 1) := by decide +kernel
theorem dX7_isStain_1 : decode mX7_isStain.2.1 1 = .ok (.ifCond .lt 24, 3) := by decide +kernel
theorem dX7_isStain_4 : decode mX7_isStain.2.1 4 = .ok (.iload_n 1, 1) := by decide +kernel
theorem dX7_isStain_5 : decode mX7_isStain.2.1 5 = .ok (.aload_n 0, 1) := by decide +kernel
theorem dX7_isStain_6 : decode mX7_isStain.2.1 6 = .ok (.getfield 134, 3) := by decide +kernel
theorem dX7_isStain_9 : decode mX7_isStain.2.1 9 = .ok (.if_icmp .ge 16, 3) := by decide +kernel
theorem dX7_isStain_12 : decode mX7_isStain.2.1 12 = .ok (.iload_n 1, 1) := by decide +kernel
theorem dX7_isStain_13 : decode mX7_isStain.2.1 13 = .ok (.aload_n 0, 1) := by decide +kernel
theorem dX7_isStain_14 : decode mX7_isStain.2.1 14 = .ok (.getfield 54, 3) := by decide +kernel
theorem dX7_isStain_17 : decode mX7_isStain.2.1 17 = .ok (.arraylength, 1) := by decide +kernel
theorem dX7_isStain_18 : decode mX7_isStain.2.1 18 = .ok (.if_icmp .ge 7, 3) := by decide +kernel
theorem dX7_isStain_21 : decode mX7_isStain.2.1 21 = .ok (.iconst 1, 1) := by decide +kernel
theorem dX7_isStain_22 : decode mX7_isStain.2.1 22 = .ok (.goto 4, 3) := by decide +kernel
theorem dX7_isStain_25 : decode mX7_isStain.2.1 25 = .ok (.iconst 0, 1) := by decide +kernel
theorem dX7_isStain_26 : decode mX7_isStain.2.1 26 = .ok (.ireturn, 1) := by decide +kernel
theorem dX7_areDrops_0 : decode mX7_areDrops.2.1 0 = .ok (.iload_n 1, 1) := by decide +kernel
theorem dX7_areDrops_1 : decode mX7_areDrops.2.1 1 = .ok (.aload_n 0, 1) := by decide +kernel
theorem dX7_areDrops_2 : decode mX7_areDrops.2.1 2 = .ok (.getfield 112, 3) := by decide +kernel
theorem dX7_areDrops_5 : decode mX7_areDrops.2.1 5 = .ok (.iushr, 1) := by decide +kernel
theorem dX7_areDrops_6 : decode mX7_areDrops.2.1 6 = .ok (.ifCond .ne 7, 3) := by decide +kernel
theorem dX7_areDrops_9 : decode mX7_areDrops.2.1 9 = .ok (.iconst 1, 1) := by decide +kernel
theorem dX7_areDrops_10 : decode mX7_areDrops.2.1 10 = .ok (.goto 4, 3) := by decide +kernel
theorem dX7_areDrops_13 : decode mX7_areDrops.2.1 13 = .ok (.iconst 0, 1) := by decide +kernel
theorem dX7_areDrops_14 : decode mX7_areDrops.2.1 14 = .ok (.ireturn, 1) := by decide +kernel
theorem dX7_isCell_0 : decode mX7_isCell.2.1 0 = .ok (.iload_n 0, 1) := by decide +kernel
theorem dX7_isCell_1 : decode mX7_isCell.2.1 1 = .ok (.ifCond .lt 13, 3) := by decide +kernel
theorem dX7_isCell_4 : decode mX7_isCell.2.1 4 = .ok (.iload_n 0, 1) := by decide +kernel
theorem dX7_isCell_5 : decode mX7_isCell.2.1 5 = .ok (.bipush 24, 2) := by decide +kernel
theorem dX7_isCell_7 : decode mX7_isCell.2.1 7 = .ok (.if_icmp .ge 7, 3) := by decide +kernel
theorem dX7_isCell_10 : decode mX7_isCell.2.1 10 = .ok (.iconst 1, 1) := by decide +kernel
theorem dX7_isCell_11 : decode mX7_isCell.2.1 11 = .ok (.goto 4, 3) := by decide +kernel
theorem dX7_isCell_14 : decode mX7_isCell.2.1 14 = .ok (.iconst 0, 1) := by decide +kernel
theorem dX7_isCell_15 : decode mX7_isCell.2.1 15 = .ok (.ireturn, 1) := by decide +kernel
theorem dX7_isSort_0 : decode mX7_isSort.2.1 0 = .ok (.iload_n 0, 1) := by decide +kernel
theorem dX7_isSort_1 : decode mX7_isSort.2.1 1 = .ok (.ifCond .lt 12, 3) := by decide +kernel
theorem dX7_isSort_4 : decode mX7_isSort.2.1 4 = .ok (.iload_n 0, 1) := by decide +kernel
theorem dX7_isSort_5 : decode mX7_isSort.2.1 5 = .ok (.iconst 2, 1) := by decide +kernel
theorem dX7_isSort_6 : decode mX7_isSort.2.1 6 = .ok (.if_icmp .ge 7, 3) := by decide +kernel
theorem dX7_isSort_9 : decode mX7_isSort.2.1 9 = .ok (.iconst 1, 1) := by decide +kernel
theorem dX7_isSort_10 : decode mX7_isSort.2.1 10 = .ok (.goto 4, 3) := by decide +kernel
theorem dX7_isSort_13 : decode mX7_isSort.2.1 13 = .ok (.iconst 0, 1) := by decide +kernel
theorem dX7_isSort_14 : decode mX7_isSort.2.1 14 = .ok (.ireturn, 1) := by decide +kernel
theorem dX7_areTicks_0 : decode mX7_areTicks.2.1 0 = .ok (.iload_n 0, 1) := by decide +kernel
theorem dX7_areTicks_1 : decode mX7_areTicks.2.1 1 = .ok (.iconst 1, 1) := by decide +kernel
theorem dX7_areTicks_2 : decode mX7_areTicks.2.1 2 = .ok (.if_icmp .lt 13, 3) := by decide +kernel
theorem dX7_areTicks_5 : decode mX7_areTicks.2.1 5 = .ok (.iload_n 0, 1) := by decide +kernel
theorem dX7_areTicks_6 : decode mX7_areTicks.2.1 6 = .ok (.bipush 60, 2) := by decide +kernel
theorem dX7_areTicks_8 : decode mX7_areTicks.2.1 8 = .ok (.if_icmp .gt 7, 3) := by decide +kernel
theorem dX7_areTicks_11 : decode mX7_areTicks.2.1 11 = .ok (.iconst 1, 1) := by decide +kernel
theorem dX7_areTicks_12 : decode mX7_areTicks.2.1 12 = .ok (.goto 4, 3) := by decide +kernel
theorem dX7_areTicks_15 : decode mX7_areTicks.2.1 15 = .ok (.iconst 0, 1) := by decide +kernel
theorem dX7_areTicks_16 : decode mX7_areTicks.2.1 16 = .ok (.ireturn, 1) := by decide +kernel
theorem dX7_has_0 : decode mX7_has.2.1 0 = .ok (.iload_n 0, 1) := by decide +kernel
theorem dX7_has_1 : decode mX7_has.2.1 1 = .ok (.iload_n 1, 1) := by decide +kernel
theorem dX7_has_2 : decode mX7_has.2.1 2 = .ok (.ishr, 1) := by decide +kernel
theorem dX7_has_3 : decode mX7_has.2.1 3 = .ok (.iconst 1, 1) := by decide +kernel
theorem dX7_has_4 : decode mX7_has.2.1 4 = .ok (.iand, 1) := by decide +kernel
theorem dX7_has_5 : decode mX7_has.2.1 5 = .ok (.iconst 1, 1) := by decide +kernel
theorem dX7_has_6 : decode mX7_has.2.1 6 = .ok (.if_icmp .ne 7, 3) := by decide +kernel
theorem dX7_has_9 : decode mX7_has.2.1 9 = .ok (.iconst 1, 1) := by decide +kernel
theorem dX7_has_10 : decode mX7_has.2.1 10 = .ok (.goto 4, 3) := by decide +kernel
theorem dX7_has_13 : decode mX7_has.2.1 13 = .ok (.iconst 0, 1) := by decide +kernel
theorem dX7_has_14 : decode mX7_has.2.1 14 = .ok (.ireturn, 1) := by decide +kernel
theorem dX7_start_0 : decode mX7_start.2.1 0 = .ok (.aload_n 0, 1) := by decide +kernel
theorem dX7_start_1 : decode mX7_start.2.1 1 = .ok (.iload_n 1, 1) := by decide +kernel
theorem dX7_start_2 : decode mX7_start.2.1 2 = .ok (.iload_n 2, 1) := by decide +kernel
theorem dX7_start_3 : decode mX7_start.2.1 3 = .ok (.invokevirtual 137, 3) := by decide +kernel
theorem dX7_start_6 : decode mX7_start.2.1 6 = .ok (.ifCond .ne 5, 3) := by decide +kernel
theorem dX7_start_9 : decode mX7_start.2.1 9 = .ok (.iconst (-1), 1) := by decide +kernel
theorem dX7_start_10 : decode mX7_start.2.1 10 = .ok (.ireturn, 1) := by decide +kernel
theorem dX7_start_11 : decode mX7_start.2.1 11 = .ok (.aload_n 0, 1) := by decide +kernel
theorem dX7_start_12 : decode mX7_start.2.1 12 = .ok (.aload_n 0, 1) := by decide +kernel
theorem dX7_start_13 : decode mX7_start.2.1 13 = .ok (.getfield 63, 3) := by decide +kernel
theorem dX7_start_16 : decode mX7_start.2.1 16 = .ok (.iload_n 1, 1) := by decide +kernel
theorem dX7_start_17 : decode mX7_start.2.1 17 = .ok (.iload_n 2, 1) := by decide +kernel
theorem dX7_start_18 : decode mX7_start.2.1 18 = .ok (.lload_n 3, 1) := by decide +kernel
theorem dX7_start_19 : decode mX7_start.2.1 19 = .ok (.invokevirtual 141, 3) := by decide +kernel
theorem dX7_start_22 : decode mX7_start.2.1 22 = .ok (.aload_n 0, 1) := by decide +kernel
theorem dX7_start_23 : decode mX7_start.2.1 23 = .ok (.getfield 63, 3) := by decide +kernel
theorem dX7_start_26 : decode mX7_start.2.1 26 = .ok (.getfield 145, 3) := by decide +kernel
theorem dX7_start_29 : decode mX7_start.2.1 29 = .ok (.ireturn, 1) := by decide +kernel
theorem dX7_canStart_0 : decode mX7_canStart.2.1 0 = .ok (.aload_n 0, 1) := by decide +kernel
theorem dX7_canStart_1 : decode mX7_canStart.2.1 1 = .ok (.getfield 35, 3) := by decide +kernel
theorem dX7_canStart_4 : decode mX7_canStart.2.1 4 = .ok (.iload_n 1, 1) := by decide +kernel
theorem dX7_canStart_5 : decode mX7_canStart.2.1 5 = .ok (.invokevirtual 148, 3) := by decide +kernel
theorem dX7_canStart_8 : decode mX7_canStart.2.1 8 = .ok (.ifCond .eq 27, 3) := by decide +kernel
theorem dX7_canStart_11 : decode mX7_canStart.2.1 11 = .ok (.iload_n 2, 1) := by decide +kernel
theorem dX7_canStart_12 : decode mX7_canStart.2.1 12 = .ok (.ifCond .eq 23, 3) := by decide +kernel
theorem dX7_canStart_15 : decode mX7_canStart.2.1 15 = .ok (.aload_n 0, 1) := by decide +kernel
theorem dX7_canStart_16 : decode mX7_canStart.2.1 16 = .ok (.iload_n 2, 1) := by decide +kernel
theorem dX7_canStart_17 : decode mX7_canStart.2.1 17 = .ok (.invokevirtual 151, 3) := by decide +kernel
theorem dX7_canStart_20 : decode mX7_canStart.2.1 20 = .ok (.ifCond .eq 15, 3) := by decide +kernel
theorem dX7_canStart_23 : decode mX7_canStart.2.1 23 = .ok (.aload_n 0, 1) := by decide +kernel
theorem dX7_canStart_24 : decode mX7_canStart.2.1 24 = .ok (.iload_n 2, 1) := by decide +kernel
theorem dX7_canStart_25 : decode mX7_canStart.2.1 25 = .ok (.invokevirtual 154, 3) := by decide +kernel
theorem dX7_canStart_28 : decode mX7_canStart.2.1 28 = .ok (.ifCond .eq 7, 3) := by decide +kernel
theorem dX7_canStart_31 : decode mX7_canStart.2.1 31 = .ok (.iconst 1, 1) := by decide +kernel
theorem dX7_canStart_32 : decode mX7_canStart.2.1 32 = .ok (.goto 4, 3) := by decide +kernel
theorem dX7_canStart_35 : decode mX7_canStart.2.1 35 = .ok (.iconst 0, 1) := by decide +kernel
theorem dX7_canStart_36 : decode mX7_canStart.2.1 36 = .ok (.ireturn, 1) := by decide +kernel
theorem dX7_areApart_0 : decode mX7_areApart.2.1 0 = .ok (.iconst 0, 1) := by decide +kernel
theorem dX7_areApart_1 : decode mX7_areApart.2.1 1 = .ok (.istore_n 2, 1) := by decide +kernel
theorem dX7_areApart_2 : decode mX7_areApart.2.1 2 = .ok (.iconst 0, 1) := by decide +kernel
theorem dX7_areApart_3 : decode mX7_areApart.2.1 3 = .ok (.istore_n 3, 1) := by decide +kernel
theorem dX7_areApart_4 : decode mX7_areApart.2.1 4 = .ok (.iload_n 3, 1) := by decide +kernel
theorem dX7_areApart_5 : decode mX7_areApart.2.1 5 = .ok (.aload_n 0, 1) := by decide +kernel
theorem dX7_areApart_6 : decode mX7_areApart.2.1 6 = .ok (.getfield 112, 3) := by decide +kernel
theorem dX7_areApart_9 : decode mX7_areApart.2.1 9 = .ok (.if_icmp .ge 54, 3) := by decide +kernel
theorem dX7_areApart_12 : decode mX7_areApart.2.1 12 = .ok (.iload_n 1, 1) := by decide +kernel
theorem dX7_areApart_13 : decode mX7_areApart.2.1 13 = .ok (.iload_n 3, 1) := by decide +kernel
theorem dX7_areApart_14 : decode mX7_areApart.2.1 14 = .ok (.invokestatic 157, 3) := by decide +kernel
theorem dX7_areApart_17 : decode mX7_areApart.2.1 17 = .ok (.ifCond .eq 40, 3) := by decide +kernel
theorem dX7_areApart_20 : decode mX7_areApart.2.1 20 = .ok (.iconst 1, 1) := by decide +kernel
theorem dX7_areApart_21 : decode mX7_areApart.2.1 21 = .ok (.aload_n 0, 1) := by decide +kernel
theorem dX7_areApart_22 : decode mX7_areApart.2.1 22 = .ok (.getfield 44, 3) := by decide +kernel
theorem dX7_areApart_25 : decode mX7_areApart.2.1 25 = .ok (.iload_n 3, 1) := by decide +kernel
theorem dX7_areApart_26 : decode mX7_areApart.2.1 26 = .ok (.aaload, 1) := by decide +kernel
theorem dX7_areApart_27 : decode mX7_areApart.2.1 27 = .ok (.iconst 1, 1) := by decide +kernel
theorem dX7_areApart_28 : decode mX7_areApart.2.1 28 = .ok (.iaload, 1) := by decide +kernel
theorem dX7_areApart_29 : decode mX7_areApart.2.1 29 = .ok (.ishl, 1) := by decide +kernel
theorem dX7_areApart_30 : decode mX7_areApart.2.1 30 = .ok (.iconst 1, 1) := by decide +kernel
theorem dX7_areApart_31 : decode mX7_areApart.2.1 31 = .ok (.isub, 1) := by decide +kernel
theorem dX7_areApart_32 : decode mX7_areApart.2.1 32 = .ok (.aload_n 0, 1) := by decide +kernel
theorem dX7_areApart_33 : decode mX7_areApart.2.1 33 = .ok (.getfield 44, 3) := by decide +kernel
theorem dX7_areApart_36 : decode mX7_areApart.2.1 36 = .ok (.iload_n 3, 1) := by decide +kernel
theorem dX7_areApart_37 : decode mX7_areApart.2.1 37 = .ok (.aaload, 1) := by decide +kernel
theorem dX7_areApart_38 : decode mX7_areApart.2.1 38 = .ok (.iconst 0, 1) := by decide +kernel
theorem dX7_areApart_39 : decode mX7_areApart.2.1 39 = .ok (.iaload, 1) := by decide +kernel
theorem dX7_areApart_40 : decode mX7_areApart.2.1 40 = .ok (.ishl, 1) := by decide +kernel
theorem dX7_areApart_41 : decode mX7_areApart.2.1 41 = .ok (.istore 4, 2) := by decide +kernel
theorem dX7_areApart_43 : decode mX7_areApart.2.1 43 = .ok (.iload_n 2, 1) := by decide +kernel
theorem dX7_areApart_44 : decode mX7_areApart.2.1 44 = .ok (.iload 4, 2) := by decide +kernel
theorem dX7_areApart_46 : decode mX7_areApart.2.1 46 = .ok (.iand, 1) := by decide +kernel
theorem dX7_areApart_47 : decode mX7_areApart.2.1 47 = .ok (.ifCond .eq 5, 3) := by decide +kernel
theorem dX7_areApart_50 : decode mX7_areApart.2.1 50 = .ok (.iconst 0, 1) := by decide +kernel
theorem dX7_areApart_51 : decode mX7_areApart.2.1 51 = .ok (.ireturn, 1) := by decide +kernel
theorem dX7_areApart_52 : decode mX7_areApart.2.1 52 = .ok (.iload_n 2, 1) := by decide +kernel
theorem dX7_areApart_53 : decode mX7_areApart.2.1 53 = .ok (.iload 4, 2) := by decide +kernel
theorem dX7_areApart_55 : decode mX7_areApart.2.1 55 = .ok (.ior, 1) := by decide +kernel
theorem dX7_areApart_56 : decode mX7_areApart.2.1 56 = .ok (.istore_n 2, 1) := by decide +kernel
theorem dX7_areApart_57 : decode mX7_areApart.2.1 57 = .ok (.iinc 3 1, 3) := by decide +kernel
theorem dX7_areApart_60 : decode mX7_areApart.2.1 60 = .ok (.goto (-56), 3) := by decide +kernel
theorem dX7_areApart_63 : decode mX7_areApart.2.1 63 = .ok (.iconst 1, 1) := by decide +kernel
theorem dX7_areApart_64 : decode mX7_areApart.2.1 64 = .ok (.ireturn, 1) := by decide +kernel
theorem dX7_startOn_0 : decode mX7_startOn.2.1 0 = .ok (.aload_n 1, 1) := by decide +kernel
theorem dX7_startOn_1 : decode mX7_startOn.2.1 1 = .ok (.aload_n 0, 1) := by decide +kernel
theorem dX7_startOn_2 : decode mX7_startOn.2.1 2 = .ok (.getfield 35, 3) := by decide +kernel
theorem dX7_startOn_5 : decode mX7_startOn.2.1 5 = .ok (.iload_n 2, 1) := by decide +kernel
theorem dX7_startOn_6 : decode mX7_startOn.2.1 6 = .ok (.invokevirtual 159, 3) := by decide +kernel
theorem dX7_startOn_9 : decode mX7_startOn.2.1 9 = .ok (.lload 4, 2) := by decide +kernel
theorem dX7_startOn_11 : decode mX7_startOn.2.1 11 = .ok (.invokevirtual 163, 3) := by decide +kernel
theorem dX7_startOn_14 : decode mX7_startOn.2.1 14 = .ok (.iconst 0, 1) := by decide +kernel
theorem dX7_startOn_15 : decode mX7_startOn.2.1 15 = .ok (.istore 6, 2) := by decide +kernel
theorem dX7_startOn_17 : decode mX7_startOn.2.1 17 = .ok (.iload 6, 2) := by decide +kernel
theorem dX7_startOn_19 : decode mX7_startOn.2.1 19 = .ok (.bipush 24, 2) := by decide +kernel
theorem dX7_startOn_21 : decode mX7_startOn.2.1 21 = .ok (.if_icmp .ge 65, 3) := by decide +kernel
theorem dX7_startOn_24 : decode mX7_startOn.2.1 24 = .ok (.iconst 0, 1) := by decide +kernel
theorem dX7_startOn_25 : decode mX7_startOn.2.1 25 = .ok (.istore 7, 2) := by decide +kernel
theorem dX7_startOn_27 : decode mX7_startOn.2.1 27 = .ok (.iload 7, 2) := by decide +kernel
theorem dX7_startOn_29 : decode mX7_startOn.2.1 29 = .ok (.aload_n 0, 1) := by decide +kernel
theorem dX7_startOn_30 : decode mX7_startOn.2.1 30 = .ok (.getfield 112, 3) := by decide +kernel
theorem dX7_startOn_33 : decode mX7_startOn.2.1 33 = .ok (.if_icmp .ge 47, 3) := by decide +kernel
theorem dX7_startOn_36 : decode mX7_startOn.2.1 36 = .ok (.iload_n 3, 1) := by decide +kernel
theorem dX7_startOn_37 : decode mX7_startOn.2.1 37 = .ok (.iload 7, 2) := by decide +kernel
theorem dX7_startOn_39 : decode mX7_startOn.2.1 39 = .ok (.invokestatic 157, 3) := by decide +kernel
theorem dX7_startOn_42 : decode mX7_startOn.2.1 42 = .ok (.ifCond .eq 32, 3) := by decide +kernel
theorem dX7_startOn_45 : decode mX7_startOn.2.1 45 = .ok (.aload_n 0, 1) := by decide +kernel
theorem dX7_startOn_46 : decode mX7_startOn.2.1 46 = .ok (.getfield 44, 3) := by decide +kernel
theorem dX7_startOn_49 : decode mX7_startOn.2.1 49 = .ok (.iload 7, 2) := by decide +kernel
theorem dX7_startOn_51 : decode mX7_startOn.2.1 51 = .ok (.aaload, 1) := by decide +kernel
theorem dX7_startOn_52 : decode mX7_startOn.2.1 52 = .ok (.iconst 0, 1) := by decide +kernel
theorem dX7_startOn_53 : decode mX7_startOn.2.1 53 = .ok (.iaload, 1) := by decide +kernel
theorem dX7_startOn_54 : decode mX7_startOn.2.1 54 = .ok (.iload 6, 2) := by decide +kernel
theorem dX7_startOn_56 : decode mX7_startOn.2.1 56 = .ok (.if_icmp .ne 18, 3) := by decide +kernel
theorem dX7_startOn_59 : decode mX7_startOn.2.1 59 = .ok (.aload_n 1, 1) := by decide +kernel
theorem dX7_startOn_60 : decode mX7_startOn.2.1 60 = .ok (.aload_n 0, 1) := by decide +kernel
theorem dX7_startOn_61 : decode mX7_startOn.2.1 61 = .ok (.getfield 44, 3) := by decide +kernel
theorem dX7_startOn_64 : decode mX7_startOn.2.1 64 = .ok (.iload 7, 2) := by decide +kernel
theorem dX7_startOn_66 : decode mX7_startOn.2.1 66 = .ok (.aaload, 1) := by decide +kernel
theorem dX7_startOn_67 : decode mX7_startOn.2.1 67 = .ok (.iload 7, 2) := by decide +kernel
theorem dX7_startOn_69 : decode mX7_startOn.2.1 69 = .ok (.iload 6, 2) := by decide +kernel
theorem dX7_startOn_71 : decode mX7_startOn.2.1 71 = .ok (.invokevirtual 167, 3) := by decide +kernel
theorem dX7_startOn_74 : decode mX7_startOn.2.1 74 = .ok (.iinc 7 1, 3) := by decide +kernel
theorem dX7_startOn_77 : decode mX7_startOn.2.1 77 = .ok (.goto (-50), 3) := by decide +kernel
theorem dX7_startOn_80 : decode mX7_startOn.2.1 80 = .ok (.iinc 6 1, 3) := by decide +kernel
theorem dX7_startOn_83 : decode mX7_startOn.2.1 83 = .ok (.goto (-66), 3) := by decide +kernel
theorem dX7_startOn_86 : decode mX7_startOn.2.1 86 = .ok (.aload_n 1, 1) := by decide +kernel
theorem dX7_startOn_87 : decode mX7_startOn.2.1 87 = .ok (.invokevirtual 171, 3) := by decide +kernel
theorem dX7_startOn_90 : decode mX7_startOn.2.1 90 = .ok (.return_, 1) := by decide +kernel
theorem dX7_tick_0 : decode mX7_tick.2.1 0 = .ok (.aload_n 0, 1) := by decide +kernel
theorem dX7_tick_1 : decode mX7_tick.2.1 1 = .ok (.getfield 63, 3) := by decide +kernel
theorem dX7_tick_4 : decode mX7_tick.2.1 4 = .ok (.getfield 174, 3) := by decide +kernel
theorem dX7_tick_7 : decode mX7_tick.2.1 7 = .ok (.ifnull 10, 3) := by decide +kernel
theorem dX7_tick_10 : decode mX7_tick.2.1 10 = .ok (.iload_n 1, 1) := by decide +kernel
theorem dX7_tick_11 : decode mX7_tick.2.1 11 = .ok (.invokestatic 177, 3) := by decide +kernel
theorem dX7_tick_14 : decode mX7_tick.2.1 14 = .ok (.ifCond .ne 5, 3) := by decide +kernel
theorem dX7_tick_17 : decode mX7_tick.2.1 17 = .ok (.iconst (-1), 1) := by decide +kernel
theorem dX7_tick_18 : decode mX7_tick.2.1 18 = .ok (.ireturn, 1) := by decide +kernel
theorem dX7_tick_19 : decode mX7_tick.2.1 19 = .ok (.aload_n 0, 1) := by decide +kernel
theorem dX7_tick_20 : decode mX7_tick.2.1 20 = .ok (.getfield 63, 3) := by decide +kernel
theorem dX7_tick_23 : decode mX7_tick.2.1 23 = .ok (.iload_n 1, 1) := by decide +kernel
theorem dX7_tick_24 : decode mX7_tick.2.1 24 = .ok (.aload_n 0, 1) := by decide +kernel
theorem dX7_tick_25 : decode mX7_tick.2.1 25 = .ok (.getfield 73, 3) := by decide +kernel
theorem dX7_tick_28 : decode mX7_tick.2.1 28 = .ok (.invokevirtual 180, 3) := by decide +kernel
theorem dX7_tick_31 : decode mX7_tick.2.1 31 = .ok (.ireturn, 1) := by decide +kernel
theorem dX7_body_0 : decode mX7_body.2.1 0 = .ok (.aload_n 0, 1) := by decide +kernel
theorem dX7_body_1 : decode mX7_body.2.1 1 = .ok (.getfield 63, 3) := by decide +kernel
theorem dX7_body_4 : decode mX7_body.2.1 4 = .ok (.iload_n 1, 1) := by decide +kernel
theorem dX7_body_5 : decode mX7_body.2.1 5 = .ok (.iload_n 2, 1) := by decide +kernel
theorem dX7_body_6 : decode mX7_body.2.1 6 = .ok (.invokevirtual 184, 3) := by decide +kernel
theorem dX7_body_9 : decode mX7_body.2.1 9 = .ok (.ireturn, 1) := by decide +kernel
theorem dX7_water_0 : decode mX7_water.2.1 0 = .ok (.iload_n 1, 1) := by decide +kernel
theorem dX7_water_1 : decode mX7_water.2.1 1 = .ok (.invokestatic 187, 3) := by decide +kernel
theorem dX7_water_4 : decode mX7_water.2.1 4 = .ok (.ifCond .eq 15, 3) := by decide +kernel
theorem dX7_water_7 : decode mX7_water.2.1 7 = .ok (.aload_n 0, 1) := by decide +kernel
theorem dX7_water_8 : decode mX7_water.2.1 8 = .ok (.getfield 63, 3) := by decide +kernel
theorem dX7_water_11 : decode mX7_water.2.1 11 = .ok (.getfield 190, 3) := by decide +kernel
theorem dX7_water_14 : decode mX7_water.2.1 14 = .ok (.iload_n 1, 1) := by decide +kernel
theorem dX7_water_15 : decode mX7_water.2.1 15 = .ok (.iaload, 1) := by decide +kernel
theorem dX7_water_16 : decode mX7_water.2.1 16 = .ok (.goto 4, 3) := by decide +kernel
theorem dX7_water_19 : decode mX7_water.2.1 19 = .ok (.iconst (-1), 1) := by decide +kernel
theorem dX7_water_20 : decode mX7_water.2.1 20 = .ok (.ireturn, 1) := by decide +kernel
theorem dX7_free_0 : decode mX7_free.2.1 0 = .ok (.iload_n 1, 1) := by decide +kernel
theorem dX7_free_1 : decode mX7_free.2.1 1 = .ok (.invokestatic 187, 3) := by decide +kernel
theorem dX7_free_4 : decode mX7_free.2.1 4 = .ok (.ifCond .eq 24, 3) := by decide +kernel
theorem dX7_free_7 : decode mX7_free.2.1 7 = .ok (.iload_n 2, 1) := by decide +kernel
theorem dX7_free_8 : decode mX7_free.2.1 8 = .ok (.invokestatic 193, 3) := by decide +kernel
theorem dX7_free_11 : decode mX7_free.2.1 11 = .ok (.ifCond .eq 17, 3) := by decide +kernel
theorem dX7_free_14 : decode mX7_free.2.1 14 = .ok (.aload_n 0, 1) := by decide +kernel
theorem dX7_free_15 : decode mX7_free.2.1 15 = .ok (.getfield 63, 3) := by decide +kernel
theorem dX7_free_18 : decode mX7_free.2.1 18 = .ok (.getfield 196, 3) := by decide +kernel
theorem dX7_free_21 : decode mX7_free.2.1 21 = .ok (.iload_n 2, 1) := by decide +kernel
theorem dX7_free_22 : decode mX7_free.2.1 22 = .ok (.aaload, 1) := by decide +kernel
theorem dX7_free_23 : decode mX7_free.2.1 23 = .ok (.iload_n 1, 1) := by decide +kernel
theorem dX7_free_24 : decode mX7_free.2.1 24 = .ok (.iaload, 1) := by decide +kernel
theorem dX7_free_25 : decode mX7_free.2.1 25 = .ok (.goto 4, 3) := by decide +kernel
theorem dX7_free_28 : decode mX7_free.2.1 28 = .ok (.iconst (-1), 1) := by decide +kernel
theorem dX7_free_29 : decode mX7_free.2.1 29 = .ok (.ireturn, 1) := by decide +kernel
theorem dX7_lies_0 : decode mX7_lies.2.1 0 = .ok (.iload_n 1, 1) := by decide +kernel
theorem dX7_lies_1 : decode mX7_lies.2.1 1 = .ok (.invokestatic 187, 3) := by decide +kernel
theorem dX7_lies_4 : decode mX7_lies.2.1 4 = .ok (.ifCond .eq 24, 3) := by decide +kernel
theorem dX7_lies_7 : decode mX7_lies.2.1 7 = .ok (.iload_n 2, 1) := by decide +kernel
theorem dX7_lies_8 : decode mX7_lies.2.1 8 = .ok (.invokestatic 193, 3) := by decide +kernel
theorem dX7_lies_11 : decode mX7_lies.2.1 11 = .ok (.ifCond .eq 17, 3) := by decide +kernel
theorem dX7_lies_14 : decode mX7_lies.2.1 14 = .ok (.aload_n 0, 1) := by decide +kernel
theorem dX7_lies_15 : decode mX7_lies.2.1 15 = .ok (.getfield 63, 3) := by decide +kernel
theorem dX7_lies_18 : decode mX7_lies.2.1 18 = .ok (.getfield 199, 3) := by decide +kernel
theorem dX7_lies_21 : decode mX7_lies.2.1 21 = .ok (.iload_n 2, 1) := by decide +kernel
theorem dX7_lies_22 : decode mX7_lies.2.1 22 = .ok (.aaload, 1) := by decide +kernel
theorem dX7_lies_23 : decode mX7_lies.2.1 23 = .ok (.iload_n 1, 1) := by decide +kernel
theorem dX7_lies_24 : decode mX7_lies.2.1 24 = .ok (.iaload, 1) := by decide +kernel
theorem dX7_lies_25 : decode mX7_lies.2.1 25 = .ok (.goto 4, 3) := by decide +kernel
theorem dX7_lies_28 : decode mX7_lies.2.1 28 = .ok (.iconst (-1), 1) := by decide +kernel
theorem dX7_lies_29 : decode mX7_lies.2.1 29 = .ok (.ireturn, 1) := by decide +kernel
theorem dX7_heap_0 : decode mX7_heap.2.1 0 = .ok (.iload_n 1, 1) := by decide +kernel
theorem dX7_heap_1 : decode mX7_heap.2.1 1 = .ok (.invokestatic 187, 3) := by decide +kernel
theorem dX7_heap_4 : decode mX7_heap.2.1 4 = .ok (.ifCond .eq 12, 3) := by decide +kernel
theorem dX7_heap_7 : decode mX7_heap.2.1 7 = .ok (.iload_n 2, 1) := by decide +kernel
theorem dX7_heap_8 : decode mX7_heap.2.1 8 = .ok (.ifCond .lt 8, 3) := by decide +kernel
theorem dX7_heap_11 : decode mX7_heap.2.1 11 = .ok (.iload_n 2, 1) := by decide +kernel
theorem dX7_heap_12 : decode mX7_heap.2.1 12 = .ok (.iconst 1, 1) := by decide +kernel
theorem dX7_heap_13 : decode mX7_heap.2.1 13 = .ok (.if_icmp .le 5, 3) := by decide +kernel
theorem dX7_heap_16 : decode mX7_heap.2.1 16 = .ok (.iconst (-1), 1) := by decide +kernel
theorem dX7_heap_17 : decode mX7_heap.2.1 17 = .ok (.ireturn, 1) := by decide +kernel
theorem dX7_heap_18 : decode mX7_heap.2.1 18 = .ok (.iload_n 2, 1) := by decide +kernel
theorem dX7_heap_19 : decode mX7_heap.2.1 19 = .ok (.iconst 1, 1) := by decide +kernel
theorem dX7_heap_20 : decode mX7_heap.2.1 20 = .ok (.if_icmp .ne 15, 3) := by decide +kernel
theorem dX7_heap_23 : decode mX7_heap.2.1 23 = .ok (.aload_n 0, 1) := by decide +kernel
theorem dX7_heap_24 : decode mX7_heap.2.1 24 = .ok (.getfield 63, 3) := by decide +kernel
theorem dX7_heap_27 : decode mX7_heap.2.1 27 = .ok (.getfield 202, 3) := by decide +kernel
theorem dX7_heap_30 : decode mX7_heap.2.1 30 = .ok (.iload_n 1, 1) := by decide +kernel
theorem dX7_heap_31 : decode mX7_heap.2.1 31 = .ok (.iaload, 1) := by decide +kernel
theorem dX7_heap_32 : decode mX7_heap.2.1 32 = .ok (.goto 21, 3) := by decide +kernel
theorem dX7_heap_35 : decode mX7_heap.2.1 35 = .ok (.aload_n 0, 1) := by decide +kernel
theorem dX7_heap_36 : decode mX7_heap.2.1 36 = .ok (.getfield 63, 3) := by decide +kernel
theorem dX7_heap_39 : decode mX7_heap.2.1 39 = .ok (.iload_n 1, 1) := by decide +kernel
theorem dX7_heap_40 : decode mX7_heap.2.1 40 = .ok (.invokevirtual 205, 3) := by decide +kernel
theorem dX7_heap_43 : decode mX7_heap.2.1 43 = .ok (.aload_n 0, 1) := by decide +kernel
theorem dX7_heap_44 : decode mX7_heap.2.1 44 = .ok (.getfield 63, 3) := by decide +kernel
theorem dX7_heap_47 : decode mX7_heap.2.1 47 = .ok (.getfield 202, 3) := by decide +kernel
theorem dX7_heap_50 : decode mX7_heap.2.1 50 = .ok (.iload_n 1, 1) := by decide +kernel
theorem dX7_heap_51 : decode mX7_heap.2.1 51 = .ok (.iaload, 1) := by decide +kernel
theorem dX7_heap_52 : decode mX7_heap.2.1 52 = .ok (.isub, 1) := by decide +kernel
theorem dX7_heap_53 : decode mX7_heap.2.1 53 = .ok (.ireturn, 1) := by decide +kernel
theorem dX7_flow_0 : decode mX7_flow.2.1 0 = .ok (.iload_n 1, 1) := by decide +kernel
theorem dX7_flow_1 : decode mX7_flow.2.1 1 = .ok (.invokestatic 187, 3) := by decide +kernel
theorem dX7_flow_4 : decode mX7_flow.2.1 4 = .ok (.ifCond .eq 15, 3) := by decide +kernel
theorem dX7_flow_7 : decode mX7_flow.2.1 7 = .ok (.aload_n 0, 1) := by decide +kernel
theorem dX7_flow_8 : decode mX7_flow.2.1 8 = .ok (.getfield 63, 3) := by decide +kernel
theorem dX7_flow_11 : decode mX7_flow.2.1 11 = .ok (.getfield 208, 3) := by decide +kernel
theorem dX7_flow_14 : decode mX7_flow.2.1 14 = .ok (.iload_n 1, 1) := by decide +kernel
theorem dX7_flow_15 : decode mX7_flow.2.1 15 = .ok (.iaload, 1) := by decide +kernel
theorem dX7_flow_16 : decode mX7_flow.2.1 16 = .ok (.goto 5, 3) := by decide +kernel
theorem dX7_flow_19 : decode mX7_flow.2.1 19 = .ok (.ldc 211, 2) := by decide +kernel
theorem dX7_flow_21 : decode mX7_flow.2.1 21 = .ok (.ireturn, 1) := by decide +kernel
theorem dX7_about_0 : decode mX7_about.2.1 0 = .ok (.aload_n 0, 1) := by decide +kernel
theorem dX7_about_1 : decode mX7_about.2.1 1 = .ok (.getfield 63, 3) := by decide +kernel
theorem dX7_about_4 : decode mX7_about.2.1 4 = .ok (.iload_n 1, 1) := by decide +kernel
theorem dX7_about_5 : decode mX7_about.2.1 5 = .ok (.invokevirtual 212, 3) := by decide +kernel
theorem dX7_about_8 : decode mX7_about.2.1 8 = .ok (.ireturn, 1) := by decide +kernel
theorem dX7_rush_0 : decode mX7_rush.2.1 0 = .ok (.aload_n 0, 1) := by decide +kernel
theorem dX7_rush_1 : decode mX7_rush.2.1 1 = .ok (.getfield 63, 3) := by decide +kernel
theorem dX7_rush_4 : decode mX7_rush.2.1 4 = .ok (.getfield 215, 3) := by decide +kernel
theorem dX7_rush_7 : decode mX7_rush.2.1 7 = .ok (.ifCond .ne 5, 3) := by decide +kernel
theorem dX7_rush_10 : decode mX7_rush.2.1 10 = .ok (.iconst (-1), 1) := by decide +kernel
theorem dX7_rush_11 : decode mX7_rush.2.1 11 = .ok (.ireturn, 1) := by decide +kernel
theorem dX7_rush_12 : decode mX7_rush.2.1 12 = .ok (.iload_n 1, 1) := by decide +kernel
theorem dX7_rush_13 : decode mX7_rush.2.1 13 = .ok (.ifCond .ne 13, 3) := by decide +kernel
theorem dX7_rush_16 : decode mX7_rush.2.1 16 = .ok (.aload_n 0, 1) := by decide +kernel
theorem dX7_rush_17 : decode mX7_rush.2.1 17 = .ok (.getfield 63, 3) := by decide +kernel
theorem dX7_rush_20 : decode mX7_rush.2.1 20 = .ok (.getfield 218, 3) := by decide +kernel
theorem dX7_rush_23 : decode mX7_rush.2.1 23 = .ok (.goto 19, 3) := by decide +kernel
theorem dX7_rush_26 : decode mX7_rush.2.1 26 = .ok (.iload_n 1, 1) := by decide +kernel
theorem dX7_rush_27 : decode mX7_rush.2.1 27 = .ok (.iconst 1, 1) := by decide +kernel
theorem dX7_rush_28 : decode mX7_rush.2.1 28 = .ok (.if_icmp .ne 13, 3) := by decide +kernel
theorem dX7_rush_31 : decode mX7_rush.2.1 31 = .ok (.aload_n 0, 1) := by decide +kernel
theorem dX7_rush_32 : decode mX7_rush.2.1 32 = .ok (.getfield 63, 3) := by decide +kernel
theorem dX7_rush_35 : decode mX7_rush.2.1 35 = .ok (.getfield 215, 3) := by decide +kernel
theorem dX7_rush_38 : decode mX7_rush.2.1 38 = .ok (.goto 4, 3) := by decide +kernel
theorem dX7_rush_41 : decode mX7_rush.2.1 41 = .ok (.iconst (-1), 1) := by decide +kernel
theorem dX7_rush_42 : decode mX7_rush.2.1 42 = .ok (.ireturn, 1) := by decide +kernel
theorem dX7_speed_0 : decode mX7_speed.2.1 0 = .ok (.aload_n 0, 1) := by decide +kernel
theorem dX7_speed_1 : decode mX7_speed.2.1 1 = .ok (.getfield 63, 3) := by decide +kernel
theorem dX7_speed_4 : decode mX7_speed.2.1 4 = .ok (.getfield 221, 3) := by decide +kernel
theorem dX7_speed_7 : decode mX7_speed.2.1 7 = .ok (.ireturn, 1) := by decide +kernel
theorem dX7_came_0 : decode mX7_came.2.1 0 = .ok (.iload_n 1, 1) := by decide +kernel
theorem dX7_came_1 : decode mX7_came.2.1 1 = .ok (.iconst 1, 1) := by decide +kernel
theorem dX7_came_2 : decode mX7_came.2.1 2 = .ok (.if_icmp .lt 20, 3) := by decide +kernel
theorem dX7_came_5 : decode mX7_came.2.1 5 = .ok (.iload_n 1, 1) := by decide +kernel
theorem dX7_came_6 : decode mX7_came.2.1 6 = .ok (.aload_n 0, 1) := by decide +kernel
theorem dX7_came_7 : decode mX7_came.2.1 7 = .ok (.getfield 63, 3) := by decide +kernel
theorem dX7_came_10 : decode mX7_came.2.1 10 = .ok (.getfield 224, 3) := by decide +kernel
theorem dX7_came_13 : decode mX7_came.2.1 13 = .ok (.if_icmp .gt 9, 3) := by decide +kernel
theorem dX7_came_16 : decode mX7_came.2.1 16 = .ok (.iload_n 1, 1) := by decide +kernel
theorem dX7_came_17 : decode mX7_came.2.1 17 = .ok (.bipush 120, 2) := by decide +kernel
theorem dX7_came_19 : decode mX7_came.2.1 19 = .ok (.if_icmp .le 5, 3) := by decide +kernel
theorem dX7_came_22 : decode mX7_came.2.1 22 = .ok (.iconst (-1), 1) := by decide +kernel
theorem dX7_came_23 : decode mX7_came.2.1 23 = .ok (.ireturn, 1) := by decide +kernel
theorem dX7_came_24 : decode mX7_came.2.1 24 = .ok (.aload_n 0, 1) := by decide +kernel
theorem dX7_came_25 : decode mX7_came.2.1 25 = .ok (.getfield 63, 3) := by decide +kernel
theorem dX7_came_28 : decode mX7_came.2.1 28 = .ok (.getfield 227, 3) := by decide +kernel
theorem dX7_came_31 : decode mX7_came.2.1 31 = .ok (.iload_n 1, 1) := by decide +kernel
theorem dX7_came_32 : decode mX7_came.2.1 32 = .ok (.iconst 1, 1) := by decide +kernel
theorem dX7_came_33 : decode mX7_came.2.1 33 = .ok (.isub, 1) := by decide +kernel
theorem dX7_came_34 : decode mX7_came.2.1 34 = .ok (.iaload, 1) := by decide +kernel
theorem dX7_came_35 : decode mX7_came.2.1 35 = .ok (.ireturn, 1) := by decide +kernel
theorem dX7_middle_0 : decode mX7_middle.2.1 0 = .ok (.iload_n 1, 1) := by decide +kernel
theorem dX7_middle_1 : decode mX7_middle.2.1 1 = .ok (.ifCond .lt 18, 3) := by decide +kernel
theorem dX7_middle_4 : decode mX7_middle.2.1 4 = .ok (.iload_n 1, 1) := by decide +kernel
theorem dX7_middle_5 : decode mX7_middle.2.1 5 = .ok (.iconst 1, 1) := by decide +kernel
theorem dX7_middle_6 : decode mX7_middle.2.1 6 = .ok (.if_icmp .gt 13, 3) := by decide +kernel
theorem dX7_middle_9 : decode mX7_middle.2.1 9 = .ok (.aload_n 0, 1) := by decide +kernel
theorem dX7_middle_10 : decode mX7_middle.2.1 10 = .ok (.getfield 63, 3) := by decide +kernel
theorem dX7_middle_13 : decode mX7_middle.2.1 13 = .ok (.invokevirtual 230, 3) := by decide +kernel
theorem dX7_middle_16 : decode mX7_middle.2.1 16 = .ok (.ifCond .ne 5, 3) := by decide +kernel
theorem dX7_middle_19 : decode mX7_middle.2.1 19 = .ok (.iconst (-1), 1) := by decide +kernel
theorem dX7_middle_20 : decode mX7_middle.2.1 20 = .ok (.ireturn, 1) := by decide +kernel
theorem dX7_middle_21 : decode mX7_middle.2.1 21 = .ok (.iload_n 1, 1) := by decide +kernel
theorem dX7_middle_22 : decode mX7_middle.2.1 22 = .ok (.ifCond .ne 13, 3) := by decide +kernel
theorem dX7_middle_25 : decode mX7_middle.2.1 25 = .ok (.aload_n 0, 1) := by decide +kernel
theorem dX7_middle_26 : decode mX7_middle.2.1 26 = .ok (.getfield 63, 3) := by decide +kernel
theorem dX7_middle_29 : decode mX7_middle.2.1 29 = .ok (.invokevirtual 233, 3) := by decide +kernel
theorem dX7_middle_32 : decode mX7_middle.2.1 32 = .ok (.goto 10, 3) := by decide +kernel
theorem dX7_middle_35 : decode mX7_middle.2.1 35 = .ok (.aload_n 0, 1) := by decide +kernel
theorem dX7_middle_36 : decode mX7_middle.2.1 36 = .ok (.getfield 63, 3) := by decide +kernel
theorem dX7_middle_39 : decode mX7_middle.2.1 39 = .ok (.invokevirtual 236, 3) := by decide +kernel
theorem dX7_middle_42 : decode mX7_middle.2.1 42 = .ok (.ireturn, 1) := by decide +kernel
theorem dX7_met_0 : decode mX7_met.2.1 0 = .ok (.aload_n 0, 1) := by decide +kernel
theorem dX7_met_1 : decode mX7_met.2.1 1 = .ok (.getfield 39, 3) := by decide +kernel
theorem dX7_met_4 : decode mX7_met.2.1 4 = .ok (.iload_n 1, 1) := by decide +kernel
theorem dX7_met_5 : decode mX7_met.2.1 5 = .ok (.invokevirtual 148, 3) := by decide +kernel
theorem dX7_met_8 : decode mX7_met.2.1 8 = .ok (.ifCond .ne 5, 3) := by decide +kernel
theorem dX7_met_11 : decode mX7_met.2.1 11 = .ok (.iconst (-1), 1) := by decide +kernel
theorem dX7_met_12 : decode mX7_met.2.1 12 = .ok (.ireturn, 1) := by decide +kernel
theorem dX7_met_13 : decode mX7_met.2.1 13 = .ok (.aload_n 0, 1) := by decide +kernel
theorem dX7_met_14 : decode mX7_met.2.1 14 = .ok (.aload_n 0, 1) := by decide +kernel
theorem dX7_met_15 : decode mX7_met.2.1 15 = .ok (.getfield 63, 3) := by decide +kernel
theorem dX7_met_18 : decode mX7_met.2.1 18 = .ok (.iload_n 1, 1) := by decide +kernel
theorem dX7_met_19 : decode mX7_met.2.1 19 = .ok (.invokevirtual 239, 3) := by decide +kernel
theorem dX7_met_22 : decode mX7_met.2.1 22 = .ok (.ifCond .eq 7, 3) := by decide +kernel
theorem dX7_met_25 : decode mX7_met.2.1 25 = .ok (.iconst 1, 1) := by decide +kernel
theorem dX7_met_26 : decode mX7_met.2.1 26 = .ok (.goto 4, 3) := by decide +kernel
theorem dX7_met_29 : decode mX7_met.2.1 29 = .ok (.iconst 0, 1) := by decide +kernel
theorem dX7_met_30 : decode mX7_met.2.1 30 = .ok (.ireturn, 1) := by decide +kernel
theorem dX7_isMetBy_0 : decode mX7_isMetBy.2.1 0 = .ok (.aload_n 1, 1) := by decide +kernel
theorem dX7_isMetBy_1 : decode mX7_isMetBy.2.1 1 = .ok (.invokevirtual 243, 3) := by decide +kernel
theorem dX7_isMetBy_4 : decode mX7_isMetBy.2.1 4 = .ok (.aload_n 0, 1) := by decide +kernel
theorem dX7_isMetBy_5 : decode mX7_isMetBy.2.1 5 = .ok (.getfield 39, 3) := by decide +kernel
theorem dX7_isMetBy_8 : decode mX7_isMetBy.2.1 8 = .ok (.iload_n 2, 1) := by decide +kernel
theorem dX7_isMetBy_9 : decode mX7_isMetBy.2.1 9 = .ok (.invokevirtual 159, 3) := by decide +kernel
theorem dX7_isMetBy_12 : decode mX7_isMetBy.2.1 12 = .ok (.aload_n 1, 1) := by decide +kernel
theorem dX7_isMetBy_13 : decode mX7_isMetBy.2.1 13 = .ok (.getfield 246, 3) := by decide +kernel
theorem dX7_isMetBy_16 : decode mX7_isMetBy.2.1 16 = .ok (.invokevirtual 249, 3) := by decide +kernel
theorem dX7_isMetBy_19 : decode mX7_isMetBy.2.1 19 = .ok (.ifCond .eq 7, 3) := by decide +kernel
theorem dX7_isMetBy_22 : decode mX7_isMetBy.2.1 22 = .ok (.iconst 1, 1) := by decide +kernel
theorem dX7_isMetBy_23 : decode mX7_isMetBy.2.1 23 = .ok (.goto 4, 3) := by decide +kernel
theorem dX7_isMetBy_26 : decode mX7_isMetBy.2.1 26 = .ok (.iconst 0, 1) := by decide +kernel
theorem dX7_isMetBy_27 : decode mX7_isMetBy.2.1 27 = .ok (.ireturn, 1) := by decide +kernel
theorem dX7_image_0 : decode mX7_image.2.1 0 = .ok (.aload_n 0, 1) := by decide +kernel
theorem dX7_image_1 : decode mX7_image.2.1 1 = .ok (.getfield 70, 3) := by decide +kernel
theorem dX7_image_4 : decode mX7_image.2.1 4 = .ok (.aload_n 0, 1) := by decide +kernel
theorem dX7_image_5 : decode mX7_image.2.1 5 = .ok (.getfield 63, 3) := by decide +kernel
theorem dX7_image_8 : decode mX7_image.2.1 8 = .ok (.invokevirtual 255, 3) := by decide +kernel
theorem dX7_image_11 : decode mX7_image.2.1 11 = .ok (.aload_n 0, 1) := by decide +kernel
theorem dX7_image_12 : decode mX7_image.2.1 12 = .ok (.iconst 1, 1) := by decide +kernel
theorem dX7_image_13 : decode mX7_image.2.1 13 = .ok (.putfield 259, 3) := by decide +kernel
theorem dX7_image_16 : decode mX7_image.2.1 16 = .ok (.aload_n 0, 1) := by decide +kernel
theorem dX7_image_17 : decode mX7_image.2.1 17 = .ok (.getfield 63, 3) := by decide +kernel
theorem dX7_image_20 : decode mX7_image.2.1 20 = .ok (.getfield 224, 3) := by decide +kernel
theorem dX7_image_23 : decode mX7_image.2.1 23 = .ok (.ireturn, 1) := by decide +kernel
theorem dX7_back_0 : decode mX7_back.2.1 0 = .ok (.aload_n 0, 1) := by decide +kernel
theorem dX7_back_1 : decode mX7_back.2.1 1 = .ok (.getfield 259, 3) := by decide +kernel
theorem dX7_back_4 : decode mX7_back.2.1 4 = .ok (.ifCond .ne 5, 3) := by decide +kernel
theorem dX7_back_7 : decode mX7_back.2.1 7 = .ok (.iconst (-1), 1) := by decide +kernel
theorem dX7_back_8 : decode mX7_back.2.1 8 = .ok (.ireturn, 1) := by decide +kernel
theorem dX7_back_9 : decode mX7_back.2.1 9 = .ok (.aload_n 0, 1) := by decide +kernel
theorem dX7_back_10 : decode mX7_back.2.1 10 = .ok (.getfield 63, 3) := by decide +kernel
theorem dX7_back_13 : decode mX7_back.2.1 13 = .ok (.aload_n 0, 1) := by decide +kernel
theorem dX7_back_14 : decode mX7_back.2.1 14 = .ok (.getfield 70, 3) := by decide +kernel
theorem dX7_back_17 : decode mX7_back.2.1 17 = .ok (.invokevirtual 255, 3) := by decide +kernel
theorem dX7_back_20 : decode mX7_back.2.1 20 = .ok (.aload_n 0, 1) := by decide +kernel
theorem dX7_back_21 : decode mX7_back.2.1 21 = .ok (.getfield 63, 3) := by decide +kernel
theorem dX7_back_24 : decode mX7_back.2.1 24 = .ok (.getfield 224, 3) := by decide +kernel
theorem dX7_back_27 : decode mX7_back.2.1 27 = .ok (.ireturn, 1) := by decide +kernel
theorem dX7_lay_0 : decode mX7_lay.2.1 0 = .ok (.aload_n 0, 1) := by decide +kernel
theorem dX7_lay_1 : decode mX7_lay.2.1 1 = .ok (.getfield 67, 3) := by decide +kernel
theorem dX7_lay_4 : decode mX7_lay.2.1 4 = .ok (.aload_n 0, 1) := by decide +kernel
theorem dX7_lay_5 : decode mX7_lay.2.1 5 = .ok (.getfield 35, 3) := by decide +kernel
theorem dX7_lay_8 : decode mX7_lay.2.1 8 = .ok (.iload_n 1, 1) := by decide +kernel
theorem dX7_lay_9 : decode mX7_lay.2.1 9 = .ok (.invokevirtual 159, 3) := by decide +kernel
theorem dX7_lay_12 : decode mX7_lay.2.1 12 = .ok (.lload_n 3, 1) := by decide +kernel
theorem dX7_lay_13 : decode mX7_lay.2.1 13 = .ok (.invokevirtual 163, 3) := by decide +kernel
theorem dX7_lay_16 : decode mX7_lay.2.1 16 = .ok (.aload_n 0, 1) := by decide +kernel
theorem dX7_lay_17 : decode mX7_lay.2.1 17 = .ok (.getfield 67, 3) := by decide +kernel
theorem dX7_lay_20 : decode mX7_lay.2.1 20 = .ok (.aload_n 2, 1) := by decide +kernel
theorem dX7_lay_21 : decode mX7_lay.2.1 21 = .ok (.iconst 0, 1) := by decide +kernel
theorem dX7_lay_22 : decode mX7_lay.2.1 22 = .ok (.aload_n 2, 1) := by decide +kernel
theorem dX7_lay_23 : decode mX7_lay.2.1 23 = .ok (.iconst 0, 1) := by decide +kernel
theorem dX7_lay_24 : decode mX7_lay.2.1 24 = .ok (.iaload, 1) := by decide +kernel
theorem dX7_lay_25 : decode mX7_lay.2.1 25 = .ok (.invokevirtual 167, 3) := by decide +kernel
theorem dX7_lay_28 : decode mX7_lay.2.1 28 = .ok (.aload_n 0, 1) := by decide +kernel
theorem dX7_lay_29 : decode mX7_lay.2.1 29 = .ok (.getfield 67, 3) := by decide +kernel
theorem dX7_lay_32 : decode mX7_lay.2.1 32 = .ok (.invokevirtual 171, 3) := by decide +kernel
theorem dX7_lay_35 : decode mX7_lay.2.1 35 = .ok (.return_, 1) := by decide +kernel
theorem dX7_tryAlone_0 : decode mX7_tryAlone.2.1 0 = .ok (.aload_n 0, 1) := by decide +kernel
theorem dX7_tryAlone_1 : decode mX7_tryAlone.2.1 1 = .ok (.iload_n 1, 1) := by decide +kernel
theorem dX7_tryAlone_2 : decode mX7_tryAlone.2.1 2 = .ok (.aload_n 2, 1) := by decide +kernel
theorem dX7_tryAlone_3 : decode mX7_tryAlone.2.1 3 = .ok (.lload_n 3, 1) := by decide +kernel
theorem dX7_tryAlone_4 : decode mX7_tryAlone.2.1 4 = .ok (.invokevirtual 263, 3) := by decide +kernel
theorem dX7_tryAlone_7 : decode mX7_tryAlone.2.1 7 = .ok (.aload_n 0, 1) := by decide +kernel
theorem dX7_tryAlone_8 : decode mX7_tryAlone.2.1 8 = .ok (.getfield 67, 3) := by decide +kernel
theorem dX7_tryAlone_11 : decode mX7_tryAlone.2.1 11 = .ok (.iload 5, 2) := by decide +kernel
theorem dX7_tryAlone_13 : decode mX7_tryAlone.2.1 13 = .ok (.aload_n 0, 1) := by decide +kernel
theorem dX7_tryAlone_14 : decode mX7_tryAlone.2.1 14 = .ok (.getfield 73, 3) := by decide +kernel
theorem dX7_tryAlone_17 : decode mX7_tryAlone.2.1 17 = .ok (.invokevirtual 180, 3) := by decide +kernel
theorem dX7_tryAlone_20 : decode mX7_tryAlone.2.1 20 = .ok (.pop, 1) := by decide +kernel
theorem dX7_tryAlone_21 : decode mX7_tryAlone.2.1 21 = .ok (.return_, 1) := by decide +kernel
theorem dX7_tried_0 : decode mX7_tried.2.1 0 = .ok (.aload_n 0, 1) := by decide +kernel
theorem dX7_tried_1 : decode mX7_tried.2.1 1 = .ok (.iload_n 1, 1) := by decide +kernel
theorem dX7_tried_2 : decode mX7_tried.2.1 2 = .ok (.iload_n 2, 1) := by decide +kernel
theorem dX7_tried_3 : decode mX7_tried.2.1 3 = .ok (.invokevirtual 137, 3) := by decide +kernel
theorem dX7_tried_6 : decode mX7_tried.2.1 6 = .ok (.ifCond .eq 23, 3) := by decide +kernel
theorem dX7_tried_9 : decode mX7_tried.2.1 9 = .ok (.iload 5, 2) := by decide +kernel
theorem dX7_tried_11 : decode mX7_tried.2.1 11 = .ok (.invokestatic 177, 3) := by decide +kernel
theorem dX7_tried_14 : decode mX7_tried.2.1 14 = .ok (.ifCond .eq 15, 3) := by decide +kernel
theorem dX7_tried_17 : decode mX7_tried.2.1 17 = .ok (.iload 6, 2) := by decide +kernel
theorem dX7_tried_19 : decode mX7_tried.2.1 19 = .ok (.ifCond .lt 10, 3) := by decide +kernel
theorem dX7_tried_22 : decode mX7_tried.2.1 22 = .ok (.iload 6, 2) := by decide +kernel
theorem dX7_tried_24 : decode mX7_tried.2.1 24 = .ok (.bipush 33, 2) := by decide +kernel
theorem dX7_tried_26 : decode mX7_tried.2.1 26 = .ok (.if_icmp .lt 5, 3) := by decide +kernel
theorem dX7_tried_29 : decode mX7_tried.2.1 29 = .ok (.iconst (-1), 1) := by decide +kernel
theorem dX7_tried_30 : decode mX7_tried.2.1 30 = .ok (.ireturn, 1) := by decide +kernel
theorem dX7_tried_31 : decode mX7_tried.2.1 31 = .ok (.aload_n 0, 1) := by decide +kernel
theorem dX7_tried_32 : decode mX7_tried.2.1 32 = .ok (.aload_n 0, 1) := by decide +kernel
theorem dX7_tried_33 : decode mX7_tried.2.1 33 = .ok (.getfield 67, 3) := by decide +kernel
theorem dX7_tried_36 : decode mX7_tried.2.1 36 = .ok (.iload_n 1, 1) := by decide +kernel
theorem dX7_tried_37 : decode mX7_tried.2.1 37 = .ok (.iload_n 2, 1) := by decide +kernel
theorem dX7_tried_38 : decode mX7_tried.2.1 38 = .ok (.lload_n 3, 1) := by decide +kernel
theorem dX7_tried_39 : decode mX7_tried.2.1 39 = .ok (.invokevirtual 141, 3) := by decide +kernel
theorem dX7_tried_42 : decode mX7_tried.2.1 42 = .ok (.aload_n 0, 1) := by decide +kernel
theorem dX7_tried_43 : decode mX7_tried.2.1 43 = .ok (.getfield 67, 3) := by decide +kernel
theorem dX7_tried_46 : decode mX7_tried.2.1 46 = .ok (.iload 5, 2) := by decide +kernel
theorem dX7_tried_48 : decode mX7_tried.2.1 48 = .ok (.aload_n 0, 1) := by decide +kernel
theorem dX7_tried_49 : decode mX7_tried.2.1 49 = .ok (.getfield 73, 3) := by decide +kernel
theorem dX7_tried_52 : decode mX7_tried.2.1 52 = .ok (.invokevirtual 180, 3) := by decide +kernel
theorem dX7_tried_55 : decode mX7_tried.2.1 55 = .ok (.pop, 1) := by decide +kernel
theorem dX7_tried_56 : decode mX7_tried.2.1 56 = .ok (.iload 6, 2) := by decide +kernel
theorem dX7_tried_58 : decode mX7_tried.2.1 58 = .ok (.bipush 9, 2) := by decide +kernel
theorem dX7_tried_60 : decode mX7_tried.2.1 60 = .ok (.if_icmp .ge 15, 3) := by decide +kernel
theorem dX7_tried_63 : decode mX7_tried.2.1 63 = .ok (.aload_n 0, 1) := by decide +kernel
theorem dX7_tried_64 : decode mX7_tried.2.1 64 = .ok (.getfield 67, 3) := by decide +kernel
theorem dX7_tried_67 : decode mX7_tried.2.1 67 = .ok (.iload 6, 2) := by decide +kernel
theorem dX7_tried_69 : decode mX7_tried.2.1 69 = .ok (.invokevirtual 212, 3) := by decide +kernel
theorem dX7_tried_72 : decode mX7_tried.2.1 72 = .ok (.goto 15, 3) := by decide +kernel
theorem dX7_tried_75 : decode mX7_tried.2.1 75 = .ok (.aload_n 0, 1) := by decide +kernel
theorem dX7_tried_76 : decode mX7_tried.2.1 76 = .ok (.getfield 67, 3) := by decide +kernel
theorem dX7_tried_79 : decode mX7_tried.2.1 79 = .ok (.iload 6, 2) := by decide +kernel
theorem dX7_tried_81 : decode mX7_tried.2.1 81 = .ok (.bipush 9, 2) := by decide +kernel
theorem dX7_tried_83 : decode mX7_tried.2.1 83 = .ok (.isub, 1) := by decide +kernel
theorem dX7_tried_84 : decode mX7_tried.2.1 84 = .ok (.invokevirtual 205, 3) := by decide +kernel
theorem dX7_tried_87 : decode mX7_tried.2.1 87 = .ok (.ireturn, 1) := by decide +kernel
theorem dX7_isTriedLetter_0 : decode mX7_isTriedLetter.2.1 0 = .ok (.iload_n 0, 1) := by decide +kernel
theorem dX7_isTriedLetter_1 : decode mX7_isTriedLetter.2.1 1 = .ok (.iconst 3, 1) := by decide +kernel
theorem dX7_isTriedLetter_2 : decode mX7_isTriedLetter.2.1 2 = .ok (.if_icmp .eq 31, 3) := by decide +kernel
theorem dX7_isTriedLetter_5 : decode mX7_isTriedLetter.2.1 5 = .ok (.iload_n 0, 1) := by decide +kernel
theorem dX7_isTriedLetter_6 : decode mX7_isTriedLetter.2.1 6 = .ok (.iconst 4, 1) := by decide +kernel
theorem dX7_isTriedLetter_7 : decode mX7_isTriedLetter.2.1 7 = .ok (.if_icmp .eq 26, 3) := by decide +kernel
theorem dX7_isTriedLetter_10 : decode mX7_isTriedLetter.2.1 10 = .ok (.iload_n 0, 1) := by decide +kernel
theorem dX7_isTriedLetter_11 : decode mX7_isTriedLetter.2.1 11 = .ok (.iconst 5, 1) := by decide +kernel
theorem dX7_isTriedLetter_12 : decode mX7_isTriedLetter.2.1 12 = .ok (.if_icmp .eq 21, 3) := by decide +kernel
theorem dX7_isTriedLetter_15 : decode mX7_isTriedLetter.2.1 15 = .ok (.iload_n 0, 1) := by decide +kernel
theorem dX7_isTriedLetter_16 : decode mX7_isTriedLetter.2.1 16 = .ok (.bipush 6, 2) := by decide +kernel
theorem dX7_isTriedLetter_18 : decode mX7_isTriedLetter.2.1 18 = .ok (.if_icmp .eq 15, 3) := by decide +kernel
theorem dX7_isTriedLetter_21 : decode mX7_isTriedLetter.2.1 21 = .ok (.iload_n 0, 1) := by decide +kernel
theorem dX7_isTriedLetter_22 : decode mX7_isTriedLetter.2.1 22 = .ok (.bipush 7, 2) := by decide +kernel
theorem dX7_isTriedLetter_24 : decode mX7_isTriedLetter.2.1 24 = .ok (.if_icmp .eq 9, 3) := by decide +kernel
theorem dX7_isTriedLetter_27 : decode mX7_isTriedLetter.2.1 27 = .ok (.iload_n 0, 1) := by decide +kernel
theorem dX7_isTriedLetter_28 : decode mX7_isTriedLetter.2.1 28 = .ok (.bipush 9, 2) := by decide +kernel
theorem dX7_isTriedLetter_30 : decode mX7_isTriedLetter.2.1 30 = .ok (.if_icmp .ne 7, 3) := by decide +kernel
theorem dX7_isTriedLetter_33 : decode mX7_isTriedLetter.2.1 33 = .ok (.iconst 1, 1) := by decide +kernel
theorem dX7_isTriedLetter_34 : decode mX7_isTriedLetter.2.1 34 = .ok (.goto 4, 3) := by decide +kernel
theorem dX7_isTriedLetter_37 : decode mX7_isTriedLetter.2.1 37 = .ok (.iconst 0, 1) := by decide +kernel
theorem dX7_isTriedLetter_38 : decode mX7_isTriedLetter.2.1 38 = .ok (.ireturn, 1) := by decide +kernel
theorem dX7_least_0 : decode mX7_least.2.1 0 = .ok (.aload_n 0, 1) := by decide +kernel
theorem dX7_least_1 : decode mX7_least.2.1 1 = .ok (.getfield 35, 3) := by decide +kernel
theorem dX7_least_4 : decode mX7_least.2.1 4 = .ok (.iload_n 1, 1) := by decide +kernel
theorem dX7_least_5 : decode mX7_least.2.1 5 = .ok (.invokevirtual 148, 3) := by decide +kernel
theorem dX7_least_8 : decode mX7_least.2.1 8 = .ok (.ifCond .eq 38, 3) := by decide +kernel
theorem dX7_least_11 : decode mX7_least.2.1 11 = .ok (.aload_n 0, 1) := by decide +kernel
theorem dX7_least_12 : decode mX7_least.2.1 12 = .ok (.iload_n 2, 1) := by decide +kernel
theorem dX7_least_13 : decode mX7_least.2.1 13 = .ok (.invokevirtual 124, 3) := by decide +kernel
theorem dX7_least_16 : decode mX7_least.2.1 16 = .ok (.ifCond .eq 30, 3) := by decide +kernel
theorem dX7_least_19 : decode mX7_least.2.1 19 = .ok (.iload_n 3, 1) := by decide +kernel
theorem dX7_least_20 : decode mX7_least.2.1 20 = .ok (.invokestatic 267, 3) := by decide +kernel
theorem dX7_least_23 : decode mX7_least.2.1 23 = .ok (.ifCond .eq 23, 3) := by decide +kernel
theorem dX7_least_26 : decode mX7_least.2.1 26 = .ok (.aload_n 0, 1) := by decide +kernel
theorem dX7_least_27 : decode mX7_least.2.1 27 = .ok (.getfield 39, 3) := by decide +kernel
theorem dX7_least_30 : decode mX7_least.2.1 30 = .ok (.iload 4, 2) := by decide +kernel
theorem dX7_least_32 : decode mX7_least.2.1 32 = .ok (.invokevirtual 148, 3) := by decide +kernel
theorem dX7_least_35 : decode mX7_least.2.1 35 = .ok (.ifCond .eq 11, 3) := by decide +kernel
theorem dX7_least_38 : decode mX7_least.2.1 38 = .ok (.iload 7, 2) := by decide +kernel
theorem dX7_least_40 : decode mX7_least.2.1 40 = .ok (.invokestatic 177, 3) := by decide +kernel
theorem dX7_least_43 : decode mX7_least.2.1 43 = .ok (.ifCond .ne 5, 3) := by decide +kernel
theorem dX7_least_46 : decode mX7_least.2.1 46 = .ok (.iconst (-1), 1) := by decide +kernel
theorem dX7_least_47 : decode mX7_least.2.1 47 = .ok (.ireturn, 1) := by decide +kernel
theorem dX7_least_48 : decode mX7_least.2.1 48 = .ok (.aload_n 0, 1) := by decide +kernel
theorem dX7_least_49 : decode mX7_least.2.1 49 = .ok (.iload_n 2, 1) := by decide +kernel
theorem dX7_least_50 : decode mX7_least.2.1 50 = .ok (.invokevirtual 270, 3) := by decide +kernel
theorem dX7_least_53 : decode mX7_least.2.1 53 = .ok (.aload_n 0, 1) := by decide +kernel
theorem dX7_least_54 : decode mX7_least.2.1 54 = .ok (.iload_n 1, 1) := by decide +kernel
theorem dX7_least_55 : decode mX7_least.2.1 55 = .ok (.iload_n 3, 1) := by decide +kernel
theorem dX7_least_56 : decode mX7_least.2.1 56 = .ok (.iload 4, 2) := by decide +kernel
theorem dX7_least_58 : decode mX7_least.2.1 58 = .ok (.lload 5, 2) := by decide +kernel
theorem dX7_least_60 : decode mX7_least.2.1 60 = .ok (.iload 7, 2) := by decide +kernel
theorem dX7_least_62 : decode mX7_least.2.1 62 = .ok (.invokevirtual 273, 3) := by decide +kernel
theorem dX7_least_65 : decode mX7_least.2.1 65 = .ok (.ireturn, 1) := by decide +kernel
theorem dX7_change_0 : decode mX7_change.2.1 0 = .ok (.aload_n 0, 1) := by decide +kernel
theorem dX7_change_1 : decode mX7_change.2.1 1 = .ok (.getfield 44, 3) := by decide +kernel
theorem dX7_change_4 : decode mX7_change.2.1 4 = .ok (.iload_n 1, 1) := by decide +kernel
theorem dX7_change_5 : decode mX7_change.2.1 5 = .ok (.aaload, 1) := by decide +kernel
theorem dX7_change_6 : decode mX7_change.2.1 6 = .ok (.iconst 0, 1) := by decide +kernel
theorem dX7_change_7 : decode mX7_change.2.1 7 = .ok (.aload_n 0, 1) := by decide +kernel
theorem dX7_change_8 : decode mX7_change.2.1 8 = .ok (.getfield 51, 3) := by decide +kernel
theorem dX7_change_11 : decode mX7_change.2.1 11 = .ok (.iconst 0, 1) := by decide +kernel
theorem dX7_change_12 : decode mX7_change.2.1 12 = .ok (.bipush 12, 2) := by decide +kernel
theorem dX7_change_14 : decode mX7_change.2.1 14 = .ok (.invokestatic 118, 3) := by decide +kernel
theorem dX7_change_17 : decode mX7_change.2.1 17 = .ok (.return_, 1) := by decide +kernel
theorem dX7_leastOfChanged_0 : decode mX7_leastOfChanged.2.1 0 = .ok (.iconst 0, 1) := by decide +kernel
theorem dX7_leastOfChanged_1 : decode mX7_leastOfChanged.2.1 1 = .ok (.istore 7, 2) := by decide +kernel
theorem dX7_leastOfChanged_3 : decode mX7_leastOfChanged.2.1 3 = .ok (.iload 7, 2) := by decide +kernel
theorem dX7_leastOfChanged_5 : decode mX7_leastOfChanged.2.1 5 = .ok (.bipush 60, 2) := by decide +kernel
theorem dX7_leastOfChanged_7 : decode mX7_leastOfChanged.2.1 7 = .ok (.if_icmp .gt 45, 3) := by decide +kernel
theorem dX7_leastOfChanged_10 : decode mX7_leastOfChanged.2.1 10 = .ok (.aload_n 0, 1) := by decide +kernel
theorem dX7_leastOfChanged_11 : decode mX7_leastOfChanged.2.1 11 = .ok (.getfield 51, 3) := by decide +kernel
theorem dX7_leastOfChanged_14 : decode mX7_leastOfChanged.2.1 14 = .ok (.iload_n 2, 1) := by decide +kernel
theorem dX7_leastOfChanged_15 : decode mX7_leastOfChanged.2.1 15 = .ok (.iload 7, 2) := by decide +kernel
theorem dX7_leastOfChanged_17 : decode mX7_leastOfChanged.2.1 17 = .ok (.iastore, 1) := by decide +kernel
theorem dX7_leastOfChanged_18 : decode mX7_leastOfChanged.2.1 18 = .ok (.aload_n 0, 1) := by decide +kernel
theorem dX7_leastOfChanged_19 : decode mX7_leastOfChanged.2.1 19 = .ok (.iload_n 1, 1) := by decide +kernel
theorem dX7_leastOfChanged_20 : decode mX7_leastOfChanged.2.1 20 = .ok (.aload_n 0, 1) := by decide +kernel
theorem dX7_leastOfChanged_21 : decode mX7_leastOfChanged.2.1 21 = .ok (.getfield 51, 3) := by decide +kernel
theorem dX7_leastOfChanged_24 : decode mX7_leastOfChanged.2.1 24 = .ok (.lload 4, 2) := by decide +kernel
theorem dX7_leastOfChanged_26 : decode mX7_leastOfChanged.2.1 26 = .ok (.iload 6, 2) := by decide +kernel
theorem dX7_leastOfChanged_28 : decode mX7_leastOfChanged.2.1 28 = .ok (.invokevirtual 277, 3) := by decide +kernel
theorem dX7_leastOfChanged_31 : decode mX7_leastOfChanged.2.1 31 = .ok (.aload_n 0, 1) := by decide +kernel
theorem dX7_leastOfChanged_32 : decode mX7_leastOfChanged.2.1 32 = .ok (.aload_n 0, 1) := by decide +kernel
theorem dX7_leastOfChanged_33 : decode mX7_leastOfChanged.2.1 33 = .ok (.getfield 67, 3) := by decide +kernel
theorem dX7_leastOfChanged_36 : decode mX7_leastOfChanged.2.1 36 = .ok (.iload_n 3, 1) := by decide +kernel
theorem dX7_leastOfChanged_37 : decode mX7_leastOfChanged.2.1 37 = .ok (.invokevirtual 239, 3) := by decide +kernel
theorem dX7_leastOfChanged_40 : decode mX7_leastOfChanged.2.1 40 = .ok (.ifCond .eq 6, 3) := by decide +kernel
theorem dX7_leastOfChanged_43 : decode mX7_leastOfChanged.2.1 43 = .ok (.iload 7, 2) := by decide +kernel
theorem dX7_leastOfChanged_45 : decode mX7_leastOfChanged.2.1 45 = .ok (.ireturn, 1) := by decide +kernel
theorem dX7_leastOfChanged_46 : decode mX7_leastOfChanged.2.1 46 = .ok (.iinc 7 1, 3) := by decide +kernel
theorem dX7_leastOfChanged_49 : decode mX7_leastOfChanged.2.1 49 = .ok (.goto (-46), 3) := by decide +kernel
theorem dX7_leastOfChanged_52 : decode mX7_leastOfChanged.2.1 52 = .ok (.iconst (-1), 1) := by decide +kernel
theorem dX7_leastOfChanged_53 : decode mX7_leastOfChanged.2.1 53 = .ok (.ireturn, 1) := by decide +kernel
theorem dX7_line_0 : decode mX7_line.2.1 0 = .ok (.aload_n 0, 1) := by decide +kernel
theorem dX7_line_1 : decode mX7_line.2.1 1 = .ok (.getfield 35, 3) := by decide +kernel
theorem dX7_line_4 : decode mX7_line.2.1 4 = .ok (.iload_n 1, 1) := by decide +kernel
theorem dX7_line_5 : decode mX7_line.2.1 5 = .ok (.invokevirtual 148, 3) := by decide +kernel
theorem dX7_line_8 : decode mX7_line.2.1 8 = .ok (.ifCond .eq 31, 3) := by decide +kernel
theorem dX7_line_11 : decode mX7_line.2.1 11 = .ok (.aload_n 0, 1) := by decide +kernel
theorem dX7_line_12 : decode mX7_line.2.1 12 = .ok (.iload_n 2, 1) := by decide +kernel
theorem dX7_line_13 : decode mX7_line.2.1 13 = .ok (.invokevirtual 124, 3) := by decide +kernel
theorem dX7_line_16 : decode mX7_line.2.1 16 = .ok (.ifCond .eq 23, 3) := by decide +kernel
theorem dX7_line_19 : decode mX7_line.2.1 19 = .ok (.aload_n 0, 1) := by decide +kernel
theorem dX7_line_20 : decode mX7_line.2.1 20 = .ok (.getfield 39, 3) := by decide +kernel
theorem dX7_line_23 : decode mX7_line.2.1 23 = .ok (.iload 6, 2) := by decide +kernel
theorem dX7_line_25 : decode mX7_line.2.1 25 = .ok (.invokevirtual 148, 3) := by decide +kernel
theorem dX7_line_28 : decode mX7_line.2.1 28 = .ok (.ifCond .eq 11, 3) := by decide +kernel
theorem dX7_line_31 : decode mX7_line.2.1 31 = .ok (.iload 9, 2) := by decide +kernel
theorem dX7_line_33 : decode mX7_line.2.1 33 = .ok (.invokestatic 177, 3) := by decide +kernel
theorem dX7_line_36 : decode mX7_line.2.1 36 = .ok (.ifCond .ne 5, 3) := by decide +kernel
theorem dX7_line_39 : decode mX7_line.2.1 39 = .ok (.iconst (-1), 1) := by decide +kernel
theorem dX7_line_40 : decode mX7_line.2.1 40 = .ok (.ireturn, 1) := by decide +kernel
theorem dX7_line_41 : decode mX7_line.2.1 41 = .ok (.iload_n 3, 1) := by decide +kernel
theorem dX7_line_42 : decode mX7_line.2.1 42 = .ok (.invokestatic 267, 3) := by decide +kernel
theorem dX7_line_45 : decode mX7_line.2.1 45 = .ok (.ifCond .eq 30, 3) := by decide +kernel
theorem dX7_line_48 : decode mX7_line.2.1 48 = .ok (.iload 4, 2) := by decide +kernel
theorem dX7_line_50 : decode mX7_line.2.1 50 = .ok (.invokestatic 267, 3) := by decide +kernel
theorem dX7_line_53 : decode mX7_line.2.1 53 = .ok (.ifCond .eq 22, 3) := by decide +kernel
theorem dX7_line_56 : decode mX7_line.2.1 56 = .ok (.iload_n 3, 1) := by decide +kernel
theorem dX7_line_57 : decode mX7_line.2.1 57 = .ok (.iload 4, 2) := by decide +kernel
theorem dX7_line_59 : decode mX7_line.2.1 59 = .ok (.if_icmp .eq 16, 3) := by decide +kernel
theorem dX7_line_62 : decode mX7_line.2.1 62 = .ok (.iload 5, 2) := by decide +kernel
theorem dX7_line_64 : decode mX7_line.2.1 64 = .ok (.iconst (-1), 1) := by decide +kernel
theorem dX7_line_65 : decode mX7_line.2.1 65 = .ok (.if_icmp .lt 10, 3) := by decide +kernel
theorem dX7_line_68 : decode mX7_line.2.1 68 = .ok (.iload 5, 2) := by decide +kernel
theorem dX7_line_70 : decode mX7_line.2.1 70 = .ok (.bipush 60, 2) := by decide +kernel
theorem dX7_line_72 : decode mX7_line.2.1 72 = .ok (.if_icmp .le 5, 3) := by decide +kernel
theorem dX7_line_75 : decode mX7_line.2.1 75 = .ok (.iconst (-1), 1) := by decide +kernel
theorem dX7_line_76 : decode mX7_line.2.1 76 = .ok (.ireturn, 1) := by decide +kernel
theorem dX7_line_77 : decode mX7_line.2.1 77 = .ok (.aload_n 0, 1) := by decide +kernel
theorem dX7_line_78 : decode mX7_line.2.1 78 = .ok (.iload_n 2, 1) := by decide +kernel
theorem dX7_line_79 : decode mX7_line.2.1 79 = .ok (.invokevirtual 270, 3) := by decide +kernel
theorem dX7_line_82 : decode mX7_line.2.1 82 = .ok (.iload 5, 2) := by decide +kernel
theorem dX7_line_84 : decode mX7_line.2.1 84 = .ok (.iconst (-1), 1) := by decide +kernel
theorem dX7_line_85 : decode mX7_line.2.1 85 = .ok (.if_icmp .eq 25, 3) := by decide +kernel
theorem dX7_line_88 : decode mX7_line.2.1 88 = .ok (.aload_n 0, 1) := by decide +kernel
theorem dX7_line_89 : decode mX7_line.2.1 89 = .ok (.getfield 51, 3) := by decide +kernel
theorem dX7_line_92 : decode mX7_line.2.1 92 = .ok (.iload_n 3, 1) := by decide +kernel
theorem dX7_line_93 : decode mX7_line.2.1 93 = .ok (.iload 5, 2) := by decide +kernel
theorem dX7_line_95 : decode mX7_line.2.1 95 = .ok (.iastore, 1) := by decide +kernel
theorem dX7_line_96 : decode mX7_line.2.1 96 = .ok (.aload_n 0, 1) := by decide +kernel
theorem dX7_line_97 : decode mX7_line.2.1 97 = .ok (.iload_n 1, 1) := by decide +kernel
theorem dX7_line_98 : decode mX7_line.2.1 98 = .ok (.iload 4, 2) := by decide +kernel
theorem dX7_line_100 : decode mX7_line.2.1 100 = .ok (.iload 6, 2) := by decide +kernel
theorem dX7_line_102 : decode mX7_line.2.1 102 = .ok (.lload 7, 2) := by decide +kernel
theorem dX7_line_104 : decode mX7_line.2.1 104 = .ok (.iload 9, 2) := by decide +kernel
theorem dX7_line_106 : decode mX7_line.2.1 106 = .ok (.invokevirtual 273, 3) := by decide +kernel
theorem dX7_line_109 : decode mX7_line.2.1 109 = .ok (.ireturn, 1) := by decide +kernel
theorem dX7_line_110 : decode mX7_line.2.1 110 = .ok (.iconst 0, 1) := by decide +kernel
theorem dX7_line_111 : decode mX7_line.2.1 111 = .ok (.istore 10, 2) := by decide +kernel
theorem dX7_line_113 : decode mX7_line.2.1 113 = .ok (.iconst 0, 1) := by decide +kernel
theorem dX7_line_114 : decode mX7_line.2.1 114 = .ok (.istore 11, 2) := by decide +kernel
theorem dX7_line_116 : decode mX7_line.2.1 116 = .ok (.iload 11, 2) := by decide +kernel
theorem dX7_line_118 : decode mX7_line.2.1 118 = .ok (.bipush 7, 2) := by decide +kernel
theorem dX7_line_120 : decode mX7_line.2.1 120 = .ok (.if_icmp .ge 46, 3) := by decide +kernel
theorem dX7_line_123 : decode mX7_line.2.1 123 = .ok (.aload_n 0, 1) := by decide +kernel
theorem dX7_line_124 : decode mX7_line.2.1 124 = .ok (.getfield 51, 3) := by decide +kernel
theorem dX7_line_127 : decode mX7_line.2.1 127 = .ok (.iload_n 3, 1) := by decide +kernel
theorem dX7_line_128 : decode mX7_line.2.1 128 = .ok (.bipush 10, 2) := by decide +kernel
theorem dX7_line_130 : decode mX7_line.2.1 130 = .ok (.iload 11, 2) := by decide +kernel
theorem dX7_line_132 : decode mX7_line.2.1 132 = .ok (.imul, 1) := by decide +kernel
theorem dX7_line_133 : decode mX7_line.2.1 133 = .ok (.iastore, 1) := by decide +kernel
theorem dX7_line_134 : decode mX7_line.2.1 134 = .ok (.aload_n 0, 1) := by decide +kernel
theorem dX7_line_135 : decode mX7_line.2.1 135 = .ok (.iload_n 1, 1) := by decide +kernel
theorem dX7_line_136 : decode mX7_line.2.1 136 = .ok (.iload 4, 2) := by decide +kernel
theorem dX7_line_138 : decode mX7_line.2.1 138 = .ok (.iload 6, 2) := by decide +kernel
theorem dX7_line_140 : decode mX7_line.2.1 140 = .ok (.lload 7, 2) := by decide +kernel
theorem dX7_line_142 : decode mX7_line.2.1 142 = .ok (.iload 9, 2) := by decide +kernel
theorem dX7_line_144 : decode mX7_line.2.1 144 = .ok (.invokevirtual 273, 3) := by decide +kernel
theorem dX7_line_147 : decode mX7_line.2.1 147 = .ok (.iconst (-1), 1) := by decide +kernel
theorem dX7_line_148 : decode mX7_line.2.1 148 = .ok (.if_icmp .eq 12, 3) := by decide +kernel
theorem dX7_line_151 : decode mX7_line.2.1 151 = .ok (.iload 10, 2) := by decide +kernel
theorem dX7_line_153 : decode mX7_line.2.1 153 = .ok (.iconst 1, 1) := by decide +kernel
theorem dX7_line_154 : decode mX7_line.2.1 154 = .ok (.iload 11, 2) := by decide +kernel
theorem dX7_line_156 : decode mX7_line.2.1 156 = .ok (.ishl, 1) := by decide +kernel
theorem dX7_line_157 : decode mX7_line.2.1 157 = .ok (.ior, 1) := by decide +kernel
theorem dX7_line_158 : decode mX7_line.2.1 158 = .ok (.istore 10, 2) := by decide +kernel
theorem dX7_line_160 : decode mX7_line.2.1 160 = .ok (.iinc 11 1, 3) := by decide +kernel
theorem dX7_line_163 : decode mX7_line.2.1 163 = .ok (.goto (-47), 3) := by decide +kernel
theorem dX7_line_166 : decode mX7_line.2.1 166 = .ok (.iload 10, 2) := by decide +kernel
theorem dX7_line_168 : decode mX7_line.2.1 168 = .ok (.ireturn, 1) := by decide +kernel
theorem dX7_luck_0 : decode mX7_luck.2.1 0 = .ok (.aload_n 0, 1) := by decide +kernel
theorem dX7_luck_1 : decode mX7_luck.2.1 1 = .ok (.getfield 35, 3) := by decide +kernel
theorem dX7_luck_4 : decode mX7_luck.2.1 4 = .ok (.iload_n 1, 1) := by decide +kernel
theorem dX7_luck_5 : decode mX7_luck.2.1 5 = .ok (.invokevirtual 148, 3) := by decide +kernel
theorem dX7_luck_8 : decode mX7_luck.2.1 8 = .ok (.ifCond .eq 30, 3) := by decide +kernel
theorem dX7_luck_11 : decode mX7_luck.2.1 11 = .ok (.aload_n 0, 1) := by decide +kernel
theorem dX7_luck_12 : decode mX7_luck.2.1 12 = .ok (.iload_n 2, 1) := by decide +kernel
theorem dX7_luck_13 : decode mX7_luck.2.1 13 = .ok (.invokevirtual 124, 3) := by decide +kernel
theorem dX7_luck_16 : decode mX7_luck.2.1 16 = .ok (.ifCond .eq 22, 3) := by decide +kernel
theorem dX7_luck_19 : decode mX7_luck.2.1 19 = .ok (.aload_n 0, 1) := by decide +kernel
theorem dX7_luck_20 : decode mX7_luck.2.1 20 = .ok (.getfield 39, 3) := by decide +kernel
theorem dX7_luck_23 : decode mX7_luck.2.1 23 = .ok (.iload_n 3, 1) := by decide +kernel
theorem dX7_luck_24 : decode mX7_luck.2.1 24 = .ok (.invokevirtual 148, 3) := by decide +kernel
theorem dX7_luck_27 : decode mX7_luck.2.1 27 = .ok (.ifCond .eq 11, 3) := by decide +kernel
theorem dX7_luck_30 : decode mX7_luck.2.1 30 = .ok (.iload 7, 2) := by decide +kernel
theorem dX7_luck_32 : decode mX7_luck.2.1 32 = .ok (.invokestatic 177, 3) := by decide +kernel
theorem dX7_luck_35 : decode mX7_luck.2.1 35 = .ok (.ifCond .ne 5, 3) := by decide +kernel
theorem dX7_luck_38 : decode mX7_luck.2.1 38 = .ok (.iconst (-1), 1) := by decide +kernel
theorem dX7_luck_39 : decode mX7_luck.2.1 39 = .ok (.ireturn, 1) := by decide +kernel
theorem dX7_luck_40 : decode mX7_luck.2.1 40 = .ok (.iload 6, 2) := by decide +kernel
theorem dX7_luck_42 : decode mX7_luck.2.1 42 = .ok (.iconst 1, 1) := by decide +kernel
theorem dX7_luck_43 : decode mX7_luck.2.1 43 = .ok (.if_icmp .lt 10, 3) := by decide +kernel
theorem dX7_luck_46 : decode mX7_luck.2.1 46 = .ok (.iload 6, 2) := by decide +kernel
theorem dX7_luck_48 : decode mX7_luck.2.1 48 = .ok (.bipush 20, 2) := by decide +kernel
theorem dX7_luck_50 : decode mX7_luck.2.1 50 = .ok (.if_icmp .le 5, 3) := by decide +kernel
theorem dX7_luck_53 : decode mX7_luck.2.1 53 = .ok (.iconst (-1), 1) := by decide +kernel
theorem dX7_luck_54 : decode mX7_luck.2.1 54 = .ok (.ireturn, 1) := by decide +kernel
theorem dX7_luck_55 : decode mX7_luck.2.1 55 = .ok (.iconst 0, 1) := by decide +kernel
theorem dX7_luck_56 : decode mX7_luck.2.1 56 = .ok (.istore 8, 2) := by decide +kernel
theorem dX7_luck_58 : decode mX7_luck.2.1 58 = .ok (.iconst 0, 1) := by decide +kernel
theorem dX7_luck_59 : decode mX7_luck.2.1 59 = .ok (.istore 9, 2) := by decide +kernel
theorem dX7_luck_61 : decode mX7_luck.2.1 61 = .ok (.iload 9, 2) := by decide +kernel
theorem dX7_luck_63 : decode mX7_luck.2.1 63 = .ok (.iload 6, 2) := by decide +kernel
theorem dX7_luck_65 : decode mX7_luck.2.1 65 = .ok (.if_icmp .ge 43, 3) := by decide +kernel
theorem dX7_luck_68 : decode mX7_luck.2.1 68 = .ok (.aload_n 0, 1) := by decide +kernel
theorem dX7_luck_69 : decode mX7_luck.2.1 69 = .ok (.iload_n 1, 1) := by decide +kernel
theorem dX7_luck_70 : decode mX7_luck.2.1 70 = .ok (.aload_n 0, 1) := by decide +kernel
theorem dX7_luck_71 : decode mX7_luck.2.1 71 = .ok (.getfield 44, 3) := by decide +kernel
theorem dX7_luck_74 : decode mX7_luck.2.1 74 = .ok (.iload_n 2, 1) := by decide +kernel
theorem dX7_luck_75 : decode mX7_luck.2.1 75 = .ok (.aaload, 1) := by decide +kernel
theorem dX7_luck_76 : decode mX7_luck.2.1 76 = .ok (.lload 4, 2) := by decide +kernel
theorem dX7_luck_78 : decode mX7_luck.2.1 78 = .ok (.iload 9, 2) := by decide +kernel
theorem dX7_luck_80 : decode mX7_luck.2.1 80 = .ok (.i2l, 1) := by decide +kernel
theorem dX7_luck_81 : decode mX7_luck.2.1 81 = .ok (.ladd, 1) := by decide +kernel
theorem dX7_luck_82 : decode mX7_luck.2.1 82 = .ok (.iload 7, 2) := by decide +kernel
theorem dX7_luck_84 : decode mX7_luck.2.1 84 = .ok (.invokevirtual 277, 3) := by decide +kernel
theorem dX7_luck_87 : decode mX7_luck.2.1 87 = .ok (.aload_n 0, 1) := by decide +kernel
theorem dX7_luck_88 : decode mX7_luck.2.1 88 = .ok (.aload_n 0, 1) := by decide +kernel
theorem dX7_luck_89 : decode mX7_luck.2.1 89 = .ok (.getfield 67, 3) := by decide +kernel
theorem dX7_luck_92 : decode mX7_luck.2.1 92 = .ok (.iload_n 3, 1) := by decide +kernel
theorem dX7_luck_93 : decode mX7_luck.2.1 93 = .ok (.invokevirtual 239, 3) := by decide +kernel
theorem dX7_luck_96 : decode mX7_luck.2.1 96 = .ok (.ifCond .eq 6, 3) := by decide +kernel
theorem dX7_luck_99 : decode mX7_luck.2.1 99 = .ok (.iinc 8 1, 3) := by decide +kernel
theorem dX7_luck_102 : decode mX7_luck.2.1 102 = .ok (.iinc 9 1, 3) := by decide +kernel
theorem dX7_luck_105 : decode mX7_luck.2.1 105 = .ok (.goto (-44), 3) := by decide +kernel
theorem dX7_luck_108 : decode mX7_luck.2.1 108 = .ok (.iload 8, 2) := by decide +kernel
theorem dX7_luck_110 : decode mX7_luck.2.1 110 = .ok (.ireturn, 1) := by decide +kernel
theorem dX7_dry_0 : decode mX7_dry.2.1 0 = .ok (.aload_n 0, 1) := by decide +kernel
theorem dX7_dry_1 : decode mX7_dry.2.1 1 = .ok (.getfield 35, 3) := by decide +kernel
theorem dX7_dry_4 : decode mX7_dry.2.1 4 = .ok (.iload_n 1, 1) := by decide +kernel
theorem dX7_dry_5 : decode mX7_dry.2.1 5 = .ok (.invokevirtual 148, 3) := by decide +kernel
theorem dX7_dry_8 : decode mX7_dry.2.1 8 = .ok (.ifCond .eq 11, 3) := by decide +kernel
theorem dX7_dry_11 : decode mX7_dry.2.1 11 = .ok (.aload_n 0, 1) := by decide +kernel
theorem dX7_dry_12 : decode mX7_dry.2.1 12 = .ok (.iload_n 2, 1) := by decide +kernel
theorem dX7_dry_13 : decode mX7_dry.2.1 13 = .ok (.invokevirtual 124, 3) := by decide +kernel
theorem dX7_dry_16 : decode mX7_dry.2.1 16 = .ok (.ifCond .ne 5, 3) := by decide +kernel
theorem dX7_dry_19 : decode mX7_dry.2.1 19 = .ok (.iconst (-1), 1) := by decide +kernel
theorem dX7_dry_20 : decode mX7_dry.2.1 20 = .ok (.ireturn, 1) := by decide +kernel
theorem dX7_dry_21 : decode mX7_dry.2.1 21 = .ok (.aload_n 0, 1) := by decide +kernel
theorem dX7_dry_22 : decode mX7_dry.2.1 22 = .ok (.iload_n 1, 1) := by decide +kernel
theorem dX7_dry_23 : decode mX7_dry.2.1 23 = .ok (.aload_n 0, 1) := by decide +kernel
theorem dX7_dry_24 : decode mX7_dry.2.1 24 = .ok (.getfield 44, 3) := by decide +kernel
theorem dX7_dry_27 : decode mX7_dry.2.1 27 = .ok (.iload_n 2, 1) := by decide +kernel
theorem dX7_dry_28 : decode mX7_dry.2.1 28 = .ok (.aaload, 1) := by decide +kernel
theorem dX7_dry_29 : decode mX7_dry.2.1 29 = .ok (.lload_n 3, 1) := by decide +kernel
theorem dX7_dry_30 : decode mX7_dry.2.1 30 = .ok (.sipush 200, 3) := by decide +kernel
theorem dX7_dry_33 : decode mX7_dry.2.1 33 = .ok (.invokevirtual 277, 3) := by decide +kernel
theorem dX7_dry_36 : decode mX7_dry.2.1 36 = .ok (.aload_n 0, 1) := by decide +kernel
theorem dX7_dry_37 : decode mX7_dry.2.1 37 = .ok (.getfield 67, 3) := by decide +kernel
theorem dX7_dry_40 : decode mX7_dry.2.1 40 = .ok (.getfield 145, 3) := by decide +kernel
theorem dX7_dry_43 : decode mX7_dry.2.1 43 = .ok (.ifCond .ne 13, 3) := by decide +kernel
theorem dX7_dry_46 : decode mX7_dry.2.1 46 = .ok (.aload_n 0, 1) := by decide +kernel
theorem dX7_dry_47 : decode mX7_dry.2.1 47 = .ok (.getfield 67, 3) := by decide +kernel
theorem dX7_dry_50 : decode mX7_dry.2.1 50 = .ok (.getfield 224, 3) := by decide +kernel
theorem dX7_dry_53 : decode mX7_dry.2.1 53 = .ok (.goto 4, 3) := by decide +kernel
theorem dX7_dry_56 : decode mX7_dry.2.1 56 = .ok (.iconst (-1), 1) := by decide +kernel
theorem dX7_dry_57 : decode mX7_dry.2.1 57 = .ok (.ireturn, 1) := by decide +kernel
theorem dX7_parts_0 : decode mX7_parts.2.1 0 = .ok (.aload_n 0, 1) := by decide +kernel
theorem dX7_parts_1 : decode mX7_parts.2.1 1 = .ok (.getfield 35, 3) := by decide +kernel
theorem dX7_parts_4 : decode mX7_parts.2.1 4 = .ok (.iload_n 1, 1) := by decide +kernel
theorem dX7_parts_5 : decode mX7_parts.2.1 5 = .ok (.invokevirtual 148, 3) := by decide +kernel
theorem dX7_parts_8 : decode mX7_parts.2.1 8 = .ok (.ifCond .eq 30, 3) := by decide +kernel
theorem dX7_parts_11 : decode mX7_parts.2.1 11 = .ok (.aload_n 0, 1) := by decide +kernel
theorem dX7_parts_12 : decode mX7_parts.2.1 12 = .ok (.getfield 35, 3) := by decide +kernel
theorem dX7_parts_15 : decode mX7_parts.2.1 15 = .ok (.iload_n 2, 1) := by decide +kernel
theorem dX7_parts_16 : decode mX7_parts.2.1 16 = .ok (.invokevirtual 148, 3) := by decide +kernel
theorem dX7_parts_19 : decode mX7_parts.2.1 19 = .ok (.ifCond .eq 19, 3) := by decide +kernel
theorem dX7_parts_22 : decode mX7_parts.2.1 22 = .ok (.aload_n 0, 1) := by decide +kernel
theorem dX7_parts_23 : decode mX7_parts.2.1 23 = .ok (.iload_n 3, 1) := by decide +kernel
theorem dX7_parts_24 : decode mX7_parts.2.1 24 = .ok (.invokevirtual 124, 3) := by decide +kernel
theorem dX7_parts_27 : decode mX7_parts.2.1 27 = .ok (.ifCond .eq 11, 3) := by decide +kernel
theorem dX7_parts_30 : decode mX7_parts.2.1 30 = .ok (.iload 6, 2) := by decide +kernel
theorem dX7_parts_32 : decode mX7_parts.2.1 32 = .ok (.invokestatic 177, 3) := by decide +kernel
theorem dX7_parts_35 : decode mX7_parts.2.1 35 = .ok (.ifCond .ne 5, 3) := by decide +kernel
theorem dX7_parts_38 : decode mX7_parts.2.1 38 = .ok (.iconst (-1), 1) := by decide +kernel
theorem dX7_parts_39 : decode mX7_parts.2.1 39 = .ok (.ireturn, 1) := by decide +kernel
theorem dX7_parts_40 : decode mX7_parts.2.1 40 = .ok (.aload_n 0, 1) := by decide +kernel
theorem dX7_parts_41 : decode mX7_parts.2.1 41 = .ok (.iload_n 1, 1) := by decide +kernel
theorem dX7_parts_42 : decode mX7_parts.2.1 42 = .ok (.iload_n 2, 1) := by decide +kernel
theorem dX7_parts_43 : decode mX7_parts.2.1 43 = .ok (.iload_n 3, 1) := by decide +kernel
theorem dX7_parts_44 : decode mX7_parts.2.1 44 = .ok (.lload 4, 2) := by decide +kernel
theorem dX7_parts_46 : decode mX7_parts.2.1 46 = .ok (.iload 6, 2) := by decide +kernel
theorem dX7_parts_48 : decode mX7_parts.2.1 48 = .ok (.invokevirtual 281, 3) := by decide +kernel
theorem dX7_parts_51 : decode mX7_parts.2.1 51 = .ok (.ireturn, 1) := by decide +kernel
theorem dX7_partsBy_0 : decode mX7_partsBy.2.1 0 = .ok (.aload_n 0, 1) := by decide +kernel
theorem dX7_partsBy_1 : decode mX7_partsBy.2.1 1 = .ok (.iload_n 1, 1) := by decide +kernel
theorem dX7_partsBy_2 : decode mX7_partsBy.2.1 2 = .ok (.aload_n 0, 1) := by decide +kernel
theorem dX7_partsBy_3 : decode mX7_partsBy.2.1 3 = .ok (.getfield 44, 3) := by decide +kernel
theorem dX7_partsBy_6 : decode mX7_partsBy.2.1 6 = .ok (.iload_n 3, 1) := by decide +kernel
theorem dX7_partsBy_7 : decode mX7_partsBy.2.1 7 = .ok (.aaload, 1) := by decide +kernel
theorem dX7_partsBy_8 : decode mX7_partsBy.2.1 8 = .ok (.lload 4, 2) := by decide +kernel
theorem dX7_partsBy_10 : decode mX7_partsBy.2.1 10 = .ok (.iload 6, 2) := by decide +kernel
theorem dX7_partsBy_12 : decode mX7_partsBy.2.1 12 = .ok (.invokevirtual 277, 3) := by decide +kernel
theorem dX7_partsBy_15 : decode mX7_partsBy.2.1 15 = .ok (.aload_n 0, 1) := by decide +kernel
theorem dX7_partsBy_16 : decode mX7_partsBy.2.1 16 = .ok (.getfield 67, 3) := by decide +kernel
theorem dX7_partsBy_19 : decode mX7_partsBy.2.1 19 = .ok (.aload_n 0, 1) := by decide +kernel
theorem dX7_partsBy_20 : decode mX7_partsBy.2.1 20 = .ok (.getfield 57, 3) := by decide +kernel
theorem dX7_partsBy_23 : decode mX7_partsBy.2.1 23 = .ok (.invokevirtual 284, 3) := by decide +kernel
theorem dX7_partsBy_26 : decode mX7_partsBy.2.1 26 = .ok (.aload_n 0, 1) := by decide +kernel
theorem dX7_partsBy_27 : decode mX7_partsBy.2.1 27 = .ok (.iload_n 2, 1) := by decide +kernel
theorem dX7_partsBy_28 : decode mX7_partsBy.2.1 28 = .ok (.aload_n 0, 1) := by decide +kernel
theorem dX7_partsBy_29 : decode mX7_partsBy.2.1 29 = .ok (.getfield 44, 3) := by decide +kernel
theorem dX7_partsBy_32 : decode mX7_partsBy.2.1 32 = .ok (.iload_n 3, 1) := by decide +kernel
theorem dX7_partsBy_33 : decode mX7_partsBy.2.1 33 = .ok (.aaload, 1) := by decide +kernel
theorem dX7_partsBy_34 : decode mX7_partsBy.2.1 34 = .ok (.lload 4, 2) := by decide +kernel
theorem dX7_partsBy_36 : decode mX7_partsBy.2.1 36 = .ok (.iload 6, 2) := by decide +kernel
theorem dX7_partsBy_38 : decode mX7_partsBy.2.1 38 = .ok (.invokevirtual 277, 3) := by decide +kernel
theorem dX7_partsBy_41 : decode mX7_partsBy.2.1 41 = .ok (.aload_n 0, 1) := by decide +kernel
theorem dX7_partsBy_42 : decode mX7_partsBy.2.1 42 = .ok (.getfield 67, 3) := by decide +kernel
theorem dX7_partsBy_45 : decode mX7_partsBy.2.1 45 = .ok (.aload_n 0, 1) := by decide +kernel
theorem dX7_partsBy_46 : decode mX7_partsBy.2.1 46 = .ok (.getfield 57, 3) := by decide +kernel
theorem dX7_partsBy_49 : decode mX7_partsBy.2.1 49 = .ok (.invokevirtual 288, 3) := by decide +kernel
theorem dX7_partsBy_52 : decode mX7_partsBy.2.1 52 = .ok (.ireturn, 1) := by decide +kernel
theorem dX7_next_0 : decode mX7_next.2.1 0 = .ok (.aload_n 0, 1) := by decide +kernel
theorem dX7_next_1 : decode mX7_next.2.1 1 = .ok (.getfield 35, 3) := by decide +kernel
theorem dX7_next_4 : decode mX7_next.2.1 4 = .ok (.iload_n 1, 1) := by decide +kernel
theorem dX7_next_5 : decode mX7_next.2.1 5 = .ok (.invokevirtual 148, 3) := by decide +kernel
theorem dX7_next_8 : decode mX7_next.2.1 8 = .ok (.ifCond .eq 34, 3) := by decide +kernel
theorem dX7_next_11 : decode mX7_next.2.1 11 = .ok (.aload_n 0, 1) := by decide +kernel
theorem dX7_next_12 : decode mX7_next.2.1 12 = .ok (.getfield 35, 3) := by decide +kernel
theorem dX7_next_15 : decode mX7_next.2.1 15 = .ok (.iload_n 2, 1) := by decide +kernel
theorem dX7_next_16 : decode mX7_next.2.1 16 = .ok (.invokevirtual 148, 3) := by decide +kernel
theorem dX7_next_19 : decode mX7_next.2.1 19 = .ok (.ifCond .eq 23, 3) := by decide +kernel
theorem dX7_next_22 : decode mX7_next.2.1 22 = .ok (.iload_n 3, 1) := by decide +kernel
theorem dX7_next_23 : decode mX7_next.2.1 23 = .ok (.ifCond .eq 19, 3) := by decide +kernel
theorem dX7_next_26 : decode mX7_next.2.1 26 = .ok (.aload_n 0, 1) := by decide +kernel
theorem dX7_next_27 : decode mX7_next.2.1 27 = .ok (.iload_n 3, 1) := by decide +kernel
theorem dX7_next_28 : decode mX7_next.2.1 28 = .ok (.invokevirtual 151, 3) := by decide +kernel
theorem dX7_next_31 : decode mX7_next.2.1 31 = .ok (.ifCond .eq 11, 3) := by decide +kernel
theorem dX7_next_34 : decode mX7_next.2.1 34 = .ok (.iload 6, 2) := by decide +kernel
theorem dX7_next_36 : decode mX7_next.2.1 36 = .ok (.invokestatic 177, 3) := by decide +kernel
theorem dX7_next_39 : decode mX7_next.2.1 39 = .ok (.ifCond .ne 5, 3) := by decide +kernel
theorem dX7_next_42 : decode mX7_next.2.1 42 = .ok (.iconst (-1), 1) := by decide +kernel
theorem dX7_next_43 : decode mX7_next.2.1 43 = .ok (.ireturn, 1) := by decide +kernel
theorem dX7_next_44 : decode mX7_next.2.1 44 = .ok (.iconst (-1), 1) := by decide +kernel
theorem dX7_next_45 : decode mX7_next.2.1 45 = .ok (.istore 7, 2) := by decide +kernel
theorem dX7_next_47 : decode mX7_next.2.1 47 = .ok (.iconst (-1), 1) := by decide +kernel
theorem dX7_next_48 : decode mX7_next.2.1 48 = .ok (.istore 8, 2) := by decide +kernel
theorem dX7_next_50 : decode mX7_next.2.1 50 = .ok (.iconst 0, 1) := by decide +kernel
theorem dX7_next_51 : decode mX7_next.2.1 51 = .ok (.istore 9, 2) := by decide +kernel
theorem dX7_next_53 : decode mX7_next.2.1 53 = .ok (.iload 9, 2) := by decide +kernel
theorem dX7_next_55 : decode mX7_next.2.1 55 = .ok (.aload_n 0, 1) := by decide +kernel
theorem dX7_next_56 : decode mX7_next.2.1 56 = .ok (.getfield 112, 3) := by decide +kernel
theorem dX7_next_59 : decode mX7_next.2.1 59 = .ok (.if_icmp .ge 47, 3) := by decide +kernel
theorem dX7_next_62 : decode mX7_next.2.1 62 = .ok (.iload_n 3, 1) := by decide +kernel
theorem dX7_next_63 : decode mX7_next.2.1 63 = .ok (.iload 9, 2) := by decide +kernel
theorem dX7_next_65 : decode mX7_next.2.1 65 = .ok (.invokestatic 157, 3) := by decide +kernel
theorem dX7_next_68 : decode mX7_next.2.1 68 = .ok (.ifCond .eq 32, 3) := by decide +kernel
theorem dX7_next_71 : decode mX7_next.2.1 71 = .ok (.aload_n 0, 1) := by decide +kernel
theorem dX7_next_72 : decode mX7_next.2.1 72 = .ok (.iload_n 1, 1) := by decide +kernel
theorem dX7_next_73 : decode mX7_next.2.1 73 = .ok (.iload_n 2, 1) := by decide +kernel
theorem dX7_next_74 : decode mX7_next.2.1 74 = .ok (.iload 9, 2) := by decide +kernel
theorem dX7_next_76 : decode mX7_next.2.1 76 = .ok (.lload 4, 2) := by decide +kernel
theorem dX7_next_78 : decode mX7_next.2.1 78 = .ok (.iload 6, 2) := by decide +kernel
theorem dX7_next_80 : decode mX7_next.2.1 80 = .ok (.invokevirtual 281, 3) := by decide +kernel
theorem dX7_next_83 : decode mX7_next.2.1 83 = .ok (.istore 10, 2) := by decide +kernel
theorem dX7_next_85 : decode mX7_next.2.1 85 = .ok (.iload 10, 2) := by decide +kernel
theorem dX7_next_87 : decode mX7_next.2.1 87 = .ok (.iload 8, 2) := by decide +kernel
theorem dX7_next_89 : decode mX7_next.2.1 89 = .ok (.if_icmp .le 11, 3) := by decide +kernel
theorem dX7_next_92 : decode mX7_next.2.1 92 = .ok (.iload 10, 2) := by decide +kernel
theorem dX7_next_94 : decode mX7_next.2.1 94 = .ok (.istore 8, 2) := by decide +kernel
theorem dX7_next_96 : decode mX7_next.2.1 96 = .ok (.iload 9, 2) := by decide +kernel
theorem dX7_next_98 : decode mX7_next.2.1 98 = .ok (.istore 7, 2) := by decide +kernel
theorem dX7_next_100 : decode mX7_next.2.1 100 = .ok (.iinc 9 1, 3) := by decide +kernel
theorem dX7_next_103 : decode mX7_next.2.1 103 = .ok (.goto (-50), 3) := by decide +kernel
theorem dX7_next_106 : decode mX7_next.2.1 106 = .ok (.iload 7, 2) := by decide +kernel
theorem dX7_next_108 : decode mX7_next.2.1 108 = .ok (.ireturn, 1) := by decide +kernel
theorem dX7_alike_0 : decode mX7_alike.2.1 0 = .ok (.aload_n 0, 1) := by decide +kernel
theorem dX7_alike_1 : decode mX7_alike.2.1 1 = .ok (.getfield 35, 3) := by decide +kernel
theorem dX7_alike_4 : decode mX7_alike.2.1 4 = .ok (.iload_n 1, 1) := by decide +kernel
theorem dX7_alike_5 : decode mX7_alike.2.1 5 = .ok (.invokevirtual 148, 3) := by decide +kernel
theorem dX7_alike_8 : decode mX7_alike.2.1 8 = .ok (.ifCond .eq 27, 3) := by decide +kernel
theorem dX7_alike_11 : decode mX7_alike.2.1 11 = .ok (.aload_n 0, 1) := by decide +kernel
theorem dX7_alike_12 : decode mX7_alike.2.1 12 = .ok (.iload_n 2, 1) := by decide +kernel
theorem dX7_alike_13 : decode mX7_alike.2.1 13 = .ok (.invokevirtual 124, 3) := by decide +kernel
theorem dX7_alike_16 : decode mX7_alike.2.1 16 = .ok (.ifCond .eq 19, 3) := by decide +kernel
theorem dX7_alike_19 : decode mX7_alike.2.1 19 = .ok (.aload_n 0, 1) := by decide +kernel
theorem dX7_alike_20 : decode mX7_alike.2.1 20 = .ok (.iload_n 3, 1) := by decide +kernel
theorem dX7_alike_21 : decode mX7_alike.2.1 21 = .ok (.invokevirtual 124, 3) := by decide +kernel
theorem dX7_alike_24 : decode mX7_alike.2.1 24 = .ok (.ifCond .eq 11, 3) := by decide +kernel
theorem dX7_alike_27 : decode mX7_alike.2.1 27 = .ok (.iload 6, 2) := by decide +kernel
theorem dX7_alike_29 : decode mX7_alike.2.1 29 = .ok (.invokestatic 177, 3) := by decide +kernel
theorem dX7_alike_32 : decode mX7_alike.2.1 32 = .ok (.ifCond .ne 5, 3) := by decide +kernel
theorem dX7_alike_35 : decode mX7_alike.2.1 35 = .ok (.iconst (-1), 1) := by decide +kernel
theorem dX7_alike_36 : decode mX7_alike.2.1 36 = .ok (.ireturn, 1) := by decide +kernel
theorem dX7_alike_37 : decode mX7_alike.2.1 37 = .ok (.aload_n 0, 1) := by decide +kernel
theorem dX7_alike_38 : decode mX7_alike.2.1 38 = .ok (.iload_n 1, 1) := by decide +kernel
theorem dX7_alike_39 : decode mX7_alike.2.1 39 = .ok (.aload_n 0, 1) := by decide +kernel
theorem dX7_alike_40 : decode mX7_alike.2.1 40 = .ok (.getfield 44, 3) := by decide +kernel
theorem dX7_alike_43 : decode mX7_alike.2.1 43 = .ok (.iload_n 2, 1) := by decide +kernel
theorem dX7_alike_44 : decode mX7_alike.2.1 44 = .ok (.aaload, 1) := by decide +kernel
theorem dX7_alike_45 : decode mX7_alike.2.1 45 = .ok (.lload 4, 2) := by decide +kernel
theorem dX7_alike_47 : decode mX7_alike.2.1 47 = .ok (.iload 6, 2) := by decide +kernel
theorem dX7_alike_49 : decode mX7_alike.2.1 49 = .ok (.invokevirtual 277, 3) := by decide +kernel
theorem dX7_alike_52 : decode mX7_alike.2.1 52 = .ok (.aload_n 0, 1) := by decide +kernel
theorem dX7_alike_53 : decode mX7_alike.2.1 53 = .ok (.getfield 67, 3) := by decide +kernel
theorem dX7_alike_56 : decode mX7_alike.2.1 56 = .ok (.aload_n 0, 1) := by decide +kernel
theorem dX7_alike_57 : decode mX7_alike.2.1 57 = .ok (.getfield 57, 3) := by decide +kernel
theorem dX7_alike_60 : decode mX7_alike.2.1 60 = .ok (.invokevirtual 284, 3) := by decide +kernel
theorem dX7_alike_63 : decode mX7_alike.2.1 63 = .ok (.aload_n 0, 1) := by decide +kernel
theorem dX7_alike_64 : decode mX7_alike.2.1 64 = .ok (.iload_n 1, 1) := by decide +kernel
theorem dX7_alike_65 : decode mX7_alike.2.1 65 = .ok (.aload_n 0, 1) := by decide +kernel
theorem dX7_alike_66 : decode mX7_alike.2.1 66 = .ok (.getfield 44, 3) := by decide +kernel
theorem dX7_alike_69 : decode mX7_alike.2.1 69 = .ok (.iload_n 3, 1) := by decide +kernel
theorem dX7_alike_70 : decode mX7_alike.2.1 70 = .ok (.aaload, 1) := by decide +kernel
theorem dX7_alike_71 : decode mX7_alike.2.1 71 = .ok (.lload 4, 2) := by decide +kernel
theorem dX7_alike_73 : decode mX7_alike.2.1 73 = .ok (.iload 6, 2) := by decide +kernel
theorem dX7_alike_75 : decode mX7_alike.2.1 75 = .ok (.invokevirtual 277, 3) := by decide +kernel
theorem dX7_alike_78 : decode mX7_alike.2.1 78 = .ok (.aload_n 0, 1) := by decide +kernel
theorem dX7_alike_79 : decode mX7_alike.2.1 79 = .ok (.getfield 44, 3) := by decide +kernel
theorem dX7_alike_82 : decode mX7_alike.2.1 82 = .ok (.iload_n 2, 1) := by decide +kernel
theorem dX7_alike_83 : decode mX7_alike.2.1 83 = .ok (.aaload, 1) := by decide +kernel
theorem dX7_alike_84 : decode mX7_alike.2.1 84 = .ok (.iconst 1, 1) := by decide +kernel
theorem dX7_alike_85 : decode mX7_alike.2.1 85 = .ok (.iaload, 1) := by decide +kernel
theorem dX7_alike_86 : decode mX7_alike.2.1 86 = .ok (.aload_n 0, 1) := by decide +kernel
theorem dX7_alike_87 : decode mX7_alike.2.1 87 = .ok (.getfield 44, 3) := by decide +kernel
theorem dX7_alike_90 : decode mX7_alike.2.1 90 = .ok (.iload_n 3, 1) := by decide +kernel
theorem dX7_alike_91 : decode mX7_alike.2.1 91 = .ok (.aaload, 1) := by decide +kernel
theorem dX7_alike_92 : decode mX7_alike.2.1 92 = .ok (.iconst 1, 1) := by decide +kernel
theorem dX7_alike_93 : decode mX7_alike.2.1 93 = .ok (.iaload, 1) := by decide +kernel
theorem dX7_alike_94 : decode mX7_alike.2.1 94 = .ok (.invokestatic 291, 3) := by decide +kernel
theorem dX7_alike_97 : decode mX7_alike.2.1 97 = .ok (.istore 7, 2) := by decide +kernel
theorem dX7_alike_99 : decode mX7_alike.2.1 99 = .ok (.iconst 0, 1) := by decide +kernel
theorem dX7_alike_100 : decode mX7_alike.2.1 100 = .ok (.istore 8, 2) := by decide +kernel
theorem dX7_alike_102 : decode mX7_alike.2.1 102 = .ok (.iconst 0, 1) := by decide +kernel
theorem dX7_alike_103 : decode mX7_alike.2.1 103 = .ok (.istore 9, 2) := by decide +kernel
theorem dX7_alike_105 : decode mX7_alike.2.1 105 = .ok (.iload 9, 2) := by decide +kernel
theorem dX7_alike_107 : decode mX7_alike.2.1 107 = .ok (.iload 7, 2) := by decide +kernel
theorem dX7_alike_109 : decode mX7_alike.2.1 109 = .ok (.if_icmp .ge 81, 3) := by decide +kernel
theorem dX7_alike_112 : decode mX7_alike.2.1 112 = .ok (.aload_n 0, 1) := by decide +kernel
theorem dX7_alike_113 : decode mX7_alike.2.1 113 = .ok (.getfield 44, 3) := by decide +kernel
theorem dX7_alike_116 : decode mX7_alike.2.1 116 = .ok (.iload_n 2, 1) := by decide +kernel
theorem dX7_alike_117 : decode mX7_alike.2.1 117 = .ok (.aaload, 1) := by decide +kernel
theorem dX7_alike_118 : decode mX7_alike.2.1 118 = .ok (.iconst 0, 1) := by decide +kernel
theorem dX7_alike_119 : decode mX7_alike.2.1 119 = .ok (.iaload, 1) := by decide +kernel
theorem dX7_alike_120 : decode mX7_alike.2.1 120 = .ok (.iload 9, 2) := by decide +kernel
theorem dX7_alike_122 : decode mX7_alike.2.1 122 = .ok (.iadd, 1) := by decide +kernel
theorem dX7_alike_123 : decode mX7_alike.2.1 123 = .ok (.istore 10, 2) := by decide +kernel
theorem dX7_alike_125 : decode mX7_alike.2.1 125 = .ok (.aload_n 0, 1) := by decide +kernel
theorem dX7_alike_126 : decode mX7_alike.2.1 126 = .ok (.getfield 44, 3) := by decide +kernel
theorem dX7_alike_129 : decode mX7_alike.2.1 129 = .ok (.iload_n 3, 1) := by decide +kernel
theorem dX7_alike_130 : decode mX7_alike.2.1 130 = .ok (.aaload, 1) := by decide +kernel
theorem dX7_alike_131 : decode mX7_alike.2.1 131 = .ok (.iconst 0, 1) := by decide +kernel
theorem dX7_alike_132 : decode mX7_alike.2.1 132 = .ok (.iaload, 1) := by decide +kernel
theorem dX7_alike_133 : decode mX7_alike.2.1 133 = .ok (.iload 9, 2) := by decide +kernel
theorem dX7_alike_135 : decode mX7_alike.2.1 135 = .ok (.iadd, 1) := by decide +kernel
theorem dX7_alike_136 : decode mX7_alike.2.1 136 = .ok (.istore 11, 2) := by decide +kernel
theorem dX7_alike_138 : decode mX7_alike.2.1 138 = .ok (.iload 10, 2) := by decide +kernel
theorem dX7_alike_140 : decode mX7_alike.2.1 140 = .ok (.invokestatic 187, 3) := by decide +kernel
theorem dX7_alike_143 : decode mX7_alike.2.1 143 = .ok (.ifCond .eq 13, 3) := by decide +kernel
theorem dX7_alike_146 : decode mX7_alike.2.1 146 = .ok (.aload_n 0, 1) := by decide +kernel
theorem dX7_alike_147 : decode mX7_alike.2.1 147 = .ok (.getfield 57, 3) := by decide +kernel
theorem dX7_alike_150 : decode mX7_alike.2.1 150 = .ok (.iload 10, 2) := by decide +kernel
theorem dX7_alike_152 : decode mX7_alike.2.1 152 = .ok (.iaload, 1) := by decide +kernel
theorem dX7_alike_153 : decode mX7_alike.2.1 153 = .ok (.goto 4, 3) := by decide +kernel
theorem dX7_alike_156 : decode mX7_alike.2.1 156 = .ok (.iconst 0, 1) := by decide +kernel
theorem dX7_alike_157 : decode mX7_alike.2.1 157 = .ok (.iload 11, 2) := by decide +kernel
theorem dX7_alike_159 : decode mX7_alike.2.1 159 = .ok (.invokestatic 187, 3) := by decide +kernel
theorem dX7_alike_162 : decode mX7_alike.2.1 162 = .ok (.ifCond .eq 15, 3) := by decide +kernel
theorem dX7_alike_165 : decode mX7_alike.2.1 165 = .ok (.aload_n 0, 1) := by decide +kernel
theorem dX7_alike_166 : decode mX7_alike.2.1 166 = .ok (.getfield 67, 3) := by decide +kernel
theorem dX7_alike_169 : decode mX7_alike.2.1 169 = .ok (.iload 11, 2) := by decide +kernel
theorem dX7_alike_171 : decode mX7_alike.2.1 171 = .ok (.invokevirtual 205, 3) := by decide +kernel
theorem dX7_alike_174 : decode mX7_alike.2.1 174 = .ok (.goto 4, 3) := by decide +kernel
theorem dX7_alike_177 : decode mX7_alike.2.1 177 = .ok (.iconst 0, 1) := by decide +kernel
theorem dX7_alike_178 : decode mX7_alike.2.1 178 = .ok (.if_icmp .ne 6, 3) := by decide +kernel
theorem dX7_alike_181 : decode mX7_alike.2.1 181 = .ok (.iinc 8 1, 3) := by decide +kernel
theorem dX7_alike_184 : decode mX7_alike.2.1 184 = .ok (.iinc 9 1, 3) := by decide +kernel
theorem dX7_alike_187 : decode mX7_alike.2.1 187 = .ok (.goto (-82), 3) := by decide +kernel
theorem dX7_alike_190 : decode mX7_alike.2.1 190 = .ok (.iload 8, 2) := by decide +kernel
theorem dX7_alike_192 : decode mX7_alike.2.1 192 = .ok (.ireturn, 1) := by decide +kernel
theorem dX7_printed_0 : decode mX7_printed.2.1 0 = .ok (.aload_n 0, 1) := by decide +kernel
theorem dX7_printed_1 : decode mX7_printed.2.1 1 = .ok (.getfield 35, 3) := by decide +kernel
theorem dX7_printed_4 : decode mX7_printed.2.1 4 = .ok (.iload_n 1, 1) := by decide +kernel
theorem dX7_printed_5 : decode mX7_printed.2.1 5 = .ok (.invokevirtual 148, 3) := by decide +kernel
theorem dX7_printed_8 : decode mX7_printed.2.1 8 = .ok (.ifCond .eq 30, 3) := by decide +kernel
theorem dX7_printed_11 : decode mX7_printed.2.1 11 = .ok (.aload_n 0, 1) := by decide +kernel
theorem dX7_printed_12 : decode mX7_printed.2.1 12 = .ok (.iload_n 2, 1) := by decide +kernel
theorem dX7_printed_13 : decode mX7_printed.2.1 13 = .ok (.invokevirtual 124, 3) := by decide +kernel
theorem dX7_printed_16 : decode mX7_printed.2.1 16 = .ok (.ifCond .eq 22, 3) := by decide +kernel
theorem dX7_printed_19 : decode mX7_printed.2.1 19 = .ok (.iload 6, 2) := by decide +kernel
theorem dX7_printed_21 : decode mX7_printed.2.1 21 = .ok (.invokestatic 177, 3) := by decide +kernel
theorem dX7_printed_24 : decode mX7_printed.2.1 24 = .ok (.ifCond .eq 14, 3) := by decide +kernel
theorem dX7_printed_27 : decode mX7_printed.2.1 27 = .ok (.iload 7, 2) := by decide +kernel
theorem dX7_printed_29 : decode mX7_printed.2.1 29 = .ok (.ifCond .lt 9, 3) := by decide +kernel
theorem dX7_printed_32 : decode mX7_printed.2.1 32 = .ok (.iload 7, 2) := by decide +kernel
theorem dX7_printed_34 : decode mX7_printed.2.1 34 = .ok (.iconst 1, 1) := by decide +kernel
theorem dX7_printed_35 : decode mX7_printed.2.1 35 = .ok (.if_icmp .le 5, 3) := by decide +kernel
theorem dX7_printed_38 : decode mX7_printed.2.1 38 = .ok (.iconst (-1), 1) := by decide +kernel
theorem dX7_printed_39 : decode mX7_printed.2.1 39 = .ok (.ireturn, 1) := by decide +kernel
theorem dX7_printed_40 : decode mX7_printed.2.1 40 = .ok (.iload_n 3, 1) := by decide +kernel
theorem dX7_printed_41 : decode mX7_printed.2.1 41 = .ok (.ifCond .lt 9, 3) := by decide +kernel
theorem dX7_printed_44 : decode mX7_printed.2.1 44 = .ok (.iload_n 3, 1) := by decide +kernel
theorem dX7_printed_45 : decode mX7_printed.2.1 45 = .ok (.bipush 9, 2) := by decide +kernel
theorem dX7_printed_47 : decode mX7_printed.2.1 47 = .ok (.if_icmp .le 5, 3) := by decide +kernel
theorem dX7_printed_50 : decode mX7_printed.2.1 50 = .ok (.iconst (-1), 1) := by decide +kernel
theorem dX7_printed_51 : decode mX7_printed.2.1 51 = .ok (.ireturn, 1) := by decide +kernel
theorem dX7_printed_52 : decode mX7_printed.2.1 52 = .ok (.aload_n 0, 1) := by decide +kernel
theorem dX7_printed_53 : decode mX7_printed.2.1 53 = .ok (.iload_n 1, 1) := by decide +kernel
theorem dX7_printed_54 : decode mX7_printed.2.1 54 = .ok (.iload_n 2, 1) := by decide +kernel
theorem dX7_printed_55 : decode mX7_printed.2.1 55 = .ok (.iload_n 3, 1) := by decide +kernel
theorem dX7_printed_56 : decode mX7_printed.2.1 56 = .ok (.lload 4, 2) := by decide +kernel
theorem dX7_printed_58 : decode mX7_printed.2.1 58 = .ok (.invokevirtual 296, 3) := by decide +kernel
theorem dX7_printed_61 : decode mX7_printed.2.1 61 = .ok (.istore 8, 2) := by decide +kernel
theorem dX7_printed_63 : decode mX7_printed.2.1 63 = .ok (.iload 7, 2) := by decide +kernel
theorem dX7_printed_65 : decode mX7_printed.2.1 65 = .ok (.iconst 1, 1) := by decide +kernel
theorem dX7_printed_66 : decode mX7_printed.2.1 66 = .ok (.if_icmp .ne 8, 3) := by decide +kernel
theorem dX7_printed_69 : decode mX7_printed.2.1 69 = .ok (.iload 8, 2) := by decide +kernel
theorem dX7_printed_71 : decode mX7_printed.2.1 71 = .ok (.goto 9, 3) := by decide +kernel
theorem dX7_printed_74 : decode mX7_printed.2.1 74 = .ok (.aload_n 0, 1) := by decide +kernel
theorem dX7_printed_75 : decode mX7_printed.2.1 75 = .ok (.iload 6, 2) := by decide +kernel
theorem dX7_printed_77 : decode mX7_printed.2.1 77 = .ok (.invokevirtual 300, 3) := by decide +kernel
theorem dX7_printed_80 : decode mX7_printed.2.1 80 = .ok (.ireturn, 1) := by decide +kernel
theorem dX7_layPrint_0 : decode mX7_layPrint.2.1 0 = .ok (.aload_n 0, 1) := by decide +kernel
theorem dX7_layPrint_1 : decode mX7_layPrint.2.1 1 = .ok (.getfield 44, 3) := by decide +kernel
theorem dX7_layPrint_4 : decode mX7_layPrint.2.1 4 = .ok (.iload_n 2, 1) := by decide +kernel
theorem dX7_layPrint_5 : decode mX7_layPrint.2.1 5 = .ok (.aaload, 1) := by decide +kernel
theorem dX7_layPrint_6 : decode mX7_layPrint.2.1 6 = .ok (.iconst 1, 1) := by decide +kernel
theorem dX7_layPrint_7 : decode mX7_layPrint.2.1 7 = .ok (.iaload, 1) := by decide +kernel
theorem dX7_layPrint_8 : decode mX7_layPrint.2.1 8 = .ok (.istore 6, 2) := by decide +kernel
theorem dX7_layPrint_10 : decode mX7_layPrint.2.1 10 = .ok (.iconst 0, 1) := by decide +kernel
theorem dX7_layPrint_11 : decode mX7_layPrint.2.1 11 = .ok (.istore 7, 2) := by decide +kernel
theorem dX7_layPrint_13 : decode mX7_layPrint.2.1 13 = .ok (.aload_n 0, 1) := by decide +kernel
theorem dX7_layPrint_14 : decode mX7_layPrint.2.1 14 = .ok (.getfield 67, 3) := by decide +kernel
theorem dX7_layPrint_17 : decode mX7_layPrint.2.1 17 = .ok (.aload_n 0, 1) := by decide +kernel
theorem dX7_layPrint_18 : decode mX7_layPrint.2.1 18 = .ok (.getfield 35, 3) := by decide +kernel
theorem dX7_layPrint_21 : decode mX7_layPrint.2.1 21 = .ok (.iload_n 1, 1) := by decide +kernel
theorem dX7_layPrint_22 : decode mX7_layPrint.2.1 22 = .ok (.invokevirtual 159, 3) := by decide +kernel
theorem dX7_layPrint_25 : decode mX7_layPrint.2.1 25 = .ok (.lload 4, 2) := by decide +kernel
theorem dX7_layPrint_27 : decode mX7_layPrint.2.1 27 = .ok (.invokevirtual 163, 3) := by decide +kernel
theorem dX7_layPrint_30 : decode mX7_layPrint.2.1 30 = .ok (.iconst 0, 1) := by decide +kernel
theorem dX7_layPrint_31 : decode mX7_layPrint.2.1 31 = .ok (.istore 8, 2) := by decide +kernel
theorem dX7_layPrint_33 : decode mX7_layPrint.2.1 33 = .ok (.iload 8, 2) := by decide +kernel
theorem dX7_layPrint_35 : decode mX7_layPrint.2.1 35 = .ok (.iload 6, 2) := by decide +kernel
theorem dX7_layPrint_37 : decode mX7_layPrint.2.1 37 = .ok (.iadd, 1) := by decide +kernel
theorem dX7_layPrint_38 : decode mX7_layPrint.2.1 38 = .ok (.bipush 24, 2) := by decide +kernel
theorem dX7_layPrint_40 : decode mX7_layPrint.2.1 40 = .ok (.if_icmp .gt 42, 3) := by decide +kernel
theorem dX7_layPrint_43 : decode mX7_layPrint.2.1 43 = .ok (.iload 7, 2) := by decide +kernel
theorem dX7_layPrint_45 : decode mX7_layPrint.2.1 45 = .ok (.bipush 12, 2) := by decide +kernel
theorem dX7_layPrint_47 : decode mX7_layPrint.2.1 47 = .ok (.if_icmp .ge 35, 3) := by decide +kernel
theorem dX7_layPrint_50 : decode mX7_layPrint.2.1 50 = .ok (.aload_n 0, 1) := by decide +kernel
theorem dX7_layPrint_51 : decode mX7_layPrint.2.1 51 = .ok (.getfield 67, 3) := by decide +kernel
theorem dX7_layPrint_54 : decode mX7_layPrint.2.1 54 = .ok (.aload_n 0, 1) := by decide +kernel
theorem dX7_layPrint_55 : decode mX7_layPrint.2.1 55 = .ok (.getfield 44, 3) := by decide +kernel
theorem dX7_layPrint_58 : decode mX7_layPrint.2.1 58 = .ok (.iload_n 2, 1) := by decide +kernel
theorem dX7_layPrint_59 : decode mX7_layPrint.2.1 59 = .ok (.aaload, 1) := by decide +kernel
theorem dX7_layPrint_60 : decode mX7_layPrint.2.1 60 = .ok (.iload 7, 2) := by decide +kernel
theorem dX7_layPrint_62 : decode mX7_layPrint.2.1 62 = .ok (.iload 8, 2) := by decide +kernel
theorem dX7_layPrint_64 : decode mX7_layPrint.2.1 64 = .ok (.invokevirtual 167, 3) := by decide +kernel
theorem dX7_layPrint_67 : decode mX7_layPrint.2.1 67 = .ok (.iinc 7 1, 3) := by decide +kernel
theorem dX7_layPrint_70 : decode mX7_layPrint.2.1 70 = .ok (.iload 8, 2) := by decide +kernel
theorem dX7_layPrint_72 : decode mX7_layPrint.2.1 72 = .ok (.iload 6, 2) := by decide +kernel
theorem dX7_layPrint_74 : decode mX7_layPrint.2.1 74 = .ok (.iload_n 3, 1) := by decide +kernel
theorem dX7_layPrint_75 : decode mX7_layPrint.2.1 75 = .ok (.iadd, 1) := by decide +kernel
theorem dX7_layPrint_76 : decode mX7_layPrint.2.1 76 = .ok (.iadd, 1) := by decide +kernel
theorem dX7_layPrint_77 : decode mX7_layPrint.2.1 77 = .ok (.istore 8, 2) := by decide +kernel
theorem dX7_layPrint_79 : decode mX7_layPrint.2.1 79 = .ok (.goto (-46), 3) := by decide +kernel
theorem dX7_layPrint_82 : decode mX7_layPrint.2.1 82 = .ok (.aload_n 0, 1) := by decide +kernel
theorem dX7_layPrint_83 : decode mX7_layPrint.2.1 83 = .ok (.getfield 67, 3) := by decide +kernel
theorem dX7_layPrint_86 : decode mX7_layPrint.2.1 86 = .ok (.invokevirtual 171, 3) := by decide +kernel
theorem dX7_layPrint_89 : decode mX7_layPrint.2.1 89 = .ok (.iload 7, 2) := by decide +kernel
theorem dX7_layPrint_91 : decode mX7_layPrint.2.1 91 = .ok (.ireturn, 1) := by decide +kernel
theorem dX7_evenInTheEnd_0 : decode mX7_evenInTheEnd.2.1 0 = .ok (.aload_n 0, 1) := by decide +kernel
theorem dX7_evenInTheEnd_1 : decode mX7_evenInTheEnd.2.1 1 = .ok (.getfield 67, 3) := by decide +kernel
theorem dX7_evenInTheEnd_4 : decode mX7_evenInTheEnd.2.1 4 = .ok (.iload_n 1, 1) := by decide +kernel
theorem dX7_evenInTheEnd_5 : decode mX7_evenInTheEnd.2.1 5 = .ok (.aload_n 0, 1) := by decide +kernel
theorem dX7_evenInTheEnd_6 : decode mX7_evenInTheEnd.2.1 6 = .ok (.getfield 73, 3) := by decide +kernel
theorem dX7_evenInTheEnd_9 : decode mX7_evenInTheEnd.2.1 9 = .ok (.invokevirtual 180, 3) := by decide +kernel
theorem dX7_evenInTheEnd_12 : decode mX7_evenInTheEnd.2.1 12 = .ok (.pop, 1) := by decide +kernel
theorem dX7_evenInTheEnd_13 : decode mX7_evenInTheEnd.2.1 13 = .ok (.aload_n 0, 1) := by decide +kernel
theorem dX7_evenInTheEnd_14 : decode mX7_evenInTheEnd.2.1 14 = .ok (.getfield 67, 3) := by decide +kernel
theorem dX7_evenInTheEnd_17 : decode mX7_evenInTheEnd.2.1 17 = .ok (.invokevirtual 303, 3) := by decide +kernel
theorem dX7_evenInTheEnd_20 : decode mX7_evenInTheEnd.2.1 20 = .ok (.ireturn, 1) := by decide +kernel
theorem dX7_dots_0 : decode mX7_dots.2.1 0 = .ok (.aload_n 0, 1) := by decide +kernel
theorem dX7_dots_1 : decode mX7_dots.2.1 1 = .ok (.getfield 35, 3) := by decide +kernel
theorem dX7_dots_4 : decode mX7_dots.2.1 4 = .ok (.iload_n 1, 1) := by decide +kernel
theorem dX7_dots_5 : decode mX7_dots.2.1 5 = .ok (.invokevirtual 148, 3) := by decide +kernel
theorem dX7_dots_8 : decode mX7_dots.2.1 8 = .ok (.ifCond .eq 19, 3) := by decide +kernel
theorem dX7_dots_11 : decode mX7_dots.2.1 11 = .ok (.aload_n 0, 1) := by decide +kernel
theorem dX7_dots_12 : decode mX7_dots.2.1 12 = .ok (.iload_n 2, 1) := by decide +kernel
theorem dX7_dots_13 : decode mX7_dots.2.1 13 = .ok (.invokevirtual 124, 3) := by decide +kernel
theorem dX7_dots_16 : decode mX7_dots.2.1 16 = .ok (.ifCond .eq 11, 3) := by decide +kernel
theorem dX7_dots_19 : decode mX7_dots.2.1 19 = .ok (.iload 5, 2) := by decide +kernel
theorem dX7_dots_21 : decode mX7_dots.2.1 21 = .ok (.invokestatic 177, 3) := by decide +kernel
theorem dX7_dots_24 : decode mX7_dots.2.1 24 = .ok (.ifCond .ne 5, 3) := by decide +kernel
theorem dX7_dots_27 : decode mX7_dots.2.1 27 = .ok (.iconst (-1), 1) := by decide +kernel
theorem dX7_dots_28 : decode mX7_dots.2.1 28 = .ok (.ireturn, 1) := by decide +kernel
theorem dX7_dots_29 : decode mX7_dots.2.1 29 = .ok (.iconst (-1), 1) := by decide +kernel
theorem dX7_dots_30 : decode mX7_dots.2.1 30 = .ok (.istore 6, 2) := by decide +kernel
theorem dX7_dots_32 : decode mX7_dots.2.1 32 = .ok (.iconst 0, 1) := by decide +kernel
theorem dX7_dots_33 : decode mX7_dots.2.1 33 = .ok (.istore 7, 2) := by decide +kernel
theorem dX7_dots_35 : decode mX7_dots.2.1 35 = .ok (.iconst 0, 1) := by decide +kernel
theorem dX7_dots_36 : decode mX7_dots.2.1 36 = .ok (.istore 8, 2) := by decide +kernel
theorem dX7_dots_38 : decode mX7_dots.2.1 38 = .ok (.iload 8, 2) := by decide +kernel
theorem dX7_dots_40 : decode mX7_dots.2.1 40 = .ok (.bipush 9, 2) := by decide +kernel
theorem dX7_dots_42 : decode mX7_dots.2.1 42 = .ok (.if_icmp .gt 48, 3) := by decide +kernel
theorem dX7_dots_45 : decode mX7_dots.2.1 45 = .ok (.aload_n 0, 1) := by decide +kernel
theorem dX7_dots_46 : decode mX7_dots.2.1 46 = .ok (.iload_n 1, 1) := by decide +kernel
theorem dX7_dots_47 : decode mX7_dots.2.1 47 = .ok (.iload_n 2, 1) := by decide +kernel
theorem dX7_dots_48 : decode mX7_dots.2.1 48 = .ok (.iload 8, 2) := by decide +kernel
theorem dX7_dots_50 : decode mX7_dots.2.1 50 = .ok (.lload_n 3, 1) := by decide +kernel
theorem dX7_dots_51 : decode mX7_dots.2.1 51 = .ok (.invokevirtual 296, 3) := by decide +kernel
theorem dX7_dots_54 : decode mX7_dots.2.1 54 = .ok (.pop, 1) := by decide +kernel
theorem dX7_dots_55 : decode mX7_dots.2.1 55 = .ok (.aload_n 0, 1) := by decide +kernel
theorem dX7_dots_56 : decode mX7_dots.2.1 56 = .ok (.iload 5, 2) := by decide +kernel
theorem dX7_dots_58 : decode mX7_dots.2.1 58 = .ok (.invokevirtual 300, 3) := by decide +kernel
theorem dX7_dots_61 : decode mX7_dots.2.1 61 = .ok (.istore 9, 2) := by decide +kernel
theorem dX7_dots_63 : decode mX7_dots.2.1 63 = .ok (.iload 6, 2) := by decide +kernel
theorem dX7_dots_65 : decode mX7_dots.2.1 65 = .ok (.iconst (-1), 1) := by decide +kernel
theorem dX7_dots_66 : decode mX7_dots.2.1 66 = .ok (.if_icmp .eq 10, 3) := by decide +kernel
theorem dX7_dots_69 : decode mX7_dots.2.1 69 = .ok (.iload 9, 2) := by decide +kernel
theorem dX7_dots_71 : decode mX7_dots.2.1 71 = .ok (.iload 7, 2) := by decide +kernel
theorem dX7_dots_73 : decode mX7_dots.2.1 73 = .ok (.if_icmp .ge 11, 3) := by decide +kernel
theorem dX7_dots_76 : decode mX7_dots.2.1 76 = .ok (.iload 8, 2) := by decide +kernel
theorem dX7_dots_78 : decode mX7_dots.2.1 78 = .ok (.istore 6, 2) := by decide +kernel
theorem dX7_dots_80 : decode mX7_dots.2.1 80 = .ok (.iload 9, 2) := by decide +kernel
theorem dX7_dots_82 : decode mX7_dots.2.1 82 = .ok (.istore 7, 2) := by decide +kernel
theorem dX7_dots_84 : decode mX7_dots.2.1 84 = .ok (.iinc 8 1, 3) := by decide +kernel
theorem dX7_dots_87 : decode mX7_dots.2.1 87 = .ok (.goto (-49), 3) := by decide +kernel
theorem dX7_dots_90 : decode mX7_dots.2.1 90 = .ok (.iload 6, 2) := by decide +kernel
theorem dX7_dots_92 : decode mX7_dots.2.1 92 = .ok (.ireturn, 1) := by decide +kernel
theorem dX7_stain_0 : decode mX7_stain.2.1 0 = .ok (.aload_n 0, 1) := by decide +kernel
theorem dX7_stain_1 : decode mX7_stain.2.1 1 = .ok (.getfield 134, 3) := by decide +kernel
theorem dX7_stain_4 : decode mX7_stain.2.1 4 = .ok (.bipush 6, 2) := by decide +kernel
theorem dX7_stain_6 : decode mX7_stain.2.1 6 = .ok (.if_icmp .lt 5, 3) := by decide +kernel
theorem dX7_stain_9 : decode mX7_stain.2.1 9 = .ok (.iconst (-1), 1) := by decide +kernel
theorem dX7_stain_10 : decode mX7_stain.2.1 10 = .ok (.ireturn, 1) := by decide +kernel
theorem dX7_stain_11 : decode mX7_stain.2.1 11 = .ok (.aload_n 0, 1) := by decide +kernel
theorem dX7_stain_12 : decode mX7_stain.2.1 12 = .ok (.dup, 1) := by decide +kernel
theorem dX7_stain_13 : decode mX7_stain.2.1 13 = .ok (.getfield 134, 3) := by decide +kernel
theorem dX7_stain_16 : decode mX7_stain.2.1 16 = .ok (.iconst 1, 1) := by decide +kernel
theorem dX7_stain_17 : decode mX7_stain.2.1 17 = .ok (.iadd, 1) := by decide +kernel
theorem dX7_stain_18 : decode mX7_stain.2.1 18 = .ok (.putfield 134, 3) := by decide +kernel
theorem dX7_stain_21 : decode mX7_stain.2.1 21 = .ok (.aload_n 0, 1) := by decide +kernel
theorem dX7_stain_22 : decode mX7_stain.2.1 22 = .ok (.getfield 134, 3) := by decide +kernel
theorem dX7_stain_25 : decode mX7_stain.2.1 25 = .ok (.iconst 1, 1) := by decide +kernel
theorem dX7_stain_26 : decode mX7_stain.2.1 26 = .ok (.isub, 1) := by decide +kernel
theorem dX7_stain_27 : decode mX7_stain.2.1 27 = .ok (.ireturn, 1) := by decide +kernel
theorem dX7_grain_0 : decode mX7_grain.2.1 0 = .ok (.aload_n 0, 1) := by decide +kernel
theorem dX7_grain_1 : decode mX7_grain.2.1 1 = .ok (.iload_n 1, 1) := by decide +kernel
theorem dX7_grain_2 : decode mX7_grain.2.1 2 = .ok (.invokevirtual 306, 3) := by decide +kernel
theorem dX7_grain_5 : decode mX7_grain.2.1 5 = .ok (.ifCond .eq 21, 3) := by decide +kernel
theorem dX7_grain_8 : decode mX7_grain.2.1 8 = .ok (.iload_n 2, 1) := by decide +kernel
theorem dX7_grain_9 : decode mX7_grain.2.1 9 = .ok (.invokestatic 187, 3) := by decide +kernel
theorem dX7_grain_12 : decode mX7_grain.2.1 12 = .ok (.ifCond .eq 14, 3) := by decide +kernel
theorem dX7_grain_15 : decode mX7_grain.2.1 15 = .ok (.iload_n 3, 1) := by decide +kernel
theorem dX7_grain_16 : decode mX7_grain.2.1 16 = .ok (.ifCond .lt 10, 3) := by decide +kernel
theorem dX7_grain_19 : decode mX7_grain.2.1 19 = .ok (.iload_n 3, 1) := by decide +kernel
theorem dX7_grain_20 : decode mX7_grain.2.1 20 = .ok (.sipush 9999, 3) := by decide +kernel
theorem dX7_grain_23 : decode mX7_grain.2.1 23 = .ok (.if_icmp .le 5, 3) := by decide +kernel
theorem dX7_grain_26 : decode mX7_grain.2.1 26 = .ok (.iconst 0, 1) := by decide +kernel
theorem dX7_grain_27 : decode mX7_grain.2.1 27 = .ok (.ireturn, 1) := by decide +kernel
theorem dX7_grain_28 : decode mX7_grain.2.1 28 = .ok (.aload_n 0, 1) := by decide +kernel
theorem dX7_grain_29 : decode mX7_grain.2.1 29 = .ok (.getfield 54, 3) := by decide +kernel
theorem dX7_grain_32 : decode mX7_grain.2.1 32 = .ok (.iload_n 1, 1) := by decide +kernel
theorem dX7_grain_33 : decode mX7_grain.2.1 33 = .ok (.aaload, 1) := by decide +kernel
theorem dX7_grain_34 : decode mX7_grain.2.1 34 = .ok (.iload_n 2, 1) := by decide +kernel
theorem dX7_grain_35 : decode mX7_grain.2.1 35 = .ok (.iload_n 3, 1) := by decide +kernel
theorem dX7_grain_36 : decode mX7_grain.2.1 36 = .ok (.iastore, 1) := by decide +kernel
theorem dX7_grain_37 : decode mX7_grain.2.1 37 = .ok (.iconst 1, 1) := by decide +kernel
theorem dX7_grain_38 : decode mX7_grain.2.1 38 = .ok (.ireturn, 1) := by decide +kernel
theorem dX7_print_0 : decode mX7_print.2.1 0 = .ok (.aload_n 0, 1) := by decide +kernel
theorem dX7_print_1 : decode mX7_print.2.1 1 = .ok (.iload_n 1, 1) := by decide +kernel
theorem dX7_print_2 : decode mX7_print.2.1 2 = .ok (.invokevirtual 306, 3) := by decide +kernel
theorem dX7_print_5 : decode mX7_print.2.1 5 = .ok (.ifCond .ne 5, 3) := by decide +kernel
theorem dX7_print_8 : decode mX7_print.2.1 8 = .ok (.iconst (-1), 1) := by decide +kernel
theorem dX7_print_9 : decode mX7_print.2.1 9 = .ok (.ireturn, 1) := by decide +kernel
theorem dX7_print_10 : decode mX7_print.2.1 10 = .ok (.aload_n 0, 1) := by decide +kernel
theorem dX7_print_11 : decode mX7_print.2.1 11 = .ok (.getfield 63, 3) := by decide +kernel
theorem dX7_print_14 : decode mX7_print.2.1 14 = .ok (.aload_n 0, 1) := by decide +kernel
theorem dX7_print_15 : decode mX7_print.2.1 15 = .ok (.getfield 54, 3) := by decide +kernel
theorem dX7_print_18 : decode mX7_print.2.1 18 = .ok (.iload_n 1, 1) := by decide +kernel
theorem dX7_print_19 : decode mX7_print.2.1 19 = .ok (.aaload, 1) := by decide +kernel
theorem dX7_print_20 : decode mX7_print.2.1 20 = .ok (.invokevirtual 284, 3) := by decide +kernel
theorem dX7_print_23 : decode mX7_print.2.1 23 = .ok (.aload_n 0, 1) := by decide +kernel
theorem dX7_print_24 : decode mX7_print.2.1 24 = .ok (.getfield 63, 3) := by decide +kernel
theorem dX7_print_27 : decode mX7_print.2.1 27 = .ok (.invokevirtual 230, 3) := by decide +kernel
theorem dX7_print_30 : decode mX7_print.2.1 30 = .ok (.ireturn, 1) := by decide +kernel
theorem dX7_read_0 : decode mX7_read.2.1 0 = .ok (.aload_n 0, 1) := by decide +kernel
theorem dX7_read_1 : decode mX7_read.2.1 1 = .ok (.iload_n 1, 1) := by decide +kernel
theorem dX7_read_2 : decode mX7_read.2.1 2 = .ok (.invokevirtual 306, 3) := by decide +kernel
theorem dX7_read_5 : decode mX7_read.2.1 5 = .ok (.ifCond .eq 42, 3) := by decide +kernel
theorem dX7_read_8 : decode mX7_read.2.1 8 = .ok (.aload_n 0, 1) := by decide +kernel
theorem dX7_read_9 : decode mX7_read.2.1 9 = .ok (.getfield 35, 3) := by decide +kernel
theorem dX7_read_12 : decode mX7_read.2.1 12 = .ok (.iload_n 2, 1) := by decide +kernel
theorem dX7_read_13 : decode mX7_read.2.1 13 = .ok (.invokevirtual 148, 3) := by decide +kernel
theorem dX7_read_16 : decode mX7_read.2.1 16 = .ok (.ifCond .eq 31, 3) := by decide +kernel
theorem dX7_read_19 : decode mX7_read.2.1 19 = .ok (.aload_n 0, 1) := by decide +kernel
theorem dX7_read_20 : decode mX7_read.2.1 20 = .ok (.iload_n 3, 1) := by decide +kernel
theorem dX7_read_21 : decode mX7_read.2.1 21 = .ok (.invokevirtual 151, 3) := by decide +kernel
theorem dX7_read_24 : decode mX7_read.2.1 24 = .ok (.ifCond .eq 23, 3) := by decide +kernel
theorem dX7_read_27 : decode mX7_read.2.1 27 = .ok (.iload 6, 2) := by decide +kernel
theorem dX7_read_29 : decode mX7_read.2.1 29 = .ok (.invokestatic 177, 3) := by decide +kernel
theorem dX7_read_32 : decode mX7_read.2.1 32 = .ok (.ifCond .eq 15, 3) := by decide +kernel
theorem dX7_read_35 : decode mX7_read.2.1 35 = .ok (.iload 7, 2) := by decide +kernel
theorem dX7_read_37 : decode mX7_read.2.1 37 = .ok (.ifCond .lt 10, 3) := by decide +kernel
theorem dX7_read_40 : decode mX7_read.2.1 40 = .ok (.iload 7, 2) := by decide +kernel
theorem dX7_read_42 : decode mX7_read.2.1 42 = .ok (.bipush 99, 2) := by decide +kernel
theorem dX7_read_44 : decode mX7_read.2.1 44 = .ok (.if_icmp .le 5, 3) := by decide +kernel
theorem dX7_read_47 : decode mX7_read.2.1 47 = .ok (.iconst (-1), 1) := by decide +kernel
theorem dX7_read_48 : decode mX7_read.2.1 48 = .ok (.ireturn, 1) := by decide +kernel
theorem dX7_read_49 : decode mX7_read.2.1 49 = .ok (.iconst 0, 1) := by decide +kernel
theorem dX7_read_50 : decode mX7_read.2.1 50 = .ok (.istore 8, 2) := by decide +kernel
theorem dX7_read_52 : decode mX7_read.2.1 52 = .ok (.iconst 0, 1) := by decide +kernel
theorem dX7_read_53 : decode mX7_read.2.1 53 = .ok (.istore 9, 2) := by decide +kernel
theorem dX7_read_55 : decode mX7_read.2.1 55 = .ok (.iload 9, 2) := by decide +kernel
theorem dX7_read_57 : decode mX7_read.2.1 57 = .ok (.aload_n 0, 1) := by decide +kernel
theorem dX7_read_58 : decode mX7_read.2.1 58 = .ok (.getfield 112, 3) := by decide +kernel
theorem dX7_read_61 : decode mX7_read.2.1 61 = .ok (.if_icmp .ge 61, 3) := by decide +kernel
theorem dX7_read_64 : decode mX7_read.2.1 64 = .ok (.iload_n 3, 1) := by decide +kernel
theorem dX7_read_65 : decode mX7_read.2.1 65 = .ok (.iload 9, 2) := by decide +kernel
theorem dX7_read_67 : decode mX7_read.2.1 67 = .ok (.invokestatic 157, 3) := by decide +kernel
theorem dX7_read_70 : decode mX7_read.2.1 70 = .ok (.ifCond .eq 46, 3) := by decide +kernel
theorem dX7_read_73 : decode mX7_read.2.1 73 = .ok (.aload_n 0, 1) := by decide +kernel
theorem dX7_read_74 : decode mX7_read.2.1 74 = .ok (.iload_n 2, 1) := by decide +kernel
theorem dX7_read_75 : decode mX7_read.2.1 75 = .ok (.aload_n 0, 1) := by decide +kernel
theorem dX7_read_76 : decode mX7_read.2.1 76 = .ok (.getfield 44, 3) := by decide +kernel
theorem dX7_read_79 : decode mX7_read.2.1 79 = .ok (.iload 9, 2) := by decide +kernel
theorem dX7_read_81 : decode mX7_read.2.1 81 = .ok (.aaload, 1) := by decide +kernel
theorem dX7_read_82 : decode mX7_read.2.1 82 = .ok (.lload 4, 2) := by decide +kernel
theorem dX7_read_84 : decode mX7_read.2.1 84 = .ok (.iload 6, 2) := by decide +kernel
theorem dX7_read_86 : decode mX7_read.2.1 86 = .ok (.invokevirtual 277, 3) := by decide +kernel
theorem dX7_read_89 : decode mX7_read.2.1 89 = .ok (.aload_n 0, 1) := by decide +kernel
theorem dX7_read_90 : decode mX7_read.2.1 90 = .ok (.getfield 67, 3) := by decide +kernel
theorem dX7_read_93 : decode mX7_read.2.1 93 = .ok (.aload_n 0, 1) := by decide +kernel
theorem dX7_read_94 : decode mX7_read.2.1 94 = .ok (.getfield 54, 3) := by decide +kernel
theorem dX7_read_97 : decode mX7_read.2.1 97 = .ok (.iload_n 1, 1) := by decide +kernel
theorem dX7_read_98 : decode mX7_read.2.1 98 = .ok (.aaload, 1) := by decide +kernel
theorem dX7_read_99 : decode mX7_read.2.1 99 = .ok (.invokevirtual 309, 3) := by decide +kernel
theorem dX7_read_102 : decode mX7_read.2.1 102 = .ok (.iload 7, 2) := by decide +kernel
theorem dX7_read_104 : decode mX7_read.2.1 104 = .ok (.if_icmp .gt 12, 3) := by decide +kernel
theorem dX7_read_107 : decode mX7_read.2.1 107 = .ok (.iload 8, 2) := by decide +kernel
theorem dX7_read_109 : decode mX7_read.2.1 109 = .ok (.iconst 1, 1) := by decide +kernel
theorem dX7_read_110 : decode mX7_read.2.1 110 = .ok (.iload 9, 2) := by decide +kernel
theorem dX7_read_112 : decode mX7_read.2.1 112 = .ok (.ishl, 1) := by decide +kernel
theorem dX7_read_113 : decode mX7_read.2.1 113 = .ok (.ior, 1) := by decide +kernel
theorem dX7_read_114 : decode mX7_read.2.1 114 = .ok (.istore 8, 2) := by decide +kernel
theorem dX7_read_116 : decode mX7_read.2.1 116 = .ok (.iinc 9 1, 3) := by decide +kernel
theorem dX7_read_119 : decode mX7_read.2.1 119 = .ok (.goto (-64), 3) := by decide +kernel
theorem dX7_read_122 : decode mX7_read.2.1 122 = .ok (.iload 8, 2) := by decide +kernel
theorem dX7_read_124 : decode mX7_read.2.1 124 = .ok (.ireturn, 1) := by decide +kernel
theorem dX7_odds_0 : decode mX7_odds.2.1 0 = .ok (.aload_n 0, 1) := by decide +kernel
theorem dX7_odds_1 : decode mX7_odds.2.1 1 = .ok (.iload_n 1, 1) := by decide +kernel
theorem dX7_odds_2 : decode mX7_odds.2.1 2 = .ok (.iload_n 2, 1) := by decide +kernel
theorem dX7_odds_3 : decode mX7_odds.2.1 3 = .ok (.iload_n 3, 1) := by decide +kernel
theorem dX7_odds_4 : decode mX7_odds.2.1 4 = .ok (.lload 4, 2) := by decide +kernel
theorem dX7_odds_6 : decode mX7_odds.2.1 6 = .ok (.iload 6, 2) := by decide +kernel
theorem dX7_odds_8 : decode mX7_odds.2.1 8 = .ok (.iload 7, 2) := by decide +kernel
theorem dX7_odds_10 : decode mX7_odds.2.1 10 = .ok (.invokevirtual 312, 3) := by decide +kernel
theorem dX7_odds_13 : decode mX7_odds.2.1 13 = .ok (.istore 8, 2) := by decide +kernel
theorem dX7_odds_15 : decode mX7_odds.2.1 15 = .ok (.iload 8, 2) := by decide +kernel
theorem dX7_odds_17 : decode mX7_odds.2.1 17 = .ok (.iconst (-1), 1) := by decide +kernel
theorem dX7_odds_18 : decode mX7_odds.2.1 18 = .ok (.if_icmp .ne 5, 3) := by decide +kernel
theorem dX7_odds_21 : decode mX7_odds.2.1 21 = .ok (.iconst (-1), 1) := by decide +kernel
theorem dX7_odds_22 : decode mX7_odds.2.1 22 = .ok (.ireturn, 1) := by decide +kernel
theorem dX7_odds_23 : decode mX7_odds.2.1 23 = .ok (.iconst 0, 1) := by decide +kernel
theorem dX7_odds_24 : decode mX7_odds.2.1 24 = .ok (.istore 9, 2) := by decide +kernel
theorem dX7_odds_26 : decode mX7_odds.2.1 26 = .ok (.iconst 0, 1) := by decide +kernel
theorem dX7_odds_27 : decode mX7_odds.2.1 27 = .ok (.istore 10, 2) := by decide +kernel
theorem dX7_odds_29 : decode mX7_odds.2.1 29 = .ok (.iload 10, 2) := by decide +kernel
theorem dX7_odds_31 : decode mX7_odds.2.1 31 = .ok (.aload_n 0, 1) := by decide +kernel
theorem dX7_odds_32 : decode mX7_odds.2.1 32 = .ok (.getfield 112, 3) := by decide +kernel
theorem dX7_odds_35 : decode mX7_odds.2.1 35 = .ok (.if_icmp .ge 31, 3) := by decide +kernel
theorem dX7_odds_38 : decode mX7_odds.2.1 38 = .ok (.iload 8, 2) := by decide +kernel
theorem dX7_odds_40 : decode mX7_odds.2.1 40 = .ok (.iload 10, 2) := by decide +kernel
theorem dX7_odds_42 : decode mX7_odds.2.1 42 = .ok (.invokestatic 157, 3) := by decide +kernel
theorem dX7_odds_45 : decode mX7_odds.2.1 45 = .ok (.ifCond .eq 15, 3) := by decide +kernel
theorem dX7_odds_48 : decode mX7_odds.2.1 48 = .ok (.iload 9, 2) := by decide +kernel
theorem dX7_odds_50 : decode mX7_odds.2.1 50 = .ok (.aload_n 0, 1) := by decide +kernel
theorem dX7_odds_51 : decode mX7_odds.2.1 51 = .ok (.getfield 47, 3) := by decide +kernel
theorem dX7_odds_54 : decode mX7_odds.2.1 54 = .ok (.iload 10, 2) := by decide +kernel
theorem dX7_odds_56 : decode mX7_odds.2.1 56 = .ok (.iaload, 1) := by decide +kernel
theorem dX7_odds_57 : decode mX7_odds.2.1 57 = .ok (.iadd, 1) := by decide +kernel
theorem dX7_odds_58 : decode mX7_odds.2.1 58 = .ok (.istore 9, 2) := by decide +kernel
theorem dX7_odds_60 : decode mX7_odds.2.1 60 = .ok (.iinc 10 1, 3) := by decide +kernel
theorem dX7_odds_63 : decode mX7_odds.2.1 63 = .ok (.goto (-34), 3) := by decide +kernel
theorem dX7_odds_66 : decode mX7_odds.2.1 66 = .ok (.iload 9, 2) := by decide +kernel
theorem dX7_odds_68 : decode mX7_odds.2.1 68 = .ok (.ireturn, 1) := by decide +kernel
theorem dX7_turned_0 : decode mX7_turned.2.1 0 = .ok (.aload_n 0, 1) := by decide +kernel
theorem dX7_turned_1 : decode mX7_turned.2.1 1 = .ok (.iload_n 1, 1) := by decide +kernel
theorem dX7_turned_2 : decode mX7_turned.2.1 2 = .ok (.invokevirtual 306, 3) := by decide +kernel
theorem dX7_turned_5 : decode mX7_turned.2.1 5 = .ok (.ifCond .eq 11, 3) := by decide +kernel
theorem dX7_turned_8 : decode mX7_turned.2.1 8 = .ok (.aload_n 0, 1) := by decide +kernel
theorem dX7_turned_9 : decode mX7_turned.2.1 9 = .ok (.iload_n 2, 1) := by decide +kernel
theorem dX7_turned_10 : decode mX7_turned.2.1 10 = .ok (.invokevirtual 306, 3) := by decide +kernel
theorem dX7_turned_13 : decode mX7_turned.2.1 13 = .ok (.ifCond .ne 5, 3) := by decide +kernel
theorem dX7_turned_16 : decode mX7_turned.2.1 16 = .ok (.iconst (-1), 1) := by decide +kernel
theorem dX7_turned_17 : decode mX7_turned.2.1 17 = .ok (.ireturn, 1) := by decide +kernel
theorem dX7_turned_18 : decode mX7_turned.2.1 18 = .ok (.iconst 0, 1) := by decide +kernel
theorem dX7_turned_19 : decode mX7_turned.2.1 19 = .ok (.istore_n 3, 1) := by decide +kernel
theorem dX7_turned_20 : decode mX7_turned.2.1 20 = .ok (.iconst 0, 1) := by decide +kernel
theorem dX7_turned_21 : decode mX7_turned.2.1 21 = .ok (.istore 4, 2) := by decide +kernel
theorem dX7_turned_23 : decode mX7_turned.2.1 23 = .ok (.iload 4, 2) := by decide +kernel
theorem dX7_turned_25 : decode mX7_turned.2.1 25 = .ok (.bipush 24, 2) := by decide +kernel
theorem dX7_turned_27 : decode mX7_turned.2.1 27 = .ok (.if_icmp .ge 36, 3) := by decide +kernel
theorem dX7_turned_30 : decode mX7_turned.2.1 30 = .ok (.aload_n 0, 1) := by decide +kernel
theorem dX7_turned_31 : decode mX7_turned.2.1 31 = .ok (.getfield 54, 3) := by decide +kernel
theorem dX7_turned_34 : decode mX7_turned.2.1 34 = .ok (.iload_n 1, 1) := by decide +kernel
theorem dX7_turned_35 : decode mX7_turned.2.1 35 = .ok (.aaload, 1) := by decide +kernel
theorem dX7_turned_36 : decode mX7_turned.2.1 36 = .ok (.iload 4, 2) := by decide +kernel
theorem dX7_turned_38 : decode mX7_turned.2.1 38 = .ok (.iaload, 1) := by decide +kernel
theorem dX7_turned_39 : decode mX7_turned.2.1 39 = .ok (.aload_n 0, 1) := by decide +kernel
theorem dX7_turned_40 : decode mX7_turned.2.1 40 = .ok (.getfield 54, 3) := by decide +kernel
theorem dX7_turned_43 : decode mX7_turned.2.1 43 = .ok (.iload_n 2, 1) := by decide +kernel
theorem dX7_turned_44 : decode mX7_turned.2.1 44 = .ok (.aaload, 1) := by decide +kernel
theorem dX7_turned_45 : decode mX7_turned.2.1 45 = .ok (.bipush 23, 2) := by decide +kernel
theorem dX7_turned_47 : decode mX7_turned.2.1 47 = .ok (.iload 4, 2) := by decide +kernel
theorem dX7_turned_49 : decode mX7_turned.2.1 49 = .ok (.isub, 1) := by decide +kernel
theorem dX7_turned_50 : decode mX7_turned.2.1 50 = .ok (.iaload, 1) := by decide +kernel
theorem dX7_turned_51 : decode mX7_turned.2.1 51 = .ok (.if_icmp .eq 6, 3) := by decide +kernel
theorem dX7_turned_54 : decode mX7_turned.2.1 54 = .ok (.iinc 3 1, 3) := by decide +kernel
theorem dX7_turned_57 : decode mX7_turned.2.1 57 = .ok (.iinc 4 1, 3) := by decide +kernel
theorem dX7_turned_60 : decode mX7_turned.2.1 60 = .ok (.goto (-37), 3) := by decide +kernel
theorem dX7_turned_63 : decode mX7_turned.2.1 63 = .ok (.iload_n 3, 1) := by decide +kernel
theorem dX7_turned_64 : decode mX7_turned.2.1 64 = .ok (.ireturn, 1) := by decide +kernel
theorem dX7_join_0 : decode mX7_join.2.1 0 = .ok (.aload_n 0, 1) := by decide +kernel
theorem dX7_join_1 : decode mX7_join.2.1 1 = .ok (.iload_n 1, 1) := by decide +kernel
theorem dX7_join_2 : decode mX7_join.2.1 2 = .ok (.invokevirtual 306, 3) := by decide +kernel
theorem dX7_join_5 : decode mX7_join.2.1 5 = .ok (.ifCond .eq 16, 3) := by decide +kernel
theorem dX7_join_8 : decode mX7_join.2.1 8 = .ok (.aload_n 0, 1) := by decide +kernel
theorem dX7_join_9 : decode mX7_join.2.1 9 = .ok (.iload_n 2, 1) := by decide +kernel
theorem dX7_join_10 : decode mX7_join.2.1 10 = .ok (.invokevirtual 306, 3) := by decide +kernel
theorem dX7_join_13 : decode mX7_join.2.1 13 = .ok (.ifCond .eq 8, 3) := by decide +kernel
theorem dX7_join_16 : decode mX7_join.2.1 16 = .ok (.iload_n 1, 1) := by decide +kernel
theorem dX7_join_17 : decode mX7_join.2.1 17 = .ok (.iload_n 2, 1) := by decide +kernel
theorem dX7_join_18 : decode mX7_join.2.1 18 = .ok (.if_icmp .ne 5, 3) := by decide +kernel
theorem dX7_join_21 : decode mX7_join.2.1 21 = .ok (.iconst (-1), 1) := by decide +kernel
theorem dX7_join_22 : decode mX7_join.2.1 22 = .ok (.ireturn, 1) := by decide +kernel
theorem dX7_join_23 : decode mX7_join.2.1 23 = .ok (.iconst 0, 1) := by decide +kernel
theorem dX7_join_24 : decode mX7_join.2.1 24 = .ok (.istore_n 3, 1) := by decide +kernel
theorem dX7_join_25 : decode mX7_join.2.1 25 = .ok (.iconst 0, 1) := by decide +kernel
theorem dX7_join_26 : decode mX7_join.2.1 26 = .ok (.istore 4, 2) := by decide +kernel
theorem dX7_join_28 : decode mX7_join.2.1 28 = .ok (.iload 4, 2) := by decide +kernel
theorem dX7_join_30 : decode mX7_join.2.1 30 = .ok (.bipush 24, 2) := by decide +kernel
theorem dX7_join_32 : decode mX7_join.2.1 32 = .ok (.if_icmp .ge 55, 3) := by decide +kernel
theorem dX7_join_35 : decode mX7_join.2.1 35 = .ok (.aload_n 0, 1) := by decide +kernel
theorem dX7_join_36 : decode mX7_join.2.1 36 = .ok (.getfield 54, 3) := by decide +kernel
theorem dX7_join_39 : decode mX7_join.2.1 39 = .ok (.iload_n 1, 1) := by decide +kernel
theorem dX7_join_40 : decode mX7_join.2.1 40 = .ok (.aaload, 1) := by decide +kernel
theorem dX7_join_41 : decode mX7_join.2.1 41 = .ok (.iload 4, 2) := by decide +kernel
theorem dX7_join_43 : decode mX7_join.2.1 43 = .ok (.sipush 9999, 3) := by decide +kernel
theorem dX7_join_46 : decode mX7_join.2.1 46 = .ok (.aload_n 0, 1) := by decide +kernel
theorem dX7_join_47 : decode mX7_join.2.1 47 = .ok (.getfield 54, 3) := by decide +kernel
theorem dX7_join_50 : decode mX7_join.2.1 50 = .ok (.iload_n 1, 1) := by decide +kernel
theorem dX7_join_51 : decode mX7_join.2.1 51 = .ok (.aaload, 1) := by decide +kernel
theorem dX7_join_52 : decode mX7_join.2.1 52 = .ok (.iload 4, 2) := by decide +kernel
theorem dX7_join_54 : decode mX7_join.2.1 54 = .ok (.iaload, 1) := by decide +kernel
theorem dX7_join_55 : decode mX7_join.2.1 55 = .ok (.aload_n 0, 1) := by decide +kernel
theorem dX7_join_56 : decode mX7_join.2.1 56 = .ok (.getfield 54, 3) := by decide +kernel
theorem dX7_join_59 : decode mX7_join.2.1 59 = .ok (.iload_n 2, 1) := by decide +kernel
theorem dX7_join_60 : decode mX7_join.2.1 60 = .ok (.aaload, 1) := by decide +kernel
theorem dX7_join_61 : decode mX7_join.2.1 61 = .ok (.iload 4, 2) := by decide +kernel
theorem dX7_join_63 : decode mX7_join.2.1 63 = .ok (.iaload, 1) := by decide +kernel
theorem dX7_join_64 : decode mX7_join.2.1 64 = .ok (.iadd, 1) := by decide +kernel
theorem dX7_join_65 : decode mX7_join.2.1 65 = .ok (.invokestatic 315, 3) := by decide +kernel
theorem dX7_join_68 : decode mX7_join.2.1 68 = .ok (.iastore, 1) := by decide +kernel
theorem dX7_join_69 : decode mX7_join.2.1 69 = .ok (.iload_n 3, 1) := by decide +kernel
theorem dX7_join_70 : decode mX7_join.2.1 70 = .ok (.aload_n 0, 1) := by decide +kernel
theorem dX7_join_71 : decode mX7_join.2.1 71 = .ok (.getfield 54, 3) := by decide +kernel
theorem dX7_join_74 : decode mX7_join.2.1 74 = .ok (.iload_n 1, 1) := by decide +kernel
theorem dX7_join_75 : decode mX7_join.2.1 75 = .ok (.aaload, 1) := by decide +kernel
theorem dX7_join_76 : decode mX7_join.2.1 76 = .ok (.iload 4, 2) := by decide +kernel
theorem dX7_join_78 : decode mX7_join.2.1 78 = .ok (.iaload, 1) := by decide +kernel
theorem dX7_join_79 : decode mX7_join.2.1 79 = .ok (.iadd, 1) := by decide +kernel
theorem dX7_join_80 : decode mX7_join.2.1 80 = .ok (.istore_n 3, 1) := by decide +kernel
theorem dX7_join_81 : decode mX7_join.2.1 81 = .ok (.iinc 4 1, 3) := by decide +kernel
theorem dX7_join_84 : decode mX7_join.2.1 84 = .ok (.goto (-56), 3) := by decide +kernel
theorem dX7_join_87 : decode mX7_join.2.1 87 = .ok (.iload_n 3, 1) := by decide +kernel
theorem dX7_join_88 : decode mX7_join.2.1 88 = .ok (.ireturn, 1) := by decide +kernel
theorem dX7_blot_0 : decode mX7_blot.2.1 0 = .ok (.aload_n 0, 1) := by decide +kernel
theorem dX7_blot_1 : decode mX7_blot.2.1 1 = .ok (.iload_n 1, 1) := by decide +kernel
theorem dX7_blot_2 : decode mX7_blot.2.1 2 = .ok (.invokevirtual 306, 3) := by decide +kernel
theorem dX7_blot_5 : decode mX7_blot.2.1 5 = .ok (.ifCond .eq 12, 3) := by decide +kernel
theorem dX7_blot_8 : decode mX7_blot.2.1 8 = .ok (.iload_n 2, 1) := by decide +kernel
theorem dX7_blot_9 : decode mX7_blot.2.1 9 = .ok (.ifCond .lt 8, 3) := by decide +kernel
theorem dX7_blot_12 : decode mX7_blot.2.1 12 = .ok (.iload_n 2, 1) := by decide +kernel
theorem dX7_blot_13 : decode mX7_blot.2.1 13 = .ok (.iconst 2, 1) := by decide +kernel
theorem dX7_blot_14 : decode mX7_blot.2.1 14 = .ok (.if_icmp .le 5, 3) := by decide +kernel
theorem dX7_blot_17 : decode mX7_blot.2.1 17 = .ok (.iconst (-1), 1) := by decide +kernel
theorem dX7_blot_18 : decode mX7_blot.2.1 18 = .ok (.ireturn, 1) := by decide +kernel
theorem dX7_blot_19 : decode mX7_blot.2.1 19 = .ok (.iconst 0, 1) := by decide +kernel
theorem dX7_blot_20 : decode mX7_blot.2.1 20 = .ok (.istore_n 3, 1) := by decide +kernel
theorem dX7_blot_21 : decode mX7_blot.2.1 21 = .ok (.iconst 0, 1) := by decide +kernel
theorem dX7_blot_22 : decode mX7_blot.2.1 22 = .ok (.istore 4, 2) := by decide +kernel
theorem dX7_blot_24 : decode mX7_blot.2.1 24 = .ok (.iconst 0, 1) := by decide +kernel
theorem dX7_blot_25 : decode mX7_blot.2.1 25 = .ok (.istore 5, 2) := by decide +kernel
theorem dX7_blot_27 : decode mX7_blot.2.1 27 = .ok (.iconst 0, 1) := by decide +kernel
theorem dX7_blot_28 : decode mX7_blot.2.1 28 = .ok (.istore 6, 2) := by decide +kernel
theorem dX7_blot_30 : decode mX7_blot.2.1 30 = .ok (.iconst 0, 1) := by decide +kernel
theorem dX7_blot_31 : decode mX7_blot.2.1 31 = .ok (.istore 7, 2) := by decide +kernel
theorem dX7_blot_33 : decode mX7_blot.2.1 33 = .ok (.iconst 0, 1) := by decide +kernel
theorem dX7_blot_34 : decode mX7_blot.2.1 34 = .ok (.istore 8, 2) := by decide +kernel
theorem dX7_blot_36 : decode mX7_blot.2.1 36 = .ok (.iload 8, 2) := by decide +kernel
theorem dX7_blot_38 : decode mX7_blot.2.1 38 = .ok (.bipush 24, 2) := by decide +kernel
theorem dX7_blot_40 : decode mX7_blot.2.1 40 = .ok (.if_icmp .ge 82, 3) := by decide +kernel
theorem dX7_blot_43 : decode mX7_blot.2.1 43 = .ok (.aload_n 0, 1) := by decide +kernel
theorem dX7_blot_44 : decode mX7_blot.2.1 44 = .ok (.getfield 54, 3) := by decide +kernel
theorem dX7_blot_47 : decode mX7_blot.2.1 47 = .ok (.iload_n 1, 1) := by decide +kernel
theorem dX7_blot_48 : decode mX7_blot.2.1 48 = .ok (.aaload, 1) := by decide +kernel
theorem dX7_blot_49 : decode mX7_blot.2.1 49 = .ok (.iload 8, 2) := by decide +kernel
theorem dX7_blot_51 : decode mX7_blot.2.1 51 = .ok (.iaload, 1) := by decide +kernel
theorem dX7_blot_52 : decode mX7_blot.2.1 52 = .ok (.istore 9, 2) := by decide +kernel
theorem dX7_blot_54 : decode mX7_blot.2.1 54 = .ok (.iload 9, 2) := by decide +kernel
theorem dX7_blot_56 : decode mX7_blot.2.1 56 = .ok (.ifCond .le 11, 3) := by decide +kernel
theorem dX7_blot_59 : decode mX7_blot.2.1 59 = .ok (.iload 6, 2) := by decide +kernel
theorem dX7_blot_61 : decode mX7_blot.2.1 61 = .ok (.ifCond .ne 6, 3) := by decide +kernel
theorem dX7_blot_64 : decode mX7_blot.2.1 64 = .ok (.iinc 3 1, 3) := by decide +kernel
theorem dX7_blot_67 : decode mX7_blot.2.1 67 = .ok (.iload 9, 2) := by decide +kernel
theorem dX7_blot_69 : decode mX7_blot.2.1 69 = .ok (.ifCond .le 10, 3) := by decide +kernel
theorem dX7_blot_72 : decode mX7_blot.2.1 72 = .ok (.iload 6, 2) := by decide +kernel
theorem dX7_blot_74 : decode mX7_blot.2.1 74 = .ok (.iconst 1, 1) := by decide +kernel
theorem dX7_blot_75 : decode mX7_blot.2.1 75 = .ok (.iadd, 1) := by decide +kernel
theorem dX7_blot_76 : decode mX7_blot.2.1 76 = .ok (.goto 4, 3) := by decide +kernel
theorem dX7_blot_79 : decode mX7_blot.2.1 79 = .ok (.iconst 0, 1) := by decide +kernel
theorem dX7_blot_80 : decode mX7_blot.2.1 80 = .ok (.istore 6, 2) := by decide +kernel
theorem dX7_blot_82 : decode mX7_blot.2.1 82 = .ok (.iload 9, 2) := by decide +kernel
theorem dX7_blot_84 : decode mX7_blot.2.1 84 = .ok (.ifCond .le 11, 3) := by decide +kernel
theorem dX7_blot_87 : decode mX7_blot.2.1 87 = .ok (.iload 7, 2) := by decide +kernel
theorem dX7_blot_89 : decode mX7_blot.2.1 89 = .ok (.iload 9, 2) := by decide +kernel
theorem dX7_blot_91 : decode mX7_blot.2.1 91 = .ok (.iadd, 1) := by decide +kernel
theorem dX7_blot_92 : decode mX7_blot.2.1 92 = .ok (.goto 4, 3) := by decide +kernel
theorem dX7_blot_95 : decode mX7_blot.2.1 95 = .ok (.iconst 0, 1) := by decide +kernel
theorem dX7_blot_96 : decode mX7_blot.2.1 96 = .ok (.istore 7, 2) := by decide +kernel
theorem dX7_blot_98 : decode mX7_blot.2.1 98 = .ok (.iload 4, 2) := by decide +kernel
theorem dX7_blot_100 : decode mX7_blot.2.1 100 = .ok (.iload 6, 2) := by decide +kernel
theorem dX7_blot_102 : decode mX7_blot.2.1 102 = .ok (.invokestatic 291, 3) := by decide +kernel
theorem dX7_blot_105 : decode mX7_blot.2.1 105 = .ok (.istore 4, 2) := by decide +kernel
theorem dX7_blot_107 : decode mX7_blot.2.1 107 = .ok (.iload 5, 2) := by decide +kernel
theorem dX7_blot_109 : decode mX7_blot.2.1 109 = .ok (.iload 7, 2) := by decide +kernel
theorem dX7_blot_111 : decode mX7_blot.2.1 111 = .ok (.invokestatic 291, 3) := by decide +kernel
theorem dX7_blot_114 : decode mX7_blot.2.1 114 = .ok (.istore 5, 2) := by decide +kernel
theorem dX7_blot_116 : decode mX7_blot.2.1 116 = .ok (.iinc 8 1, 3) := by decide +kernel
theorem dX7_blot_119 : decode mX7_blot.2.1 119 = .ok (.goto (-83), 3) := by decide +kernel
theorem dX7_blot_122 : decode mX7_blot.2.1 122 = .ok (.iload_n 2, 1) := by decide +kernel
theorem dX7_blot_123 : decode mX7_blot.2.1 123 = .ok (.ifCond .ne 7, 3) := by decide +kernel
theorem dX7_blot_126 : decode mX7_blot.2.1 126 = .ok (.iload_n 3, 1) := by decide +kernel
theorem dX7_blot_127 : decode mX7_blot.2.1 127 = .ok (.goto 15, 3) := by decide +kernel
theorem dX7_blot_130 : decode mX7_blot.2.1 130 = .ok (.iload_n 2, 1) := by decide +kernel
theorem dX7_blot_131 : decode mX7_blot.2.1 131 = .ok (.iconst 1, 1) := by decide +kernel
theorem dX7_blot_132 : decode mX7_blot.2.1 132 = .ok (.if_icmp .ne 8, 3) := by decide +kernel
theorem dX7_blot_135 : decode mX7_blot.2.1 135 = .ok (.iload 4, 2) := by decide +kernel
theorem dX7_blot_137 : decode mX7_blot.2.1 137 = .ok (.goto 5, 3) := by decide +kernel
theorem dX7_blot_140 : decode mX7_blot.2.1 140 = .ok (.iload 5, 2) := by decide +kernel
theorem dX7_blot_142 : decode mX7_blot.2.1 142 = .ok (.ireturn, 1) := by decide +kernel
theorem dX7_steps_0 : decode mX7_steps.2.1 0 = .ok (.aload_n 0, 1) := by decide +kernel
theorem dX7_steps_1 : decode mX7_steps.2.1 1 = .ok (.iload_n 1, 1) := by decide +kernel
theorem dX7_steps_2 : decode mX7_steps.2.1 2 = .ok (.invokevirtual 306, 3) := by decide +kernel
theorem dX7_steps_5 : decode mX7_steps.2.1 5 = .ok (.ifCond .eq 33, 3) := by decide +kernel
theorem dX7_steps_8 : decode mX7_steps.2.1 8 = .ok (.aload_n 0, 1) := by decide +kernel
theorem dX7_steps_9 : decode mX7_steps.2.1 9 = .ok (.getfield 35, 3) := by decide +kernel
theorem dX7_steps_12 : decode mX7_steps.2.1 12 = .ok (.iload_n 2, 1) := by decide +kernel
theorem dX7_steps_13 : decode mX7_steps.2.1 13 = .ok (.invokevirtual 148, 3) := by decide +kernel
theorem dX7_steps_16 : decode mX7_steps.2.1 16 = .ok (.ifCond .eq 22, 3) := by decide +kernel
theorem dX7_steps_19 : decode mX7_steps.2.1 19 = .ok (.aload_n 0, 1) := by decide +kernel
theorem dX7_steps_20 : decode mX7_steps.2.1 20 = .ok (.iload_n 3, 1) := by decide +kernel
theorem dX7_steps_21 : decode mX7_steps.2.1 21 = .ok (.invokevirtual 124, 3) := by decide +kernel
theorem dX7_steps_24 : decode mX7_steps.2.1 24 = .ok (.ifCond .eq 14, 3) := by decide +kernel
theorem dX7_steps_27 : decode mX7_steps.2.1 27 = .ok (.iload 6, 2) := by decide +kernel
theorem dX7_steps_29 : decode mX7_steps.2.1 29 = .ok (.ifCond .lt 9, 3) := by decide +kernel
theorem dX7_steps_32 : decode mX7_steps.2.1 32 = .ok (.iload 6, 2) := by decide +kernel
theorem dX7_steps_34 : decode mX7_steps.2.1 34 = .ok (.iconst 1, 1) := by decide +kernel
theorem dX7_steps_35 : decode mX7_steps.2.1 35 = .ok (.if_icmp .le 5, 3) := by decide +kernel
theorem dX7_steps_38 : decode mX7_steps.2.1 38 = .ok (.iconst (-1), 1) := by decide +kernel
theorem dX7_steps_39 : decode mX7_steps.2.1 39 = .ok (.ireturn, 1) := by decide +kernel
theorem dX7_steps_40 : decode mX7_steps.2.1 40 = .ok (.aload_n 0, 1) := by decide +kernel
theorem dX7_steps_41 : decode mX7_steps.2.1 41 = .ok (.iload_n 1, 1) := by decide +kernel
theorem dX7_steps_42 : decode mX7_steps.2.1 42 = .ok (.iload_n 2, 1) := by decide +kernel
theorem dX7_steps_43 : decode mX7_steps.2.1 43 = .ok (.iload_n 3, 1) := by decide +kernel
theorem dX7_steps_44 : decode mX7_steps.2.1 44 = .ok (.lload 4, 2) := by decide +kernel
theorem dX7_steps_46 : decode mX7_steps.2.1 46 = .ok (.invokevirtual 318, 3) := by decide +kernel
theorem dX7_steps_49 : decode mX7_steps.2.1 49 = .ok (.istore 7, 2) := by decide +kernel
theorem dX7_steps_51 : decode mX7_steps.2.1 51 = .ok (.iload 6, 2) := by decide +kernel
theorem dX7_steps_53 : decode mX7_steps.2.1 53 = .ok (.ifCond .ne 8, 3) := by decide +kernel
theorem dX7_steps_56 : decode mX7_steps.2.1 56 = .ok (.iload 7, 2) := by decide +kernel
theorem dX7_steps_58 : decode mX7_steps.2.1 58 = .ok (.goto 14, 3) := by decide +kernel
theorem dX7_steps_61 : decode mX7_steps.2.1 61 = .ok (.aload_n 0, 1) := by decide +kernel
theorem dX7_steps_62 : decode mX7_steps.2.1 62 = .ok (.iload_n 1, 1) := by decide +kernel
theorem dX7_steps_63 : decode mX7_steps.2.1 63 = .ok (.iload_n 2, 1) := by decide +kernel
theorem dX7_steps_64 : decode mX7_steps.2.1 64 = .ok (.iload_n 3, 1) := by decide +kernel
theorem dX7_steps_65 : decode mX7_steps.2.1 65 = .ok (.lload 4, 2) := by decide +kernel
theorem dX7_steps_67 : decode mX7_steps.2.1 67 = .ok (.iload 7, 2) := by decide +kernel
theorem dX7_steps_69 : decode mX7_steps.2.1 69 = .ok (.invokevirtual 321, 3) := by decide +kernel
theorem dX7_steps_72 : decode mX7_steps.2.1 72 = .ok (.ireturn, 1) := by decide +kernel
theorem dX7_nearestTick_0 : decode mX7_nearestTick.2.1 0 = .ok (.aload_n 0, 1) := by decide +kernel
theorem dX7_nearestTick_1 : decode mX7_nearestTick.2.1 1 = .ok (.iload_n 2, 1) := by decide +kernel
theorem dX7_nearestTick_2 : decode mX7_nearestTick.2.1 2 = .ok (.aload_n 0, 1) := by decide +kernel
theorem dX7_nearestTick_3 : decode mX7_nearestTick.2.1 3 = .ok (.getfield 44, 3) := by decide +kernel
theorem dX7_nearestTick_6 : decode mX7_nearestTick.2.1 6 = .ok (.iload_n 3, 1) := by decide +kernel
theorem dX7_nearestTick_7 : decode mX7_nearestTick.2.1 7 = .ok (.aaload, 1) := by decide +kernel
theorem dX7_nearestTick_8 : decode mX7_nearestTick.2.1 8 = .ok (.lload 4, 2) := by decide +kernel
theorem dX7_nearestTick_10 : decode mX7_nearestTick.2.1 10 = .ok (.invokevirtual 263, 3) := by decide +kernel
theorem dX7_nearestTick_13 : decode mX7_nearestTick.2.1 13 = .ok (.iconst 0, 1) := by decide +kernel
theorem dX7_nearestTick_14 : decode mX7_nearestTick.2.1 14 = .ok (.istore 6, 2) := by decide +kernel
theorem dX7_nearestTick_16 : decode mX7_nearestTick.2.1 16 = .ok (.iconst 0, 1) := by decide +kernel
theorem dX7_nearestTick_17 : decode mX7_nearestTick.2.1 17 = .ok (.istore 7, 2) := by decide +kernel
theorem dX7_nearestTick_19 : decode mX7_nearestTick.2.1 19 = .ok (.iconst 1, 1) := by decide +kernel
theorem dX7_nearestTick_20 : decode mX7_nearestTick.2.1 20 = .ok (.istore 8, 2) := by decide +kernel
theorem dX7_nearestTick_22 : decode mX7_nearestTick.2.1 22 = .ok (.iload 8, 2) := by decide +kernel
theorem dX7_nearestTick_24 : decode mX7_nearestTick.2.1 24 = .ok (.bipush 60, 2) := by decide +kernel
theorem dX7_nearestTick_26 : decode mX7_nearestTick.2.1 26 = .ok (.if_icmp .gt 67, 3) := by decide +kernel
theorem dX7_nearestTick_29 : decode mX7_nearestTick.2.1 29 = .ok (.aload_n 0, 1) := by decide +kernel
theorem dX7_nearestTick_30 : decode mX7_nearestTick.2.1 30 = .ok (.getfield 67, 3) := by decide +kernel
theorem dX7_nearestTick_33 : decode mX7_nearestTick.2.1 33 = .ok (.getfield 145, 3) := by decide +kernel
theorem dX7_nearestTick_36 : decode mX7_nearestTick.2.1 36 = .ok (.ifCond .le 57, 3) := by decide +kernel
theorem dX7_nearestTick_39 : decode mX7_nearestTick.2.1 39 = .ok (.aload_n 0, 1) := by decide +kernel
theorem dX7_nearestTick_40 : decode mX7_nearestTick.2.1 40 = .ok (.getfield 67, 3) := by decide +kernel
theorem dX7_nearestTick_43 : decode mX7_nearestTick.2.1 43 = .ok (.iconst 1, 1) := by decide +kernel
theorem dX7_nearestTick_44 : decode mX7_nearestTick.2.1 44 = .ok (.aload_n 0, 1) := by decide +kernel
theorem dX7_nearestTick_45 : decode mX7_nearestTick.2.1 45 = .ok (.getfield 73, 3) := by decide +kernel
theorem dX7_nearestTick_48 : decode mX7_nearestTick.2.1 48 = .ok (.invokevirtual 180, 3) := by decide +kernel
theorem dX7_nearestTick_51 : decode mX7_nearestTick.2.1 51 = .ok (.pop, 1) := by decide +kernel
theorem dX7_nearestTick_52 : decode mX7_nearestTick.2.1 52 = .ok (.aload_n 0, 1) := by decide +kernel
theorem dX7_nearestTick_53 : decode mX7_nearestTick.2.1 53 = .ok (.getfield 67, 3) := by decide +kernel
theorem dX7_nearestTick_56 : decode mX7_nearestTick.2.1 56 = .ok (.aload_n 0, 1) := by decide +kernel
theorem dX7_nearestTick_57 : decode mX7_nearestTick.2.1 57 = .ok (.getfield 54, 3) := by decide +kernel
theorem dX7_nearestTick_60 : decode mX7_nearestTick.2.1 60 = .ok (.iload_n 1, 1) := by decide +kernel
theorem dX7_nearestTick_61 : decode mX7_nearestTick.2.1 61 = .ok (.aaload, 1) := by decide +kernel
theorem dX7_nearestTick_62 : decode mX7_nearestTick.2.1 62 = .ok (.invokevirtual 288, 3) := by decide +kernel
theorem dX7_nearestTick_65 : decode mX7_nearestTick.2.1 65 = .ok (.istore 9, 2) := by decide +kernel
theorem dX7_nearestTick_67 : decode mX7_nearestTick.2.1 67 = .ok (.iload 6, 2) := by decide +kernel
theorem dX7_nearestTick_69 : decode mX7_nearestTick.2.1 69 = .ok (.ifCond .eq 10, 3) := by decide +kernel
theorem dX7_nearestTick_72 : decode mX7_nearestTick.2.1 72 = .ok (.iload 9, 2) := by decide +kernel
theorem dX7_nearestTick_74 : decode mX7_nearestTick.2.1 74 = .ok (.iload 7, 2) := by decide +kernel
theorem dX7_nearestTick_76 : decode mX7_nearestTick.2.1 76 = .ok (.if_icmp .ge 11, 3) := by decide +kernel
theorem dX7_nearestTick_79 : decode mX7_nearestTick.2.1 79 = .ok (.iload 8, 2) := by decide +kernel
theorem dX7_nearestTick_81 : decode mX7_nearestTick.2.1 81 = .ok (.istore 6, 2) := by decide +kernel
theorem dX7_nearestTick_83 : decode mX7_nearestTick.2.1 83 = .ok (.iload 9, 2) := by decide +kernel
theorem dX7_nearestTick_85 : decode mX7_nearestTick.2.1 85 = .ok (.istore 7, 2) := by decide +kernel
theorem dX7_nearestTick_87 : decode mX7_nearestTick.2.1 87 = .ok (.iinc 8 1, 3) := by decide +kernel
theorem dX7_nearestTick_90 : decode mX7_nearestTick.2.1 90 = .ok (.goto (-68), 3) := by decide +kernel
theorem dX7_nearestTick_93 : decode mX7_nearestTick.2.1 93 = .ok (.iload 6, 2) := by decide +kernel
theorem dX7_nearestTick_95 : decode mX7_nearestTick.2.1 95 = .ok (.ireturn, 1) := by decide +kernel
theorem dX7_offBehind_0 : decode mX7_offBehind.2.1 0 = .ok (.aload_n 0, 1) := by decide +kernel
theorem dX7_offBehind_1 : decode mX7_offBehind.2.1 1 = .ok (.iload_n 2, 1) := by decide +kernel
theorem dX7_offBehind_2 : decode mX7_offBehind.2.1 2 = .ok (.aload_n 0, 1) := by decide +kernel
theorem dX7_offBehind_3 : decode mX7_offBehind.2.1 3 = .ok (.getfield 44, 3) := by decide +kernel
theorem dX7_offBehind_6 : decode mX7_offBehind.2.1 6 = .ok (.iload_n 3, 1) := by decide +kernel
theorem dX7_offBehind_7 : decode mX7_offBehind.2.1 7 = .ok (.aaload, 1) := by decide +kernel
theorem dX7_offBehind_8 : decode mX7_offBehind.2.1 8 = .ok (.lload 4, 2) := by decide +kernel
theorem dX7_offBehind_10 : decode mX7_offBehind.2.1 10 = .ok (.iload 6, 2) := by decide +kernel
theorem dX7_offBehind_12 : decode mX7_offBehind.2.1 12 = .ok (.invokevirtual 277, 3) := by decide +kernel
theorem dX7_offBehind_15 : decode mX7_offBehind.2.1 15 = .ok (.aload_n 0, 1) := by decide +kernel
theorem dX7_offBehind_16 : decode mX7_offBehind.2.1 16 = .ok (.getfield 67, 3) := by decide +kernel
theorem dX7_offBehind_19 : decode mX7_offBehind.2.1 19 = .ok (.aload_n 0, 1) := by decide +kernel
theorem dX7_offBehind_20 : decode mX7_offBehind.2.1 20 = .ok (.getfield 54, 3) := by decide +kernel
theorem dX7_offBehind_23 : decode mX7_offBehind.2.1 23 = .ok (.iload_n 1, 1) := by decide +kernel
theorem dX7_offBehind_24 : decode mX7_offBehind.2.1 24 = .ok (.aaload, 1) := by decide +kernel
theorem dX7_offBehind_25 : decode mX7_offBehind.2.1 25 = .ok (.invokevirtual 288, 3) := by decide +kernel
theorem dX7_offBehind_28 : decode mX7_offBehind.2.1 28 = .ok (.ireturn, 1) := by decide +kernel
theorem dX7_saved_0 : decode mX7_saved.2.1 0 = .ok (.aload_n 0, 1) := by decide +kernel
theorem dX7_saved_1 : decode mX7_saved.2.1 1 = .ok (.iload_n 1, 1) := by decide +kernel
theorem dX7_saved_2 : decode mX7_saved.2.1 2 = .ok (.invokevirtual 306, 3) := by decide +kernel
theorem dX7_saved_5 : decode mX7_saved.2.1 5 = .ok (.ifCond .eq 26, 3) := by decide +kernel
theorem dX7_saved_8 : decode mX7_saved.2.1 8 = .ok (.aload_n 0, 1) := by decide +kernel
theorem dX7_saved_9 : decode mX7_saved.2.1 9 = .ok (.getfield 35, 3) := by decide +kernel
theorem dX7_saved_12 : decode mX7_saved.2.1 12 = .ok (.iload_n 2, 1) := by decide +kernel
theorem dX7_saved_13 : decode mX7_saved.2.1 13 = .ok (.invokevirtual 148, 3) := by decide +kernel
theorem dX7_saved_16 : decode mX7_saved.2.1 16 = .ok (.ifCond .eq 15, 3) := by decide +kernel
theorem dX7_saved_19 : decode mX7_saved.2.1 19 = .ok (.iload_n 3, 1) := by decide +kernel
theorem dX7_saved_20 : decode mX7_saved.2.1 20 = .ok (.ifCond .eq 11, 3) := by decide +kernel
theorem dX7_saved_23 : decode mX7_saved.2.1 23 = .ok (.aload_n 0, 1) := by decide +kernel
theorem dX7_saved_24 : decode mX7_saved.2.1 24 = .ok (.iload_n 3, 1) := by decide +kernel
theorem dX7_saved_25 : decode mX7_saved.2.1 25 = .ok (.invokevirtual 151, 3) := by decide +kernel
theorem dX7_saved_28 : decode mX7_saved.2.1 28 = .ok (.ifCond .ne 5, 3) := by decide +kernel
theorem dX7_saved_31 : decode mX7_saved.2.1 31 = .ok (.iconst (-1), 1) := by decide +kernel
theorem dX7_saved_32 : decode mX7_saved.2.1 32 = .ok (.ireturn, 1) := by decide +kernel
theorem dX7_saved_33 : decode mX7_saved.2.1 33 = .ok (.iconst (-1), 1) := by decide +kernel
theorem dX7_saved_34 : decode mX7_saved.2.1 34 = .ok (.istore 6, 2) := by decide +kernel
theorem dX7_saved_36 : decode mX7_saved.2.1 36 = .ok (.iconst 0, 1) := by decide +kernel
theorem dX7_saved_37 : decode mX7_saved.2.1 37 = .ok (.istore 7, 2) := by decide +kernel
theorem dX7_saved_39 : decode mX7_saved.2.1 39 = .ok (.iconst 0, 1) := by decide +kernel
theorem dX7_saved_40 : decode mX7_saved.2.1 40 = .ok (.istore 8, 2) := by decide +kernel
theorem dX7_saved_42 : decode mX7_saved.2.1 42 = .ok (.iload 8, 2) := by decide +kernel
theorem dX7_saved_44 : decode mX7_saved.2.1 44 = .ok (.aload_n 0, 1) := by decide +kernel
theorem dX7_saved_45 : decode mX7_saved.2.1 45 = .ok (.getfield 112, 3) := by decide +kernel
theorem dX7_saved_48 : decode mX7_saved.2.1 48 = .ok (.if_icmp .ge 61, 3) := by decide +kernel
theorem dX7_saved_51 : decode mX7_saved.2.1 51 = .ok (.iload_n 3, 1) := by decide +kernel
theorem dX7_saved_52 : decode mX7_saved.2.1 52 = .ok (.iload 8, 2) := by decide +kernel
theorem dX7_saved_54 : decode mX7_saved.2.1 54 = .ok (.invokestatic 157, 3) := by decide +kernel
theorem dX7_saved_57 : decode mX7_saved.2.1 57 = .ok (.ifCond .eq 46, 3) := by decide +kernel
theorem dX7_saved_60 : decode mX7_saved.2.1 60 = .ok (.aload_n 0, 1) := by decide +kernel
theorem dX7_saved_61 : decode mX7_saved.2.1 61 = .ok (.iload_n 1, 1) := by decide +kernel
theorem dX7_saved_62 : decode mX7_saved.2.1 62 = .ok (.iload_n 2, 1) := by decide +kernel
theorem dX7_saved_63 : decode mX7_saved.2.1 63 = .ok (.iload 8, 2) := by decide +kernel
theorem dX7_saved_65 : decode mX7_saved.2.1 65 = .ok (.lload 4, 2) := by decide +kernel
theorem dX7_saved_67 : decode mX7_saved.2.1 67 = .ok (.aload_n 0, 1) := by decide +kernel
theorem dX7_saved_68 : decode mX7_saved.2.1 68 = .ok (.iload_n 1, 1) := by decide +kernel
theorem dX7_saved_69 : decode mX7_saved.2.1 69 = .ok (.iload_n 2, 1) := by decide +kernel
theorem dX7_saved_70 : decode mX7_saved.2.1 70 = .ok (.iload 8, 2) := by decide +kernel
theorem dX7_saved_72 : decode mX7_saved.2.1 72 = .ok (.lload 4, 2) := by decide +kernel
theorem dX7_saved_74 : decode mX7_saved.2.1 74 = .ok (.invokevirtual 318, 3) := by decide +kernel
theorem dX7_saved_77 : decode mX7_saved.2.1 77 = .ok (.invokevirtual 321, 3) := by decide +kernel
theorem dX7_saved_80 : decode mX7_saved.2.1 80 = .ok (.istore 9, 2) := by decide +kernel
theorem dX7_saved_82 : decode mX7_saved.2.1 82 = .ok (.iload 6, 2) := by decide +kernel
theorem dX7_saved_84 : decode mX7_saved.2.1 84 = .ok (.iconst (-1), 1) := by decide +kernel
theorem dX7_saved_85 : decode mX7_saved.2.1 85 = .ok (.if_icmp .eq 10, 3) := by decide +kernel
theorem dX7_saved_88 : decode mX7_saved.2.1 88 = .ok (.iload 9, 2) := by decide +kernel
theorem dX7_saved_90 : decode mX7_saved.2.1 90 = .ok (.iload 7, 2) := by decide +kernel
theorem dX7_saved_92 : decode mX7_saved.2.1 92 = .ok (.if_icmp .ge 11, 3) := by decide +kernel
theorem dX7_saved_95 : decode mX7_saved.2.1 95 = .ok (.iload 8, 2) := by decide +kernel
theorem dX7_saved_97 : decode mX7_saved.2.1 97 = .ok (.istore 6, 2) := by decide +kernel
theorem dX7_saved_99 : decode mX7_saved.2.1 99 = .ok (.iload 9, 2) := by decide +kernel
theorem dX7_saved_101 : decode mX7_saved.2.1 101 = .ok (.istore 7, 2) := by decide +kernel
theorem dX7_saved_103 : decode mX7_saved.2.1 103 = .ok (.iinc 8 1, 3) := by decide +kernel
theorem dX7_saved_106 : decode mX7_saved.2.1 106 = .ok (.goto (-64), 3) := by decide +kernel
theorem dX7_saved_109 : decode mX7_saved.2.1 109 = .ok (.iload 6, 2) := by decide +kernel
theorem dX7_saved_111 : decode mX7_saved.2.1 111 = .ok (.ireturn, 1) := by decide +kernel
theorem dJ0_length_8abf5_0 : decode mJ0_length_8abf5.2.1 0 = .ok (.aload_n 0, 1) := by decide +kernel
theorem dJ0_length_8abf5_1 : decode mJ0_length_8abf5.2.1 1 = .ok (.getfield 9, 3) := by decide +kernel
theorem dJ0_length_8abf5_4 : decode mJ0_length_8abf5.2.1 4 = .ok (.arraylength, 1) := by decide +kernel
theorem dJ0_length_8abf5_5 : decode mJ0_length_8abf5.2.1 5 = .ok (.aload_n 0, 1) := by decide +kernel
theorem dJ0_length_8abf5_6 : decode mJ0_length_8abf5.2.1 6 = .ok (.invokevirtual 335, 3) := by decide +kernel
theorem dJ0_length_8abf5_9 : decode mJ0_length_8abf5.2.1 9 = .ok (.ishr, 1) := by decide +kernel
theorem dJ0_length_8abf5_10 : decode mJ0_length_8abf5.2.1 10 = .ok (.ireturn, 1) := by decide +kernel
theorem dJ0_coder_7d493_0 : decode mJ0_coder_7d493.2.1 0 = .ok (.getstatic 38, 3) := by decide +kernel
theorem dJ0_coder_7d493_3 : decode mJ0_coder_7d493.2.1 3 = .ok (.ifCond .eq 10, 3) := by decide +kernel
theorem dJ0_coder_7d493_6 : decode mJ0_coder_7d493.2.1 6 = .ok (.aload_n 0, 1) := by decide +kernel
theorem dJ0_coder_7d493_7 : decode mJ0_coder_7d493.2.1 7 = .ok (.getfield 15, 3) := by decide +kernel
theorem dJ0_coder_7d493_10 : decode mJ0_coder_7d493.2.1 10 = .ok (.goto 4, 3) := by decide +kernel
theorem dJ0_coder_7d493_13 : decode mJ0_coder_7d493.2.1 13 = .ok (.iconst 1, 1) := by decide +kernel
theorem dJ0_coder_7d493_14 : decode mJ0_coder_7d493.2.1 14 = .ok (.ireturn, 1) := by decide +kernel
theorem dJ0_isLatin1_aae02_0 : decode mJ0_isLatin1_aae02.2.1 0 = .ok (.getstatic 38, 3) := by decide +kernel
theorem dJ0_isLatin1_aae02_3 : decode mJ0_isLatin1_aae02.2.1 3 = .ok (.ifCond .eq 14, 3) := by decide +kernel
theorem dJ0_isLatin1_aae02_6 : decode mJ0_isLatin1_aae02.2.1 6 = .ok (.aload_n 0, 1) := by decide +kernel
theorem dJ0_isLatin1_aae02_7 : decode mJ0_isLatin1_aae02.2.1 7 = .ok (.getfield 15, 3) := by decide +kernel
theorem dJ0_isLatin1_aae02_10 : decode mJ0_isLatin1_aae02.2.1 10 = .ok (.ifCond .ne 7, 3) := by decide +kernel
theorem dJ0_isLatin1_aae02_13 : decode mJ0_isLatin1_aae02.2.1 13 = .ok (.iconst 1, 1) := by decide +kernel
theorem dJ0_isLatin1_aae02_14 : decode mJ0_isLatin1_aae02.2.1 14 = .ok (.goto 4, 3) := by decide +kernel
theorem dJ0_isLatin1_aae02_17 : decode mJ0_isLatin1_aae02.2.1 17 = .ok (.iconst 0, 1) := by decide +kernel
theorem dJ0_isLatin1_aae02_18 : decode mJ0_isLatin1_aae02.2.1 18 = .ok (.ireturn, 1) := by decide +kernel
theorem dJ0_indexOf_0f7a4_0 : decode mJ0_indexOf_0f7a4.2.1 0 = .ok (.aload_n 0, 1) := by decide +kernel
theorem dJ0_indexOf_0f7a4_1 : decode mJ0_indexOf_0f7a4.2.1 1 = .ok (.iload_n 1, 1) := by decide +kernel
theorem dJ0_indexOf_0f7a4_2 : decode mJ0_indexOf_0f7a4.2.1 2 = .ok (.iconst 0, 1) := by decide +kernel
theorem dJ0_indexOf_0f7a4_3 : decode mJ0_indexOf_0f7a4.2.1 3 = .ok (.invokevirtual 633, 3) := by decide +kernel
theorem dJ0_indexOf_0f7a4_6 : decode mJ0_indexOf_0f7a4.2.1 6 = .ok (.ireturn, 1) := by decide +kernel
theorem dJ0_indexOf_7cf53_0 : decode mJ0_indexOf_7cf53.2.1 0 = .ok (.aload_n 0, 1) := by decide +kernel
theorem dJ0_indexOf_7cf53_1 : decode mJ0_indexOf_7cf53.2.1 1 = .ok (.invokevirtual 492, 3) := by decide +kernel
theorem dJ0_indexOf_7cf53_4 : decode mJ0_indexOf_7cf53.2.1 4 = .ok (.ifCond .eq 19, 3) := by decide +kernel
theorem dJ0_indexOf_7cf53_7 : decode mJ0_indexOf_7cf53.2.1 7 = .ok (.aload_n 0, 1) := by decide +kernel
theorem dJ0_indexOf_7cf53_8 : decode mJ0_indexOf_7cf53.2.1 8 = .ok (.getfield 9, 3) := by decide +kernel
theorem dJ0_indexOf_7cf53_11 : decode mJ0_indexOf_7cf53.2.1 11 = .ok (.iload_n 1, 1) := by decide +kernel
theorem dJ0_indexOf_7cf53_12 : decode mJ0_indexOf_7cf53.2.1 12 = .ok (.iload_n 2, 1) := by decide +kernel
theorem dJ0_indexOf_7cf53_13 : decode mJ0_indexOf_7cf53.2.1 13 = .ok (.aload_n 0, 1) := by decide +kernel
theorem dJ0_indexOf_7cf53_14 : decode mJ0_indexOf_7cf53.2.1 14 = .ok (.invokevirtual 505, 3) := by decide +kernel
theorem dJ0_indexOf_7cf53_17 : decode mJ0_indexOf_7cf53.2.1 17 = .ok (.invokestatic 637, 3) := by decide +kernel
theorem dJ0_indexOf_7cf53_20 : decode mJ0_indexOf_7cf53.2.1 20 = .ok (.goto 16, 3) := by decide +kernel
theorem dJ0_indexOf_7cf53_23 : decode mJ0_indexOf_7cf53.2.1 23 = .ok (.aload_n 0, 1) := by decide +kernel
theorem dJ0_indexOf_7cf53_24 : decode mJ0_indexOf_7cf53.2.1 24 = .ok (.getfield 9, 3) := by decide +kernel
theorem dJ0_indexOf_7cf53_27 : decode mJ0_indexOf_7cf53.2.1 27 = .ok (.iload_n 1, 1) := by decide +kernel
theorem dJ0_indexOf_7cf53_28 : decode mJ0_indexOf_7cf53.2.1 28 = .ok (.iload_n 2, 1) := by decide +kernel
theorem dJ0_indexOf_7cf53_29 : decode mJ0_indexOf_7cf53.2.1 29 = .ok (.aload_n 0, 1) := by decide +kernel
theorem dJ0_indexOf_7cf53_30 : decode mJ0_indexOf_7cf53.2.1 30 = .ok (.invokevirtual 505, 3) := by decide +kernel
theorem dJ0_indexOf_7cf53_33 : decode mJ0_indexOf_7cf53.2.1 33 = .ok (.invokestatic 640, 3) := by decide +kernel
theorem dJ0_indexOf_7cf53_36 : decode mJ0_indexOf_7cf53.2.1 36 = .ok (.ireturn, 1) := by decide +kernel
theorem dJ1_indexOf_4cfef_0 : decode mJ1_indexOf_4cfef.2.1 0 = .ok (.iload_n 1, 1) := by decide +kernel
theorem dJ1_indexOf_4cfef_1 : decode mJ1_indexOf_4cfef.2.1 1 = .ok (.invokestatic 88, 3) := by decide +kernel
theorem dJ1_indexOf_4cfef_4 : decode mJ1_indexOf_4cfef.2.1 4 = .ok (.ifCond .ne 5, 3) := by decide +kernel
theorem dJ1_indexOf_4cfef_7 : decode mJ1_indexOf_4cfef.2.1 7 = .ok (.iconst (-1), 1) := by decide +kernel
theorem dJ1_indexOf_4cfef_8 : decode mJ1_indexOf_4cfef.2.1 8 = .ok (.ireturn, 1) := by decide +kernel
theorem dJ1_indexOf_4cfef_9 : decode mJ1_indexOf_4cfef.2.1 9 = .ok (.iload_n 2, 1) := by decide +kernel
theorem dJ1_indexOf_4cfef_10 : decode mJ1_indexOf_4cfef.2.1 10 = .ok (.iconst 0, 1) := by decide +kernel
theorem dJ1_indexOf_4cfef_11 : decode mJ1_indexOf_4cfef.2.1 11 = .ok (.invokestatic 92, 3) := by decide +kernel
theorem dJ1_indexOf_4cfef_14 : decode mJ1_indexOf_4cfef.2.1 14 = .ok (.istore_n 2, 1) := by decide +kernel
theorem dJ1_indexOf_4cfef_15 : decode mJ1_indexOf_4cfef.2.1 15 = .ok (.iload_n 3, 1) := by decide +kernel
theorem dJ1_indexOf_4cfef_16 : decode mJ1_indexOf_4cfef.2.1 16 = .ok (.aload_n 0, 1) := by decide +kernel
theorem dJ1_indexOf_4cfef_17 : decode mJ1_indexOf_4cfef.2.1 17 = .ok (.arraylength, 1) := by decide +kernel
theorem dJ1_indexOf_4cfef_18 : decode mJ1_indexOf_4cfef.2.1 18 = .ok (.invokestatic 38, 3) := by decide +kernel
theorem dJ1_indexOf_4cfef_21 : decode mJ1_indexOf_4cfef.2.1 21 = .ok (.istore_n 3, 1) := by decide +kernel
theorem dJ1_indexOf_4cfef_22 : decode mJ1_indexOf_4cfef.2.1 22 = .ok (.iload_n 2, 1) := by decide +kernel
theorem dJ1_indexOf_4cfef_23 : decode mJ1_indexOf_4cfef.2.1 23 = .ok (.iload_n 3, 1) := by decide +kernel
theorem dJ1_indexOf_4cfef_24 : decode mJ1_indexOf_4cfef.2.1 24 = .ok (.if_icmp .lt 5, 3) := by decide +kernel
theorem dJ1_indexOf_4cfef_27 : decode mJ1_indexOf_4cfef.2.1 27 = .ok (.iconst (-1), 1) := by decide +kernel
theorem dJ1_indexOf_4cfef_28 : decode mJ1_indexOf_4cfef.2.1 28 = .ok (.ireturn, 1) := by decide +kernel
theorem dJ1_indexOf_4cfef_29 : decode mJ1_indexOf_4cfef.2.1 29 = .ok (.aload_n 0, 1) := by decide +kernel
theorem dJ1_indexOf_4cfef_30 : decode mJ1_indexOf_4cfef.2.1 30 = .ok (.iload_n 1, 1) := by decide +kernel
theorem dJ1_indexOf_4cfef_31 : decode mJ1_indexOf_4cfef.2.1 31 = .ok (.iload_n 2, 1) := by decide +kernel
theorem dJ1_indexOf_4cfef_32 : decode mJ1_indexOf_4cfef.2.1 32 = .ok (.iload_n 3, 1) := by decide +kernel
theorem dJ1_indexOf_4cfef_33 : decode mJ1_indexOf_4cfef.2.1 33 = .ok (.invokestatic 95, 3) := by decide +kernel
theorem dJ1_indexOf_4cfef_36 : decode mJ1_indexOf_4cfef.2.1 36 = .ok (.ireturn, 1) := by decide +kernel
theorem dJ1_canEncode_9a6ad_0 : decode mJ1_canEncode_9a6ad.2.1 0 = .ok (.iload_n 0, 1) := by decide +kernel
theorem dJ1_canEncode_9a6ad_1 : decode mJ1_canEncode_9a6ad.2.1 1 = .ok (.ifCond .lt 14, 3) := by decide +kernel
theorem dJ1_canEncode_9a6ad_4 : decode mJ1_canEncode_9a6ad.2.1 4 = .ok (.iload_n 0, 1) := by decide +kernel
theorem dJ1_canEncode_9a6ad_5 : decode mJ1_canEncode_9a6ad.2.1 5 = .ok (.sipush 255, 3) := by decide +kernel
theorem dJ1_canEncode_9a6ad_8 : decode mJ1_canEncode_9a6ad.2.1 8 = .ok (.if_icmp .gt 7, 3) := by decide +kernel
theorem dJ1_canEncode_9a6ad_11 : decode mJ1_canEncode_9a6ad.2.1 11 = .ok (.iconst 1, 1) := by decide +kernel
theorem dJ1_canEncode_9a6ad_12 : decode mJ1_canEncode_9a6ad.2.1 12 = .ok (.goto 4, 3) := by decide +kernel
theorem dJ1_canEncode_9a6ad_15 : decode mJ1_canEncode_9a6ad.2.1 15 = .ok (.iconst 0, 1) := by decide +kernel
theorem dJ1_canEncode_9a6ad_16 : decode mJ1_canEncode_9a6ad.2.1 16 = .ok (.ireturn, 1) := by decide +kernel
theorem dJ1_indexOfChar_4cfef_0 : decode mJ1_indexOfChar_4cfef.2.1 0 = .ok (.iload_n 1, 1) := by decide +kernel
theorem dJ1_indexOfChar_4cfef_1 : decode mJ1_indexOfChar_4cfef.2.1 1 = .ok (.i2b, 1) := by decide +kernel
theorem dJ1_indexOfChar_4cfef_2 : decode mJ1_indexOfChar_4cfef.2.1 2 = .ok (.istore 4, 2) := by decide +kernel
theorem dJ1_indexOfChar_4cfef_4 : decode mJ1_indexOfChar_4cfef.2.1 4 = .ok (.iload_n 2, 1) := by decide +kernel
theorem dJ1_indexOfChar_4cfef_5 : decode mJ1_indexOfChar_4cfef.2.1 5 = .ok (.istore 5, 2) := by decide +kernel
theorem dJ1_indexOfChar_4cfef_7 : decode mJ1_indexOfChar_4cfef.2.1 7 = .ok (.iload 5, 2) := by decide +kernel
theorem dJ1_indexOfChar_4cfef_9 : decode mJ1_indexOfChar_4cfef.2.1 9 = .ok (.iload_n 3, 1) := by decide +kernel
theorem dJ1_indexOfChar_4cfef_10 : decode mJ1_indexOfChar_4cfef.2.1 10 = .ok (.if_icmp .ge 21, 3) := by decide +kernel
theorem dJ1_indexOfChar_4cfef_13 : decode mJ1_indexOfChar_4cfef.2.1 13 = .ok (.aload_n 0, 1) := by decide +kernel
theorem dJ1_indexOfChar_4cfef_14 : decode mJ1_indexOfChar_4cfef.2.1 14 = .ok (.iload 5, 2) := by decide +kernel
theorem dJ1_indexOfChar_4cfef_16 : decode mJ1_indexOfChar_4cfef.2.1 16 = .ok (.baload, 1) := by decide +kernel
theorem dJ1_indexOfChar_4cfef_17 : decode mJ1_indexOfChar_4cfef.2.1 17 = .ok (.iload 4, 2) := by decide +kernel
theorem dJ1_indexOfChar_4cfef_19 : decode mJ1_indexOfChar_4cfef.2.1 19 = .ok (.if_icmp .ne 6, 3) := by decide +kernel
theorem dJ1_indexOfChar_4cfef_22 : decode mJ1_indexOfChar_4cfef.2.1 22 = .ok (.iload 5, 2) := by decide +kernel
theorem dJ1_indexOfChar_4cfef_24 : decode mJ1_indexOfChar_4cfef.2.1 24 = .ok (.ireturn, 1) := by decide +kernel
theorem dJ1_indexOfChar_4cfef_25 : decode mJ1_indexOfChar_4cfef.2.1 25 = .ok (.iinc 5 1, 3) := by decide +kernel
theorem dJ1_indexOfChar_4cfef_28 : decode mJ1_indexOfChar_4cfef.2.1 28 = .ok (.goto (-21), 3) := by decide +kernel
theorem dJ1_indexOfChar_4cfef_31 : decode mJ1_indexOfChar_4cfef.2.1 31 = .ok (.iconst (-1), 1) := by decide +kernel
theorem dJ1_indexOfChar_4cfef_32 : decode mJ1_indexOfChar_4cfef.2.1 32 = .ok (.ireturn, 1) := by decide +kernel
