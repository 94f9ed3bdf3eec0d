/-! decode rows -/
theorem dX8_in_0 : decode mX8_in.2.1 0 = .ok (.iload_n 0, 1) := by decide +kernel
theorem dX8_in_1 : decode mX8_in.2.1 1 = .ok (.iload_n 1, 1) := by decide +kernel
theorem dX8_in_2 : decode mX8_in.2.1 2 = .ok (.if_icmp .lt 12, 3) := by decide +kernel
theorem dX8_in_5 : decode mX8_in.2.1 5 = .ok (.iload_n 0, 1) := by decide +kernel
theorem dX8_in_6 : decode mX8_in.2.1 6 = .ok (.iload_n 2, 1) := by decide +kernel
theorem dX8_in_7 : decode mX8_in.2.1 7 = .ok (.if_icmp .gt 7, 3) := by decide +kernel
theorem dX8_in_10 : decode mX8_in.2.1 10 = .ok (.iconst 1, 1) := by decide +kernel
theorem dX8_in_11 : decode mX8_in.2.1 11 = .ok (.goto 4, 3) := by decide +kernel
theorem dX8_in_14 : decode mX8_in.2.1 14 = .ok (.iconst 0, 1) := by decide +kernel
theorem dX8_in_15 : decode mX8_in.2.1 15 = .ok (.ireturn, 1) := by decide +kernel
theorem dX8_has_0 : decode mX8_has.2.1 0 = .ok (.iload_n 0, 1) := by decide +kernel
theorem dX8_has_1 : decode mX8_has.2.1 1 = .ok (.iload_n 1, 1) := by decide +kernel
theorem dX8_has_2 : decode mX8_has.2.1 2 = .ok (.ishr, 1) := by decide +kernel
theorem dX8_has_3 : decode mX8_has.2.1 3 = .ok (.iconst 1, 1) := by decide +kernel
theorem dX8_has_4 : decode mX8_has.2.1 4 = .ok (.iand, 1) := by decide +kernel
theorem dX8_has_5 : decode mX8_has.2.1 5 = .ok (.iconst 1, 1) := by decide +kernel
theorem dX8_has_6 : decode mX8_has.2.1 6 = .ok (.if_icmp .ne 7, 3) := by decide +kernel
theorem dX8_has_9 : decode mX8_has.2.1 9 = .ok (.iconst 1, 1) := by decide +kernel
theorem dX8_has_10 : decode mX8_has.2.1 10 = .ok (.goto 4, 3) := by decide +kernel
theorem dX8_has_13 : decode mX8_has.2.1 13 = .ok (.iconst 0, 1) := by decide +kernel
theorem dX8_has_14 : decode mX8_has.2.1 14 = .ok (.ireturn, 1) := by decide +kernel
theorem dX8_init_0 : decode mX8_init.2.1 0 = .ok (.aload_n 0, 1) := by decide +kernel
theorem dX8_init_1 : decode mX8_init.2.1 1 = .ok (.invokespecial 3, 3) := by decide +kernel
theorem dX8_init_4 : decode mX8_init.2.1 4 = .ok (.aload_n 0, 1) := by decide +kernel
theorem dX8_init_5 : decode mX8_init.2.1 5 = .ok (.sipush 160, 3) := by decide +kernel
theorem dX8_init_8 : decode mX8_init.2.1 8 = .ok (.newarray .int, 2) := by decide +kernel
theorem dX8_init_10 : decode mX8_init.2.1 10 = .ok (.putfield 9, 3) := by decide +kernel
theorem dX8_init_13 : decode mX8_init.2.1 13 = .ok (.aload_n 0, 1) := by decide +kernel
theorem dX8_init_14 : decode mX8_init.2.1 14 = .ok (.sipush 3060, 3) := by decide +kernel
theorem dX8_init_17 : decode mX8_init.2.1 17 = .ok (.newarray .int, 2) := by decide +kernel
theorem dX8_init_19 : decode mX8_init.2.1 19 = .ok (.putfield 13, 3) := by decide +kernel
theorem dX8_init_22 : decode mX8_init.2.1 22 = .ok (.aload_n 0, 1) := by decide +kernel
theorem dX8_init_23 : decode mX8_init.2.1 23 = .ok (.sipush 3060, 3) := by decide +kernel
theorem dX8_init_26 : decode mX8_init.2.1 26 = .ok (.newarray .int, 2) := by decide +kernel
theorem dX8_init_28 : decode mX8_init.2.1 28 = .ok (.putfield 16, 3) := by decide +kernel
theorem dX8_init_31 : decode mX8_init.2.1 31 = .ok (.aload_n 0, 1) := by decide +kernel
theorem dX8_init_32 : decode mX8_init.2.1 32 = .ok (.bipush 9, 2) := by decide +kernel
theorem dX8_init_34 : decode mX8_init.2.1 34 = .ok (.newarray .int, 2) := by decide +kernel
theorem dX8_init_36 : decode mX8_init.2.1 36 = .ok (.putfield 19, 3) := by decide +kernel
theorem dX8_init_39 : decode mX8_init.2.1 39 = .ok (.aload_n 0, 1) := by decide +kernel
theorem dX8_init_40 : decode mX8_init.2.1 40 = .ok (.bipush 9, 2) := by decide +kernel
theorem dX8_init_42 : decode mX8_init.2.1 42 = .ok (.newarray .int, 2) := by decide +kernel
theorem dX8_init_44 : decode mX8_init.2.1 44 = .ok (.putfield 22, 3) := by decide +kernel
theorem dX8_init_47 : decode mX8_init.2.1 47 = .ok (.aload_n 0, 1) := by decide +kernel
theorem dX8_init_48 : decode mX8_init.2.1 48 = .ok (.sipush 810, 3) := by decide +kernel
theorem dX8_init_51 : decode mX8_init.2.1 51 = .ok (.newarray .int, 2) := by decide +kernel
theorem dX8_init_53 : decode mX8_init.2.1 53 = .ok (.putfield 25, 3) := by decide +kernel
theorem dX8_init_56 : decode mX8_init.2.1 56 = .ok (.aload_n 0, 1) := by decide +kernel
theorem dX8_init_57 : decode mX8_init.2.1 57 = .ok (.sipush 810, 3) := by decide +kernel
theorem dX8_init_60 : decode mX8_init.2.1 60 = .ok (.newarray .int, 2) := by decide +kernel
theorem dX8_init_62 : decode mX8_init.2.1 62 = .ok (.putfield 28, 3) := by decide +kernel
theorem dX8_init_65 : decode mX8_init.2.1 65 = .ok (.aload_n 0, 1) := by decide +kernel
theorem dX8_init_66 : decode mX8_init.2.1 66 = .ok (.sipush 810, 3) := by decide +kernel
theorem dX8_init_69 : decode mX8_init.2.1 69 = .ok (.newarray .int, 2) := by decide +kernel
theorem dX8_init_71 : decode mX8_init.2.1 71 = .ok (.putfield 31, 3) := by decide +kernel
theorem dX8_init_74 : decode mX8_init.2.1 74 = .ok (.aload_n 0, 1) := by decide +kernel
theorem dX8_init_75 : decode mX8_init.2.1 75 = .ok (.bipush 7, 2) := by decide +kernel
theorem dX8_init_77 : decode mX8_init.2.1 77 = .ok (.newarray .int, 2) := by decide +kernel
theorem dX8_init_79 : decode mX8_init.2.1 79 = .ok (.putfield 34, 3) := by decide +kernel
theorem dX8_init_82 : decode mX8_init.2.1 82 = .ok (.aload_n 0, 1) := by decide +kernel
theorem dX8_init_83 : decode mX8_init.2.1 83 = .ok (.bipush 80, 2) := by decide +kernel
theorem dX8_init_85 : decode mX8_init.2.1 85 = .ok (.newarray .int, 2) := by decide +kernel
theorem dX8_init_87 : decode mX8_init.2.1 87 = .ok (.putfield 37, 3) := by decide +kernel
theorem dX8_init_90 : decode mX8_init.2.1 90 = .ok (.aload_n 0, 1) := by decide +kernel
theorem dX8_init_91 : decode mX8_init.2.1 91 = .ok (.sipush 156, 3) := by decide +kernel
theorem dX8_init_94 : decode mX8_init.2.1 94 = .ok (.newarray .int, 2) := by decide +kernel
theorem dX8_init_96 : decode mX8_init.2.1 96 = .ok (.putfield 40, 3) := by decide +kernel
theorem dX8_init_99 : decode mX8_init.2.1 99 = .ok (.aload_n 0, 1) := by decide +kernel
theorem dX8_init_100 : decode mX8_init.2.1 100 = .ok (.bipush 12, 2) := by decide +kernel
theorem dX8_init_102 : decode mX8_init.2.1 102 = .ok (.newarray .int, 2) := by decide +kernel
theorem dX8_init_104 : decode mX8_init.2.1 104 = .ok (.putfield 43, 3) := by decide +kernel
theorem dX8_init_107 : decode mX8_init.2.1 107 = .ok (.aload_n 0, 1) := by decide +kernel
theorem dX8_init_108 : decode mX8_init.2.1 108 = .ok (.iconst 3, 1) := by decide +kernel
theorem dX8_init_109 : decode mX8_init.2.1 109 = .ok (.putfield 46, 3) := by decide +kernel
theorem dX8_init_112 : decode mX8_init.2.1 112 = .ok (.aload_n 0, 1) := by decide +kernel
theorem dX8_init_113 : decode mX8_init.2.1 113 = .ok (.sipush 416, 3) := by decide +kernel
theorem dX8_init_116 : decode mX8_init.2.1 116 = .ok (.newarray .int, 2) := by decide +kernel
theorem dX8_init_118 : decode mX8_init.2.1 118 = .ok (.putfield 50, 3) := by decide +kernel
theorem dX8_init_121 : decode mX8_init.2.1 121 = .ok (.aload_n 0, 1) := by decide +kernel
theorem dX8_init_122 : decode mX8_init.2.1 122 = .ok (.sipush 416, 3) := by decide +kernel
theorem dX8_init_125 : decode mX8_init.2.1 125 = .ok (.newarray .int, 2) := by decide +kernel
theorem dX8_init_127 : decode mX8_init.2.1 127 = .ok (.putfield 53, 3) := by decide +kernel
theorem dX8_init_130 : decode mX8_init.2.1 130 = .ok (.aload_n 0, 1) := by decide +kernel
theorem dX8_init_131 : decode mX8_init.2.1 131 = .ok (.sipush 416, 3) := by decide +kernel
theorem dX8_init_134 : decode mX8_init.2.1 134 = .ok (.newarray .int, 2) := by decide +kernel
theorem dX8_init_136 : decode mX8_init.2.1 136 = .ok (.putfield 56, 3) := by decide +kernel
theorem dX8_init_139 : decode mX8_init.2.1 139 = .ok (.aload_n 0, 1) := by decide +kernel
theorem dX8_init_140 : decode mX8_init.2.1 140 = .ok (.bipush 12, 2) := by decide +kernel
theorem dX8_init_142 : decode mX8_init.2.1 142 = .ok (.newarray .int, 2) := by decide +kernel
theorem dX8_init_144 : decode mX8_init.2.1 144 = .ok (.putfield 59, 3) := by decide +kernel
theorem dX8_init_147 : decode mX8_init.2.1 147 = .ok (.aload_n 0, 1) := by decide +kernel
theorem dX8_init_148 : decode mX8_init.2.1 148 = .ok (.bipush 12, 2) := by decide +kernel
theorem dX8_init_150 : decode mX8_init.2.1 150 = .ok (.newarray .int, 2) := by decide +kernel
theorem dX8_init_152 : decode mX8_init.2.1 152 = .ok (.putfield 62, 3) := by decide +kernel
theorem dX8_init_155 : decode mX8_init.2.1 155 = .ok (.aload_n 0, 1) := by decide +kernel
theorem dX8_init_156 : decode mX8_init.2.1 156 = .ok (.bipush 12, 2) := by decide +kernel
theorem dX8_init_158 : decode mX8_init.2.1 158 = .ok (.newarray .int, 2) := by decide +kernel
theorem dX8_init_160 : decode mX8_init.2.1 160 = .ok (.putfield 65, 3) := by decide +kernel
theorem dX8_init_163 : decode mX8_init.2.1 163 = .ok (.aload_n 0, 1) := by decide +kernel
theorem dX8_init_164 : decode mX8_init.2.1 164 = .ok (.bipush 48, 2) := by decide +kernel
theorem dX8_init_166 : decode mX8_init.2.1 166 = .ok (.newarray .int, 2) := by decide +kernel
theorem dX8_init_168 : decode mX8_init.2.1 168 = .ok (.putfield 68, 3) := by decide +kernel
theorem dX8_init_171 : decode mX8_init.2.1 171 = .ok (.aload_n 0, 1) := by decide +kernel
theorem dX8_init_172 : decode mX8_init.2.1 172 = .ok (.bipush 24, 2) := by decide +kernel
theorem dX8_init_174 : decode mX8_init.2.1 174 = .ok (.newarray .int, 2) := by decide +kernel
theorem dX8_init_176 : decode mX8_init.2.1 176 = .ok (.putfield 71, 3) := by decide +kernel
theorem dX8_init_179 : decode mX8_init.2.1 179 = .ok (.aload_n 0, 1) := by decide +kernel
theorem dX8_init_180 : decode mX8_init.2.1 180 = .ok (.sipush 144, 3) := by decide +kernel
theorem dX8_init_183 : decode mX8_init.2.1 183 = .ok (.newarray .int, 2) := by decide +kernel
theorem dX8_init_185 : decode mX8_init.2.1 185 = .ok (.putfield 74, 3) := by decide +kernel
theorem dX8_init_188 : decode mX8_init.2.1 188 = .ok (.aload_n 0, 1) := by decide +kernel
theorem dX8_init_189 : decode mX8_init.2.1 189 = .ok (.bipush 24, 2) := by decide +kernel
theorem dX8_init_191 : decode mX8_init.2.1 191 = .ok (.newarray .int, 2) := by decide +kernel
theorem dX8_init_193 : decode mX8_init.2.1 193 = .ok (.putfield 77, 3) := by decide +kernel
theorem dX8_init_196 : decode mX8_init.2.1 196 = .ok (.return_, 1) := by decide +kernel
theorem dX8_thrown_0 : decode mX8_thrown.2.1 0 = .ok (.aload_n 0, 1) := by decide +kernel
theorem dX8_thrown_1 : decode mX8_thrown.2.1 1 = .ok (.getfield 80, 3) := by decide +kernel
theorem dX8_thrown_4 : decode mX8_thrown.2.1 4 = .ok (.ireturn, 1) := by decide +kernel
theorem dX8_byteOf_0 : decode mX8_byteOf.2.1 0 = .ok (.iload 5, 2) := by decide +kernel
theorem dX8_byteOf_2 : decode mX8_byteOf.2.1 2 = .ok (.iconst 4, 1) := by decide +kernel
theorem dX8_byteOf_3 : decode mX8_byteOf.2.1 3 = .ok (.if_icmp .ge 7, 3) := by decide +kernel
theorem dX8_byteOf_6 : decode mX8_byteOf.2.1 6 = .ok (.iload_n 0, 1) := by decide +kernel
theorem dX8_byteOf_7 : decode mX8_byteOf.2.1 7 = .ok (.goto 38, 3) := by decide +kernel
theorem dX8_byteOf_10 : decode mX8_byteOf.2.1 10 = .ok (.iload 5, 2) := by decide +kernel
theorem dX8_byteOf_12 : decode mX8_byteOf.2.1 12 = .ok (.bipush 8, 2) := by decide +kernel
theorem dX8_byteOf_14 : decode mX8_byteOf.2.1 14 = .ok (.if_icmp .ge 7, 3) := by decide +kernel
theorem dX8_byteOf_17 : decode mX8_byteOf.2.1 17 = .ok (.iload_n 1, 1) := by decide +kernel
theorem dX8_byteOf_18 : decode mX8_byteOf.2.1 18 = .ok (.goto 27, 3) := by decide +kernel
theorem dX8_byteOf_21 : decode mX8_byteOf.2.1 21 = .ok (.iload 5, 2) := by decide +kernel
theorem dX8_byteOf_23 : decode mX8_byteOf.2.1 23 = .ok (.bipush 12, 2) := by decide +kernel
theorem dX8_byteOf_25 : decode mX8_byteOf.2.1 25 = .ok (.if_icmp .ge 7, 3) := by decide +kernel
theorem dX8_byteOf_28 : decode mX8_byteOf.2.1 28 = .ok (.iload_n 2, 1) := by decide +kernel
theorem dX8_byteOf_29 : decode mX8_byteOf.2.1 29 = .ok (.goto 16, 3) := by decide +kernel
theorem dX8_byteOf_32 : decode mX8_byteOf.2.1 32 = .ok (.iload 5, 2) := by decide +kernel
theorem dX8_byteOf_34 : decode mX8_byteOf.2.1 34 = .ok (.bipush 16, 2) := by decide +kernel
theorem dX8_byteOf_36 : decode mX8_byteOf.2.1 36 = .ok (.if_icmp .ge 7, 3) := by decide +kernel
theorem dX8_byteOf_39 : decode mX8_byteOf.2.1 39 = .ok (.iload_n 3, 1) := by decide +kernel
theorem dX8_byteOf_40 : decode mX8_byteOf.2.1 40 = .ok (.goto 5, 3) := by decide +kernel
theorem dX8_byteOf_43 : decode mX8_byteOf.2.1 43 = .ok (.iload 4, 2) := by decide +kernel
theorem dX8_byteOf_45 : decode mX8_byteOf.2.1 45 = .ok (.istore 6, 2) := by decide +kernel
theorem dX8_byteOf_47 : decode mX8_byteOf.2.1 47 = .ok (.iload 6, 2) := by decide +kernel
theorem dX8_byteOf_49 : decode mX8_byteOf.2.1 49 = .ok (.bipush 24, 2) := by decide +kernel
theorem dX8_byteOf_51 : decode mX8_byteOf.2.1 51 = .ok (.bipush 8, 2) := by decide +kernel
theorem dX8_byteOf_53 : decode mX8_byteOf.2.1 53 = .ok (.iload 5, 2) := by decide +kernel
theorem dX8_byteOf_55 : decode mX8_byteOf.2.1 55 = .ok (.iconst 4, 1) := by decide +kernel
theorem dX8_byteOf_56 : decode mX8_byteOf.2.1 56 = .ok (.irem, 1) := by decide +kernel
theorem dX8_byteOf_57 : decode mX8_byteOf.2.1 57 = .ok (.imul, 1) := by decide +kernel
theorem dX8_byteOf_58 : decode mX8_byteOf.2.1 58 = .ok (.isub, 1) := by decide +kernel
theorem dX8_byteOf_59 : decode mX8_byteOf.2.1 59 = .ok (.ishr, 1) := by decide +kernel
theorem dX8_byteOf_60 : decode mX8_byteOf.2.1 60 = .ok (.sipush 255, 3) := by decide +kernel
theorem dX8_byteOf_63 : decode mX8_byteOf.2.1 63 = .ok (.iand, 1) := by decide +kernel
theorem dX8_byteOf_64 : decode mX8_byteOf.2.1 64 = .ok (.ireturn, 1) := by decide +kernel
theorem dX8_feed_0 : decode mX8_feed.2.1 0 = .ok (.iconst 0, 1) := by decide +kernel
theorem dX8_feed_1 : decode mX8_feed.2.1 1 = .ok (.istore 6, 2) := by decide +kernel
theorem dX8_feed_3 : decode mX8_feed.2.1 3 = .ok (.iconst 0, 1) := by decide +kernel
theorem dX8_feed_4 : decode mX8_feed.2.1 4 = .ok (.istore 7, 2) := by decide +kernel
theorem dX8_feed_6 : decode mX8_feed.2.1 6 = .ok (.iload 7, 2) := by decide +kernel
theorem dX8_feed_8 : decode mX8_feed.2.1 8 = .ok (.bipush 20, 2) := by decide +kernel
theorem dX8_feed_10 : decode mX8_feed.2.1 10 = .ok (.if_icmp .ge 34, 3) := by decide +kernel
theorem dX8_feed_13 : decode mX8_feed.2.1 13 = .ok (.iload 6, 2) := by decide +kernel
theorem dX8_feed_15 : decode mX8_feed.2.1 15 = .ok (.iload_n 1, 1) := by decide +kernel
theorem dX8_feed_16 : decode mX8_feed.2.1 16 = .ok (.iload_n 2, 1) := by decide +kernel
theorem dX8_feed_17 : decode mX8_feed.2.1 17 = .ok (.iload_n 3, 1) := by decide +kernel
theorem dX8_feed_18 : decode mX8_feed.2.1 18 = .ok (.iload 4, 2) := by decide +kernel
theorem dX8_feed_20 : decode mX8_feed.2.1 20 = .ok (.iload 5, 2) := by decide +kernel
theorem dX8_feed_22 : decode mX8_feed.2.1 22 = .ok (.iload 7, 2) := by decide +kernel
theorem dX8_feed_24 : decode mX8_feed.2.1 24 = .ok (.invokestatic 83, 3) := by decide +kernel
theorem dX8_feed_27 : decode mX8_feed.2.1 27 = .ok (.ifCond .eq 7, 3) := by decide +kernel
theorem dX8_feed_30 : decode mX8_feed.2.1 30 = .ok (.iconst 1, 1) := by decide +kernel
theorem dX8_feed_31 : decode mX8_feed.2.1 31 = .ok (.goto 4, 3) := by decide +kernel
theorem dX8_feed_34 : decode mX8_feed.2.1 34 = .ok (.iconst 0, 1) := by decide +kernel
theorem dX8_feed_35 : decode mX8_feed.2.1 35 = .ok (.iadd, 1) := by decide +kernel
theorem dX8_feed_36 : decode mX8_feed.2.1 36 = .ok (.istore 6, 2) := by decide +kernel
theorem dX8_feed_38 : decode mX8_feed.2.1 38 = .ok (.iinc 7 1, 3) := by decide +kernel
theorem dX8_feed_41 : decode mX8_feed.2.1 41 = .ok (.goto (-35), 3) := by decide +kernel
theorem dX8_feed_44 : decode mX8_feed.2.1 44 = .ok (.aload_n 0, 1) := by decide +kernel
theorem dX8_feed_45 : decode mX8_feed.2.1 45 = .ok (.getfield 87, 3) := by decide +kernel
theorem dX8_feed_48 : decode mX8_feed.2.1 48 = .ok (.iload 6, 2) := by decide +kernel
theorem dX8_feed_50 : decode mX8_feed.2.1 50 = .ok (.iadd, 1) := by decide +kernel
theorem dX8_feed_51 : decode mX8_feed.2.1 51 = .ok (.sipush 160, 3) := by decide +kernel
theorem dX8_feed_54 : decode mX8_feed.2.1 54 = .ok (.if_icmp .le 5, 3) := by decide +kernel
theorem dX8_feed_57 : decode mX8_feed.2.1 57 = .ok (.iconst (-1), 1) := by decide +kernel
theorem dX8_feed_58 : decode mX8_feed.2.1 58 = .ok (.ireturn, 1) := by decide +kernel
theorem dX8_feed_59 : decode mX8_feed.2.1 59 = .ok (.iconst 0, 1) := by decide +kernel
theorem dX8_feed_60 : decode mX8_feed.2.1 60 = .ok (.istore 7, 2) := by decide +kernel
theorem dX8_feed_62 : decode mX8_feed.2.1 62 = .ok (.iload 7, 2) := by decide +kernel
theorem dX8_feed_64 : decode mX8_feed.2.1 64 = .ok (.bipush 20, 2) := by decide +kernel
theorem dX8_feed_66 : decode mX8_feed.2.1 66 = .ok (.if_icmp .ge 49, 3) := by decide +kernel
theorem dX8_feed_69 : decode mX8_feed.2.1 69 = .ok (.iload_n 1, 1) := by decide +kernel
theorem dX8_feed_70 : decode mX8_feed.2.1 70 = .ok (.iload_n 2, 1) := by decide +kernel
theorem dX8_feed_71 : decode mX8_feed.2.1 71 = .ok (.iload_n 3, 1) := by decide +kernel
theorem dX8_feed_72 : decode mX8_feed.2.1 72 = .ok (.iload 4, 2) := by decide +kernel
theorem dX8_feed_74 : decode mX8_feed.2.1 74 = .ok (.iload 5, 2) := by decide +kernel
theorem dX8_feed_76 : decode mX8_feed.2.1 76 = .ok (.iload 7, 2) := by decide +kernel
theorem dX8_feed_78 : decode mX8_feed.2.1 78 = .ok (.invokestatic 83, 3) := by decide +kernel
theorem dX8_feed_81 : decode mX8_feed.2.1 81 = .ok (.istore 8, 2) := by decide +kernel
theorem dX8_feed_83 : decode mX8_feed.2.1 83 = .ok (.iload 8, 2) := by decide +kernel
theorem dX8_feed_85 : decode mX8_feed.2.1 85 = .ok (.ifCond .eq 24, 3) := by decide +kernel
theorem dX8_feed_88 : decode mX8_feed.2.1 88 = .ok (.aload_n 0, 1) := by decide +kernel
theorem dX8_feed_89 : decode mX8_feed.2.1 89 = .ok (.getfield 9, 3) := by decide +kernel
theorem dX8_feed_92 : decode mX8_feed.2.1 92 = .ok (.aload_n 0, 1) := by decide +kernel
theorem dX8_feed_93 : decode mX8_feed.2.1 93 = .ok (.getfield 87, 3) := by decide +kernel
theorem dX8_feed_96 : decode mX8_feed.2.1 96 = .ok (.iload 8, 2) := by decide +kernel
theorem dX8_feed_98 : decode mX8_feed.2.1 98 = .ok (.iastore, 1) := by decide +kernel
theorem dX8_feed_99 : decode mX8_feed.2.1 99 = .ok (.aload_n 0, 1) := by decide +kernel
theorem dX8_feed_100 : decode mX8_feed.2.1 100 = .ok (.dup, 1) := by decide +kernel
theorem dX8_feed_101 : decode mX8_feed.2.1 101 = .ok (.getfield 87, 3) := by decide +kernel
theorem dX8_feed_104 : decode mX8_feed.2.1 104 = .ok (.iconst 1, 1) := by decide +kernel
theorem dX8_feed_105 : decode mX8_feed.2.1 105 = .ok (.iadd, 1) := by decide +kernel
theorem dX8_feed_106 : decode mX8_feed.2.1 106 = .ok (.putfield 87, 3) := by decide +kernel
theorem dX8_feed_109 : decode mX8_feed.2.1 109 = .ok (.iinc 7 1, 3) := by decide +kernel
theorem dX8_feed_112 : decode mX8_feed.2.1 112 = .ok (.goto (-50), 3) := by decide +kernel
theorem dX8_feed_115 : decode mX8_feed.2.1 115 = .ok (.aload_n 0, 1) := by decide +kernel
theorem dX8_feed_116 : decode mX8_feed.2.1 116 = .ok (.getfield 87, 3) := by decide +kernel
theorem dX8_feed_119 : decode mX8_feed.2.1 119 = .ok (.ireturn, 1) := by decide +kernel
theorem dX8_end_0 : decode mX8_end.2.1 0 = .ok (.iload_n 1, 1) := by decide +kernel
theorem dX8_end_1 : decode mX8_end.2.1 1 = .ok (.ifCond .lt 11, 3) := by decide +kernel
theorem dX8_end_4 : decode mX8_end.2.1 4 = .ok (.iload_n 1, 1) := by decide +kernel
theorem dX8_end_5 : decode mX8_end.2.1 5 = .ok (.aload_n 0, 1) := by decide +kernel
theorem dX8_end_6 : decode mX8_end.2.1 6 = .ok (.getfield 87, 3) := by decide +kernel
theorem dX8_end_9 : decode mX8_end.2.1 9 = .ok (.if_icmp .le 5, 3) := by decide +kernel
theorem dX8_end_12 : decode mX8_end.2.1 12 = .ok (.iconst 0, 1) := by decide +kernel
theorem dX8_end_13 : decode mX8_end.2.1 13 = .ok (.ireturn, 1) := by decide +kernel
theorem dX8_end_14 : decode mX8_end.2.1 14 = .ok (.aload_n 0, 1) := by decide +kernel
theorem dX8_end_15 : decode mX8_end.2.1 15 = .ok (.iload_n 1, 1) := by decide +kernel
theorem dX8_end_16 : decode mX8_end.2.1 16 = .ok (.putfield 87, 3) := by decide +kernel
theorem dX8_end_19 : decode mX8_end.2.1 19 = .ok (.iconst 1, 1) := by decide +kernel
theorem dX8_end_20 : decode mX8_end.2.1 20 = .ok (.ireturn, 1) := by decide +kernel
theorem dX8_here_0 : decode mX8_here.2.1 0 = .ok (.aload_n 0, 1) := by decide +kernel
theorem dX8_here_1 : decode mX8_here.2.1 1 = .ok (.getfield 90, 3) := by decide +kernel
theorem dX8_here_4 : decode mX8_here.2.1 4 = .ok (.aload_n 0, 1) := by decide +kernel
theorem dX8_here_5 : decode mX8_here.2.1 5 = .ok (.getfield 87, 3) := by decide +kernel
theorem dX8_here_8 : decode mX8_here.2.1 8 = .ok (.if_icmp .ge 15, 3) := by decide +kernel
theorem dX8_here_11 : decode mX8_here.2.1 11 = .ok (.aload_n 0, 1) := by decide +kernel
theorem dX8_here_12 : decode mX8_here.2.1 12 = .ok (.getfield 9, 3) := by decide +kernel
theorem dX8_here_15 : decode mX8_here.2.1 15 = .ok (.aload_n 0, 1) := by decide +kernel
theorem dX8_here_16 : decode mX8_here.2.1 16 = .ok (.getfield 90, 3) := by decide +kernel
theorem dX8_here_19 : decode mX8_here.2.1 19 = .ok (.iaload, 1) := by decide +kernel
theorem dX8_here_20 : decode mX8_here.2.1 20 = .ok (.goto 4, 3) := by decide +kernel
theorem dX8_here_23 : decode mX8_here.2.1 23 = .ok (.iconst (-1), 1) := by decide +kernel
theorem dX8_here_24 : decode mX8_here.2.1 24 = .ok (.ireturn, 1) := by decide +kernel
theorem dX8_look_0 : decode mX8_look.2.1 0 = .ok (.aload_n 0, 1) := by decide +kernel
theorem dX8_look_1 : decode mX8_look.2.1 1 = .ok (.invokevirtual 93, 3) := by decide +kernel
theorem dX8_look_4 : decode mX8_look.2.1 4 = .ok (.bipush 32, 2) := by decide +kernel
theorem dX8_look_6 : decode mX8_look.2.1 6 = .ok (.if_icmp .ne 16, 3) := by decide +kernel
theorem dX8_look_9 : decode mX8_look.2.1 9 = .ok (.aload_n 0, 1) := by decide +kernel
theorem dX8_look_10 : decode mX8_look.2.1 10 = .ok (.dup, 1) := by decide +kernel
theorem dX8_look_11 : decode mX8_look.2.1 11 = .ok (.getfield 90, 3) := by decide +kernel
theorem dX8_look_14 : decode mX8_look.2.1 14 = .ok (.iconst 1, 1) := by decide +kernel
theorem dX8_look_15 : decode mX8_look.2.1 15 = .ok (.iadd, 1) := by decide +kernel
theorem dX8_look_16 : decode mX8_look.2.1 16 = .ok (.putfield 90, 3) := by decide +kernel
theorem dX8_look_19 : decode mX8_look.2.1 19 = .ok (.goto (-19), 3) := by decide +kernel
theorem dX8_look_22 : decode mX8_look.2.1 22 = .ok (.aload_n 0, 1) := by decide +kernel
theorem dX8_look_23 : decode mX8_look.2.1 23 = .ok (.invokevirtual 93, 3) := by decide +kernel
theorem dX8_look_26 : decode mX8_look.2.1 26 = .ok (.ireturn, 1) := by decide +kernel
theorem dX8_bad_0 : decode mX8_bad.2.1 0 = .ok (.aload_n 0, 1) := by decide +kernel
theorem dX8_bad_1 : decode mX8_bad.2.1 1 = .ok (.aload_n 0, 1) := by decide +kernel
theorem dX8_bad_2 : decode mX8_bad.2.1 2 = .ok (.getfield 97, 3) := by decide +kernel
theorem dX8_bad_5 : decode mX8_bad.2.1 5 = .ok (.iconst (-1), 1) := by decide +kernel
theorem dX8_bad_6 : decode mX8_bad.2.1 6 = .ok (.if_icmp .ne 10, 3) := by decide +kernel
theorem dX8_bad_9 : decode mX8_bad.2.1 9 = .ok (.aload_n 0, 1) := by decide +kernel
theorem dX8_bad_10 : decode mX8_bad.2.1 10 = .ok (.getfield 90, 3) := by decide +kernel
theorem dX8_bad_13 : decode mX8_bad.2.1 13 = .ok (.goto 7, 3) := by decide +kernel
theorem dX8_bad_16 : decode mX8_bad.2.1 16 = .ok (.aload_n 0, 1) := by decide +kernel
theorem dX8_bad_17 : decode mX8_bad.2.1 17 = .ok (.getfield 97, 3) := by decide +kernel
theorem dX8_bad_20 : decode mX8_bad.2.1 20 = .ok (.putfield 97, 3) := by decide +kernel
theorem dX8_bad_23 : decode mX8_bad.2.1 23 = .ok (.return_, 1) := by decide +kernel
theorem dX8_isDigit_0 : decode mX8_isDigit.2.1 0 = .ok (.iload_n 0, 1) := by decide +kernel
theorem dX8_isDigit_1 : decode mX8_isDigit.2.1 1 = .ok (.bipush 48, 2) := by decide +kernel
theorem dX8_isDigit_3 : decode mX8_isDigit.2.1 3 = .ok (.if_icmp .lt 13, 3) := by decide +kernel
theorem dX8_isDigit_6 : decode mX8_isDigit.2.1 6 = .ok (.iload_n 0, 1) := by decide +kernel
theorem dX8_isDigit_7 : decode mX8_isDigit.2.1 7 = .ok (.bipush 57, 2) := by decide +kernel
theorem dX8_isDigit_9 : decode mX8_isDigit.2.1 9 = .ok (.if_icmp .gt 7, 3) := by decide +kernel
theorem dX8_isDigit_12 : decode mX8_isDigit.2.1 12 = .ok (.iconst 1, 1) := by decide +kernel
theorem dX8_isDigit_13 : decode mX8_isDigit.2.1 13 = .ok (.goto 4, 3) := by decide +kernel
theorem dX8_isDigit_16 : decode mX8_isDigit.2.1 16 = .ok (.iconst 0, 1) := by decide +kernel
theorem dX8_isDigit_17 : decode mX8_isDigit.2.1 17 = .ok (.ireturn, 1) := by decide +kernel
theorem dX8_put_0 : decode mX8_put.2.1 0 = .ok (.aload_n 0, 1) := by decide +kernel
theorem dX8_put_1 : decode mX8_put.2.1 1 = .ok (.getfield 13, 3) := by decide +kernel
theorem dX8_put_4 : decode mX8_put.2.1 4 = .ok (.sipush 340, 3) := by decide +kernel
theorem dX8_put_7 : decode mX8_put.2.1 7 = .ok (.aload_n 0, 1) := by decide +kernel
theorem dX8_put_8 : decode mX8_put.2.1 8 = .ok (.getfield 100, 3) := by decide +kernel
theorem dX8_put_11 : decode mX8_put.2.1 11 = .ok (.imul, 1) := by decide +kernel
theorem dX8_put_12 : decode mX8_put.2.1 12 = .ok (.aload_n 0, 1) := by decide +kernel
theorem dX8_put_13 : decode mX8_put.2.1 13 = .ok (.getfield 19, 3) := by decide +kernel
theorem dX8_put_16 : decode mX8_put.2.1 16 = .ok (.aload_n 0, 1) := by decide +kernel
theorem dX8_put_17 : decode mX8_put.2.1 17 = .ok (.getfield 100, 3) := by decide +kernel
theorem dX8_put_20 : decode mX8_put.2.1 20 = .ok (.iaload, 1) := by decide +kernel
theorem dX8_put_21 : decode mX8_put.2.1 21 = .ok (.iadd, 1) := by decide +kernel
theorem dX8_put_22 : decode mX8_put.2.1 22 = .ok (.iload_n 1, 1) := by decide +kernel
theorem dX8_put_23 : decode mX8_put.2.1 23 = .ok (.iastore, 1) := by decide +kernel
theorem dX8_put_24 : decode mX8_put.2.1 24 = .ok (.aload_n 0, 1) := by decide +kernel
theorem dX8_put_25 : decode mX8_put.2.1 25 = .ok (.getfield 16, 3) := by decide +kernel
theorem dX8_put_28 : decode mX8_put.2.1 28 = .ok (.sipush 340, 3) := by decide +kernel
theorem dX8_put_31 : decode mX8_put.2.1 31 = .ok (.aload_n 0, 1) := by decide +kernel
theorem dX8_put_32 : decode mX8_put.2.1 32 = .ok (.getfield 100, 3) := by decide +kernel
theorem dX8_put_35 : decode mX8_put.2.1 35 = .ok (.imul, 1) := by decide +kernel
theorem dX8_put_36 : decode mX8_put.2.1 36 = .ok (.aload_n 0, 1) := by decide +kernel
theorem dX8_put_37 : decode mX8_put.2.1 37 = .ok (.getfield 19, 3) := by decide +kernel
theorem dX8_put_40 : decode mX8_put.2.1 40 = .ok (.aload_n 0, 1) := by decide +kernel
theorem dX8_put_41 : decode mX8_put.2.1 41 = .ok (.getfield 100, 3) := by decide +kernel
theorem dX8_put_44 : decode mX8_put.2.1 44 = .ok (.iaload, 1) := by decide +kernel
theorem dX8_put_45 : decode mX8_put.2.1 45 = .ok (.iadd, 1) := by decide +kernel
theorem dX8_put_46 : decode mX8_put.2.1 46 = .ok (.iload_n 2, 1) := by decide +kernel
theorem dX8_put_47 : decode mX8_put.2.1 47 = .ok (.iastore, 1) := by decide +kernel
theorem dX8_put_48 : decode mX8_put.2.1 48 = .ok (.aload_n 0, 1) := by decide +kernel
theorem dX8_put_49 : decode mX8_put.2.1 49 = .ok (.getfield 19, 3) := by decide +kernel
theorem dX8_put_52 : decode mX8_put.2.1 52 = .ok (.aload_n 0, 1) := by decide +kernel
theorem dX8_put_53 : decode mX8_put.2.1 53 = .ok (.getfield 100, 3) := by decide +kernel
theorem dX8_put_56 : decode mX8_put.2.1 56 = .ok (.dup2, 1) := by decide +kernel
theorem dX8_put_57 : decode mX8_put.2.1 57 = .ok (.iaload, 1) := by decide +kernel
theorem dX8_put_58 : decode mX8_put.2.1 58 = .ok (.iconst 1, 1) := by decide +kernel
theorem dX8_put_59 : decode mX8_put.2.1 59 = .ok (.iadd, 1) := by decide +kernel
theorem dX8_put_60 : decode mX8_put.2.1 60 = .ok (.iastore, 1) := by decide +kernel
theorem dX8_put_61 : decode mX8_put.2.1 61 = .ok (.return_, 1) := by decide +kernel
theorem dX8_letterOf_0 : decode mX8_letterOf.2.1 0 = .ok (.aload_n 0, 1) := by decide +kernel
theorem dX8_letterOf_1 : decode mX8_letterOf.2.1 1 = .ok (.getfield 103, 3) := by decide +kernel
theorem dX8_letterOf_4 : decode mX8_letterOf.2.1 4 = .ok (.ifCond .eq 65, 3) := by decide +kernel
theorem dX8_letterOf_7 : decode mX8_letterOf.2.1 7 = .ok (.iload_n 1, 1) := by decide +kernel
theorem dX8_letterOf_8 : decode mX8_letterOf.2.1 8 = .ok (.bipush 101, 2) := by decide +kernel
theorem dX8_letterOf_10 : decode mX8_letterOf.2.1 10 = .ok (.if_icmp .ne 7, 3) := by decide +kernel
theorem dX8_letterOf_13 : decode mX8_letterOf.2.1 13 = .ok (.iconst 0, 1) := by decide +kernel
theorem dX8_letterOf_14 : decode mX8_letterOf.2.1 14 = .ok (.goto 54, 3) := by decide +kernel
theorem dX8_letterOf_17 : decode mX8_letterOf.2.1 17 = .ok (.iload_n 1, 1) := by decide +kernel
theorem dX8_letterOf_18 : decode mX8_letterOf.2.1 18 = .ok (.bipush 114, 2) := by decide +kernel
theorem dX8_letterOf_20 : decode mX8_letterOf.2.1 20 = .ok (.if_icmp .ne 7, 3) := by decide +kernel
theorem dX8_letterOf_23 : decode mX8_letterOf.2.1 23 = .ok (.iconst 1, 1) := by decide +kernel
theorem dX8_letterOf_24 : decode mX8_letterOf.2.1 24 = .ok (.goto 44, 3) := by decide +kernel
theorem dX8_letterOf_27 : decode mX8_letterOf.2.1 27 = .ok (.iload_n 1, 1) := by decide +kernel
theorem dX8_letterOf_28 : decode mX8_letterOf.2.1 28 = .ok (.bipush 118, 2) := by decide +kernel
theorem dX8_letterOf_30 : decode mX8_letterOf.2.1 30 = .ok (.if_icmp .ne 7, 3) := by decide +kernel
theorem dX8_letterOf_33 : decode mX8_letterOf.2.1 33 = .ok (.iconst 2, 1) := by decide +kernel
theorem dX8_letterOf_34 : decode mX8_letterOf.2.1 34 = .ok (.goto 34, 3) := by decide +kernel
theorem dX8_letterOf_37 : decode mX8_letterOf.2.1 37 = .ok (.iload_n 1, 1) := by decide +kernel
theorem dX8_letterOf_38 : decode mX8_letterOf.2.1 38 = .ok (.bipush 110, 2) := by decide +kernel
theorem dX8_letterOf_40 : decode mX8_letterOf.2.1 40 = .ok (.if_icmp .ne 7, 3) := by decide +kernel
theorem dX8_letterOf_43 : decode mX8_letterOf.2.1 43 = .ok (.iconst 3, 1) := by decide +kernel
theorem dX8_letterOf_44 : decode mX8_letterOf.2.1 44 = .ok (.goto 24, 3) := by decide +kernel
theorem dX8_letterOf_47 : decode mX8_letterOf.2.1 47 = .ok (.iload_n 1, 1) := by decide +kernel
theorem dX8_letterOf_48 : decode mX8_letterOf.2.1 48 = .ok (.bipush 104, 2) := by decide +kernel
theorem dX8_letterOf_50 : decode mX8_letterOf.2.1 50 = .ok (.if_icmp .ne 7, 3) := by decide +kernel
theorem dX8_letterOf_53 : decode mX8_letterOf.2.1 53 = .ok (.iconst 4, 1) := by decide +kernel
theorem dX8_letterOf_54 : decode mX8_letterOf.2.1 54 = .ok (.goto 14, 3) := by decide +kernel
theorem dX8_letterOf_57 : decode mX8_letterOf.2.1 57 = .ok (.iload_n 1, 1) := by decide +kernel
theorem dX8_letterOf_58 : decode mX8_letterOf.2.1 58 = .ok (.bipush 116, 2) := by decide +kernel
theorem dX8_letterOf_60 : decode mX8_letterOf.2.1 60 = .ok (.if_icmp .ne 7, 3) := by decide +kernel
theorem dX8_letterOf_63 : decode mX8_letterOf.2.1 63 = .ok (.iconst 5, 1) := by decide +kernel
theorem dX8_letterOf_64 : decode mX8_letterOf.2.1 64 = .ok (.goto 4, 3) := by decide +kernel
theorem dX8_letterOf_67 : decode mX8_letterOf.2.1 67 = .ok (.iconst (-1), 1) := by decide +kernel
theorem dX8_letterOf_68 : decode mX8_letterOf.2.1 68 = .ok (.ireturn, 1) := by decide +kernel
theorem dX8_letterOf_69 : decode mX8_letterOf.2.1 69 = .ok (.iload_n 1, 1) := by decide +kernel
theorem dX8_letterOf_70 : decode mX8_letterOf.2.1 70 = .ok (.bipush 105, 2) := by decide +kernel
theorem dX8_letterOf_72 : decode mX8_letterOf.2.1 72 = .ok (.if_icmp .ne 7, 3) := by decide +kernel
theorem dX8_letterOf_75 : decode mX8_letterOf.2.1 75 = .ok (.iconst 0, 1) := by decide +kernel
theorem dX8_letterOf_76 : decode mX8_letterOf.2.1 76 = .ok (.goto 65, 3) := by decide +kernel
theorem dX8_letterOf_79 : decode mX8_letterOf.2.1 79 = .ok (.iload_n 1, 1) := by decide +kernel
theorem dX8_letterOf_80 : decode mX8_letterOf.2.1 80 = .ok (.bipush 119, 2) := by decide +kernel
theorem dX8_letterOf_82 : decode mX8_letterOf.2.1 82 = .ok (.if_icmp .ne 7, 3) := by decide +kernel
theorem dX8_letterOf_85 : decode mX8_letterOf.2.1 85 = .ok (.iconst 1, 1) := by decide +kernel
theorem dX8_letterOf_86 : decode mX8_letterOf.2.1 86 = .ok (.goto 55, 3) := by decide +kernel
theorem dX8_letterOf_89 : decode mX8_letterOf.2.1 89 = .ok (.iload_n 1, 1) := by decide +kernel
theorem dX8_letterOf_90 : decode mX8_letterOf.2.1 90 = .ok (.bipush 103, 2) := by decide +kernel
theorem dX8_letterOf_92 : decode mX8_letterOf.2.1 92 = .ok (.if_icmp .ne 7, 3) := by decide +kernel
theorem dX8_letterOf_95 : decode mX8_letterOf.2.1 95 = .ok (.iconst 2, 1) := by decide +kernel
theorem dX8_letterOf_96 : decode mX8_letterOf.2.1 96 = .ok (.goto 45, 3) := by decide +kernel
theorem dX8_letterOf_99 : decode mX8_letterOf.2.1 99 = .ok (.iload_n 1, 1) := by decide +kernel
theorem dX8_letterOf_100 : decode mX8_letterOf.2.1 100 = .ok (.bipush 116, 2) := by decide +kernel
theorem dX8_letterOf_102 : decode mX8_letterOf.2.1 102 = .ok (.if_icmp .ne 7, 3) := by decide +kernel
theorem dX8_letterOf_105 : decode mX8_letterOf.2.1 105 = .ok (.iconst 3, 1) := by decide +kernel
theorem dX8_letterOf_106 : decode mX8_letterOf.2.1 106 = .ok (.goto 35, 3) := by decide +kernel
theorem dX8_letterOf_109 : decode mX8_letterOf.2.1 109 = .ok (.iload_n 1, 1) := by decide +kernel
theorem dX8_letterOf_110 : decode mX8_letterOf.2.1 110 = .ok (.bipush 109, 2) := by decide +kernel
theorem dX8_letterOf_112 : decode mX8_letterOf.2.1 112 = .ok (.if_icmp .ne 7, 3) := by decide +kernel
theorem dX8_letterOf_115 : decode mX8_letterOf.2.1 115 = .ok (.iconst 4, 1) := by decide +kernel
theorem dX8_letterOf_116 : decode mX8_letterOf.2.1 116 = .ok (.goto 25, 3) := by decide +kernel
theorem dX8_letterOf_119 : decode mX8_letterOf.2.1 119 = .ok (.iload_n 1, 1) := by decide +kernel
theorem dX8_letterOf_120 : decode mX8_letterOf.2.1 120 = .ok (.bipush 97, 2) := by decide +kernel
theorem dX8_letterOf_122 : decode mX8_letterOf.2.1 122 = .ok (.if_icmp .ne 7, 3) := by decide +kernel
theorem dX8_letterOf_125 : decode mX8_letterOf.2.1 125 = .ok (.iconst 5, 1) := by decide +kernel
theorem dX8_letterOf_126 : decode mX8_letterOf.2.1 126 = .ok (.goto 15, 3) := by decide +kernel
theorem dX8_letterOf_129 : decode mX8_letterOf.2.1 129 = .ok (.iload_n 1, 1) := by decide +kernel
theorem dX8_letterOf_130 : decode mX8_letterOf.2.1 130 = .ok (.bipush 107, 2) := by decide +kernel
theorem dX8_letterOf_132 : decode mX8_letterOf.2.1 132 = .ok (.if_icmp .ne 8, 3) := by decide +kernel
theorem dX8_letterOf_135 : decode mX8_letterOf.2.1 135 = .ok (.bipush 6, 2) := by decide +kernel
theorem dX8_letterOf_137 : decode mX8_letterOf.2.1 137 = .ok (.goto 4, 3) := by decide +kernel
theorem dX8_letterOf_140 : decode mX8_letterOf.2.1 140 = .ok (.iconst (-1), 1) := by decide +kernel
theorem dX8_letterOf_141 : decode mX8_letterOf.2.1 141 = .ok (.ireturn, 1) := by decide +kernel
theorem dX8_opens_0 : decode mX8_opens.2.1 0 = .ok (.aload_n 0, 1) := by decide +kernel
theorem dX8_opens_1 : decode mX8_opens.2.1 1 = .ok (.getfield 107, 3) := by decide +kernel
theorem dX8_opens_4 : decode mX8_opens.2.1 4 = .ok (.bipush 6, 2) := by decide +kernel
theorem dX8_opens_6 : decode mX8_opens.2.1 6 = .ok (.if_icmp .ne 7, 3) := by decide +kernel
theorem dX8_opens_9 : decode mX8_opens.2.1 9 = .ok (.aload_n 0, 1) := by decide +kernel
theorem dX8_opens_10 : decode mX8_opens.2.1 10 = .ok (.invokevirtual 110, 3) := by decide +kernel
theorem dX8_opens_13 : decode mX8_opens.2.1 13 = .ok (.aload_n 0, 1) := by decide +kernel
theorem dX8_opens_14 : decode mX8_opens.2.1 14 = .ok (.dup, 1) := by decide +kernel
theorem dX8_opens_15 : decode mX8_opens.2.1 15 = .ok (.getfield 107, 3) := by decide +kernel
theorem dX8_opens_18 : decode mX8_opens.2.1 18 = .ok (.iconst 1, 1) := by decide +kernel
theorem dX8_opens_19 : decode mX8_opens.2.1 19 = .ok (.iadd, 1) := by decide +kernel
theorem dX8_opens_20 : decode mX8_opens.2.1 20 = .ok (.putfield 107, 3) := by decide +kernel
theorem dX8_opens_23 : decode mX8_opens.2.1 23 = .ok (.aload_n 0, 1) := by decide +kernel
theorem dX8_opens_24 : decode mX8_opens.2.1 24 = .ok (.dup, 1) := by decide +kernel
theorem dX8_opens_25 : decode mX8_opens.2.1 25 = .ok (.getfield 90, 3) := by decide +kernel
theorem dX8_opens_28 : decode mX8_opens.2.1 28 = .ok (.iconst 1, 1) := by decide +kernel
theorem dX8_opens_29 : decode mX8_opens.2.1 29 = .ok (.iadd, 1) := by decide +kernel
theorem dX8_opens_30 : decode mX8_opens.2.1 30 = .ok (.putfield 90, 3) := by decide +kernel
theorem dX8_opens_33 : decode mX8_opens.2.1 33 = .ok (.return_, 1) := by decide +kernel
theorem dX8_closes_0 : decode mX8_closes.2.1 0 = .ok (.aload_n 0, 1) := by decide +kernel
theorem dX8_closes_1 : decode mX8_closes.2.1 1 = .ok (.getfield 97, 3) := by decide +kernel
theorem dX8_closes_4 : decode mX8_closes.2.1 4 = .ok (.iconst (-1), 1) := by decide +kernel
theorem dX8_closes_5 : decode mX8_closes.2.1 5 = .ok (.if_icmp .ne 15, 3) := by decide +kernel
theorem dX8_closes_8 : decode mX8_closes.2.1 8 = .ok (.aload_n 0, 1) := by decide +kernel
theorem dX8_closes_9 : decode mX8_closes.2.1 9 = .ok (.invokevirtual 113, 3) := by decide +kernel
theorem dX8_closes_12 : decode mX8_closes.2.1 12 = .ok (.iload_n 1, 1) := by decide +kernel
theorem dX8_closes_13 : decode mX8_closes.2.1 13 = .ok (.if_icmp .eq 7, 3) := by decide +kernel
theorem dX8_closes_16 : decode mX8_closes.2.1 16 = .ok (.aload_n 0, 1) := by decide +kernel
theorem dX8_closes_17 : decode mX8_closes.2.1 17 = .ok (.invokevirtual 110, 3) := by decide +kernel
theorem dX8_closes_20 : decode mX8_closes.2.1 20 = .ok (.aload_n 0, 1) := by decide +kernel
theorem dX8_closes_21 : decode mX8_closes.2.1 21 = .ok (.dup, 1) := by decide +kernel
theorem dX8_closes_22 : decode mX8_closes.2.1 22 = .ok (.getfield 90, 3) := by decide +kernel
theorem dX8_closes_25 : decode mX8_closes.2.1 25 = .ok (.iconst 1, 1) := by decide +kernel
theorem dX8_closes_26 : decode mX8_closes.2.1 26 = .ok (.iadd, 1) := by decide +kernel
theorem dX8_closes_27 : decode mX8_closes.2.1 27 = .ok (.putfield 90, 3) := by decide +kernel
theorem dX8_closes_30 : decode mX8_closes.2.1 30 = .ok (.aload_n 0, 1) := by decide +kernel
theorem dX8_closes_31 : decode mX8_closes.2.1 31 = .ok (.dup, 1) := by decide +kernel
theorem dX8_closes_32 : decode mX8_closes.2.1 32 = .ok (.getfield 107, 3) := by decide +kernel
theorem dX8_closes_35 : decode mX8_closes.2.1 35 = .ok (.iconst 1, 1) := by decide +kernel
theorem dX8_closes_36 : decode mX8_closes.2.1 36 = .ok (.isub, 1) := by decide +kernel
theorem dX8_closes_37 : decode mX8_closes.2.1 37 = .ok (.putfield 107, 3) := by decide +kernel
theorem dX8_closes_40 : decode mX8_closes.2.1 40 = .ok (.return_, 1) := by decide +kernel
theorem dX8_plainNumber_0 : decode mX8_plainNumber.2.1 0 = .ok (.iconst 0, 1) := by decide +kernel
theorem dX8_plainNumber_1 : decode mX8_plainNumber.2.1 1 = .ok (.istore_n 1, 1) := by decide +kernel
theorem dX8_plainNumber_2 : decode mX8_plainNumber.2.1 2 = .ok (.iconst 0, 1) := by decide +kernel
theorem dX8_plainNumber_3 : decode mX8_plainNumber.2.1 3 = .ok (.istore_n 2, 1) := by decide +kernel
theorem dX8_plainNumber_4 : decode mX8_plainNumber.2.1 4 = .ok (.iload_n 2, 1) := by decide +kernel
theorem dX8_plainNumber_5 : decode mX8_plainNumber.2.1 5 = .ok (.iconst 4, 1) := by decide +kernel
theorem dX8_plainNumber_6 : decode mX8_plainNumber.2.1 6 = .ok (.if_icmp .ge 42, 3) := by decide +kernel
theorem dX8_plainNumber_9 : decode mX8_plainNumber.2.1 9 = .ok (.aload_n 0, 1) := by decide +kernel
theorem dX8_plainNumber_10 : decode mX8_plainNumber.2.1 10 = .ok (.invokevirtual 93, 3) := by decide +kernel
theorem dX8_plainNumber_13 : decode mX8_plainNumber.2.1 13 = .ok (.invokestatic 116, 3) := by decide +kernel
theorem dX8_plainNumber_16 : decode mX8_plainNumber.2.1 16 = .ok (.ifCond .eq 32, 3) := by decide +kernel
theorem dX8_plainNumber_19 : decode mX8_plainNumber.2.1 19 = .ok (.bipush 10, 2) := by decide +kernel
theorem dX8_plainNumber_21 : decode mX8_plainNumber.2.1 21 = .ok (.iload_n 1, 1) := by decide +kernel
theorem dX8_plainNumber_22 : decode mX8_plainNumber.2.1 22 = .ok (.imul, 1) := by decide +kernel
theorem dX8_plainNumber_23 : decode mX8_plainNumber.2.1 23 = .ok (.aload_n 0, 1) := by decide +kernel
theorem dX8_plainNumber_24 : decode mX8_plainNumber.2.1 24 = .ok (.invokevirtual 93, 3) := by decide +kernel
theorem dX8_plainNumber_27 : decode mX8_plainNumber.2.1 27 = .ok (.iadd, 1) := by decide +kernel
theorem dX8_plainNumber_28 : decode mX8_plainNumber.2.1 28 = .ok (.bipush 48, 2) := by decide +kernel
theorem dX8_plainNumber_30 : decode mX8_plainNumber.2.1 30 = .ok (.isub, 1) := by decide +kernel
theorem dX8_plainNumber_31 : decode mX8_plainNumber.2.1 31 = .ok (.istore_n 1, 1) := by decide +kernel
theorem dX8_plainNumber_32 : decode mX8_plainNumber.2.1 32 = .ok (.aload_n 0, 1) := by decide +kernel
theorem dX8_plainNumber_33 : decode mX8_plainNumber.2.1 33 = .ok (.dup, 1) := by decide +kernel
theorem dX8_plainNumber_34 : decode mX8_plainNumber.2.1 34 = .ok (.getfield 90, 3) := by decide +kernel
theorem dX8_plainNumber_37 : decode mX8_plainNumber.2.1 37 = .ok (.iconst 1, 1) := by decide +kernel
theorem dX8_plainNumber_38 : decode mX8_plainNumber.2.1 38 = .ok (.iadd, 1) := by decide +kernel
theorem dX8_plainNumber_39 : decode mX8_plainNumber.2.1 39 = .ok (.putfield 90, 3) := by decide +kernel
theorem dX8_plainNumber_42 : decode mX8_plainNumber.2.1 42 = .ok (.iinc 2 1, 3) := by decide +kernel
theorem dX8_plainNumber_45 : decode mX8_plainNumber.2.1 45 = .ok (.goto (-41), 3) := by decide +kernel
theorem dX8_plainNumber_48 : decode mX8_plainNumber.2.1 48 = .ok (.aload_n 0, 1) := by decide +kernel
theorem dX8_plainNumber_49 : decode mX8_plainNumber.2.1 49 = .ok (.invokevirtual 93, 3) := by decide +kernel
theorem dX8_plainNumber_52 : decode mX8_plainNumber.2.1 52 = .ok (.invokestatic 116, 3) := by decide +kernel
theorem dX8_plainNumber_55 : decode mX8_plainNumber.2.1 55 = .ok (.ifCond .eq 7, 3) := by decide +kernel
theorem dX8_plainNumber_58 : decode mX8_plainNumber.2.1 58 = .ok (.aload_n 0, 1) := by decide +kernel
theorem dX8_plainNumber_59 : decode mX8_plainNumber.2.1 59 = .ok (.invokevirtual 110, 3) := by decide +kernel
theorem dX8_plainNumber_62 : decode mX8_plainNumber.2.1 62 = .ok (.iload_n 1, 1) := by decide +kernel
theorem dX8_plainNumber_63 : decode mX8_plainNumber.2.1 63 = .ok (.ireturn, 1) := by decide +kernel
theorem dX8_atom_0 : decode mX8_atom.2.1 0 = .ok (.aload_n 0, 1) := by decide +kernel
theorem dX8_atom_1 : decode mX8_atom.2.1 1 = .ok (.invokevirtual 113, 3) := by decide +kernel
theorem dX8_atom_4 : decode mX8_atom.2.1 4 = .ok (.istore_n 1, 1) := by decide +kernel
theorem dX8_atom_5 : decode mX8_atom.2.1 5 = .ok (.iload_n 1, 1) := by decide +kernel
theorem dX8_atom_6 : decode mX8_atom.2.1 6 = .ok (.invokestatic 116, 3) := by decide +kernel
theorem dX8_atom_9 : decode mX8_atom.2.1 9 = .ok (.ifCond .eq 15, 3) := by decide +kernel
theorem dX8_atom_12 : decode mX8_atom.2.1 12 = .ok (.aload_n 0, 1) := by decide +kernel
theorem dX8_atom_13 : decode mX8_atom.2.1 13 = .ok (.iconst 0, 1) := by decide +kernel
theorem dX8_atom_14 : decode mX8_atom.2.1 14 = .ok (.aload_n 0, 1) := by decide +kernel
theorem dX8_atom_15 : decode mX8_atom.2.1 15 = .ok (.invokevirtual 120, 3) := by decide +kernel
theorem dX8_atom_18 : decode mX8_atom.2.1 18 = .ok (.invokevirtual 123, 3) := by decide +kernel
theorem dX8_atom_21 : decode mX8_atom.2.1 21 = .ok (.goto 70, 3) := by decide +kernel
theorem dX8_atom_24 : decode mX8_atom.2.1 24 = .ok (.aload_n 0, 1) := by decide +kernel
theorem dX8_atom_25 : decode mX8_atom.2.1 25 = .ok (.iload_n 1, 1) := by decide +kernel
theorem dX8_atom_26 : decode mX8_atom.2.1 26 = .ok (.invokevirtual 127, 3) := by decide +kernel
theorem dX8_atom_29 : decode mX8_atom.2.1 29 = .ok (.iconst (-1), 1) := by decide +kernel
theorem dX8_atom_30 : decode mX8_atom.2.1 30 = .ok (.if_icmp .eq 26, 3) := by decide +kernel
theorem dX8_atom_33 : decode mX8_atom.2.1 33 = .ok (.aload_n 0, 1) := by decide +kernel
theorem dX8_atom_34 : decode mX8_atom.2.1 34 = .ok (.dup, 1) := by decide +kernel
theorem dX8_atom_35 : decode mX8_atom.2.1 35 = .ok (.getfield 90, 3) := by decide +kernel
theorem dX8_atom_38 : decode mX8_atom.2.1 38 = .ok (.iconst 1, 1) := by decide +kernel
theorem dX8_atom_39 : decode mX8_atom.2.1 39 = .ok (.iadd, 1) := by decide +kernel
theorem dX8_atom_40 : decode mX8_atom.2.1 40 = .ok (.putfield 90, 3) := by decide +kernel
theorem dX8_atom_43 : decode mX8_atom.2.1 43 = .ok (.aload_n 0, 1) := by decide +kernel
theorem dX8_atom_44 : decode mX8_atom.2.1 44 = .ok (.iconst 1, 1) := by decide +kernel
theorem dX8_atom_45 : decode mX8_atom.2.1 45 = .ok (.aload_n 0, 1) := by decide +kernel
theorem dX8_atom_46 : decode mX8_atom.2.1 46 = .ok (.iload_n 1, 1) := by decide +kernel
theorem dX8_atom_47 : decode mX8_atom.2.1 47 = .ok (.invokevirtual 127, 3) := by decide +kernel
theorem dX8_atom_50 : decode mX8_atom.2.1 50 = .ok (.invokevirtual 123, 3) := by decide +kernel
theorem dX8_atom_53 : decode mX8_atom.2.1 53 = .ok (.goto 38, 3) := by decide +kernel
theorem dX8_atom_56 : decode mX8_atom.2.1 56 = .ok (.iload_n 1, 1) := by decide +kernel
theorem dX8_atom_57 : decode mX8_atom.2.1 57 = .ok (.bipush 91, 2) := by decide +kernel
theorem dX8_atom_59 : decode mX8_atom.2.1 59 = .ok (.if_icmp .ne 28, 3) := by decide +kernel
theorem dX8_atom_62 : decode mX8_atom.2.1 62 = .ok (.aload_n 0, 1) := by decide +kernel
theorem dX8_atom_63 : decode mX8_atom.2.1 63 = .ok (.invokevirtual 131, 3) := by decide +kernel
theorem dX8_atom_66 : decode mX8_atom.2.1 66 = .ok (.aload_n 0, 1) := by decide +kernel
theorem dX8_atom_67 : decode mX8_atom.2.1 67 = .ok (.getfield 97, 3) := by decide +kernel
theorem dX8_atom_70 : decode mX8_atom.2.1 70 = .ok (.iconst (-1), 1) := by decide +kernel
theorem dX8_atom_71 : decode mX8_atom.2.1 71 = .ok (.if_icmp .ne 20, 3) := by decide +kernel
theorem dX8_atom_74 : decode mX8_atom.2.1 74 = .ok (.aload_n 0, 1) := by decide +kernel
theorem dX8_atom_75 : decode mX8_atom.2.1 75 = .ok (.invokevirtual 134, 3) := by decide +kernel
theorem dX8_atom_78 : decode mX8_atom.2.1 78 = .ok (.aload_n 0, 1) := by decide +kernel
theorem dX8_atom_79 : decode mX8_atom.2.1 79 = .ok (.bipush 93, 2) := by decide +kernel
theorem dX8_atom_81 : decode mX8_atom.2.1 81 = .ok (.invokevirtual 137, 3) := by decide +kernel
theorem dX8_atom_84 : decode mX8_atom.2.1 84 = .ok (.goto 7, 3) := by decide +kernel
theorem dX8_atom_87 : decode mX8_atom.2.1 87 = .ok (.aload_n 0, 1) := by decide +kernel
theorem dX8_atom_88 : decode mX8_atom.2.1 88 = .ok (.invokevirtual 110, 3) := by decide +kernel
theorem dX8_atom_91 : decode mX8_atom.2.1 91 = .ok (.return_, 1) := by decide +kernel
theorem dX8_term_0 : decode mX8_term.2.1 0 = .ok (.aload_n 0, 1) := by decide +kernel
theorem dX8_term_1 : decode mX8_term.2.1 1 = .ok (.invokevirtual 141, 3) := by decide +kernel
theorem dX8_term_4 : decode mX8_term.2.1 4 = .ok (.aload_n 0, 1) := by decide +kernel
theorem dX8_term_5 : decode mX8_term.2.1 5 = .ok (.getfield 97, 3) := by decide +kernel
theorem dX8_term_8 : decode mX8_term.2.1 8 = .ok (.iconst (-1), 1) := by decide +kernel
theorem dX8_term_9 : decode mX8_term.2.1 9 = .ok (.if_icmp .ne 10, 3) := by decide +kernel
theorem dX8_term_12 : decode mX8_term.2.1 12 = .ok (.aload_n 0, 1) := by decide +kernel
theorem dX8_term_13 : decode mX8_term.2.1 13 = .ok (.invokevirtual 113, 3) := by decide +kernel
theorem dX8_term_16 : decode mX8_term.2.1 16 = .ok (.goto 4, 3) := by decide +kernel
theorem dX8_term_19 : decode mX8_term.2.1 19 = .ok (.iconst (-1), 1) := by decide +kernel
theorem dX8_term_20 : decode mX8_term.2.1 20 = .ok (.istore_n 1, 1) := by decide +kernel
theorem dX8_term_21 : decode mX8_term.2.1 21 = .ok (.iload_n 1, 1) := by decide +kernel
theorem dX8_term_22 : decode mX8_term.2.1 22 = .ok (.bipush 42, 2) := by decide +kernel
theorem dX8_term_24 : decode mX8_term.2.1 24 = .ok (.if_icmp .eq 9, 3) := by decide +kernel
theorem dX8_term_27 : decode mX8_term.2.1 27 = .ok (.iload_n 1, 1) := by decide +kernel
theorem dX8_term_28 : decode mX8_term.2.1 28 = .ok (.bipush 47, 2) := by decide +kernel
theorem dX8_term_30 : decode mX8_term.2.1 30 = .ok (.if_icmp .ne 53, 3) := by decide +kernel
theorem dX8_term_33 : decode mX8_term.2.1 33 = .ok (.aload_n 0, 1) := by decide +kernel
theorem dX8_term_34 : decode mX8_term.2.1 34 = .ok (.dup, 1) := by decide +kernel
theorem dX8_term_35 : decode mX8_term.2.1 35 = .ok (.getfield 90, 3) := by decide +kernel
theorem dX8_term_38 : decode mX8_term.2.1 38 = .ok (.iconst 1, 1) := by decide +kernel
theorem dX8_term_39 : decode mX8_term.2.1 39 = .ok (.iadd, 1) := by decide +kernel
theorem dX8_term_40 : decode mX8_term.2.1 40 = .ok (.putfield 90, 3) := by decide +kernel
theorem dX8_term_43 : decode mX8_term.2.1 43 = .ok (.aload_n 0, 1) := by decide +kernel
theorem dX8_term_44 : decode mX8_term.2.1 44 = .ok (.invokevirtual 141, 3) := by decide +kernel
theorem dX8_term_47 : decode mX8_term.2.1 47 = .ok (.aload_n 0, 1) := by decide +kernel
theorem dX8_term_48 : decode mX8_term.2.1 48 = .ok (.iload_n 1, 1) := by decide +kernel
theorem dX8_term_49 : decode mX8_term.2.1 49 = .ok (.bipush 42, 2) := by decide +kernel
theorem dX8_term_51 : decode mX8_term.2.1 51 = .ok (.if_icmp .ne 7, 3) := by decide +kernel
theorem dX8_term_54 : decode mX8_term.2.1 54 = .ok (.iconst 4, 1) := by decide +kernel
theorem dX8_term_55 : decode mX8_term.2.1 55 = .ok (.goto 4, 3) := by decide +kernel
theorem dX8_term_58 : decode mX8_term.2.1 58 = .ok (.iconst 5, 1) := by decide +kernel
theorem dX8_term_59 : decode mX8_term.2.1 59 = .ok (.iconst 0, 1) := by decide +kernel
theorem dX8_term_60 : decode mX8_term.2.1 60 = .ok (.invokevirtual 123, 3) := by decide +kernel
theorem dX8_term_63 : decode mX8_term.2.1 63 = .ok (.aload_n 0, 1) := by decide +kernel
theorem dX8_term_64 : decode mX8_term.2.1 64 = .ok (.getfield 97, 3) := by decide +kernel
theorem dX8_term_67 : decode mX8_term.2.1 67 = .ok (.iconst (-1), 1) := by decide +kernel
theorem dX8_term_68 : decode mX8_term.2.1 68 = .ok (.if_icmp .ne 10, 3) := by decide +kernel
theorem dX8_term_71 : decode mX8_term.2.1 71 = .ok (.aload_n 0, 1) := by decide +kernel
theorem dX8_term_72 : decode mX8_term.2.1 72 = .ok (.invokevirtual 113, 3) := by decide +kernel
theorem dX8_term_75 : decode mX8_term.2.1 75 = .ok (.goto 4, 3) := by decide +kernel
theorem dX8_term_78 : decode mX8_term.2.1 78 = .ok (.iconst (-1), 1) := by decide +kernel
theorem dX8_term_79 : decode mX8_term.2.1 79 = .ok (.istore_n 1, 1) := by decide +kernel
theorem dX8_term_80 : decode mX8_term.2.1 80 = .ok (.goto (-59), 3) := by decide +kernel
theorem dX8_term_83 : decode mX8_term.2.1 83 = .ok (.return_, 1) := by decide +kernel
theorem dX8_sum_0 : decode mX8_sum.2.1 0 = .ok (.aload_n 0, 1) := by decide +kernel
theorem dX8_sum_1 : decode mX8_sum.2.1 1 = .ok (.invokevirtual 144, 3) := by decide +kernel
theorem dX8_sum_4 : decode mX8_sum.2.1 4 = .ok (.aload_n 0, 1) := by decide +kernel
theorem dX8_sum_5 : decode mX8_sum.2.1 5 = .ok (.getfield 97, 3) := by decide +kernel
theorem dX8_sum_8 : decode mX8_sum.2.1 8 = .ok (.iconst (-1), 1) := by decide +kernel
theorem dX8_sum_9 : decode mX8_sum.2.1 9 = .ok (.if_icmp .ne 10, 3) := by decide +kernel
theorem dX8_sum_12 : decode mX8_sum.2.1 12 = .ok (.aload_n 0, 1) := by decide +kernel
theorem dX8_sum_13 : decode mX8_sum.2.1 13 = .ok (.invokevirtual 113, 3) := by decide +kernel
theorem dX8_sum_16 : decode mX8_sum.2.1 16 = .ok (.goto 4, 3) := by decide +kernel
theorem dX8_sum_19 : decode mX8_sum.2.1 19 = .ok (.iconst (-1), 1) := by decide +kernel
theorem dX8_sum_20 : decode mX8_sum.2.1 20 = .ok (.istore_n 1, 1) := by decide +kernel
theorem dX8_sum_21 : decode mX8_sum.2.1 21 = .ok (.iload_n 1, 1) := by decide +kernel
theorem dX8_sum_22 : decode mX8_sum.2.1 22 = .ok (.bipush 43, 2) := by decide +kernel
theorem dX8_sum_24 : decode mX8_sum.2.1 24 = .ok (.if_icmp .eq 9, 3) := by decide +kernel
theorem dX8_sum_27 : decode mX8_sum.2.1 27 = .ok (.iload_n 1, 1) := by decide +kernel
theorem dX8_sum_28 : decode mX8_sum.2.1 28 = .ok (.bipush 45, 2) := by decide +kernel
theorem dX8_sum_30 : decode mX8_sum.2.1 30 = .ok (.if_icmp .ne 53, 3) := by decide +kernel
theorem dX8_sum_33 : decode mX8_sum.2.1 33 = .ok (.aload_n 0, 1) := by decide +kernel
theorem dX8_sum_34 : decode mX8_sum.2.1 34 = .ok (.dup, 1) := by decide +kernel
theorem dX8_sum_35 : decode mX8_sum.2.1 35 = .ok (.getfield 90, 3) := by decide +kernel
theorem dX8_sum_38 : decode mX8_sum.2.1 38 = .ok (.iconst 1, 1) := by decide +kernel
theorem dX8_sum_39 : decode mX8_sum.2.1 39 = .ok (.iadd, 1) := by decide +kernel
theorem dX8_sum_40 : decode mX8_sum.2.1 40 = .ok (.putfield 90, 3) := by decide +kernel
theorem dX8_sum_43 : decode mX8_sum.2.1 43 = .ok (.aload_n 0, 1) := by decide +kernel
theorem dX8_sum_44 : decode mX8_sum.2.1 44 = .ok (.invokevirtual 144, 3) := by decide +kernel
theorem dX8_sum_47 : decode mX8_sum.2.1 47 = .ok (.aload_n 0, 1) := by decide +kernel
theorem dX8_sum_48 : decode mX8_sum.2.1 48 = .ok (.iload_n 1, 1) := by decide +kernel
theorem dX8_sum_49 : decode mX8_sum.2.1 49 = .ok (.bipush 43, 2) := by decide +kernel
theorem dX8_sum_51 : decode mX8_sum.2.1 51 = .ok (.if_icmp .ne 7, 3) := by decide +kernel
theorem dX8_sum_54 : decode mX8_sum.2.1 54 = .ok (.iconst 2, 1) := by decide +kernel
theorem dX8_sum_55 : decode mX8_sum.2.1 55 = .ok (.goto 4, 3) := by decide +kernel
theorem dX8_sum_58 : decode mX8_sum.2.1 58 = .ok (.iconst 3, 1) := by decide +kernel
theorem dX8_sum_59 : decode mX8_sum.2.1 59 = .ok (.iconst 0, 1) := by decide +kernel
theorem dX8_sum_60 : decode mX8_sum.2.1 60 = .ok (.invokevirtual 123, 3) := by decide +kernel
theorem dX8_sum_63 : decode mX8_sum.2.1 63 = .ok (.aload_n 0, 1) := by decide +kernel
theorem dX8_sum_64 : decode mX8_sum.2.1 64 = .ok (.getfield 97, 3) := by decide +kernel
theorem dX8_sum_67 : decode mX8_sum.2.1 67 = .ok (.iconst (-1), 1) := by decide +kernel
theorem dX8_sum_68 : decode mX8_sum.2.1 68 = .ok (.if_icmp .ne 10, 3) := by decide +kernel
theorem dX8_sum_71 : decode mX8_sum.2.1 71 = .ok (.aload_n 0, 1) := by decide +kernel
theorem dX8_sum_72 : decode mX8_sum.2.1 72 = .ok (.invokevirtual 113, 3) := by decide +kernel
theorem dX8_sum_75 : decode mX8_sum.2.1 75 = .ok (.goto 4, 3) := by decide +kernel
theorem dX8_sum_78 : decode mX8_sum.2.1 78 = .ok (.iconst (-1), 1) := by decide +kernel
theorem dX8_sum_79 : decode mX8_sum.2.1 79 = .ok (.istore_n 1, 1) := by decide +kernel
theorem dX8_sum_80 : decode mX8_sum.2.1 80 = .ok (.goto (-59), 3) := by decide +kernel
theorem dX8_sum_83 : decode mX8_sum.2.1 83 = .ok (.return_, 1) := by decide +kernel
theorem dX8_isSign_0 : decode mX8_isSign.2.1 0 = .ok (.iload_n 0, 1) := by decide +kernel
theorem dX8_isSign_1 : decode mX8_isSign.2.1 1 = .ok (.bipush 61, 2) := by decide +kernel
theorem dX8_isSign_3 : decode mX8_isSign.2.1 3 = .ok (.if_icmp .eq 15, 3) := by decide +kernel
theorem dX8_isSign_6 : decode mX8_isSign.2.1 6 = .ok (.iload_n 0, 1) := by decide +kernel
theorem dX8_isSign_7 : decode mX8_isSign.2.1 7 = .ok (.bipush 60, 2) := by decide +kernel
theorem dX8_isSign_9 : decode mX8_isSign.2.1 9 = .ok (.if_icmp .eq 9, 3) := by decide +kernel
theorem dX8_isSign_12 : decode mX8_isSign.2.1 12 = .ok (.iload_n 0, 1) := by decide +kernel
theorem dX8_isSign_13 : decode mX8_isSign.2.1 13 = .ok (.bipush 62, 2) := by decide +kernel
theorem dX8_isSign_15 : decode mX8_isSign.2.1 15 = .ok (.if_icmp .ne 7, 3) := by decide +kernel
theorem dX8_isSign_18 : decode mX8_isSign.2.1 18 = .ok (.iconst 1, 1) := by decide +kernel
theorem dX8_isSign_19 : decode mX8_isSign.2.1 19 = .ok (.goto 4, 3) := by decide +kernel
theorem dX8_isSign_22 : decode mX8_isSign.2.1 22 = .ok (.iconst 0, 1) := by decide +kernel
theorem dX8_isSign_23 : decode mX8_isSign.2.1 23 = .ok (.ireturn, 1) := by decide +kernel
theorem dX8_compare_0 : decode mX8_compare.2.1 0 = .ok (.aload_n 0, 1) := by decide +kernel
theorem dX8_compare_1 : decode mX8_compare.2.1 1 = .ok (.getfield 97, 3) := by decide +kernel
theorem dX8_compare_4 : decode mX8_compare.2.1 4 = .ok (.iconst (-1), 1) := by decide +kernel
theorem dX8_compare_5 : decode mX8_compare.2.1 5 = .ok (.if_icmp .ne 10, 3) := by decide +kernel
theorem dX8_compare_8 : decode mX8_compare.2.1 8 = .ok (.aload_n 0, 1) := by decide +kernel
theorem dX8_compare_9 : decode mX8_compare.2.1 9 = .ok (.invokevirtual 113, 3) := by decide +kernel
theorem dX8_compare_12 : decode mX8_compare.2.1 12 = .ok (.goto 4, 3) := by decide +kernel
theorem dX8_compare_15 : decode mX8_compare.2.1 15 = .ok (.iconst (-1), 1) := by decide +kernel
theorem dX8_compare_16 : decode mX8_compare.2.1 16 = .ok (.istore_n 1, 1) := by decide +kernel
theorem dX8_compare_17 : decode mX8_compare.2.1 17 = .ok (.iload_n 1, 1) := by decide +kernel
theorem dX8_compare_18 : decode mX8_compare.2.1 18 = .ok (.invokestatic 147, 3) := by decide +kernel
theorem dX8_compare_21 : decode mX8_compare.2.1 21 = .ok (.ifCond .ne 8, 3) := by decide +kernel
theorem dX8_compare_24 : decode mX8_compare.2.1 24 = .ok (.aload_n 0, 1) := by decide +kernel
theorem dX8_compare_25 : decode mX8_compare.2.1 25 = .ok (.invokevirtual 110, 3) := by decide +kernel
theorem dX8_compare_28 : decode mX8_compare.2.1 28 = .ok (.return_, 1) := by decide +kernel
theorem dX8_compare_29 : decode mX8_compare.2.1 29 = .ok (.aload_n 0, 1) := by decide +kernel
theorem dX8_compare_30 : decode mX8_compare.2.1 30 = .ok (.dup, 1) := by decide +kernel
theorem dX8_compare_31 : decode mX8_compare.2.1 31 = .ok (.getfield 90, 3) := by decide +kernel
theorem dX8_compare_34 : decode mX8_compare.2.1 34 = .ok (.iconst 1, 1) := by decide +kernel
theorem dX8_compare_35 : decode mX8_compare.2.1 35 = .ok (.iadd, 1) := by decide +kernel
theorem dX8_compare_36 : decode mX8_compare.2.1 36 = .ok (.putfield 90, 3) := by decide +kernel
theorem dX8_compare_39 : decode mX8_compare.2.1 39 = .ok (.aload_n 0, 1) := by decide +kernel
theorem dX8_compare_40 : decode mX8_compare.2.1 40 = .ok (.invokevirtual 134, 3) := by decide +kernel
theorem dX8_compare_43 : decode mX8_compare.2.1 43 = .ok (.aload_n 0, 1) := by decide +kernel
theorem dX8_compare_44 : decode mX8_compare.2.1 44 = .ok (.iload_n 1, 1) := by decide +kernel
theorem dX8_compare_45 : decode mX8_compare.2.1 45 = .ok (.bipush 61, 2) := by decide +kernel
theorem dX8_compare_47 : decode mX8_compare.2.1 47 = .ok (.if_icmp .ne 8, 3) := by decide +kernel
theorem dX8_compare_50 : decode mX8_compare.2.1 50 = .ok (.bipush 6, 2) := by decide +kernel
theorem dX8_compare_52 : decode mX8_compare.2.1 52 = .ok (.goto 16, 3) := by decide +kernel
theorem dX8_compare_55 : decode mX8_compare.2.1 55 = .ok (.iload_n 1, 1) := by decide +kernel
theorem dX8_compare_56 : decode mX8_compare.2.1 56 = .ok (.bipush 60, 2) := by decide +kernel
theorem dX8_compare_58 : decode mX8_compare.2.1 58 = .ok (.if_icmp .ne 8, 3) := by decide +kernel
theorem dX8_compare_61 : decode mX8_compare.2.1 61 = .ok (.bipush 7, 2) := by decide +kernel
theorem dX8_compare_63 : decode mX8_compare.2.1 63 = .ok (.goto 5, 3) := by decide +kernel
theorem dX8_compare_66 : decode mX8_compare.2.1 66 = .ok (.bipush 8, 2) := by decide +kernel
theorem dX8_compare_68 : decode mX8_compare.2.1 68 = .ok (.iconst 0, 1) := by decide +kernel
theorem dX8_compare_69 : decode mX8_compare.2.1 69 = .ok (.invokevirtual 123, 3) := by decide +kernel
theorem dX8_compare_72 : decode mX8_compare.2.1 72 = .ok (.return_, 1) := by decide +kernel
theorem dX8_unit_0 : decode mX8_unit.2.1 0 = .ok (.aload_n 0, 1) := by decide +kernel
theorem dX8_unit_1 : decode mX8_unit.2.1 1 = .ok (.invokevirtual 113, 3) := by decide +kernel
theorem dX8_unit_4 : decode mX8_unit.2.1 4 = .ok (.istore_n 1, 1) := by decide +kernel
theorem dX8_unit_5 : decode mX8_unit.2.1 5 = .ok (.iload_n 1, 1) := by decide +kernel
theorem dX8_unit_6 : decode mX8_unit.2.1 6 = .ok (.bipush 33, 2) := by decide +kernel
theorem dX8_unit_8 : decode mX8_unit.2.1 8 = .ok (.if_icmp .ne 39, 3) := by decide +kernel
theorem dX8_unit_11 : decode mX8_unit.2.1 11 = .ok (.aload_n 0, 1) := by decide +kernel
theorem dX8_unit_12 : decode mX8_unit.2.1 12 = .ok (.invokevirtual 131, 3) := by decide +kernel
theorem dX8_unit_15 : decode mX8_unit.2.1 15 = .ok (.aload_n 0, 1) := by decide +kernel
theorem dX8_unit_16 : decode mX8_unit.2.1 16 = .ok (.getfield 97, 3) := by decide +kernel
theorem dX8_unit_19 : decode mX8_unit.2.1 19 = .ok (.iconst (-1), 1) := by decide +kernel
theorem dX8_unit_20 : decode mX8_unit.2.1 20 = .ok (.if_icmp .ne 74, 3) := by decide +kernel
theorem dX8_unit_23 : decode mX8_unit.2.1 23 = .ok (.aload_n 0, 1) := by decide +kernel
theorem dX8_unit_24 : decode mX8_unit.2.1 24 = .ok (.invokevirtual 150, 3) := by decide +kernel
theorem dX8_unit_27 : decode mX8_unit.2.1 27 = .ok (.aload_n 0, 1) := by decide +kernel
theorem dX8_unit_28 : decode mX8_unit.2.1 28 = .ok (.bipush 9, 2) := by decide +kernel
theorem dX8_unit_30 : decode mX8_unit.2.1 30 = .ok (.iconst 0, 1) := by decide +kernel
theorem dX8_unit_31 : decode mX8_unit.2.1 31 = .ok (.invokevirtual 123, 3) := by decide +kernel
theorem dX8_unit_34 : decode mX8_unit.2.1 34 = .ok (.aload_n 0, 1) := by decide +kernel
theorem dX8_unit_35 : decode mX8_unit.2.1 35 = .ok (.dup, 1) := by decide +kernel
theorem dX8_unit_36 : decode mX8_unit.2.1 36 = .ok (.getfield 107, 3) := by decide +kernel
theorem dX8_unit_39 : decode mX8_unit.2.1 39 = .ok (.iconst 1, 1) := by decide +kernel
theorem dX8_unit_40 : decode mX8_unit.2.1 40 = .ok (.isub, 1) := by decide +kernel
theorem dX8_unit_41 : decode mX8_unit.2.1 41 = .ok (.putfield 107, 3) := by decide +kernel
theorem dX8_unit_44 : decode mX8_unit.2.1 44 = .ok (.goto 50, 3) := by decide +kernel
theorem dX8_unit_47 : decode mX8_unit.2.1 47 = .ok (.iload_n 1, 1) := by decide +kernel
theorem dX8_unit_48 : decode mX8_unit.2.1 48 = .ok (.bipush 40, 2) := by decide +kernel
theorem dX8_unit_50 : decode mX8_unit.2.1 50 = .ok (.if_icmp .ne 28, 3) := by decide +kernel
theorem dX8_unit_53 : decode mX8_unit.2.1 53 = .ok (.aload_n 0, 1) := by decide +kernel
theorem dX8_unit_54 : decode mX8_unit.2.1 54 = .ok (.invokevirtual 131, 3) := by decide +kernel
theorem dX8_unit_57 : decode mX8_unit.2.1 57 = .ok (.aload_n 0, 1) := by decide +kernel
theorem dX8_unit_58 : decode mX8_unit.2.1 58 = .ok (.getfield 97, 3) := by decide +kernel
theorem dX8_unit_61 : decode mX8_unit.2.1 61 = .ok (.iconst (-1), 1) := by decide +kernel
theorem dX8_unit_62 : decode mX8_unit.2.1 62 = .ok (.if_icmp .ne 32, 3) := by decide +kernel
theorem dX8_unit_65 : decode mX8_unit.2.1 65 = .ok (.aload_n 0, 1) := by decide +kernel
theorem dX8_unit_66 : decode mX8_unit.2.1 66 = .ok (.invokevirtual 153, 3) := by decide +kernel
theorem dX8_unit_69 : decode mX8_unit.2.1 69 = .ok (.aload_n 0, 1) := by decide +kernel
theorem dX8_unit_70 : decode mX8_unit.2.1 70 = .ok (.bipush 41, 2) := by decide +kernel
theorem dX8_unit_72 : decode mX8_unit.2.1 72 = .ok (.invokevirtual 137, 3) := by decide +kernel
theorem dX8_unit_75 : decode mX8_unit.2.1 75 = .ok (.goto 19, 3) := by decide +kernel
theorem dX8_unit_78 : decode mX8_unit.2.1 78 = .ok (.aload_n 0, 1) := by decide +kernel
theorem dX8_unit_79 : decode mX8_unit.2.1 79 = .ok (.invokevirtual 134, 3) := by decide +kernel
theorem dX8_unit_82 : decode mX8_unit.2.1 82 = .ok (.aload_n 0, 1) := by decide +kernel
theorem dX8_unit_83 : decode mX8_unit.2.1 83 = .ok (.getfield 97, 3) := by decide +kernel
theorem dX8_unit_86 : decode mX8_unit.2.1 86 = .ok (.iconst (-1), 1) := by decide +kernel
theorem dX8_unit_87 : decode mX8_unit.2.1 87 = .ok (.if_icmp .ne 7, 3) := by decide +kernel
theorem dX8_unit_90 : decode mX8_unit.2.1 90 = .ok (.aload_n 0, 1) := by decide +kernel
theorem dX8_unit_91 : decode mX8_unit.2.1 91 = .ok (.invokevirtual 156, 3) := by decide +kernel
theorem dX8_unit_94 : decode mX8_unit.2.1 94 = .ok (.return_, 1) := by decide +kernel
theorem dX8_goOnAnd_0 : decode mX8_goOnAnd.2.1 0 = .ok (.aload_n 0, 1) := by decide +kernel
theorem dX8_goOnAnd_1 : decode mX8_goOnAnd.2.1 1 = .ok (.getfield 97, 3) := by decide +kernel
theorem dX8_goOnAnd_4 : decode mX8_goOnAnd.2.1 4 = .ok (.iconst (-1), 1) := by decide +kernel
theorem dX8_goOnAnd_5 : decode mX8_goOnAnd.2.1 5 = .ok (.if_icmp .ne 36, 3) := by decide +kernel
theorem dX8_goOnAnd_8 : decode mX8_goOnAnd.2.1 8 = .ok (.aload_n 0, 1) := by decide +kernel
theorem dX8_goOnAnd_9 : decode mX8_goOnAnd.2.1 9 = .ok (.invokevirtual 113, 3) := by decide +kernel
theorem dX8_goOnAnd_12 : decode mX8_goOnAnd.2.1 12 = .ok (.bipush 38, 2) := by decide +kernel
theorem dX8_goOnAnd_14 : decode mX8_goOnAnd.2.1 14 = .ok (.if_icmp .ne 27, 3) := by decide +kernel
theorem dX8_goOnAnd_17 : decode mX8_goOnAnd.2.1 17 = .ok (.aload_n 0, 1) := by decide +kernel
theorem dX8_goOnAnd_18 : decode mX8_goOnAnd.2.1 18 = .ok (.dup, 1) := by decide +kernel
theorem dX8_goOnAnd_19 : decode mX8_goOnAnd.2.1 19 = .ok (.getfield 90, 3) := by decide +kernel
theorem dX8_goOnAnd_22 : decode mX8_goOnAnd.2.1 22 = .ok (.iconst 1, 1) := by decide +kernel
theorem dX8_goOnAnd_23 : decode mX8_goOnAnd.2.1 23 = .ok (.iadd, 1) := by decide +kernel
theorem dX8_goOnAnd_24 : decode mX8_goOnAnd.2.1 24 = .ok (.putfield 90, 3) := by decide +kernel
theorem dX8_goOnAnd_27 : decode mX8_goOnAnd.2.1 27 = .ok (.aload_n 0, 1) := by decide +kernel
theorem dX8_goOnAnd_28 : decode mX8_goOnAnd.2.1 28 = .ok (.invokevirtual 150, 3) := by decide +kernel
theorem dX8_goOnAnd_31 : decode mX8_goOnAnd.2.1 31 = .ok (.aload_n 0, 1) := by decide +kernel
theorem dX8_goOnAnd_32 : decode mX8_goOnAnd.2.1 32 = .ok (.bipush 10, 2) := by decide +kernel
theorem dX8_goOnAnd_34 : decode mX8_goOnAnd.2.1 34 = .ok (.iconst 0, 1) := by decide +kernel
theorem dX8_goOnAnd_35 : decode mX8_goOnAnd.2.1 35 = .ok (.invokevirtual 123, 3) := by decide +kernel
theorem dX8_goOnAnd_38 : decode mX8_goOnAnd.2.1 38 = .ok (.goto (-38), 3) := by decide +kernel
theorem dX8_goOnAnd_41 : decode mX8_goOnAnd.2.1 41 = .ok (.return_, 1) := by decide +kernel
theorem dX8_goOnOr_0 : decode mX8_goOnOr.2.1 0 = .ok (.aload_n 0, 1) := by decide +kernel
theorem dX8_goOnOr_1 : decode mX8_goOnOr.2.1 1 = .ok (.getfield 97, 3) := by decide +kernel
theorem dX8_goOnOr_4 : decode mX8_goOnOr.2.1 4 = .ok (.iconst (-1), 1) := by decide +kernel
theorem dX8_goOnOr_5 : decode mX8_goOnOr.2.1 5 = .ok (.if_icmp .ne 40, 3) := by decide +kernel
theorem dX8_goOnOr_8 : decode mX8_goOnOr.2.1 8 = .ok (.aload_n 0, 1) := by decide +kernel
theorem dX8_goOnOr_9 : decode mX8_goOnOr.2.1 9 = .ok (.invokevirtual 113, 3) := by decide +kernel
theorem dX8_goOnOr_12 : decode mX8_goOnOr.2.1 12 = .ok (.bipush 124, 2) := by decide +kernel
theorem dX8_goOnOr_14 : decode mX8_goOnOr.2.1 14 = .ok (.if_icmp .ne 31, 3) := by decide +kernel
theorem dX8_goOnOr_17 : decode mX8_goOnOr.2.1 17 = .ok (.aload_n 0, 1) := by decide +kernel
theorem dX8_goOnOr_18 : decode mX8_goOnOr.2.1 18 = .ok (.dup, 1) := by decide +kernel
theorem dX8_goOnOr_19 : decode mX8_goOnOr.2.1 19 = .ok (.getfield 90, 3) := by decide +kernel
theorem dX8_goOnOr_22 : decode mX8_goOnOr.2.1 22 = .ok (.iconst 1, 1) := by decide +kernel
theorem dX8_goOnOr_23 : decode mX8_goOnOr.2.1 23 = .ok (.iadd, 1) := by decide +kernel
theorem dX8_goOnOr_24 : decode mX8_goOnOr.2.1 24 = .ok (.putfield 90, 3) := by decide +kernel
theorem dX8_goOnOr_27 : decode mX8_goOnOr.2.1 27 = .ok (.aload_n 0, 1) := by decide +kernel
theorem dX8_goOnOr_28 : decode mX8_goOnOr.2.1 28 = .ok (.invokevirtual 150, 3) := by decide +kernel
theorem dX8_goOnOr_31 : decode mX8_goOnOr.2.1 31 = .ok (.aload_n 0, 1) := by decide +kernel
theorem dX8_goOnOr_32 : decode mX8_goOnOr.2.1 32 = .ok (.invokevirtual 159, 3) := by decide +kernel
theorem dX8_goOnOr_35 : decode mX8_goOnOr.2.1 35 = .ok (.aload_n 0, 1) := by decide +kernel
theorem dX8_goOnOr_36 : decode mX8_goOnOr.2.1 36 = .ok (.bipush 11, 2) := by decide +kernel
theorem dX8_goOnOr_38 : decode mX8_goOnOr.2.1 38 = .ok (.iconst 0, 1) := by decide +kernel
theorem dX8_goOnOr_39 : decode mX8_goOnOr.2.1 39 = .ok (.invokevirtual 123, 3) := by decide +kernel
theorem dX8_goOnOr_42 : decode mX8_goOnOr.2.1 42 = .ok (.goto (-42), 3) := by decide +kernel
theorem dX8_goOnOr_45 : decode mX8_goOnOr.2.1 45 = .ok (.return_, 1) := by decide +kernel
theorem dX8_condition_0 : decode mX8_condition.2.1 0 = .ok (.aload_n 0, 1) := by decide +kernel
theorem dX8_condition_1 : decode mX8_condition.2.1 1 = .ok (.invokevirtual 150, 3) := by decide +kernel
theorem dX8_condition_4 : decode mX8_condition.2.1 4 = .ok (.aload_n 0, 1) := by decide +kernel
theorem dX8_condition_5 : decode mX8_condition.2.1 5 = .ok (.invokevirtual 159, 3) := by decide +kernel
theorem dX8_condition_8 : decode mX8_condition.2.1 8 = .ok (.aload_n 0, 1) := by decide +kernel
theorem dX8_condition_9 : decode mX8_condition.2.1 9 = .ok (.invokevirtual 162, 3) := by decide +kernel
theorem dX8_condition_12 : decode mX8_condition.2.1 12 = .ok (.return_, 1) := by decide +kernel
theorem dX8_clause_0 : decode mX8_clause.2.1 0 = .ok (.bipush 90, 2) := by decide +kernel
theorem dX8_clause_2 : decode mX8_clause.2.1 2 = .ok (.aload_n 0, 1) := by decide +kernel
theorem dX8_clause_3 : decode mX8_clause.2.1 3 = .ok (.getfield 100, 3) := by decide +kernel
theorem dX8_clause_6 : decode mX8_clause.2.1 6 = .ok (.imul, 1) := by decide +kernel
theorem dX8_clause_7 : decode mX8_clause.2.1 7 = .ok (.aload_n 0, 1) := by decide +kernel
theorem dX8_clause_8 : decode mX8_clause.2.1 8 = .ok (.getfield 22, 3) := by decide +kernel
theorem dX8_clause_11 : decode mX8_clause.2.1 11 = .ok (.aload_n 0, 1) := by decide +kernel
theorem dX8_clause_12 : decode mX8_clause.2.1 12 = .ok (.getfield 100, 3) := by decide +kernel
theorem dX8_clause_15 : decode mX8_clause.2.1 15 = .ok (.iaload, 1) := by decide +kernel
theorem dX8_clause_16 : decode mX8_clause.2.1 16 = .ok (.iadd, 1) := by decide +kernel
theorem dX8_clause_17 : decode mX8_clause.2.1 17 = .ok (.istore_n 1, 1) := by decide +kernel
theorem dX8_clause_18 : decode mX8_clause.2.1 18 = .ok (.aload_n 0, 1) := by decide +kernel
theorem dX8_clause_19 : decode mX8_clause.2.1 19 = .ok (.getfield 97, 3) := by decide +kernel
theorem dX8_clause_22 : decode mX8_clause.2.1 22 = .ok (.iconst (-1), 1) := by decide +kernel
theorem dX8_clause_23 : decode mX8_clause.2.1 23 = .ok (.if_icmp .ne 16, 3) := by decide +kernel
theorem dX8_clause_26 : decode mX8_clause.2.1 26 = .ok (.aload_n 0, 1) := by decide +kernel
theorem dX8_clause_27 : decode mX8_clause.2.1 27 = .ok (.invokevirtual 113, 3) := by decide +kernel
theorem dX8_clause_30 : decode mX8_clause.2.1 30 = .ok (.bipush 121, 2) := by decide +kernel
theorem dX8_clause_32 : decode mX8_clause.2.1 32 = .ok (.if_icmp .eq 7, 3) := by decide +kernel
theorem dX8_clause_35 : decode mX8_clause.2.1 35 = .ok (.aload_n 0, 1) := by decide +kernel
theorem dX8_clause_36 : decode mX8_clause.2.1 36 = .ok (.invokevirtual 110, 3) := by decide +kernel
theorem dX8_clause_39 : decode mX8_clause.2.1 39 = .ok (.aload_n 0, 1) := by decide +kernel
theorem dX8_clause_40 : decode mX8_clause.2.1 40 = .ok (.dup, 1) := by decide +kernel
theorem dX8_clause_41 : decode mX8_clause.2.1 41 = .ok (.getfield 90, 3) := by decide +kernel
theorem dX8_clause_44 : decode mX8_clause.2.1 44 = .ok (.iconst 1, 1) := by decide +kernel
theorem dX8_clause_45 : decode mX8_clause.2.1 45 = .ok (.iadd, 1) := by decide +kernel
theorem dX8_clause_46 : decode mX8_clause.2.1 46 = .ok (.putfield 90, 3) := by decide +kernel
theorem dX8_clause_49 : decode mX8_clause.2.1 49 = .ok (.aload_n 0, 1) := by decide +kernel
theorem dX8_clause_50 : decode mX8_clause.2.1 50 = .ok (.getfield 97, 3) := by decide +kernel
theorem dX8_clause_53 : decode mX8_clause.2.1 53 = .ok (.iconst (-1), 1) := by decide +kernel
theorem dX8_clause_54 : decode mX8_clause.2.1 54 = .ok (.if_icmp .ne 16, 3) := by decide +kernel
theorem dX8_clause_57 : decode mX8_clause.2.1 57 = .ok (.aload_n 0, 1) := by decide +kernel
theorem dX8_clause_58 : decode mX8_clause.2.1 58 = .ok (.invokevirtual 113, 3) := by decide +kernel
theorem dX8_clause_61 : decode mX8_clause.2.1 61 = .ok (.bipush 58, 2) := by decide +kernel
theorem dX8_clause_63 : decode mX8_clause.2.1 63 = .ok (.if_icmp .eq 7, 3) := by decide +kernel
theorem dX8_clause_66 : decode mX8_clause.2.1 66 = .ok (.aload_n 0, 1) := by decide +kernel
theorem dX8_clause_67 : decode mX8_clause.2.1 67 = .ok (.invokevirtual 110, 3) := by decide +kernel
theorem dX8_clause_70 : decode mX8_clause.2.1 70 = .ok (.aload_n 0, 1) := by decide +kernel
theorem dX8_clause_71 : decode mX8_clause.2.1 71 = .ok (.dup, 1) := by decide +kernel
theorem dX8_clause_72 : decode mX8_clause.2.1 72 = .ok (.getfield 90, 3) := by decide +kernel
theorem dX8_clause_75 : decode mX8_clause.2.1 75 = .ok (.iconst 1, 1) := by decide +kernel
theorem dX8_clause_76 : decode mX8_clause.2.1 76 = .ok (.iadd, 1) := by decide +kernel
theorem dX8_clause_77 : decode mX8_clause.2.1 77 = .ok (.putfield 90, 3) := by decide +kernel
theorem dX8_clause_80 : decode mX8_clause.2.1 80 = .ok (.aload_n 0, 1) := by decide +kernel
theorem dX8_clause_81 : decode mX8_clause.2.1 81 = .ok (.getfield 97, 3) := by decide +kernel
theorem dX8_clause_84 : decode mX8_clause.2.1 84 = .ok (.iconst (-1), 1) := by decide +kernel
theorem dX8_clause_85 : decode mX8_clause.2.1 85 = .ok (.if_icmp .eq 4, 3) := by decide +kernel
theorem dX8_clause_88 : decode mX8_clause.2.1 88 = .ok (.return_, 1) := by decide +kernel
theorem dX8_clause_89 : decode mX8_clause.2.1 89 = .ok (.aload_n 0, 1) := by decide +kernel
theorem dX8_clause_90 : decode mX8_clause.2.1 90 = .ok (.getfield 25, 3) := by decide +kernel
theorem dX8_clause_93 : decode mX8_clause.2.1 93 = .ok (.iload_n 1, 1) := by decide +kernel
theorem dX8_clause_94 : decode mX8_clause.2.1 94 = .ok (.aload_n 0, 1) := by decide +kernel
theorem dX8_clause_95 : decode mX8_clause.2.1 95 = .ok (.getfield 19, 3) := by decide +kernel
theorem dX8_clause_98 : decode mX8_clause.2.1 98 = .ok (.aload_n 0, 1) := by decide +kernel
theorem dX8_clause_99 : decode mX8_clause.2.1 99 = .ok (.getfield 100, 3) := by decide +kernel
theorem dX8_clause_102 : decode mX8_clause.2.1 102 = .ok (.iaload, 1) := by decide +kernel
theorem dX8_clause_103 : decode mX8_clause.2.1 103 = .ok (.iastore, 1) := by decide +kernel
theorem dX8_clause_104 : decode mX8_clause.2.1 104 = .ok (.aload_n 0, 1) := by decide +kernel
theorem dX8_clause_105 : decode mX8_clause.2.1 105 = .ok (.invokevirtual 113, 3) := by decide +kernel
theorem dX8_clause_108 : decode mX8_clause.2.1 108 = .ok (.bipush 33, 2) := by decide +kernel
theorem dX8_clause_110 : decode mX8_clause.2.1 110 = .ok (.if_icmp .eq 12, 3) := by decide +kernel
theorem dX8_clause_113 : decode mX8_clause.2.1 113 = .ok (.aload_n 0, 1) := by decide +kernel
theorem dX8_clause_114 : decode mX8_clause.2.1 114 = .ok (.invokevirtual 113, 3) := by decide +kernel
theorem dX8_clause_117 : decode mX8_clause.2.1 117 = .ok (.bipush 40, 2) := by decide +kernel
theorem dX8_clause_119 : decode mX8_clause.2.1 119 = .ok (.if_icmp .ne 7, 3) := by decide +kernel
theorem dX8_clause_122 : decode mX8_clause.2.1 122 = .ok (.iconst 1, 1) := by decide +kernel
theorem dX8_clause_123 : decode mX8_clause.2.1 123 = .ok (.goto 4, 3) := by decide +kernel
theorem dX8_clause_126 : decode mX8_clause.2.1 126 = .ok (.iconst 0, 1) := by decide +kernel
theorem dX8_clause_127 : decode mX8_clause.2.1 127 = .ok (.istore_n 2, 1) := by decide +kernel
theorem dX8_clause_128 : decode mX8_clause.2.1 128 = .ok (.iload_n 2, 1) := by decide +kernel
theorem dX8_clause_129 : decode mX8_clause.2.1 129 = .ok (.ifCond .eq 10, 3) := by decide +kernel
theorem dX8_clause_132 : decode mX8_clause.2.1 132 = .ok (.aload_n 0, 1) := by decide +kernel
theorem dX8_clause_133 : decode mX8_clause.2.1 133 = .ok (.invokevirtual 153, 3) := by decide +kernel
theorem dX8_clause_136 : decode mX8_clause.2.1 136 = .ok (.goto 47, 3) := by decide +kernel
theorem dX8_clause_139 : decode mX8_clause.2.1 139 = .ok (.aload_n 0, 1) := by decide +kernel
theorem dX8_clause_140 : decode mX8_clause.2.1 140 = .ok (.invokevirtual 134, 3) := by decide +kernel
theorem dX8_clause_143 : decode mX8_clause.2.1 143 = .ok (.aload_n 0, 1) := by decide +kernel
theorem dX8_clause_144 : decode mX8_clause.2.1 144 = .ok (.getfield 97, 3) := by decide +kernel
theorem dX8_clause_147 : decode mX8_clause.2.1 147 = .ok (.iconst (-1), 1) := by decide +kernel
theorem dX8_clause_148 : decode mX8_clause.2.1 148 = .ok (.if_icmp .ne 17, 3) := by decide +kernel
theorem dX8_clause_151 : decode mX8_clause.2.1 151 = .ok (.aload_n 0, 1) := by decide +kernel
theorem dX8_clause_152 : decode mX8_clause.2.1 152 = .ok (.invokevirtual 113, 3) := by decide +kernel
theorem dX8_clause_155 : decode mX8_clause.2.1 155 = .ok (.invokestatic 147, 3) := by decide +kernel
theorem dX8_clause_158 : decode mX8_clause.2.1 158 = .ok (.ifCond .eq 7, 3) := by decide +kernel
theorem dX8_clause_161 : decode mX8_clause.2.1 161 = .ok (.iconst 1, 1) := by decide +kernel
theorem dX8_clause_162 : decode mX8_clause.2.1 162 = .ok (.goto 4, 3) := by decide +kernel
theorem dX8_clause_165 : decode mX8_clause.2.1 165 = .ok (.iconst 0, 1) := by decide +kernel
theorem dX8_clause_166 : decode mX8_clause.2.1 166 = .ok (.istore_n 2, 1) := by decide +kernel
theorem dX8_clause_167 : decode mX8_clause.2.1 167 = .ok (.iload_n 2, 1) := by decide +kernel
theorem dX8_clause_168 : decode mX8_clause.2.1 168 = .ok (.ifCond .eq 15, 3) := by decide +kernel
theorem dX8_clause_171 : decode mX8_clause.2.1 171 = .ok (.aload_n 0, 1) := by decide +kernel
theorem dX8_clause_172 : decode mX8_clause.2.1 172 = .ok (.invokevirtual 156, 3) := by decide +kernel
theorem dX8_clause_175 : decode mX8_clause.2.1 175 = .ok (.aload_n 0, 1) := by decide +kernel
theorem dX8_clause_176 : decode mX8_clause.2.1 176 = .ok (.invokevirtual 159, 3) := by decide +kernel
theorem dX8_clause_179 : decode mX8_clause.2.1 179 = .ok (.aload_n 0, 1) := by decide +kernel
theorem dX8_clause_180 : decode mX8_clause.2.1 180 = .ok (.invokevirtual 162, 3) := by decide +kernel
theorem dX8_clause_183 : decode mX8_clause.2.1 183 = .ok (.aload_n 0, 1) := by decide +kernel
theorem dX8_clause_184 : decode mX8_clause.2.1 184 = .ok (.getfield 28, 3) := by decide +kernel
theorem dX8_clause_187 : decode mX8_clause.2.1 187 = .ok (.iload_n 1, 1) := by decide +kernel
theorem dX8_clause_188 : decode mX8_clause.2.1 188 = .ok (.aload_n 0, 1) := by decide +kernel
theorem dX8_clause_189 : decode mX8_clause.2.1 189 = .ok (.getfield 25, 3) := by decide +kernel
theorem dX8_clause_192 : decode mX8_clause.2.1 192 = .ok (.iload_n 1, 1) := by decide +kernel
theorem dX8_clause_193 : decode mX8_clause.2.1 193 = .ok (.iaload, 1) := by decide +kernel
theorem dX8_clause_194 : decode mX8_clause.2.1 194 = .ok (.iastore, 1) := by decide +kernel
theorem dX8_clause_195 : decode mX8_clause.2.1 195 = .ok (.iload_n 2, 1) := by decide +kernel
theorem dX8_clause_196 : decode mX8_clause.2.1 196 = .ok (.ifCond .eq 54, 3) := by decide +kernel
theorem dX8_clause_199 : decode mX8_clause.2.1 199 = .ok (.aload_n 0, 1) := by decide +kernel
theorem dX8_clause_200 : decode mX8_clause.2.1 200 = .ok (.getfield 97, 3) := by decide +kernel
theorem dX8_clause_203 : decode mX8_clause.2.1 203 = .ok (.iconst (-1), 1) := by decide +kernel
theorem dX8_clause_204 : decode mX8_clause.2.1 204 = .ok (.if_icmp .ne 46, 3) := by decide +kernel
theorem dX8_clause_207 : decode mX8_clause.2.1 207 = .ok (.aload_n 0, 1) := by decide +kernel
theorem dX8_clause_208 : decode mX8_clause.2.1 208 = .ok (.invokevirtual 113, 3) := by decide +kernel
theorem dX8_clause_211 : decode mX8_clause.2.1 211 = .ok (.bipush 63, 2) := by decide +kernel
theorem dX8_clause_213 : decode mX8_clause.2.1 213 = .ok (.if_icmp .eq 8, 3) := by decide +kernel
theorem dX8_clause_216 : decode mX8_clause.2.1 216 = .ok (.aload_n 0, 1) := by decide +kernel
theorem dX8_clause_217 : decode mX8_clause.2.1 217 = .ok (.invokevirtual 110, 3) := by decide +kernel
theorem dX8_clause_220 : decode mX8_clause.2.1 220 = .ok (.return_, 1) := by decide +kernel
theorem dX8_clause_221 : decode mX8_clause.2.1 221 = .ok (.aload_n 0, 1) := by decide +kernel
theorem dX8_clause_222 : decode mX8_clause.2.1 222 = .ok (.dup, 1) := by decide +kernel
theorem dX8_clause_223 : decode mX8_clause.2.1 223 = .ok (.getfield 90, 3) := by decide +kernel
theorem dX8_clause_226 : decode mX8_clause.2.1 226 = .ok (.iconst 1, 1) := by decide +kernel
theorem dX8_clause_227 : decode mX8_clause.2.1 227 = .ok (.iadd, 1) := by decide +kernel
theorem dX8_clause_228 : decode mX8_clause.2.1 228 = .ok (.putfield 90, 3) := by decide +kernel
theorem dX8_clause_231 : decode mX8_clause.2.1 231 = .ok (.aload_n 0, 1) := by decide +kernel
theorem dX8_clause_232 : decode mX8_clause.2.1 232 = .ok (.getfield 28, 3) := by decide +kernel
theorem dX8_clause_235 : decode mX8_clause.2.1 235 = .ok (.iload_n 1, 1) := by decide +kernel
theorem dX8_clause_236 : decode mX8_clause.2.1 236 = .ok (.aload_n 0, 1) := by decide +kernel
theorem dX8_clause_237 : decode mX8_clause.2.1 237 = .ok (.getfield 19, 3) := by decide +kernel
theorem dX8_clause_240 : decode mX8_clause.2.1 240 = .ok (.aload_n 0, 1) := by decide +kernel
theorem dX8_clause_241 : decode mX8_clause.2.1 241 = .ok (.getfield 100, 3) := by decide +kernel
theorem dX8_clause_244 : decode mX8_clause.2.1 244 = .ok (.iaload, 1) := by decide +kernel
theorem dX8_clause_245 : decode mX8_clause.2.1 245 = .ok (.iastore, 1) := by decide +kernel
theorem dX8_clause_246 : decode mX8_clause.2.1 246 = .ok (.aload_n 0, 1) := by decide +kernel
theorem dX8_clause_247 : decode mX8_clause.2.1 247 = .ok (.invokevirtual 134, 3) := by decide +kernel
theorem dX8_clause_250 : decode mX8_clause.2.1 250 = .ok (.aload_n 0, 1) := by decide +kernel
theorem dX8_clause_251 : decode mX8_clause.2.1 251 = .ok (.getfield 31, 3) := by decide +kernel
theorem dX8_clause_254 : decode mX8_clause.2.1 254 = .ok (.iload_n 1, 1) := by decide +kernel
theorem dX8_clause_255 : decode mX8_clause.2.1 255 = .ok (.aload_n 0, 1) := by decide +kernel
theorem dX8_clause_256 : decode mX8_clause.2.1 256 = .ok (.getfield 19, 3) := by decide +kernel
theorem dX8_clause_259 : decode mX8_clause.2.1 259 = .ok (.aload_n 0, 1) := by decide +kernel
theorem dX8_clause_260 : decode mX8_clause.2.1 260 = .ok (.getfield 100, 3) := by decide +kernel
theorem dX8_clause_263 : decode mX8_clause.2.1 263 = .ok (.iaload, 1) := by decide +kernel
theorem dX8_clause_264 : decode mX8_clause.2.1 264 = .ok (.iastore, 1) := by decide +kernel
theorem dX8_clause_265 : decode mX8_clause.2.1 265 = .ok (.aload_n 0, 1) := by decide +kernel
theorem dX8_clause_266 : decode mX8_clause.2.1 266 = .ok (.getfield 22, 3) := by decide +kernel
theorem dX8_clause_269 : decode mX8_clause.2.1 269 = .ok (.aload_n 0, 1) := by decide +kernel
theorem dX8_clause_270 : decode mX8_clause.2.1 270 = .ok (.getfield 100, 3) := by decide +kernel
theorem dX8_clause_273 : decode mX8_clause.2.1 273 = .ok (.dup2, 1) := by decide +kernel
theorem dX8_clause_274 : decode mX8_clause.2.1 274 = .ok (.iaload, 1) := by decide +kernel
theorem dX8_clause_275 : decode mX8_clause.2.1 275 = .ok (.iconst 1, 1) := by decide +kernel
theorem dX8_clause_276 : decode mX8_clause.2.1 276 = .ok (.iadd, 1) := by decide +kernel
theorem dX8_clause_277 : decode mX8_clause.2.1 277 = .ok (.iastore, 1) := by decide +kernel
theorem dX8_clause_278 : decode mX8_clause.2.1 278 = .ok (.return_, 1) := by decide +kernel
theorem dX8_open_0 : decode mX8_open.2.1 0 = .ok (.aload_n 0, 1) := by decide +kernel
theorem dX8_open_1 : decode mX8_open.2.1 1 = .ok (.iload_n 1, 1) := by decide +kernel
theorem dX8_open_2 : decode mX8_open.2.1 2 = .ok (.putfield 100, 3) := by decide +kernel
theorem dX8_open_5 : decode mX8_open.2.1 5 = .ok (.aload_n 0, 1) := by decide +kernel
theorem dX8_open_6 : decode mX8_open.2.1 6 = .ok (.iload_n 2, 1) := by decide +kernel
theorem dX8_open_7 : decode mX8_open.2.1 7 = .ok (.putfield 103, 3) := by decide +kernel
theorem dX8_open_10 : decode mX8_open.2.1 10 = .ok (.aload_n 0, 1) := by decide +kernel
theorem dX8_open_11 : decode mX8_open.2.1 11 = .ok (.iconst 0, 1) := by decide +kernel
theorem dX8_open_12 : decode mX8_open.2.1 12 = .ok (.putfield 90, 3) := by decide +kernel
theorem dX8_open_15 : decode mX8_open.2.1 15 = .ok (.aload_n 0, 1) := by decide +kernel
theorem dX8_open_16 : decode mX8_open.2.1 16 = .ok (.iconst (-1), 1) := by decide +kernel
theorem dX8_open_17 : decode mX8_open.2.1 17 = .ok (.putfield 97, 3) := by decide +kernel
theorem dX8_open_20 : decode mX8_open.2.1 20 = .ok (.aload_n 0, 1) := by decide +kernel
theorem dX8_open_21 : decode mX8_open.2.1 21 = .ok (.iconst 0, 1) := by decide +kernel
theorem dX8_open_22 : decode mX8_open.2.1 22 = .ok (.putfield 107, 3) := by decide +kernel
theorem dX8_open_25 : decode mX8_open.2.1 25 = .ok (.aload_n 0, 1) := by decide +kernel
theorem dX8_open_26 : decode mX8_open.2.1 26 = .ok (.getfield 19, 3) := by decide +kernel
theorem dX8_open_29 : decode mX8_open.2.1 29 = .ok (.iload_n 1, 1) := by decide +kernel
theorem dX8_open_30 : decode mX8_open.2.1 30 = .ok (.iconst 0, 1) := by decide +kernel
theorem dX8_open_31 : decode mX8_open.2.1 31 = .ok (.iastore, 1) := by decide +kernel
theorem dX8_open_32 : decode mX8_open.2.1 32 = .ok (.aload_n 0, 1) := by decide +kernel
theorem dX8_open_33 : decode mX8_open.2.1 33 = .ok (.getfield 22, 3) := by decide +kernel
theorem dX8_open_36 : decode mX8_open.2.1 36 = .ok (.iload_n 1, 1) := by decide +kernel
theorem dX8_open_37 : decode mX8_open.2.1 37 = .ok (.iconst 0, 1) := by decide +kernel
theorem dX8_open_38 : decode mX8_open.2.1 38 = .ok (.iastore, 1) := by decide +kernel
theorem dX8_open_39 : decode mX8_open.2.1 39 = .ok (.return_, 1) := by decide +kernel
theorem dX8_atEnd_0 : decode mX8_atEnd.2.1 0 = .ok (.aload_n 0, 1) := by decide +kernel
theorem dX8_atEnd_1 : decode mX8_atEnd.2.1 1 = .ok (.getfield 97, 3) := by decide +kernel
theorem dX8_atEnd_4 : decode mX8_atEnd.2.1 4 = .ok (.iconst (-1), 1) := by decide +kernel
theorem dX8_atEnd_5 : decode mX8_atEnd.2.1 5 = .ok (.if_icmp .ne 15, 3) := by decide +kernel
theorem dX8_atEnd_8 : decode mX8_atEnd.2.1 8 = .ok (.aload_n 0, 1) := by decide +kernel
theorem dX8_atEnd_9 : decode mX8_atEnd.2.1 9 = .ok (.invokevirtual 113, 3) := by decide +kernel
theorem dX8_atEnd_12 : decode mX8_atEnd.2.1 12 = .ok (.iconst (-1), 1) := by decide +kernel
theorem dX8_atEnd_13 : decode mX8_atEnd.2.1 13 = .ok (.if_icmp .eq 7, 3) := by decide +kernel
theorem dX8_atEnd_16 : decode mX8_atEnd.2.1 16 = .ok (.aload_n 0, 1) := by decide +kernel
theorem dX8_atEnd_17 : decode mX8_atEnd.2.1 17 = .ok (.invokevirtual 110, 3) := by decide +kernel
theorem dX8_atEnd_20 : decode mX8_atEnd.2.1 20 = .ok (.aload_n 0, 1) := by decide +kernel
theorem dX8_atEnd_21 : decode mX8_atEnd.2.1 21 = .ok (.getfield 97, 3) := by decide +kernel
theorem dX8_atEnd_24 : decode mX8_atEnd.2.1 24 = .ok (.ireturn, 1) := by decide +kernel
theorem dX8_readLaw_0 : decode mX8_readLaw.2.1 0 = .ok (.aload_n 0, 1) := by decide +kernel
theorem dX8_readLaw_1 : decode mX8_readLaw.2.1 1 = .ok (.iload_n 1, 1) := by decide +kernel
theorem dX8_readLaw_2 : decode mX8_readLaw.2.1 2 = .ok (.iconst 0, 1) := by decide +kernel
theorem dX8_readLaw_3 : decode mX8_readLaw.2.1 3 = .ok (.invokevirtual 165, 3) := by decide +kernel
theorem dX8_readLaw_6 : decode mX8_readLaw.2.1 6 = .ok (.aload_n 0, 1) := by decide +kernel
theorem dX8_readLaw_7 : decode mX8_readLaw.2.1 7 = .ok (.invokevirtual 169, 3) := by decide +kernel
theorem dX8_readLaw_10 : decode mX8_readLaw.2.1 10 = .ok (.aload_n 0, 1) := by decide +kernel
theorem dX8_readLaw_11 : decode mX8_readLaw.2.1 11 = .ok (.getfield 97, 3) := by decide +kernel
theorem dX8_readLaw_14 : decode mX8_readLaw.2.1 14 = .ok (.iconst (-1), 1) := by decide +kernel
theorem dX8_readLaw_15 : decode mX8_readLaw.2.1 15 = .ok (.if_icmp .ne 29, 3) := by decide +kernel
theorem dX8_readLaw_18 : decode mX8_readLaw.2.1 18 = .ok (.aload_n 0, 1) := by decide +kernel
theorem dX8_readLaw_19 : decode mX8_readLaw.2.1 19 = .ok (.invokevirtual 113, 3) := by decide +kernel
theorem dX8_readLaw_22 : decode mX8_readLaw.2.1 22 = .ok (.bipush 59, 2) := by decide +kernel
theorem dX8_readLaw_24 : decode mX8_readLaw.2.1 24 = .ok (.if_icmp .ne 20, 3) := by decide +kernel
theorem dX8_readLaw_27 : decode mX8_readLaw.2.1 27 = .ok (.aload_n 0, 1) := by decide +kernel
theorem dX8_readLaw_28 : decode mX8_readLaw.2.1 28 = .ok (.dup, 1) := by decide +kernel
theorem dX8_readLaw_29 : decode mX8_readLaw.2.1 29 = .ok (.getfield 90, 3) := by decide +kernel
theorem dX8_readLaw_32 : decode mX8_readLaw.2.1 32 = .ok (.iconst 1, 1) := by decide +kernel
theorem dX8_readLaw_33 : decode mX8_readLaw.2.1 33 = .ok (.iadd, 1) := by decide +kernel
theorem dX8_readLaw_34 : decode mX8_readLaw.2.1 34 = .ok (.putfield 90, 3) := by decide +kernel
theorem dX8_readLaw_37 : decode mX8_readLaw.2.1 37 = .ok (.aload_n 0, 1) := by decide +kernel
theorem dX8_readLaw_38 : decode mX8_readLaw.2.1 38 = .ok (.invokevirtual 169, 3) := by decide +kernel
theorem dX8_readLaw_41 : decode mX8_readLaw.2.1 41 = .ok (.goto (-31), 3) := by decide +kernel
theorem dX8_readLaw_44 : decode mX8_readLaw.2.1 44 = .ok (.aload_n 0, 1) := by decide +kernel
theorem dX8_readLaw_45 : decode mX8_readLaw.2.1 45 = .ok (.invokevirtual 172, 3) := by decide +kernel
theorem dX8_readLaw_48 : decode mX8_readLaw.2.1 48 = .ok (.ireturn, 1) := by decide +kernel
theorem dX8_readWant_0 : decode mX8_readWant.2.1 0 = .ok (.aload_n 0, 1) := by decide +kernel
theorem dX8_readWant_1 : decode mX8_readWant.2.1 1 = .ok (.iload_n 1, 1) := by decide +kernel
theorem dX8_readWant_2 : decode mX8_readWant.2.1 2 = .ok (.iconst 1, 1) := by decide +kernel
theorem dX8_readWant_3 : decode mX8_readWant.2.1 3 = .ok (.invokevirtual 165, 3) := by decide +kernel
theorem dX8_readWant_6 : decode mX8_readWant.2.1 6 = .ok (.aload_n 0, 1) := by decide +kernel
theorem dX8_readWant_7 : decode mX8_readWant.2.1 7 = .ok (.invokevirtual 153, 3) := by decide +kernel
theorem dX8_readWant_10 : decode mX8_readWant.2.1 10 = .ok (.aload_n 0, 1) := by decide +kernel
theorem dX8_readWant_11 : decode mX8_readWant.2.1 11 = .ok (.invokevirtual 172, 3) := by decide +kernel
theorem dX8_readWant_14 : decode mX8_readWant.2.1 14 = .ok (.ireturn, 1) := by decide +kernel
theorem dX8_bounded_0 : decode mX8_bounded.2.1 0 = .ok (.ldc2_w 175, 3) := by decide +kernel
theorem dX8_bounded_3 : decode mX8_bounded.2.1 3 = .ok (.ldc2_w 177, 3) := by decide +kernel
theorem dX8_bounded_6 : decode mX8_bounded.2.1 6 = .ok (.lload_n 0, 1) := by decide +kernel
theorem dX8_bounded_7 : decode mX8_bounded.2.1 7 = .ok (.invokestatic 179, 3) := by decide +kernel
theorem dX8_bounded_10 : decode mX8_bounded.2.1 10 = .ok (.invokestatic 185, 3) := by decide +kernel
theorem dX8_bounded_13 : decode mX8_bounded.2.1 13 = .ok (.l2i, 1) := by decide +kernel
theorem dX8_bounded_14 : decode mX8_bounded.2.1 14 = .ok (.ireturn, 1) := by decide +kernel
theorem dX8_worked_0 : decode mX8_worked.2.1 0 = .ok (.iload_n 0, 1) := by decide +kernel
theorem dX8_worked_1 : decode mX8_worked.2.1 1 = .ok (.tableswitch 143 2 10 #[51, 58, 65, 72, 89, 101, 113, 143, 125], 51) := by decide +kernel
theorem dX8_worked_52 : decode mX8_worked.2.1 52 = .ok (.lload_n 1, 1) := by decide +kernel
theorem dX8_worked_53 : decode mX8_worked.2.1 53 = .ok (.lload_n 3, 1) := by decide +kernel
theorem dX8_worked_54 : decode mX8_worked.2.1 54 = .ok (.ladd, 1) := by decide +kernel
theorem dX8_worked_55 : decode mX8_worked.2.1 55 = .ok (.invokestatic 188, 3) := by decide +kernel
theorem dX8_worked_58 : decode mX8_worked.2.1 58 = .ok (.ireturn, 1) := by decide +kernel
theorem dX8_worked_59 : decode mX8_worked.2.1 59 = .ok (.lload_n 1, 1) := by decide +kernel
theorem dX8_worked_60 : decode mX8_worked.2.1 60 = .ok (.lload_n 3, 1) := by decide +kernel
theorem dX8_worked_61 : decode mX8_worked.2.1 61 = .ok (.lsub, 1) := by decide +kernel
theorem dX8_worked_62 : decode mX8_worked.2.1 62 = .ok (.invokestatic 188, 3) := by decide +kernel
theorem dX8_worked_65 : decode mX8_worked.2.1 65 = .ok (.ireturn, 1) := by decide +kernel
theorem dX8_worked_66 : decode mX8_worked.2.1 66 = .ok (.lload_n 1, 1) := by decide +kernel
theorem dX8_worked_67 : decode mX8_worked.2.1 67 = .ok (.lload_n 3, 1) := by decide +kernel
theorem dX8_worked_68 : decode mX8_worked.2.1 68 = .ok (.lmul, 1) := by decide +kernel
theorem dX8_worked_69 : decode mX8_worked.2.1 69 = .ok (.invokestatic 188, 3) := by decide +kernel
theorem dX8_worked_72 : decode mX8_worked.2.1 72 = .ok (.ireturn, 1) := by decide +kernel
theorem dX8_worked_73 : decode mX8_worked.2.1 73 = .ok (.lload_n 3, 1) := by decide +kernel
theorem dX8_worked_74 : decode mX8_worked.2.1 74 = .ok (.lconst 0, 1) := by decide +kernel
theorem dX8_worked_75 : decode mX8_worked.2.1 75 = .ok (.lcmp, 1) := by decide +kernel
theorem dX8_worked_76 : decode mX8_worked.2.1 76 = .ok (.ifCond .ne 7, 3) := by decide +kernel
theorem dX8_worked_79 : decode mX8_worked.2.1 79 = .ok (.iconst 0, 1) := by decide +kernel
theorem dX8_worked_80 : decode mX8_worked.2.1 80 = .ok (.goto 9, 3) := by decide +kernel
theorem dX8_worked_83 : decode mX8_worked.2.1 83 = .ok (.lload_n 1, 1) := by decide +kernel
theorem dX8_worked_84 : decode mX8_worked.2.1 84 = .ok (.lload_n 3, 1) := by decide +kernel
theorem dX8_worked_85 : decode mX8_worked.2.1 85 = .ok (.ldiv, 1) := by decide +kernel
theorem dX8_worked_86 : decode mX8_worked.2.1 86 = .ok (.invokestatic 188, 3) := by decide +kernel
theorem dX8_worked_89 : decode mX8_worked.2.1 89 = .ok (.ireturn, 1) := by decide +kernel
theorem dX8_worked_90 : decode mX8_worked.2.1 90 = .ok (.lload_n 1, 1) := by decide +kernel
theorem dX8_worked_91 : decode mX8_worked.2.1 91 = .ok (.lload_n 3, 1) := by decide +kernel
theorem dX8_worked_92 : decode mX8_worked.2.1 92 = .ok (.lcmp, 1) := by decide +kernel
theorem dX8_worked_93 : decode mX8_worked.2.1 93 = .ok (.ifCond .ne 7, 3) := by decide +kernel
theorem dX8_worked_96 : decode mX8_worked.2.1 96 = .ok (.iconst 1, 1) := by decide +kernel
theorem dX8_worked_97 : decode mX8_worked.2.1 97 = .ok (.goto 4, 3) := by decide +kernel
theorem dX8_worked_100 : decode mX8_worked.2.1 100 = .ok (.iconst 0, 1) := by decide +kernel
theorem dX8_worked_101 : decode mX8_worked.2.1 101 = .ok (.ireturn, 1) := by decide +kernel
theorem dX8_worked_102 : decode mX8_worked.2.1 102 = .ok (.lload_n 1, 1) := by decide +kernel
theorem dX8_worked_103 : decode mX8_worked.2.1 103 = .ok (.lload_n 3, 1) := by decide +kernel
theorem dX8_worked_104 : decode mX8_worked.2.1 104 = .ok (.lcmp, 1) := by decide +kernel
theorem dX8_worked_105 : decode mX8_worked.2.1 105 = .ok (.ifCond .ge 7, 3) := by decide +kernel
theorem dX8_worked_108 : decode mX8_worked.2.1 108 = .ok (.iconst 1, 1) := by decide +kernel
theorem dX8_worked_109 : decode mX8_worked.2.1 109 = .ok (.goto 4, 3) := by decide +kernel
theorem dX8_worked_112 : decode mX8_worked.2.1 112 = .ok (.iconst 0, 1) := by decide +kernel
theorem dX8_worked_113 : decode mX8_worked.2.1 113 = .ok (.ireturn, 1) := by decide +kernel
theorem dX8_worked_114 : decode mX8_worked.2.1 114 = .ok (.lload_n 1, 1) := by decide +kernel
theorem dX8_worked_115 : decode mX8_worked.2.1 115 = .ok (.lload_n 3, 1) := by decide +kernel
theorem dX8_worked_116 : decode mX8_worked.2.1 116 = .ok (.lcmp, 1) := by decide +kernel
theorem dX8_worked_117 : decode mX8_worked.2.1 117 = .ok (.ifCond .le 7, 3) := by decide +kernel
theorem dX8_worked_120 : decode mX8_worked.2.1 120 = .ok (.iconst 1, 1) := by decide +kernel
theorem dX8_worked_121 : decode mX8_worked.2.1 121 = .ok (.goto 4, 3) := by decide +kernel
theorem dX8_worked_124 : decode mX8_worked.2.1 124 = .ok (.iconst 0, 1) := by decide +kernel
theorem dX8_worked_125 : decode mX8_worked.2.1 125 = .ok (.ireturn, 1) := by decide +kernel
theorem dX8_worked_126 : decode mX8_worked.2.1 126 = .ok (.lload_n 1, 1) := by decide +kernel
theorem dX8_worked_127 : decode mX8_worked.2.1 127 = .ok (.lconst 0, 1) := by decide +kernel
theorem dX8_worked_128 : decode mX8_worked.2.1 128 = .ok (.lcmp, 1) := by decide +kernel
theorem dX8_worked_129 : decode mX8_worked.2.1 129 = .ok (.ifCond .eq 13, 3) := by decide +kernel
theorem dX8_worked_132 : decode mX8_worked.2.1 132 = .ok (.lload_n 3, 1) := by decide +kernel
theorem dX8_worked_133 : decode mX8_worked.2.1 133 = .ok (.lconst 0, 1) := by decide +kernel
theorem dX8_worked_134 : decode mX8_worked.2.1 134 = .ok (.lcmp, 1) := by decide +kernel
theorem dX8_worked_135 : decode mX8_worked.2.1 135 = .ok (.ifCond .eq 7, 3) := by decide +kernel
theorem dX8_worked_138 : decode mX8_worked.2.1 138 = .ok (.iconst 1, 1) := by decide +kernel
theorem dX8_worked_139 : decode mX8_worked.2.1 139 = .ok (.goto 4, 3) := by decide +kernel
theorem dX8_worked_142 : decode mX8_worked.2.1 142 = .ok (.iconst 0, 1) := by decide +kernel
theorem dX8_worked_143 : decode mX8_worked.2.1 143 = .ok (.ireturn, 1) := by decide +kernel
theorem dX8_worked_144 : decode mX8_worked.2.1 144 = .ok (.lload_n 1, 1) := by decide +kernel
theorem dX8_worked_145 : decode mX8_worked.2.1 145 = .ok (.lconst 0, 1) := by decide +kernel
theorem dX8_worked_146 : decode mX8_worked.2.1 146 = .ok (.lcmp, 1) := by decide +kernel
theorem dX8_worked_147 : decode mX8_worked.2.1 147 = .ok (.ifCond .ne 9, 3) := by decide +kernel
theorem dX8_worked_150 : decode mX8_worked.2.1 150 = .ok (.lload_n 3, 1) := by decide +kernel
theorem dX8_worked_151 : decode mX8_worked.2.1 151 = .ok (.lconst 0, 1) := by decide +kernel
theorem dX8_worked_152 : decode mX8_worked.2.1 152 = .ok (.lcmp, 1) := by decide +kernel
theorem dX8_worked_153 : decode mX8_worked.2.1 153 = .ok (.ifCond .eq 7, 3) := by decide +kernel
theorem dX8_worked_156 : decode mX8_worked.2.1 156 = .ok (.iconst 1, 1) := by decide +kernel
theorem dX8_worked_157 : decode mX8_worked.2.1 157 = .ok (.goto 4, 3) := by decide +kernel
theorem dX8_worked_160 : decode mX8_worked.2.1 160 = .ok (.iconst 0, 1) := by decide +kernel
theorem dX8_worked_161 : decode mX8_worked.2.1 161 = .ok (.ireturn, 1) := by decide +kernel
theorem dX8_workOut_0 : decode mX8_workOut.2.1 0 = .ok (.iconst 0, 1) := by decide +kernel
theorem dX8_workOut_1 : decode mX8_workOut.2.1 1 = .ok (.istore 4, 2) := by decide +kernel
theorem dX8_workOut_3 : decode mX8_workOut.2.1 3 = .ok (.sipush 340, 3) := by decide +kernel
theorem dX8_workOut_6 : decode mX8_workOut.2.1 6 = .ok (.iload_n 1, 1) := by decide +kernel
theorem dX8_workOut_7 : decode mX8_workOut.2.1 7 = .ok (.imul, 1) := by decide +kernel
theorem dX8_workOut_8 : decode mX8_workOut.2.1 8 = .ok (.iload_n 2, 1) := by decide +kernel
theorem dX8_workOut_9 : decode mX8_workOut.2.1 9 = .ok (.iadd, 1) := by decide +kernel
theorem dX8_workOut_10 : decode mX8_workOut.2.1 10 = .ok (.istore 5, 2) := by decide +kernel
theorem dX8_workOut_12 : decode mX8_workOut.2.1 12 = .ok (.iload 5, 2) := by decide +kernel
theorem dX8_workOut_14 : decode mX8_workOut.2.1 14 = .ok (.sipush 340, 3) := by decide +kernel
theorem dX8_workOut_17 : decode mX8_workOut.2.1 17 = .ok (.iload_n 1, 1) := by decide +kernel
theorem dX8_workOut_18 : decode mX8_workOut.2.1 18 = .ok (.imul, 1) := by decide +kernel
theorem dX8_workOut_19 : decode mX8_workOut.2.1 19 = .ok (.iload_n 3, 1) := by decide +kernel
theorem dX8_workOut_20 : decode mX8_workOut.2.1 20 = .ok (.iadd, 1) := by decide +kernel
theorem dX8_workOut_21 : decode mX8_workOut.2.1 21 = .ok (.if_icmp .ge 150, 3) := by decide +kernel
theorem dX8_workOut_24 : decode mX8_workOut.2.1 24 = .ok (.aload_n 0, 1) := by decide +kernel
theorem dX8_workOut_25 : decode mX8_workOut.2.1 25 = .ok (.getfield 13, 3) := by decide +kernel
theorem dX8_workOut_28 : decode mX8_workOut.2.1 28 = .ok (.iload 5, 2) := by decide +kernel
theorem dX8_workOut_30 : decode mX8_workOut.2.1 30 = .ok (.iaload, 1) := by decide +kernel
theorem dX8_workOut_31 : decode mX8_workOut.2.1 31 = .ok (.ifCond .eq 14, 3) := by decide +kernel
theorem dX8_workOut_34 : decode mX8_workOut.2.1 34 = .ok (.aload_n 0, 1) := by decide +kernel
theorem dX8_workOut_35 : decode mX8_workOut.2.1 35 = .ok (.getfield 13, 3) := by decide +kernel
theorem dX8_workOut_38 : decode mX8_workOut.2.1 38 = .ok (.iload 5, 2) := by decide +kernel
theorem dX8_workOut_40 : decode mX8_workOut.2.1 40 = .ok (.iaload, 1) := by decide +kernel
theorem dX8_workOut_41 : decode mX8_workOut.2.1 41 = .ok (.iconst 1, 1) := by decide +kernel
theorem dX8_workOut_42 : decode mX8_workOut.2.1 42 = .ok (.if_icmp .ne 48, 3) := by decide +kernel
theorem dX8_workOut_45 : decode mX8_workOut.2.1 45 = .ok (.aload_n 0, 1) := by decide +kernel
theorem dX8_workOut_46 : decode mX8_workOut.2.1 46 = .ok (.getfield 37, 3) := by decide +kernel
theorem dX8_workOut_49 : decode mX8_workOut.2.1 49 = .ok (.iload 4, 2) := by decide +kernel
theorem dX8_workOut_51 : decode mX8_workOut.2.1 51 = .ok (.aload_n 0, 1) := by decide +kernel
theorem dX8_workOut_52 : decode mX8_workOut.2.1 52 = .ok (.getfield 13, 3) := by decide +kernel
theorem dX8_workOut_55 : decode mX8_workOut.2.1 55 = .ok (.iload 5, 2) := by decide +kernel
theorem dX8_workOut_57 : decode mX8_workOut.2.1 57 = .ok (.iaload, 1) := by decide +kernel
theorem dX8_workOut_58 : decode mX8_workOut.2.1 58 = .ok (.ifCond .ne 13, 3) := by decide +kernel
theorem dX8_workOut_61 : decode mX8_workOut.2.1 61 = .ok (.aload_n 0, 1) := by decide +kernel
theorem dX8_workOut_62 : decode mX8_workOut.2.1 62 = .ok (.getfield 16, 3) := by decide +kernel
theorem dX8_workOut_65 : decode mX8_workOut.2.1 65 = .ok (.iload 5, 2) := by decide +kernel
theorem dX8_workOut_67 : decode mX8_workOut.2.1 67 = .ok (.iaload, 1) := by decide +kernel
theorem dX8_workOut_68 : decode mX8_workOut.2.1 68 = .ok (.goto 15, 3) := by decide +kernel
theorem dX8_workOut_71 : decode mX8_workOut.2.1 71 = .ok (.aload_n 0, 1) := by decide +kernel
theorem dX8_workOut_72 : decode mX8_workOut.2.1 72 = .ok (.getfield 34, 3) := by decide +kernel
theorem dX8_workOut_75 : decode mX8_workOut.2.1 75 = .ok (.aload_n 0, 1) := by decide +kernel
theorem dX8_workOut_76 : decode mX8_workOut.2.1 76 = .ok (.getfield 16, 3) := by decide +kernel
theorem dX8_workOut_79 : decode mX8_workOut.2.1 79 = .ok (.iload 5, 2) := by decide +kernel
theorem dX8_workOut_81 : decode mX8_workOut.2.1 81 = .ok (.iaload, 1) := by decide +kernel
theorem dX8_workOut_82 : decode mX8_workOut.2.1 82 = .ok (.iaload, 1) := by decide +kernel
theorem dX8_workOut_83 : decode mX8_workOut.2.1 83 = .ok (.iastore, 1) := by decide +kernel
theorem dX8_workOut_84 : decode mX8_workOut.2.1 84 = .ok (.iinc 4 1, 3) := by decide +kernel
theorem dX8_workOut_87 : decode mX8_workOut.2.1 87 = .ok (.goto 78, 3) := by decide +kernel
theorem dX8_workOut_90 : decode mX8_workOut.2.1 90 = .ok (.aload_n 0, 1) := by decide +kernel
theorem dX8_workOut_91 : decode mX8_workOut.2.1 91 = .ok (.getfield 13, 3) := by decide +kernel
theorem dX8_workOut_94 : decode mX8_workOut.2.1 94 = .ok (.iload 5, 2) := by decide +kernel
theorem dX8_workOut_96 : decode mX8_workOut.2.1 96 = .ok (.iaload, 1) := by decide +kernel
theorem dX8_workOut_97 : decode mX8_workOut.2.1 97 = .ok (.bipush 9, 2) := by decide +kernel
theorem dX8_workOut_99 : decode mX8_workOut.2.1 99 = .ok (.if_icmp .ne 26, 3) := by decide +kernel
theorem dX8_workOut_102 : decode mX8_workOut.2.1 102 = .ok (.aload_n 0, 1) := by decide +kernel
theorem dX8_workOut_103 : decode mX8_workOut.2.1 103 = .ok (.getfield 37, 3) := by decide +kernel
theorem dX8_workOut_106 : decode mX8_workOut.2.1 106 = .ok (.iload 4, 2) := by decide +kernel
theorem dX8_workOut_108 : decode mX8_workOut.2.1 108 = .ok (.iconst 1, 1) := by decide +kernel
theorem dX8_workOut_109 : decode mX8_workOut.2.1 109 = .ok (.isub, 1) := by decide +kernel
theorem dX8_workOut_110 : decode mX8_workOut.2.1 110 = .ok (.iconst 1, 1) := by decide +kernel
theorem dX8_workOut_111 : decode mX8_workOut.2.1 111 = .ok (.aload_n 0, 1) := by decide +kernel
theorem dX8_workOut_112 : decode mX8_workOut.2.1 112 = .ok (.getfield 37, 3) := by decide +kernel
theorem dX8_workOut_115 : decode mX8_workOut.2.1 115 = .ok (.iload 4, 2) := by decide +kernel
theorem dX8_workOut_117 : decode mX8_workOut.2.1 117 = .ok (.iconst 1, 1) := by decide +kernel
theorem dX8_workOut_118 : decode mX8_workOut.2.1 118 = .ok (.isub, 1) := by decide +kernel
theorem dX8_workOut_119 : decode mX8_workOut.2.1 119 = .ok (.iaload, 1) := by decide +kernel
theorem dX8_workOut_120 : decode mX8_workOut.2.1 120 = .ok (.isub, 1) := by decide +kernel
theorem dX8_workOut_121 : decode mX8_workOut.2.1 121 = .ok (.iastore, 1) := by decide +kernel
theorem dX8_workOut_122 : decode mX8_workOut.2.1 122 = .ok (.goto 43, 3) := by decide +kernel
theorem dX8_workOut_125 : decode mX8_workOut.2.1 125 = .ok (.iinc 4 (-1), 3) := by decide +kernel
theorem dX8_workOut_128 : decode mX8_workOut.2.1 128 = .ok (.aload_n 0, 1) := by decide +kernel
theorem dX8_workOut_129 : decode mX8_workOut.2.1 129 = .ok (.getfield 37, 3) := by decide +kernel
theorem dX8_workOut_132 : decode mX8_workOut.2.1 132 = .ok (.iload 4, 2) := by decide +kernel
theorem dX8_workOut_134 : decode mX8_workOut.2.1 134 = .ok (.iconst 1, 1) := by decide +kernel
theorem dX8_workOut_135 : decode mX8_workOut.2.1 135 = .ok (.isub, 1) := by decide +kernel
theorem dX8_workOut_136 : decode mX8_workOut.2.1 136 = .ok (.aload_n 0, 1) := by decide +kernel
theorem dX8_workOut_137 : decode mX8_workOut.2.1 137 = .ok (.getfield 13, 3) := by decide +kernel
theorem dX8_workOut_140 : decode mX8_workOut.2.1 140 = .ok (.iload 5, 2) := by decide +kernel
theorem dX8_workOut_142 : decode mX8_workOut.2.1 142 = .ok (.iaload, 1) := by decide +kernel
theorem dX8_workOut_143 : decode mX8_workOut.2.1 143 = .ok (.aload_n 0, 1) := by decide +kernel
theorem dX8_workOut_144 : decode mX8_workOut.2.1 144 = .ok (.getfield 37, 3) := by decide +kernel
theorem dX8_workOut_147 : decode mX8_workOut.2.1 147 = .ok (.iload 4, 2) := by decide +kernel
theorem dX8_workOut_149 : decode mX8_workOut.2.1 149 = .ok (.iconst 1, 1) := by decide +kernel
theorem dX8_workOut_150 : decode mX8_workOut.2.1 150 = .ok (.isub, 1) := by decide +kernel
theorem dX8_workOut_151 : decode mX8_workOut.2.1 151 = .ok (.iaload, 1) := by decide +kernel
theorem dX8_workOut_152 : decode mX8_workOut.2.1 152 = .ok (.i2l, 1) := by decide +kernel
theorem dX8_workOut_153 : decode mX8_workOut.2.1 153 = .ok (.aload_n 0, 1) := by decide +kernel
theorem dX8_workOut_154 : decode mX8_workOut.2.1 154 = .ok (.getfield 37, 3) := by decide +kernel
theorem dX8_workOut_157 : decode mX8_workOut.2.1 157 = .ok (.iload 4, 2) := by decide +kernel
theorem dX8_workOut_159 : decode mX8_workOut.2.1 159 = .ok (.iaload, 1) := by decide +kernel
theorem dX8_workOut_160 : decode mX8_workOut.2.1 160 = .ok (.i2l, 1) := by decide +kernel
theorem dX8_workOut_161 : decode mX8_workOut.2.1 161 = .ok (.invokestatic 192, 3) := by decide +kernel
theorem dX8_workOut_164 : decode mX8_workOut.2.1 164 = .ok (.iastore, 1) := by decide +kernel
theorem dX8_workOut_165 : decode mX8_workOut.2.1 165 = .ok (.iinc 5 1, 3) := by decide +kernel
theorem dX8_workOut_168 : decode mX8_workOut.2.1 168 = .ok (.goto (-156), 3) := by decide +kernel
theorem dX8_workOut_171 : decode mX8_workOut.2.1 171 = .ok (.aload_n 0, 1) := by decide +kernel
theorem dX8_workOut_172 : decode mX8_workOut.2.1 172 = .ok (.getfield 37, 3) := by decide +kernel
theorem dX8_workOut_175 : decode mX8_workOut.2.1 175 = .ok (.iconst 0, 1) := by decide +kernel
theorem dX8_workOut_176 : decode mX8_workOut.2.1 176 = .ok (.iaload, 1) := by decide +kernel
theorem dX8_workOut_177 : decode mX8_workOut.2.1 177 = .ok (.ireturn, 1) := by decide +kernel
theorem dX8_worth_0 : decode mX8_worth.2.1 0 = .ok (.bipush 90, 2) := by decide +kernel
theorem dX8_worth_2 : decode mX8_worth.2.1 2 = .ok (.iload_n 1, 1) := by decide +kernel
theorem dX8_worth_3 : decode mX8_worth.2.1 3 = .ok (.imul, 1) := by decide +kernel
theorem dX8_worth_4 : decode mX8_worth.2.1 4 = .ok (.istore_n 2, 1) := by decide +kernel
theorem dX8_worth_5 : decode mX8_worth.2.1 5 = .ok (.iload_n 2, 1) := by decide +kernel
theorem dX8_worth_6 : decode mX8_worth.2.1 6 = .ok (.bipush 90, 2) := by decide +kernel
theorem dX8_worth_8 : decode mX8_worth.2.1 8 = .ok (.iload_n 1, 1) := by decide +kernel
theorem dX8_worth_9 : decode mX8_worth.2.1 9 = .ok (.imul, 1) := by decide +kernel
theorem dX8_worth_10 : decode mX8_worth.2.1 10 = .ok (.aload_n 0, 1) := by decide +kernel
theorem dX8_worth_11 : decode mX8_worth.2.1 11 = .ok (.getfield 22, 3) := by decide +kernel
theorem dX8_worth_14 : decode mX8_worth.2.1 14 = .ok (.iload_n 1, 1) := by decide +kernel
theorem dX8_worth_15 : decode mX8_worth.2.1 15 = .ok (.iaload, 1) := by decide +kernel
theorem dX8_worth_16 : decode mX8_worth.2.1 16 = .ok (.iadd, 1) := by decide +kernel
theorem dX8_worth_17 : decode mX8_worth.2.1 17 = .ok (.if_icmp .ge 62, 3) := by decide +kernel
theorem dX8_worth_20 : decode mX8_worth.2.1 20 = .ok (.aload_n 0, 1) := by decide +kernel
theorem dX8_worth_21 : decode mX8_worth.2.1 21 = .ok (.getfield 25, 3) := by decide +kernel
theorem dX8_worth_24 : decode mX8_worth.2.1 24 = .ok (.iload_n 2, 1) := by decide +kernel
theorem dX8_worth_25 : decode mX8_worth.2.1 25 = .ok (.iaload, 1) := by decide +kernel
theorem dX8_worth_26 : decode mX8_worth.2.1 26 = .ok (.aload_n 0, 1) := by decide +kernel
theorem dX8_worth_27 : decode mX8_worth.2.1 27 = .ok (.getfield 28, 3) := by decide +kernel
theorem dX8_worth_30 : decode mX8_worth.2.1 30 = .ok (.iload_n 2, 1) := by decide +kernel
theorem dX8_worth_31 : decode mX8_worth.2.1 31 = .ok (.iaload, 1) := by decide +kernel
theorem dX8_worth_32 : decode mX8_worth.2.1 32 = .ok (.if_icmp .eq 23, 3) := by decide +kernel
theorem dX8_worth_35 : decode mX8_worth.2.1 35 = .ok (.aload_n 0, 1) := by decide +kernel
theorem dX8_worth_36 : decode mX8_worth.2.1 36 = .ok (.iload_n 1, 1) := by decide +kernel
theorem dX8_worth_37 : decode mX8_worth.2.1 37 = .ok (.aload_n 0, 1) := by decide +kernel
theorem dX8_worth_38 : decode mX8_worth.2.1 38 = .ok (.getfield 25, 3) := by decide +kernel
theorem dX8_worth_41 : decode mX8_worth.2.1 41 = .ok (.iload_n 2, 1) := by decide +kernel
theorem dX8_worth_42 : decode mX8_worth.2.1 42 = .ok (.iaload, 1) := by decide +kernel
theorem dX8_worth_43 : decode mX8_worth.2.1 43 = .ok (.aload_n 0, 1) := by decide +kernel
theorem dX8_worth_44 : decode mX8_worth.2.1 44 = .ok (.getfield 28, 3) := by decide +kernel
theorem dX8_worth_47 : decode mX8_worth.2.1 47 = .ok (.iload_n 2, 1) := by decide +kernel
theorem dX8_worth_48 : decode mX8_worth.2.1 48 = .ok (.iaload, 1) := by decide +kernel
theorem dX8_worth_49 : decode mX8_worth.2.1 49 = .ok (.invokevirtual 196, 3) := by decide +kernel
theorem dX8_worth_52 : decode mX8_worth.2.1 52 = .ok (.ifCond .eq 21, 3) := by decide +kernel
theorem dX8_worth_55 : decode mX8_worth.2.1 55 = .ok (.aload_n 0, 1) := by decide +kernel
theorem dX8_worth_56 : decode mX8_worth.2.1 56 = .ok (.iload_n 1, 1) := by decide +kernel
theorem dX8_worth_57 : decode mX8_worth.2.1 57 = .ok (.aload_n 0, 1) := by decide +kernel
theorem dX8_worth_58 : decode mX8_worth.2.1 58 = .ok (.getfield 28, 3) := by decide +kernel
theorem dX8_worth_61 : decode mX8_worth.2.1 61 = .ok (.iload_n 2, 1) := by decide +kernel
theorem dX8_worth_62 : decode mX8_worth.2.1 62 = .ok (.iaload, 1) := by decide +kernel
theorem dX8_worth_63 : decode mX8_worth.2.1 63 = .ok (.aload_n 0, 1) := by decide +kernel
theorem dX8_worth_64 : decode mX8_worth.2.1 64 = .ok (.getfield 31, 3) := by decide +kernel
theorem dX8_worth_67 : decode mX8_worth.2.1 67 = .ok (.iload_n 2, 1) := by decide +kernel
theorem dX8_worth_68 : decode mX8_worth.2.1 68 = .ok (.iaload, 1) := by decide +kernel
theorem dX8_worth_69 : decode mX8_worth.2.1 69 = .ok (.invokevirtual 196, 3) := by decide +kernel
theorem dX8_worth_72 : decode mX8_worth.2.1 72 = .ok (.ireturn, 1) := by decide +kernel
theorem dX8_worth_73 : decode mX8_worth.2.1 73 = .ok (.iinc 2 1, 3) := by decide +kernel
theorem dX8_worth_76 : decode mX8_worth.2.1 76 = .ok (.goto (-71), 3) := by decide +kernel
theorem dX8_worth_79 : decode mX8_worth.2.1 79 = .ok (.iconst 0, 1) := by decide +kernel
theorem dX8_worth_80 : decode mX8_worth.2.1 80 = .ok (.ireturn, 1) := by decide +kernel
theorem dX8_dropLetter_0 : decode mX8_dropLetter.2.1 0 = .ok (.iload_n 0, 1) := by decide +kernel
theorem dX8_dropLetter_1 : decode mX8_dropLetter.2.1 1 = .ok (.bipush 120, 2) := by decide +kernel
theorem dX8_dropLetter_3 : decode mX8_dropLetter.2.1 3 = .ok (.if_icmp .ne 7, 3) := by decide +kernel
theorem dX8_dropLetter_6 : decode mX8_dropLetter.2.1 6 = .ok (.iconst 0, 1) := by decide +kernel
theorem dX8_dropLetter_7 : decode mX8_dropLetter.2.1 7 = .ok (.goto 120, 3) := by decide +kernel
theorem dX8_dropLetter_10 : decode mX8_dropLetter.2.1 10 = .ok (.iload_n 0, 1) := by decide +kernel
theorem dX8_dropLetter_11 : decode mX8_dropLetter.2.1 11 = .ok (.bipush 107, 2) := by decide +kernel
theorem dX8_dropLetter_13 : decode mX8_dropLetter.2.1 13 = .ok (.if_icmp .ne 7, 3) := by decide +kernel
theorem dX8_dropLetter_16 : decode mX8_dropLetter.2.1 16 = .ok (.iconst 1, 1) := by decide +kernel
theorem dX8_dropLetter_17 : decode mX8_dropLetter.2.1 17 = .ok (.goto 110, 3) := by decide +kernel
theorem dX8_dropLetter_20 : decode mX8_dropLetter.2.1 20 = .ok (.iload_n 0, 1) := by decide +kernel
theorem dX8_dropLetter_21 : decode mX8_dropLetter.2.1 21 = .ok (.bipush 119, 2) := by decide +kernel
theorem dX8_dropLetter_23 : decode mX8_dropLetter.2.1 23 = .ok (.if_icmp .ne 7, 3) := by decide +kernel
theorem dX8_dropLetter_26 : decode mX8_dropLetter.2.1 26 = .ok (.iconst 2, 1) := by decide +kernel
theorem dX8_dropLetter_27 : decode mX8_dropLetter.2.1 27 = .ok (.goto 100, 3) := by decide +kernel
theorem dX8_dropLetter_30 : decode mX8_dropLetter.2.1 30 = .ok (.iload_n 0, 1) := by decide +kernel
theorem dX8_dropLetter_31 : decode mX8_dropLetter.2.1 31 = .ok (.bipush 103, 2) := by decide +kernel
theorem dX8_dropLetter_33 : decode mX8_dropLetter.2.1 33 = .ok (.if_icmp .ne 7, 3) := by decide +kernel
theorem dX8_dropLetter_36 : decode mX8_dropLetter.2.1 36 = .ok (.iconst 3, 1) := by decide +kernel
theorem dX8_dropLetter_37 : decode mX8_dropLetter.2.1 37 = .ok (.goto 90, 3) := by decide +kernel
theorem dX8_dropLetter_40 : decode mX8_dropLetter.2.1 40 = .ok (.iload_n 0, 1) := by decide +kernel
theorem dX8_dropLetter_41 : decode mX8_dropLetter.2.1 41 = .ok (.bipush 108, 2) := by decide +kernel
theorem dX8_dropLetter_43 : decode mX8_dropLetter.2.1 43 = .ok (.if_icmp .ne 7, 3) := by decide +kernel
theorem dX8_dropLetter_46 : decode mX8_dropLetter.2.1 46 = .ok (.iconst 4, 1) := by decide +kernel
theorem dX8_dropLetter_47 : decode mX8_dropLetter.2.1 47 = .ok (.goto 80, 3) := by decide +kernel
theorem dX8_dropLetter_50 : decode mX8_dropLetter.2.1 50 = .ok (.iload_n 0, 1) := by decide +kernel
theorem dX8_dropLetter_51 : decode mX8_dropLetter.2.1 51 = .ok (.bipush 109, 2) := by decide +kernel
theorem dX8_dropLetter_53 : decode mX8_dropLetter.2.1 53 = .ok (.if_icmp .ne 7, 3) := by decide +kernel
theorem dX8_dropLetter_56 : decode mX8_dropLetter.2.1 56 = .ok (.iconst 5, 1) := by decide +kernel
theorem dX8_dropLetter_57 : decode mX8_dropLetter.2.1 57 = .ok (.goto 70, 3) := by decide +kernel
theorem dX8_dropLetter_60 : decode mX8_dropLetter.2.1 60 = .ok (.iload_n 0, 1) := by decide +kernel
theorem dX8_dropLetter_61 : decode mX8_dropLetter.2.1 61 = .ok (.bipush 97, 2) := by decide +kernel
theorem dX8_dropLetter_63 : decode mX8_dropLetter.2.1 63 = .ok (.if_icmp .ne 8, 3) := by decide +kernel
theorem dX8_dropLetter_66 : decode mX8_dropLetter.2.1 66 = .ok (.bipush 6, 2) := by decide +kernel
theorem dX8_dropLetter_68 : decode mX8_dropLetter.2.1 68 = .ok (.goto 59, 3) := by decide +kernel
theorem dX8_dropLetter_71 : decode mX8_dropLetter.2.1 71 = .ok (.iload_n 0, 1) := by decide +kernel
theorem dX8_dropLetter_72 : decode mX8_dropLetter.2.1 72 = .ok (.bipush 112, 2) := by decide +kernel
theorem dX8_dropLetter_74 : decode mX8_dropLetter.2.1 74 = .ok (.if_icmp .ne 8, 3) := by decide +kernel
theorem dX8_dropLetter_77 : decode mX8_dropLetter.2.1 77 = .ok (.bipush 7, 2) := by decide +kernel
theorem dX8_dropLetter_79 : decode mX8_dropLetter.2.1 79 = .ok (.goto 48, 3) := by decide +kernel
theorem dX8_dropLetter_82 : decode mX8_dropLetter.2.1 82 = .ok (.iload_n 0, 1) := by decide +kernel
theorem dX8_dropLetter_83 : decode mX8_dropLetter.2.1 83 = .ok (.bipush 99, 2) := by decide +kernel
theorem dX8_dropLetter_85 : decode mX8_dropLetter.2.1 85 = .ok (.if_icmp .ne 8, 3) := by decide +kernel
theorem dX8_dropLetter_88 : decode mX8_dropLetter.2.1 88 = .ok (.bipush 8, 2) := by decide +kernel
theorem dX8_dropLetter_90 : decode mX8_dropLetter.2.1 90 = .ok (.goto 37, 3) := by decide +kernel
theorem dX8_dropLetter_93 : decode mX8_dropLetter.2.1 93 = .ok (.iload_n 0, 1) := by decide +kernel
theorem dX8_dropLetter_94 : decode mX8_dropLetter.2.1 94 = .ok (.bipush 101, 2) := by decide +kernel
theorem dX8_dropLetter_96 : decode mX8_dropLetter.2.1 96 = .ok (.if_icmp .ne 8, 3) := by decide +kernel
theorem dX8_dropLetter_99 : decode mX8_dropLetter.2.1 99 = .ok (.bipush 9, 2) := by decide +kernel
theorem dX8_dropLetter_101 : decode mX8_dropLetter.2.1 101 = .ok (.goto 26, 3) := by decide +kernel
theorem dX8_dropLetter_104 : decode mX8_dropLetter.2.1 104 = .ok (.iload_n 0, 1) := by decide +kernel
theorem dX8_dropLetter_105 : decode mX8_dropLetter.2.1 105 = .ok (.bipush 106, 2) := by decide +kernel
theorem dX8_dropLetter_107 : decode mX8_dropLetter.2.1 107 = .ok (.if_icmp .ne 8, 3) := by decide +kernel
theorem dX8_dropLetter_110 : decode mX8_dropLetter.2.1 110 = .ok (.bipush 10, 2) := by decide +kernel
theorem dX8_dropLetter_112 : decode mX8_dropLetter.2.1 112 = .ok (.goto 15, 3) := by decide +kernel
theorem dX8_dropLetter_115 : decode mX8_dropLetter.2.1 115 = .ok (.iload_n 0, 1) := by decide +kernel
theorem dX8_dropLetter_116 : decode mX8_dropLetter.2.1 116 = .ok (.bipush 115, 2) := by decide +kernel
theorem dX8_dropLetter_118 : decode mX8_dropLetter.2.1 118 = .ok (.if_icmp .ne 8, 3) := by decide +kernel
theorem dX8_dropLetter_121 : decode mX8_dropLetter.2.1 121 = .ok (.bipush 11, 2) := by decide +kernel
theorem dX8_dropLetter_123 : decode mX8_dropLetter.2.1 123 = .ok (.goto 4, 3) := by decide +kernel
theorem dX8_dropLetter_126 : decode mX8_dropLetter.2.1 126 = .ok (.iconst (-1), 1) := by decide +kernel
theorem dX8_dropLetter_127 : decode mX8_dropLetter.2.1 127 = .ok (.ireturn, 1) := by decide +kernel
theorem dX8_lowest_0 : decode mX8_lowest.2.1 0 = .ok (.iload_n 0, 1) := by decide +kernel
theorem dX8_lowest_1 : decode mX8_lowest.2.1 1 = .ok (.iconst 1, 1) := by decide +kernel
theorem dX8_lowest_2 : decode mX8_lowest.2.1 2 = .ok (.if_icmp .ne 7, 3) := by decide +kernel
theorem dX8_lowest_5 : decode mX8_lowest.2.1 5 = .ok (.iconst 2, 1) := by decide +kernel
theorem dX8_lowest_6 : decode mX8_lowest.2.1 6 = .ok (.goto 25, 3) := by decide +kernel
theorem dX8_lowest_9 : decode mX8_lowest.2.1 9 = .ok (.iload_n 0, 1) := by decide +kernel
theorem dX8_lowest_10 : decode mX8_lowest.2.1 10 = .ok (.iconst 2, 1) := by decide +kernel
theorem dX8_lowest_11 : decode mX8_lowest.2.1 11 = .ok (.if_icmp .eq 15, 3) := by decide +kernel
theorem dX8_lowest_14 : decode mX8_lowest.2.1 14 = .ok (.iload_n 0, 1) := by decide +kernel
theorem dX8_lowest_15 : decode mX8_lowest.2.1 15 = .ok (.bipush 8, 2) := by decide +kernel
theorem dX8_lowest_17 : decode mX8_lowest.2.1 17 = .ok (.if_icmp .eq 9, 3) := by decide +kernel
theorem dX8_lowest_20 : decode mX8_lowest.2.1 20 = .ok (.iload_n 0, 1) := by decide +kernel
theorem dX8_lowest_21 : decode mX8_lowest.2.1 21 = .ok (.bipush 10, 2) := by decide +kernel
theorem dX8_lowest_23 : decode mX8_lowest.2.1 23 = .ok (.if_icmp .ne 7, 3) := by decide +kernel
theorem dX8_lowest_26 : decode mX8_lowest.2.1 26 = .ok (.iconst 1, 1) := by decide +kernel
theorem dX8_lowest_27 : decode mX8_lowest.2.1 27 = .ok (.goto 4, 3) := by decide +kernel
theorem dX8_lowest_30 : decode mX8_lowest.2.1 30 = .ok (.iconst 0, 1) := by decide +kernel
theorem dX8_lowest_31 : decode mX8_lowest.2.1 31 = .ok (.ireturn, 1) := by decide +kernel
theorem dX8_highest_0 : decode mX8_highest.2.1 0 = .ok (.iload_n 0, 1) := by decide +kernel
theorem dX8_highest_1 : decode mX8_highest.2.1 1 = .ok (.ifCond .ne 8, 3) := by decide +kernel
theorem dX8_highest_4 : decode mX8_highest.2.1 4 = .ok (.bipush 23, 2) := by decide +kernel
theorem dX8_highest_6 : decode mX8_highest.2.1 6 = .ok (.goto 64, 3) := by decide +kernel
theorem dX8_highest_9 : decode mX8_highest.2.1 9 = .ok (.iload_n 0, 1) := by decide +kernel
theorem dX8_highest_10 : decode mX8_highest.2.1 10 = .ok (.iconst 1, 1) := by decide +kernel
theorem dX8_highest_11 : decode mX8_highest.2.1 11 = .ok (.if_icmp .ne 8, 3) := by decide +kernel
theorem dX8_highest_14 : decode mX8_highest.2.1 14 = .ok (.bipush 24, 2) := by decide +kernel
theorem dX8_highest_16 : decode mX8_highest.2.1 16 = .ok (.goto 54, 3) := by decide +kernel
theorem dX8_highest_19 : decode mX8_highest.2.1 19 = .ok (.iload_n 0, 1) := by decide +kernel
theorem dX8_highest_20 : decode mX8_highest.2.1 20 = .ok (.iconst 2, 1) := by decide +kernel
theorem dX8_highest_21 : decode mX8_highest.2.1 21 = .ok (.if_icmp .eq 13, 3) := by decide +kernel
theorem dX8_highest_24 : decode mX8_highest.2.1 24 = .ok (.iload_n 0, 1) := by decide +kernel
theorem dX8_highest_25 : decode mX8_highest.2.1 25 = .ok (.iconst 3, 1) := by decide +kernel
theorem dX8_highest_26 : decode mX8_highest.2.1 26 = .ok (.if_icmp .eq 8, 3) := by decide +kernel
theorem dX8_highest_29 : decode mX8_highest.2.1 29 = .ok (.iload_n 0, 1) := by decide +kernel
theorem dX8_highest_30 : decode mX8_highest.2.1 30 = .ok (.iconst 4, 1) := by decide +kernel
theorem dX8_highest_31 : decode mX8_highest.2.1 31 = .ok (.if_icmp .ne 9, 3) := by decide +kernel
theorem dX8_highest_34 : decode mX8_highest.2.1 34 = .ok (.sipush 999, 3) := by decide +kernel
theorem dX8_highest_37 : decode mX8_highest.2.1 37 = .ok (.goto 33, 3) := by decide +kernel
theorem dX8_highest_40 : decode mX8_highest.2.1 40 = .ok (.iload_n 0, 1) := by decide +kernel
theorem dX8_highest_41 : decode mX8_highest.2.1 41 = .ok (.bipush 7, 2) := by decide +kernel
theorem dX8_highest_43 : decode mX8_highest.2.1 43 = .ok (.if_icmp .ne 8, 3) := by decide +kernel
theorem dX8_highest_46 : decode mX8_highest.2.1 46 = .ok (.bipush 100, 2) := by decide +kernel
theorem dX8_highest_48 : decode mX8_highest.2.1 48 = .ok (.goto 22, 3) := by decide +kernel
theorem dX8_highest_51 : decode mX8_highest.2.1 51 = .ok (.iload_n 0, 1) := by decide +kernel
theorem dX8_highest_52 : decode mX8_highest.2.1 52 = .ok (.bipush 10, 2) := by decide +kernel
theorem dX8_highest_54 : decode mX8_highest.2.1 54 = .ok (.if_icmp .eq 9, 3) := by decide +kernel
theorem dX8_highest_57 : decode mX8_highest.2.1 57 = .ok (.iload_n 0, 1) := by decide +kernel
theorem dX8_highest_58 : decode mX8_highest.2.1 58 = .ok (.bipush 11, 2) := by decide +kernel
theorem dX8_highest_60 : decode mX8_highest.2.1 60 = .ok (.if_icmp .ne 8, 3) := by decide +kernel
theorem dX8_highest_63 : decode mX8_highest.2.1 63 = .ok (.bipush 9, 2) := by decide +kernel
theorem dX8_highest_65 : decode mX8_highest.2.1 65 = .ok (.goto 5, 3) := by decide +kernel
theorem dX8_highest_68 : decode mX8_highest.2.1 68 = .ok (.bipush 99, 2) := by decide +kernel
theorem dX8_highest_70 : decode mX8_highest.2.1 70 = .ok (.ireturn, 1) := by decide +kernel
theorem dX8_usual_0 : decode mX8_usual.2.1 0 = .ok (.iload_n 0, 1) := by decide +kernel
theorem dX8_usual_1 : decode mX8_usual.2.1 1 = .ok (.iconst 1, 1) := by decide +kernel
theorem dX8_usual_2 : decode mX8_usual.2.1 2 = .ok (.if_icmp .ne 8, 3) := by decide +kernel
theorem dX8_usual_5 : decode mX8_usual.2.1 5 = .ok (.bipush 8, 2) := by decide +kernel
theorem dX8_usual_7 : decode mX8_usual.2.1 7 = .ok (.goto 35, 3) := by decide +kernel
theorem dX8_usual_10 : decode mX8_usual.2.1 10 = .ok (.iload_n 0, 1) := by decide +kernel
theorem dX8_usual_11 : decode mX8_usual.2.1 11 = .ok (.iconst 2, 1) := by decide +kernel
theorem dX8_usual_12 : decode mX8_usual.2.1 12 = .ok (.if_icmp .ne 9, 3) := by decide +kernel
theorem dX8_usual_15 : decode mX8_usual.2.1 15 = .ok (.sipush 300, 3) := by decide +kernel
theorem dX8_usual_18 : decode mX8_usual.2.1 18 = .ok (.goto 24, 3) := by decide +kernel
theorem dX8_usual_21 : decode mX8_usual.2.1 21 = .ok (.iload_n 0, 1) := by decide +kernel
theorem dX8_usual_22 : decode mX8_usual.2.1 22 = .ok (.bipush 8, 2) := by decide +kernel
theorem dX8_usual_24 : decode mX8_usual.2.1 24 = .ok (.if_icmp .ne 7, 3) := by decide +kernel
theorem dX8_usual_27 : decode mX8_usual.2.1 27 = .ok (.iconst 5, 1) := by decide +kernel
theorem dX8_usual_28 : decode mX8_usual.2.1 28 = .ok (.goto 14, 3) := by decide +kernel
theorem dX8_usual_31 : decode mX8_usual.2.1 31 = .ok (.iload_n 0, 1) := by decide +kernel
theorem dX8_usual_32 : decode mX8_usual.2.1 32 = .ok (.bipush 10, 2) := by decide +kernel
theorem dX8_usual_34 : decode mX8_usual.2.1 34 = .ok (.if_icmp .ne 7, 3) := by decide +kernel
theorem dX8_usual_37 : decode mX8_usual.2.1 37 = .ok (.iconst 1, 1) := by decide +kernel
theorem dX8_usual_38 : decode mX8_usual.2.1 38 = .ok (.goto 4, 3) := by decide +kernel
theorem dX8_usual_41 : decode mX8_usual.2.1 41 = .ok (.iconst 0, 1) := by decide +kernel
theorem dX8_usual_42 : decode mX8_usual.2.1 42 = .ok (.ireturn, 1) := by decide +kernel
theorem dX8_item_0 : decode mX8_item.2.1 0 = .ok (.aload_n 0, 1) := by decide +kernel
theorem dX8_item_1 : decode mX8_item.2.1 1 = .ok (.getfield 97, 3) := by decide +kernel
theorem dX8_item_4 : decode mX8_item.2.1 4 = .ok (.iconst (-1), 1) := by decide +kernel
theorem dX8_item_5 : decode mX8_item.2.1 5 = .ok (.if_icmp .ne 13, 3) := by decide +kernel
theorem dX8_item_8 : decode mX8_item.2.1 8 = .ok (.aload_n 0, 1) := by decide +kernel
theorem dX8_item_9 : decode mX8_item.2.1 9 = .ok (.invokevirtual 113, 3) := by decide +kernel
theorem dX8_item_12 : decode mX8_item.2.1 12 = .ok (.invokestatic 200, 3) := by decide +kernel
theorem dX8_item_15 : decode mX8_item.2.1 15 = .ok (.goto 4, 3) := by decide +kernel
theorem dX8_item_18 : decode mX8_item.2.1 18 = .ok (.iconst (-1), 1) := by decide +kernel
theorem dX8_item_19 : decode mX8_item.2.1 19 = .ok (.istore_n 2, 1) := by decide +kernel
theorem dX8_item_20 : decode mX8_item.2.1 20 = .ok (.iload_n 2, 1) := by decide +kernel
theorem dX8_item_21 : decode mX8_item.2.1 21 = .ok (.iconst (-1), 1) := by decide +kernel
theorem dX8_item_22 : decode mX8_item.2.1 22 = .ok (.if_icmp .eq 14, 3) := by decide +kernel
theorem dX8_item_25 : decode mX8_item.2.1 25 = .ok (.aload_n 0, 1) := by decide +kernel
theorem dX8_item_26 : decode mX8_item.2.1 26 = .ok (.getfield 203, 3) := by decide +kernel
theorem dX8_item_29 : decode mX8_item.2.1 29 = .ok (.iload_n 2, 1) := by decide +kernel
theorem dX8_item_30 : decode mX8_item.2.1 30 = .ok (.invokestatic 206, 3) := by decide +kernel
theorem dX8_item_33 : decode mX8_item.2.1 33 = .ok (.ifCond .eq 8, 3) := by decide +kernel
theorem dX8_item_36 : decode mX8_item.2.1 36 = .ok (.aload_n 0, 1) := by decide +kernel
theorem dX8_item_37 : decode mX8_item.2.1 37 = .ok (.invokevirtual 110, 3) := by decide +kernel
theorem dX8_item_40 : decode mX8_item.2.1 40 = .ok (.return_, 1) := by decide +kernel
theorem dX8_item_41 : decode mX8_item.2.1 41 = .ok (.aload_n 0, 1) := by decide +kernel
theorem dX8_item_42 : decode mX8_item.2.1 42 = .ok (.dup, 1) := by decide +kernel
theorem dX8_item_43 : decode mX8_item.2.1 43 = .ok (.getfield 203, 3) := by decide +kernel
theorem dX8_item_46 : decode mX8_item.2.1 46 = .ok (.iconst 1, 1) := by decide +kernel
theorem dX8_item_47 : decode mX8_item.2.1 47 = .ok (.iload_n 2, 1) := by decide +kernel
theorem dX8_item_48 : decode mX8_item.2.1 48 = .ok (.ishl, 1) := by decide +kernel
theorem dX8_item_49 : decode mX8_item.2.1 49 = .ok (.ior, 1) := by decide +kernel
theorem dX8_item_50 : decode mX8_item.2.1 50 = .ok (.putfield 203, 3) := by decide +kernel
theorem dX8_item_53 : decode mX8_item.2.1 53 = .ok (.aload_n 0, 1) := by decide +kernel
theorem dX8_item_54 : decode mX8_item.2.1 54 = .ok (.dup, 1) := by decide +kernel
theorem dX8_item_55 : decode mX8_item.2.1 55 = .ok (.getfield 90, 3) := by decide +kernel
theorem dX8_item_58 : decode mX8_item.2.1 58 = .ok (.iconst 1, 1) := by decide +kernel
theorem dX8_item_59 : decode mX8_item.2.1 59 = .ok (.iadd, 1) := by decide +kernel
theorem dX8_item_60 : decode mX8_item.2.1 60 = .ok (.putfield 90, 3) := by decide +kernel
theorem dX8_item_63 : decode mX8_item.2.1 63 = .ok (.aload_n 0, 1) := by decide +kernel
theorem dX8_item_64 : decode mX8_item.2.1 64 = .ok (.invokevirtual 113, 3) := by decide +kernel
theorem dX8_item_67 : decode mX8_item.2.1 67 = .ok (.invokestatic 116, 3) := by decide +kernel
theorem dX8_item_70 : decode mX8_item.2.1 70 = .ok (.ifCond .ne 8, 3) := by decide +kernel
theorem dX8_item_73 : decode mX8_item.2.1 73 = .ok (.aload_n 0, 1) := by decide +kernel
theorem dX8_item_74 : decode mX8_item.2.1 74 = .ok (.invokevirtual 110, 3) := by decide +kernel
theorem dX8_item_77 : decode mX8_item.2.1 77 = .ok (.return_, 1) := by decide +kernel
theorem dX8_item_78 : decode mX8_item.2.1 78 = .ok (.aload_n 0, 1) := by decide +kernel
theorem dX8_item_79 : decode mX8_item.2.1 79 = .ok (.invokevirtual 120, 3) := by decide +kernel
theorem dX8_item_82 : decode mX8_item.2.1 82 = .ok (.istore_n 3, 1) := by decide +kernel
theorem dX8_item_83 : decode mX8_item.2.1 83 = .ok (.aload_n 0, 1) := by decide +kernel
theorem dX8_item_84 : decode mX8_item.2.1 84 = .ok (.getfield 97, 3) := by decide +kernel
theorem dX8_item_87 : decode mX8_item.2.1 87 = .ok (.iconst (-1), 1) := by decide +kernel
theorem dX8_item_88 : decode mX8_item.2.1 88 = .ok (.if_icmp .ne 32, 3) := by decide +kernel
theorem dX8_item_91 : decode mX8_item.2.1 91 = .ok (.iload_n 3, 1) := by decide +kernel
theorem dX8_item_92 : decode mX8_item.2.1 92 = .ok (.iload_n 2, 1) := by decide +kernel
theorem dX8_item_93 : decode mX8_item.2.1 93 = .ok (.invokestatic 210, 3) := by decide +kernel
theorem dX8_item_96 : decode mX8_item.2.1 96 = .ok (.iload_n 2, 1) := by decide +kernel
theorem dX8_item_97 : decode mX8_item.2.1 97 = .ok (.invokestatic 213, 3) := by decide +kernel
theorem dX8_item_100 : decode mX8_item.2.1 100 = .ok (.invokestatic 216, 3) := by decide +kernel
theorem dX8_item_103 : decode mX8_item.2.1 103 = .ok (.ifCond .ne 17, 3) := by decide +kernel
theorem dX8_item_106 : decode mX8_item.2.1 106 = .ok (.aload_n 0, 1) := by decide +kernel
theorem dX8_item_107 : decode mX8_item.2.1 107 = .ok (.dup, 1) := by decide +kernel
theorem dX8_item_108 : decode mX8_item.2.1 108 = .ok (.getfield 90, 3) := by decide +kernel
theorem dX8_item_111 : decode mX8_item.2.1 111 = .ok (.iconst 1, 1) := by decide +kernel
theorem dX8_item_112 : decode mX8_item.2.1 112 = .ok (.isub, 1) := by decide +kernel
theorem dX8_item_113 : decode mX8_item.2.1 113 = .ok (.putfield 90, 3) := by decide +kernel
theorem dX8_item_116 : decode mX8_item.2.1 116 = .ok (.aload_n 0, 1) := by decide +kernel
theorem dX8_item_117 : decode mX8_item.2.1 117 = .ok (.invokevirtual 110, 3) := by decide +kernel
theorem dX8_item_120 : decode mX8_item.2.1 120 = .ok (.aload_n 0, 1) := by decide +kernel
theorem dX8_item_121 : decode mX8_item.2.1 121 = .ok (.getfield 40, 3) := by decide +kernel
theorem dX8_item_124 : decode mX8_item.2.1 124 = .ok (.bipush 12, 2) := by decide +kernel
theorem dX8_item_126 : decode mX8_item.2.1 126 = .ok (.iload_n 1, 1) := by decide +kernel
theorem dX8_item_127 : decode mX8_item.2.1 127 = .ok (.imul, 1) := by decide +kernel
theorem dX8_item_128 : decode mX8_item.2.1 128 = .ok (.iload_n 2, 1) := by decide +kernel
theorem dX8_item_129 : decode mX8_item.2.1 129 = .ok (.iadd, 1) := by decide +kernel
theorem dX8_item_130 : decode mX8_item.2.1 130 = .ok (.iload_n 3, 1) := by decide +kernel
theorem dX8_item_131 : decode mX8_item.2.1 131 = .ok (.iastore, 1) := by decide +kernel
theorem dX8_item_132 : decode mX8_item.2.1 132 = .ok (.return_, 1) := by decide +kernel
theorem dX8_readDrop_0 : decode mX8_readDrop.2.1 0 = .ok (.aload_n 0, 1) := by decide +kernel
theorem dX8_readDrop_1 : decode mX8_readDrop.2.1 1 = .ok (.iconst 0, 1) := by decide +kernel
theorem dX8_readDrop_2 : decode mX8_readDrop.2.1 2 = .ok (.putfield 90, 3) := by decide +kernel
theorem dX8_readDrop_5 : decode mX8_readDrop.2.1 5 = .ok (.aload_n 0, 1) := by decide +kernel
theorem dX8_readDrop_6 : decode mX8_readDrop.2.1 6 = .ok (.iconst (-1), 1) := by decide +kernel
theorem dX8_readDrop_7 : decode mX8_readDrop.2.1 7 = .ok (.putfield 97, 3) := by decide +kernel
theorem dX8_readDrop_10 : decode mX8_readDrop.2.1 10 = .ok (.aload_n 0, 1) := by decide +kernel
theorem dX8_readDrop_11 : decode mX8_readDrop.2.1 11 = .ok (.iconst 0, 1) := by decide +kernel
theorem dX8_readDrop_12 : decode mX8_readDrop.2.1 12 = .ok (.putfield 203, 3) := by decide +kernel
theorem dX8_readDrop_15 : decode mX8_readDrop.2.1 15 = .ok (.iconst 0, 1) := by decide +kernel
theorem dX8_readDrop_16 : decode mX8_readDrop.2.1 16 = .ok (.istore_n 2, 1) := by decide +kernel
theorem dX8_readDrop_17 : decode mX8_readDrop.2.1 17 = .ok (.iload_n 2, 1) := by decide +kernel
theorem dX8_readDrop_18 : decode mX8_readDrop.2.1 18 = .ok (.bipush 12, 2) := by decide +kernel
theorem dX8_readDrop_20 : decode mX8_readDrop.2.1 20 = .ok (.if_icmp .ge 24, 3) := by decide +kernel
theorem dX8_readDrop_23 : decode mX8_readDrop.2.1 23 = .ok (.aload_n 0, 1) := by decide +kernel
theorem dX8_readDrop_24 : decode mX8_readDrop.2.1 24 = .ok (.getfield 40, 3) := by decide +kernel
theorem dX8_readDrop_27 : decode mX8_readDrop.2.1 27 = .ok (.bipush 12, 2) := by decide +kernel
theorem dX8_readDrop_29 : decode mX8_readDrop.2.1 29 = .ok (.iload_n 1, 1) := by decide +kernel
theorem dX8_readDrop_30 : decode mX8_readDrop.2.1 30 = .ok (.imul, 1) := by decide +kernel
theorem dX8_readDrop_31 : decode mX8_readDrop.2.1 31 = .ok (.iload_n 2, 1) := by decide +kernel
theorem dX8_readDrop_32 : decode mX8_readDrop.2.1 32 = .ok (.iadd, 1) := by decide +kernel
theorem dX8_readDrop_33 : decode mX8_readDrop.2.1 33 = .ok (.iload_n 2, 1) := by decide +kernel
theorem dX8_readDrop_34 : decode mX8_readDrop.2.1 34 = .ok (.invokestatic 220, 3) := by decide +kernel
theorem dX8_readDrop_37 : decode mX8_readDrop.2.1 37 = .ok (.iastore, 1) := by decide +kernel
theorem dX8_readDrop_38 : decode mX8_readDrop.2.1 38 = .ok (.iinc 2 1, 3) := by decide +kernel
theorem dX8_readDrop_41 : decode mX8_readDrop.2.1 41 = .ok (.goto (-24), 3) := by decide +kernel
theorem dX8_readDrop_44 : decode mX8_readDrop.2.1 44 = .ok (.aload_n 0, 1) := by decide +kernel
theorem dX8_readDrop_45 : decode mX8_readDrop.2.1 45 = .ok (.iload_n 1, 1) := by decide +kernel
theorem dX8_readDrop_46 : decode mX8_readDrop.2.1 46 = .ok (.invokevirtual 223, 3) := by decide +kernel
theorem dX8_readDrop_49 : decode mX8_readDrop.2.1 49 = .ok (.aload_n 0, 1) := by decide +kernel
theorem dX8_readDrop_50 : decode mX8_readDrop.2.1 50 = .ok (.getfield 97, 3) := by decide +kernel
theorem dX8_readDrop_53 : decode mX8_readDrop.2.1 53 = .ok (.iconst (-1), 1) := by decide +kernel
theorem dX8_readDrop_54 : decode mX8_readDrop.2.1 54 = .ok (.if_icmp .ne 30, 3) := by decide +kernel
theorem dX8_readDrop_57 : decode mX8_readDrop.2.1 57 = .ok (.aload_n 0, 1) := by decide +kernel
theorem dX8_readDrop_58 : decode mX8_readDrop.2.1 58 = .ok (.invokevirtual 113, 3) := by decide +kernel
theorem dX8_readDrop_61 : decode mX8_readDrop.2.1 61 = .ok (.bipush 44, 2) := by decide +kernel
theorem dX8_readDrop_63 : decode mX8_readDrop.2.1 63 = .ok (.if_icmp .ne 21, 3) := by decide +kernel
theorem dX8_readDrop_66 : decode mX8_readDrop.2.1 66 = .ok (.aload_n 0, 1) := by decide +kernel
theorem dX8_readDrop_67 : decode mX8_readDrop.2.1 67 = .ok (.dup, 1) := by decide +kernel
theorem dX8_readDrop_68 : decode mX8_readDrop.2.1 68 = .ok (.getfield 90, 3) := by decide +kernel
theorem dX8_readDrop_71 : decode mX8_readDrop.2.1 71 = .ok (.iconst 1, 1) := by decide +kernel
theorem dX8_readDrop_72 : decode mX8_readDrop.2.1 72 = .ok (.iadd, 1) := by decide +kernel
theorem dX8_readDrop_73 : decode mX8_readDrop.2.1 73 = .ok (.putfield 90, 3) := by decide +kernel
theorem dX8_readDrop_76 : decode mX8_readDrop.2.1 76 = .ok (.aload_n 0, 1) := by decide +kernel
theorem dX8_readDrop_77 : decode mX8_readDrop.2.1 77 = .ok (.iload_n 1, 1) := by decide +kernel
theorem dX8_readDrop_78 : decode mX8_readDrop.2.1 78 = .ok (.invokevirtual 223, 3) := by decide +kernel
theorem dX8_readDrop_81 : decode mX8_readDrop.2.1 81 = .ok (.goto (-32), 3) := by decide +kernel
theorem dX8_readDrop_84 : decode mX8_readDrop.2.1 84 = .ok (.aload_n 0, 1) := by decide +kernel
theorem dX8_readDrop_85 : decode mX8_readDrop.2.1 85 = .ok (.invokevirtual 172, 3) := by decide +kernel
theorem dX8_readDrop_88 : decode mX8_readDrop.2.1 88 = .ok (.iconst (-1), 1) := by decide +kernel
theorem dX8_readDrop_89 : decode mX8_readDrop.2.1 89 = .ok (.if_icmp .ne 39, 3) := by decide +kernel
theorem dX8_readDrop_92 : decode mX8_readDrop.2.1 92 = .ok (.aload_n 0, 1) := by decide +kernel
theorem dX8_readDrop_93 : decode mX8_readDrop.2.1 93 = .ok (.getfield 40, 3) := by decide +kernel
theorem dX8_readDrop_96 : decode mX8_readDrop.2.1 96 = .ok (.bipush 12, 2) := by decide +kernel
theorem dX8_readDrop_98 : decode mX8_readDrop.2.1 98 = .ok (.iload_n 1, 1) := by decide +kernel
theorem dX8_readDrop_99 : decode mX8_readDrop.2.1 99 = .ok (.imul, 1) := by decide +kernel
theorem dX8_readDrop_100 : decode mX8_readDrop.2.1 100 = .ok (.iconst 0, 1) := by decide +kernel
theorem dX8_readDrop_101 : decode mX8_readDrop.2.1 101 = .ok (.iadd, 1) := by decide +kernel
theorem dX8_readDrop_102 : decode mX8_readDrop.2.1 102 = .ok (.iaload, 1) := by decide +kernel
theorem dX8_readDrop_103 : decode mX8_readDrop.2.1 103 = .ok (.aload_n 0, 1) := by decide +kernel
theorem dX8_readDrop_104 : decode mX8_readDrop.2.1 104 = .ok (.getfield 40, 3) := by decide +kernel
theorem dX8_readDrop_107 : decode mX8_readDrop.2.1 107 = .ok (.bipush 12, 2) := by decide +kernel
theorem dX8_readDrop_109 : decode mX8_readDrop.2.1 109 = .ok (.iload_n 1, 1) := by decide +kernel
theorem dX8_readDrop_110 : decode mX8_readDrop.2.1 110 = .ok (.imul, 1) := by decide +kernel
theorem dX8_readDrop_111 : decode mX8_readDrop.2.1 111 = .ok (.iconst 1, 1) := by decide +kernel
theorem dX8_readDrop_112 : decode mX8_readDrop.2.1 112 = .ok (.iadd, 1) := by decide +kernel
theorem dX8_readDrop_113 : decode mX8_readDrop.2.1 113 = .ok (.iaload, 1) := by decide +kernel
theorem dX8_readDrop_114 : decode mX8_readDrop.2.1 114 = .ok (.iadd, 1) := by decide +kernel
theorem dX8_readDrop_115 : decode mX8_readDrop.2.1 115 = .ok (.bipush 24, 2) := by decide +kernel
theorem dX8_readDrop_117 : decode mX8_readDrop.2.1 117 = .ok (.if_icmp .le 11, 3) := by decide +kernel
theorem dX8_readDrop_120 : decode mX8_readDrop.2.1 120 = .ok (.aload_n 0, 1) := by decide +kernel
theorem dX8_readDrop_121 : decode mX8_readDrop.2.1 121 = .ok (.aload_n 0, 1) := by decide +kernel
theorem dX8_readDrop_122 : decode mX8_readDrop.2.1 122 = .ok (.getfield 87, 3) := by decide +kernel
theorem dX8_readDrop_125 : decode mX8_readDrop.2.1 125 = .ok (.putfield 97, 3) := by decide +kernel
theorem dX8_readDrop_128 : decode mX8_readDrop.2.1 128 = .ok (.aload_n 0, 1) := by decide +kernel
theorem dX8_readDrop_129 : decode mX8_readDrop.2.1 129 = .ok (.getfield 97, 3) := by decide +kernel
theorem dX8_readDrop_132 : decode mX8_readDrop.2.1 132 = .ok (.ireturn, 1) := by decide +kernel
theorem dX8_fault_0 : decode mX8_fault.2.1 0 = .ok (.iload_n 1, 1) := by decide +kernel
theorem dX8_fault_1 : decode mX8_fault.2.1 1 = .ok (.ifCond .ne 12, 3) := by decide +kernel
theorem dX8_fault_4 : decode mX8_fault.2.1 4 = .ok (.aload_n 0, 1) := by decide +kernel
theorem dX8_fault_5 : decode mX8_fault.2.1 5 = .ok (.bipush 8, 2) := by decide +kernel
theorem dX8_fault_7 : decode mX8_fault.2.1 7 = .ok (.invokevirtual 226, 3) := by decide +kernel
theorem dX8_fault_10 : decode mX8_fault.2.1 10 = .ok (.goto 33, 3) := by decide +kernel
theorem dX8_fault_13 : decode mX8_fault.2.1 13 = .ok (.iload_n 1, 1) := by decide +kernel
theorem dX8_fault_14 : decode mX8_fault.2.1 14 = .ok (.iconst 1, 1) := by decide +kernel
theorem dX8_fault_15 : decode mX8_fault.2.1 15 = .ok (.if_icmp .ne 12, 3) := by decide +kernel
theorem dX8_fault_18 : decode mX8_fault.2.1 18 = .ok (.aload_n 0, 1) := by decide +kernel
theorem dX8_fault_19 : decode mX8_fault.2.1 19 = .ok (.bipush 8, 2) := by decide +kernel
theorem dX8_fault_21 : decode mX8_fault.2.1 21 = .ok (.invokevirtual 229, 3) := by decide +kernel
theorem dX8_fault_24 : decode mX8_fault.2.1 24 = .ok (.goto 19, 3) := by decide +kernel
theorem dX8_fault_27 : decode mX8_fault.2.1 27 = .ok (.iload_n 1, 1) := by decide +kernel
theorem dX8_fault_28 : decode mX8_fault.2.1 28 = .ok (.iconst 2, 1) := by decide +kernel
theorem dX8_fault_29 : decode mX8_fault.2.1 29 = .ok (.if_icmp .ne 12, 3) := by decide +kernel
theorem dX8_fault_32 : decode mX8_fault.2.1 32 = .ok (.aload_n 0, 1) := by decide +kernel
theorem dX8_fault_33 : decode mX8_fault.2.1 33 = .ok (.bipush 12, 2) := by decide +kernel
theorem dX8_fault_35 : decode mX8_fault.2.1 35 = .ok (.invokevirtual 232, 3) := by decide +kernel
theorem dX8_fault_38 : decode mX8_fault.2.1 38 = .ok (.goto 5, 3) := by decide +kernel
theorem dX8_fault_41 : decode mX8_fault.2.1 41 = .ok (.bipush (-2), 2) := by decide +kernel
theorem dX8_fault_43 : decode mX8_fault.2.1 43 = .ok (.ireturn, 1) := by decide +kernel
theorem dX8_text_0 : decode mX8_text.2.1 0 = .ok (.iload_n 1, 1) := by decide +kernel
theorem dX8_text_1 : decode mX8_text.2.1 1 = .ok (.ifCond .ne 45, 3) := by decide +kernel
theorem dX8_text_4 : decode mX8_text.2.1 4 = .ok (.aload_n 0, 1) := by decide +kernel
theorem dX8_text_5 : decode mX8_text.2.1 5 = .ok (.getfield 235, 3) := by decide +kernel
theorem dX8_text_8 : decode mX8_text.2.1 8 = .ok (.iconst 4, 1) := by decide +kernel
theorem dX8_text_9 : decode mX8_text.2.1 9 = .ok (.if_icmp .ge 37, 3) := by decide +kernel
theorem dX8_text_12 : decode mX8_text.2.1 12 = .ok (.aload_n 0, 1) := by decide +kernel
theorem dX8_text_13 : decode mX8_text.2.1 13 = .ok (.aload_n 0, 1) := by decide +kernel
theorem dX8_text_14 : decode mX8_text.2.1 14 = .ok (.getfield 235, 3) := by decide +kernel
theorem dX8_text_17 : decode mX8_text.2.1 17 = .ok (.invokevirtual 226, 3) := by decide +kernel
theorem dX8_text_20 : decode mX8_text.2.1 20 = .ok (.iconst (-1), 1) := by decide +kernel
theorem dX8_text_21 : decode mX8_text.2.1 21 = .ok (.if_icmp .ne 25, 3) := by decide +kernel
theorem dX8_text_24 : decode mX8_text.2.1 24 = .ok (.aload_n 0, 1) := by decide +kernel
theorem dX8_text_25 : decode mX8_text.2.1 25 = .ok (.iconst 0, 1) := by decide +kernel
theorem dX8_text_26 : decode mX8_text.2.1 26 = .ok (.putfield 87, 3) := by decide +kernel
theorem dX8_text_29 : decode mX8_text.2.1 29 = .ok (.aload_n 0, 1) := by decide +kernel
theorem dX8_text_30 : decode mX8_text.2.1 30 = .ok (.dup, 1) := by decide +kernel
theorem dX8_text_31 : decode mX8_text.2.1 31 = .ok (.getfield 235, 3) := by decide +kernel
theorem dX8_text_34 : decode mX8_text.2.1 34 = .ok (.iconst 1, 1) := by decide +kernel
theorem dX8_text_35 : decode mX8_text.2.1 35 = .ok (.iadd, 1) := by decide +kernel
theorem dX8_text_36 : decode mX8_text.2.1 36 = .ok (.putfield 235, 3) := by decide +kernel
theorem dX8_text_39 : decode mX8_text.2.1 39 = .ok (.aload_n 0, 1) := by decide +kernel
theorem dX8_text_40 : decode mX8_text.2.1 40 = .ok (.getfield 235, 3) := by decide +kernel
theorem dX8_text_43 : decode mX8_text.2.1 43 = .ok (.iconst 1, 1) := by decide +kernel
theorem dX8_text_44 : decode mX8_text.2.1 44 = .ok (.isub, 1) := by decide +kernel
theorem dX8_text_45 : decode mX8_text.2.1 45 = .ok (.ireturn, 1) := by decide +kernel
theorem dX8_text_46 : decode mX8_text.2.1 46 = .ok (.iload_n 1, 1) := by decide +kernel
theorem dX8_text_47 : decode mX8_text.2.1 47 = .ok (.iconst 1, 1) := by decide +kernel
theorem dX8_text_48 : decode mX8_text.2.1 48 = .ok (.if_icmp .ne 47, 3) := by decide +kernel
theorem dX8_text_51 : decode mX8_text.2.1 51 = .ok (.aload_n 0, 1) := by decide +kernel
theorem dX8_text_52 : decode mX8_text.2.1 52 = .ok (.getfield 238, 3) := by decide +kernel
theorem dX8_text_55 : decode mX8_text.2.1 55 = .ok (.iconst 4, 1) := by decide +kernel
theorem dX8_text_56 : decode mX8_text.2.1 56 = .ok (.if_icmp .ge 39, 3) := by decide +kernel
theorem dX8_text_59 : decode mX8_text.2.1 59 = .ok (.aload_n 0, 1) := by decide +kernel
theorem dX8_text_60 : decode mX8_text.2.1 60 = .ok (.iconst 4, 1) := by decide +kernel
theorem dX8_text_61 : decode mX8_text.2.1 61 = .ok (.aload_n 0, 1) := by decide +kernel
theorem dX8_text_62 : decode mX8_text.2.1 62 = .ok (.getfield 238, 3) := by decide +kernel
theorem dX8_text_65 : decode mX8_text.2.1 65 = .ok (.iadd, 1) := by decide +kernel
theorem dX8_text_66 : decode mX8_text.2.1 66 = .ok (.invokevirtual 229, 3) := by decide +kernel
theorem dX8_text_69 : decode mX8_text.2.1 69 = .ok (.iconst (-1), 1) := by decide +kernel
theorem dX8_text_70 : decode mX8_text.2.1 70 = .ok (.if_icmp .ne 25, 3) := by decide +kernel
theorem dX8_text_73 : decode mX8_text.2.1 73 = .ok (.aload_n 0, 1) := by decide +kernel
theorem dX8_text_74 : decode mX8_text.2.1 74 = .ok (.iconst 0, 1) := by decide +kernel
theorem dX8_text_75 : decode mX8_text.2.1 75 = .ok (.putfield 87, 3) := by decide +kernel
theorem dX8_text_78 : decode mX8_text.2.1 78 = .ok (.aload_n 0, 1) := by decide +kernel
theorem dX8_text_79 : decode mX8_text.2.1 79 = .ok (.dup, 1) := by decide +kernel
theorem dX8_text_80 : decode mX8_text.2.1 80 = .ok (.getfield 238, 3) := by decide +kernel
theorem dX8_text_83 : decode mX8_text.2.1 83 = .ok (.iconst 1, 1) := by decide +kernel
theorem dX8_text_84 : decode mX8_text.2.1 84 = .ok (.iadd, 1) := by decide +kernel
theorem dX8_text_85 : decode mX8_text.2.1 85 = .ok (.putfield 238, 3) := by decide +kernel
theorem dX8_text_88 : decode mX8_text.2.1 88 = .ok (.aload_n 0, 1) := by decide +kernel
theorem dX8_text_89 : decode mX8_text.2.1 89 = .ok (.getfield 238, 3) := by decide +kernel
theorem dX8_text_92 : decode mX8_text.2.1 92 = .ok (.iconst 1, 1) := by decide +kernel
theorem dX8_text_93 : decode mX8_text.2.1 93 = .ok (.isub, 1) := by decide +kernel
theorem dX8_text_94 : decode mX8_text.2.1 94 = .ok (.ireturn, 1) := by decide +kernel
theorem dX8_text_95 : decode mX8_text.2.1 95 = .ok (.iload_n 1, 1) := by decide +kernel
theorem dX8_text_96 : decode mX8_text.2.1 96 = .ok (.iconst 2, 1) := by decide +kernel
theorem dX8_text_97 : decode mX8_text.2.1 97 = .ok (.if_icmp .ne 56, 3) := by decide +kernel
theorem dX8_text_100 : decode mX8_text.2.1 100 = .ok (.aload_n 0, 1) := by decide +kernel
theorem dX8_text_101 : decode mX8_text.2.1 101 = .ok (.getfield 241, 3) := by decide +kernel
theorem dX8_text_104 : decode mX8_text.2.1 104 = .ok (.bipush 12, 2) := by decide +kernel
theorem dX8_text_106 : decode mX8_text.2.1 106 = .ok (.if_icmp .ge 47, 3) := by decide +kernel
theorem dX8_text_109 : decode mX8_text.2.1 109 = .ok (.aload_n 0, 1) := by decide +kernel
theorem dX8_text_110 : decode mX8_text.2.1 110 = .ok (.aload_n 0, 1) := by decide +kernel
theorem dX8_text_111 : decode mX8_text.2.1 111 = .ok (.getfield 241, 3) := by decide +kernel
theorem dX8_text_114 : decode mX8_text.2.1 114 = .ok (.invokevirtual 232, 3) := by decide +kernel
theorem dX8_text_117 : decode mX8_text.2.1 117 = .ok (.iconst (-1), 1) := by decide +kernel
theorem dX8_text_118 : decode mX8_text.2.1 118 = .ok (.if_icmp .ne 35, 3) := by decide +kernel
theorem dX8_text_121 : decode mX8_text.2.1 121 = .ok (.aload_n 0, 1) := by decide +kernel
theorem dX8_text_122 : decode mX8_text.2.1 122 = .ok (.iconst 0, 1) := by decide +kernel
theorem dX8_text_123 : decode mX8_text.2.1 123 = .ok (.putfield 87, 3) := by decide +kernel
theorem dX8_text_126 : decode mX8_text.2.1 126 = .ok (.aload_n 0, 1) := by decide +kernel
theorem dX8_text_127 : decode mX8_text.2.1 127 = .ok (.getfield 43, 3) := by decide +kernel
theorem dX8_text_130 : decode mX8_text.2.1 130 = .ok (.aload_n 0, 1) := by decide +kernel
theorem dX8_text_131 : decode mX8_text.2.1 131 = .ok (.getfield 241, 3) := by decide +kernel
theorem dX8_text_134 : decode mX8_text.2.1 134 = .ok (.iconst 1, 1) := by decide +kernel
theorem dX8_text_135 : decode mX8_text.2.1 135 = .ok (.iastore, 1) := by decide +kernel
theorem dX8_text_136 : decode mX8_text.2.1 136 = .ok (.aload_n 0, 1) := by decide +kernel
theorem dX8_text_137 : decode mX8_text.2.1 137 = .ok (.dup, 1) := by decide +kernel
theorem dX8_text_138 : decode mX8_text.2.1 138 = .ok (.getfield 241, 3) := by decide +kernel
theorem dX8_text_141 : decode mX8_text.2.1 141 = .ok (.iconst 1, 1) := by decide +kernel
theorem dX8_text_142 : decode mX8_text.2.1 142 = .ok (.iadd, 1) := by decide +kernel
theorem dX8_text_143 : decode mX8_text.2.1 143 = .ok (.putfield 241, 3) := by decide +kernel
theorem dX8_text_146 : decode mX8_text.2.1 146 = .ok (.aload_n 0, 1) := by decide +kernel
theorem dX8_text_147 : decode mX8_text.2.1 147 = .ok (.getfield 241, 3) := by decide +kernel
theorem dX8_text_150 : decode mX8_text.2.1 150 = .ok (.iconst 1, 1) := by decide +kernel
theorem dX8_text_151 : decode mX8_text.2.1 151 = .ok (.isub, 1) := by decide +kernel
theorem dX8_text_152 : decode mX8_text.2.1 152 = .ok (.ireturn, 1) := by decide +kernel
theorem dX8_text_153 : decode mX8_text.2.1 153 = .ok (.iconst (-1), 1) := by decide +kernel
theorem dX8_text_154 : decode mX8_text.2.1 154 = .ok (.ireturn, 1) := by decide +kernel
theorem dX8_isDrop_0 : decode mX8_isDrop.2.1 0 = .ok (.iload_n 1, 1) := by decide +kernel
theorem dX8_isDrop_1 : decode mX8_isDrop.2.1 1 = .ok (.iconst 0, 1) := by decide +kernel
theorem dX8_isDrop_2 : decode mX8_isDrop.2.1 2 = .ok (.aload_n 0, 1) := by decide +kernel
theorem dX8_isDrop_3 : decode mX8_isDrop.2.1 3 = .ok (.getfield 241, 3) := by decide +kernel
theorem dX8_isDrop_6 : decode mX8_isDrop.2.1 6 = .ok (.iconst 1, 1) := by decide +kernel
theorem dX8_isDrop_7 : decode mX8_isDrop.2.1 7 = .ok (.isub, 1) := by decide +kernel
theorem dX8_isDrop_8 : decode mX8_isDrop.2.1 8 = .ok (.invokestatic 216, 3) := by decide +kernel
theorem dX8_isDrop_11 : decode mX8_isDrop.2.1 11 = .ok (.ireturn, 1) := by decide +kernel
theorem dX8_drop_0 : decode mX8_drop.2.1 0 = .ok (.aload_n 0, 1) := by decide +kernel
theorem dX8_drop_1 : decode mX8_drop.2.1 1 = .ok (.aload_n 0, 1) := by decide +kernel
theorem dX8_drop_2 : decode mX8_drop.2.1 2 = .ok (.iload_n 1, 1) := by decide +kernel
theorem dX8_drop_3 : decode mX8_drop.2.1 3 = .ok (.invokevirtual 244, 3) := by decide +kernel
theorem dX8_drop_6 : decode mX8_drop.2.1 6 = .ok (.ifCond .eq 17, 3) := by decide +kernel
theorem dX8_drop_9 : decode mX8_drop.2.1 9 = .ok (.iload_n 2, 1) := by decide +kernel
theorem dX8_drop_10 : decode mX8_drop.2.1 10 = .ok (.iconst 0, 1) := by decide +kernel
theorem dX8_drop_11 : decode mX8_drop.2.1 11 = .ok (.bipush 11, 2) := by decide +kernel
theorem dX8_drop_13 : decode mX8_drop.2.1 13 = .ok (.invokestatic 216, 3) := by decide +kernel
theorem dX8_drop_16 : decode mX8_drop.2.1 16 = .ok (.ifCond .eq 7, 3) := by decide +kernel
theorem dX8_drop_19 : decode mX8_drop.2.1 19 = .ok (.iconst 0, 1) := by decide +kernel
theorem dX8_drop_20 : decode mX8_drop.2.1 20 = .ok (.goto 4, 3) := by decide +kernel
theorem dX8_drop_23 : decode mX8_drop.2.1 23 = .ok (.iconst 1, 1) := by decide +kernel
theorem dX8_drop_24 : decode mX8_drop.2.1 24 = .ok (.putfield 80, 3) := by decide +kernel
theorem dX8_drop_27 : decode mX8_drop.2.1 27 = .ok (.aload_n 0, 1) := by decide +kernel
theorem dX8_drop_28 : decode mX8_drop.2.1 28 = .ok (.getfield 80, 3) := by decide +kernel
theorem dX8_drop_31 : decode mX8_drop.2.1 31 = .ok (.iconst 1, 1) := by decide +kernel
theorem dX8_drop_32 : decode mX8_drop.2.1 32 = .ok (.if_icmp .ne 7, 3) := by decide +kernel
theorem dX8_drop_35 : decode mX8_drop.2.1 35 = .ok (.iconst 0, 1) := by decide +kernel
theorem dX8_drop_36 : decode mX8_drop.2.1 36 = .ok (.goto 14, 3) := by decide +kernel
theorem dX8_drop_39 : decode mX8_drop.2.1 39 = .ok (.aload_n 0, 1) := by decide +kernel
theorem dX8_drop_40 : decode mX8_drop.2.1 40 = .ok (.getfield 40, 3) := by decide +kernel
theorem dX8_drop_43 : decode mX8_drop.2.1 43 = .ok (.bipush 12, 2) := by decide +kernel
theorem dX8_drop_45 : decode mX8_drop.2.1 45 = .ok (.iload_n 1, 1) := by decide +kernel
theorem dX8_drop_46 : decode mX8_drop.2.1 46 = .ok (.imul, 1) := by decide +kernel
theorem dX8_drop_47 : decode mX8_drop.2.1 47 = .ok (.iload_n 2, 1) := by decide +kernel
theorem dX8_drop_48 : decode mX8_drop.2.1 48 = .ok (.iadd, 1) := by decide +kernel
theorem dX8_drop_49 : decode mX8_drop.2.1 49 = .ok (.iaload, 1) := by decide +kernel
theorem dX8_drop_50 : decode mX8_drop.2.1 50 = .ok (.ireturn, 1) := by decide +kernel
theorem dX8_pace_0 : decode mX8_pace.2.1 0 = .ok (.iload_n 1, 1) := by decide +kernel
theorem dX8_pace_1 : decode mX8_pace.2.1 1 = .ok (.iconst 0, 1) := by decide +kernel
theorem dX8_pace_2 : decode mX8_pace.2.1 2 = .ok (.bipush 99, 2) := by decide +kernel
theorem dX8_pace_4 : decode mX8_pace.2.1 4 = .ok (.invokestatic 216, 3) := by decide +kernel
theorem dX8_pace_7 : decode mX8_pace.2.1 7 = .ok (.ifCond .ne 5, 3) := by decide +kernel
theorem dX8_pace_10 : decode mX8_pace.2.1 10 = .ok (.iconst 0, 1) := by decide +kernel
theorem dX8_pace_11 : decode mX8_pace.2.1 11 = .ok (.ireturn, 1) := by decide +kernel
theorem dX8_pace_12 : decode mX8_pace.2.1 12 = .ok (.aload_n 0, 1) := by decide +kernel
theorem dX8_pace_13 : decode mX8_pace.2.1 13 = .ok (.iload_n 1, 1) := by decide +kernel
theorem dX8_pace_14 : decode mX8_pace.2.1 14 = .ok (.putfield 46, 3) := by decide +kernel
theorem dX8_pace_17 : decode mX8_pace.2.1 17 = .ok (.iconst 1, 1) := by decide +kernel
theorem dX8_pace_18 : decode mX8_pace.2.1 18 = .ok (.ireturn, 1) := by decide +kernel
theorem dX8_isLaw_0 : decode mX8_isLaw.2.1 0 = .ok (.iload_n 1, 1) := by decide +kernel
theorem dX8_isLaw_1 : decode mX8_isLaw.2.1 1 = .ok (.iconst 0, 1) := by decide +kernel
theorem dX8_isLaw_2 : decode mX8_isLaw.2.1 2 = .ok (.aload_n 0, 1) := by decide +kernel
theorem dX8_isLaw_3 : decode mX8_isLaw.2.1 3 = .ok (.getfield 235, 3) := by decide +kernel
theorem dX8_isLaw_6 : decode mX8_isLaw.2.1 6 = .ok (.iconst 1, 1) := by decide +kernel
theorem dX8_isLaw_7 : decode mX8_isLaw.2.1 7 = .ok (.isub, 1) := by decide +kernel
theorem dX8_isLaw_8 : decode mX8_isLaw.2.1 8 = .ok (.invokestatic 216, 3) := by decide +kernel
theorem dX8_isLaw_11 : decode mX8_isLaw.2.1 11 = .ok (.ireturn, 1) := by decide +kernel
theorem dX8_areDrops_0 : decode mX8_areDrops.2.1 0 = .ok (.iload_n 1, 1) := by decide +kernel
theorem dX8_areDrops_1 : decode mX8_areDrops.2.1 1 = .ok (.ifCond .le 16, 3) := by decide +kernel
theorem dX8_areDrops_4 : decode mX8_areDrops.2.1 4 = .ok (.iload_n 1, 1) := by decide +kernel
theorem dX8_areDrops_5 : decode mX8_areDrops.2.1 5 = .ok (.aload_n 0, 1) := by decide +kernel
theorem dX8_areDrops_6 : decode mX8_areDrops.2.1 6 = .ok (.getfield 241, 3) := by decide +kernel
theorem dX8_areDrops_9 : decode mX8_areDrops.2.1 9 = .ok (.ishr, 1) := by decide +kernel
theorem dX8_areDrops_10 : decode mX8_areDrops.2.1 10 = .ok (.ifCond .ne 7, 3) := by decide +kernel
theorem dX8_areDrops_13 : decode mX8_areDrops.2.1 13 = .ok (.iconst 1, 1) := by decide +kernel
theorem dX8_areDrops_14 : decode mX8_areDrops.2.1 14 = .ok (.goto 4, 3) := by decide +kernel
theorem dX8_areDrops_17 : decode mX8_areDrops.2.1 17 = .ok (.iconst 0, 1) := by decide +kernel
theorem dX8_areDrops_18 : decode mX8_areDrops.2.1 18 = .ok (.ireturn, 1) := by decide +kernel
theorem dX8_addPiece_0 : decode mX8_addPiece.2.1 0 = .ok (.aload_n 0, 1) := by decide +kernel
theorem dX8_addPiece_1 : decode mX8_addPiece.2.1 1 = .ok (.getfield 247, 3) := by decide +kernel
theorem dX8_addPiece_4 : decode mX8_addPiece.2.1 4 = .ok (.istore 4, 2) := by decide +kernel
theorem dX8_addPiece_6 : decode mX8_addPiece.2.1 6 = .ok (.iload 4, 2) := by decide +kernel
theorem dX8_addPiece_8 : decode mX8_addPiece.2.1 8 = .ok (.ifCond .le 70, 3) := by decide +kernel
theorem dX8_addPiece_11 : decode mX8_addPiece.2.1 11 = .ok (.aload_n 0, 1) := by decide +kernel
theorem dX8_addPiece_12 : decode mX8_addPiece.2.1 12 = .ok (.getfield 59, 3) := by decide +kernel
theorem dX8_addPiece_15 : decode mX8_addPiece.2.1 15 = .ok (.iload 4, 2) := by decide +kernel
theorem dX8_addPiece_17 : decode mX8_addPiece.2.1 17 = .ok (.iconst 1, 1) := by decide +kernel
theorem dX8_addPiece_18 : decode mX8_addPiece.2.1 18 = .ok (.isub, 1) := by decide +kernel
theorem dX8_addPiece_19 : decode mX8_addPiece.2.1 19 = .ok (.iaload, 1) := by decide +kernel
theorem dX8_addPiece_20 : decode mX8_addPiece.2.1 20 = .ok (.iload_n 1, 1) := by decide +kernel
theorem dX8_addPiece_21 : decode mX8_addPiece.2.1 21 = .ok (.if_icmp .le 57, 3) := by decide +kernel
theorem dX8_addPiece_24 : decode mX8_addPiece.2.1 24 = .ok (.aload_n 0, 1) := by decide +kernel
theorem dX8_addPiece_25 : decode mX8_addPiece.2.1 25 = .ok (.getfield 59, 3) := by decide +kernel
theorem dX8_addPiece_28 : decode mX8_addPiece.2.1 28 = .ok (.iload 4, 2) := by decide +kernel
theorem dX8_addPiece_30 : decode mX8_addPiece.2.1 30 = .ok (.aload_n 0, 1) := by decide +kernel
theorem dX8_addPiece_31 : decode mX8_addPiece.2.1 31 = .ok (.getfield 59, 3) := by decide +kernel
theorem dX8_addPiece_34 : decode mX8_addPiece.2.1 34 = .ok (.iload 4, 2) := by decide +kernel
theorem dX8_addPiece_36 : decode mX8_addPiece.2.1 36 = .ok (.iconst 1, 1) := by decide +kernel
theorem dX8_addPiece_37 : decode mX8_addPiece.2.1 37 = .ok (.isub, 1) := by decide +kernel
theorem dX8_addPiece_38 : decode mX8_addPiece.2.1 38 = .ok (.iaload, 1) := by decide +kernel
theorem dX8_addPiece_39 : decode mX8_addPiece.2.1 39 = .ok (.iastore, 1) := by decide +kernel
theorem dX8_addPiece_40 : decode mX8_addPiece.2.1 40 = .ok (.aload_n 0, 1) := by decide +kernel
theorem dX8_addPiece_41 : decode mX8_addPiece.2.1 41 = .ok (.getfield 62, 3) := by decide +kernel
theorem dX8_addPiece_44 : decode mX8_addPiece.2.1 44 = .ok (.iload 4, 2) := by decide +kernel
theorem dX8_addPiece_46 : decode mX8_addPiece.2.1 46 = .ok (.aload_n 0, 1) := by decide +kernel
theorem dX8_addPiece_47 : decode mX8_addPiece.2.1 47 = .ok (.getfield 62, 3) := by decide +kernel
theorem dX8_addPiece_50 : decode mX8_addPiece.2.1 50 = .ok (.iload 4, 2) := by decide +kernel
theorem dX8_addPiece_52 : decode mX8_addPiece.2.1 52 = .ok (.iconst 1, 1) := by decide +kernel
theorem dX8_addPiece_53 : decode mX8_addPiece.2.1 53 = .ok (.isub, 1) := by decide +kernel
theorem dX8_addPiece_54 : decode mX8_addPiece.2.1 54 = .ok (.iaload, 1) := by decide +kernel
theorem dX8_addPiece_55 : decode mX8_addPiece.2.1 55 = .ok (.iastore, 1) := by decide +kernel
theorem dX8_addPiece_56 : decode mX8_addPiece.2.1 56 = .ok (.aload_n 0, 1) := by decide +kernel
theorem dX8_addPiece_57 : decode mX8_addPiece.2.1 57 = .ok (.getfield 65, 3) := by decide +kernel
theorem dX8_addPiece_60 : decode mX8_addPiece.2.1 60 = .ok (.iload 4, 2) := by decide +kernel
theorem dX8_addPiece_62 : decode mX8_addPiece.2.1 62 = .ok (.aload_n 0, 1) := by decide +kernel
theorem dX8_addPiece_63 : decode mX8_addPiece.2.1 63 = .ok (.getfield 65, 3) := by decide +kernel
theorem dX8_addPiece_66 : decode mX8_addPiece.2.1 66 = .ok (.iload 4, 2) := by decide +kernel
theorem dX8_addPiece_68 : decode mX8_addPiece.2.1 68 = .ok (.iconst 1, 1) := by decide +kernel
theorem dX8_addPiece_69 : decode mX8_addPiece.2.1 69 = .ok (.isub, 1) := by decide +kernel
theorem dX8_addPiece_70 : decode mX8_addPiece.2.1 70 = .ok (.iaload, 1) := by decide +kernel
theorem dX8_addPiece_71 : decode mX8_addPiece.2.1 71 = .ok (.iastore, 1) := by decide +kernel
theorem dX8_addPiece_72 : decode mX8_addPiece.2.1 72 = .ok (.iinc 4 (-1), 3) := by decide +kernel
theorem dX8_addPiece_75 : decode mX8_addPiece.2.1 75 = .ok (.goto (-69), 3) := by decide +kernel
theorem dX8_addPiece_78 : decode mX8_addPiece.2.1 78 = .ok (.aload_n 0, 1) := by decide +kernel
theorem dX8_addPiece_79 : decode mX8_addPiece.2.1 79 = .ok (.getfield 59, 3) := by decide +kernel
theorem dX8_addPiece_82 : decode mX8_addPiece.2.1 82 = .ok (.iload 4, 2) := by decide +kernel
theorem dX8_addPiece_84 : decode mX8_addPiece.2.1 84 = .ok (.iload_n 1, 1) := by decide +kernel
theorem dX8_addPiece_85 : decode mX8_addPiece.2.1 85 = .ok (.iastore, 1) := by decide +kernel
theorem dX8_addPiece_86 : decode mX8_addPiece.2.1 86 = .ok (.aload_n 0, 1) := by decide +kernel
theorem dX8_addPiece_87 : decode mX8_addPiece.2.1 87 = .ok (.getfield 62, 3) := by decide +kernel
theorem dX8_addPiece_90 : decode mX8_addPiece.2.1 90 = .ok (.iload 4, 2) := by decide +kernel
theorem dX8_addPiece_92 : decode mX8_addPiece.2.1 92 = .ok (.iload_n 2, 1) := by decide +kernel
theorem dX8_addPiece_93 : decode mX8_addPiece.2.1 93 = .ok (.iastore, 1) := by decide +kernel
theorem dX8_addPiece_94 : decode mX8_addPiece.2.1 94 = .ok (.aload_n 0, 1) := by decide +kernel
theorem dX8_addPiece_95 : decode mX8_addPiece.2.1 95 = .ok (.getfield 65, 3) := by decide +kernel
theorem dX8_addPiece_98 : decode mX8_addPiece.2.1 98 = .ok (.iload 4, 2) := by decide +kernel
theorem dX8_addPiece_100 : decode mX8_addPiece.2.1 100 = .ok (.iload_n 3, 1) := by decide +kernel
theorem dX8_addPiece_101 : decode mX8_addPiece.2.1 101 = .ok (.iastore, 1) := by decide +kernel
theorem dX8_addPiece_102 : decode mX8_addPiece.2.1 102 = .ok (.aload_n 0, 1) := by decide +kernel
theorem dX8_addPiece_103 : decode mX8_addPiece.2.1 103 = .ok (.dup, 1) := by decide +kernel
theorem dX8_addPiece_104 : decode mX8_addPiece.2.1 104 = .ok (.getfield 247, 3) := by decide +kernel
theorem dX8_addPiece_107 : decode mX8_addPiece.2.1 107 = .ok (.iconst 1, 1) := by decide +kernel
theorem dX8_addPiece_108 : decode mX8_addPiece.2.1 108 = .ok (.iadd, 1) := by decide +kernel
theorem dX8_addPiece_109 : decode mX8_addPiece.2.1 109 = .ok (.putfield 247, 3) := by decide +kernel
theorem dX8_addPiece_112 : decode mX8_addPiece.2.1 112 = .ok (.return_, 1) := by decide +kernel
theorem dX8_gather_0 : decode mX8_gather.2.1 0 = .ok (.aload_n 0, 1) := by decide +kernel
theorem dX8_gather_1 : decode mX8_gather.2.1 1 = .ok (.iconst 0, 1) := by decide +kernel
theorem dX8_gather_2 : decode mX8_gather.2.1 2 = .ok (.putfield 247, 3) := by decide +kernel
theorem dX8_gather_5 : decode mX8_gather.2.1 5 = .ok (.iconst 0, 1) := by decide +kernel
theorem dX8_gather_6 : decode mX8_gather.2.1 6 = .ok (.istore_n 2, 1) := by decide +kernel
theorem dX8_gather_7 : decode mX8_gather.2.1 7 = .ok (.iload_n 2, 1) := by decide +kernel
theorem dX8_gather_8 : decode mX8_gather.2.1 8 = .ok (.aload_n 0, 1) := by decide +kernel
theorem dX8_gather_9 : decode mX8_gather.2.1 9 = .ok (.getfield 241, 3) := by decide +kernel
theorem dX8_gather_12 : decode mX8_gather.2.1 12 = .ok (.if_icmp .ge 44, 3) := by decide +kernel
theorem dX8_gather_15 : decode mX8_gather.2.1 15 = .ok (.iload_n 1, 1) := by decide +kernel
theorem dX8_gather_16 : decode mX8_gather.2.1 16 = .ok (.iload_n 2, 1) := by decide +kernel
theorem dX8_gather_17 : decode mX8_gather.2.1 17 = .ok (.invokestatic 206, 3) := by decide +kernel
theorem dX8_gather_20 : decode mX8_gather.2.1 20 = .ok (.ifCond .eq 30, 3) := by decide +kernel
theorem dX8_gather_23 : decode mX8_gather.2.1 23 = .ok (.aload_n 0, 1) := by decide +kernel
theorem dX8_gather_24 : decode mX8_gather.2.1 24 = .ok (.aload_n 0, 1) := by decide +kernel
theorem dX8_gather_25 : decode mX8_gather.2.1 25 = .ok (.getfield 40, 3) := by decide +kernel
theorem dX8_gather_28 : decode mX8_gather.2.1 28 = .ok (.bipush 12, 2) := by decide +kernel
theorem dX8_gather_30 : decode mX8_gather.2.1 30 = .ok (.iload_n 2, 1) := by decide +kernel
theorem dX8_gather_31 : decode mX8_gather.2.1 31 = .ok (.imul, 1) := by decide +kernel
theorem dX8_gather_32 : decode mX8_gather.2.1 32 = .ok (.iconst 0, 1) := by decide +kernel
theorem dX8_gather_33 : decode mX8_gather.2.1 33 = .ok (.iadd, 1) := by decide +kernel
theorem dX8_gather_34 : decode mX8_gather.2.1 34 = .ok (.iaload, 1) := by decide +kernel
theorem dX8_gather_35 : decode mX8_gather.2.1 35 = .ok (.aload_n 0, 1) := by decide +kernel
theorem dX8_gather_36 : decode mX8_gather.2.1 36 = .ok (.getfield 40, 3) := by decide +kernel
theorem dX8_gather_39 : decode mX8_gather.2.1 39 = .ok (.bipush 12, 2) := by decide +kernel
theorem dX8_gather_41 : decode mX8_gather.2.1 41 = .ok (.iload_n 2, 1) := by decide +kernel
theorem dX8_gather_42 : decode mX8_gather.2.1 42 = .ok (.imul, 1) := by decide +kernel
theorem dX8_gather_43 : decode mX8_gather.2.1 43 = .ok (.iconst 1, 1) := by decide +kernel
theorem dX8_gather_44 : decode mX8_gather.2.1 44 = .ok (.iadd, 1) := by decide +kernel
theorem dX8_gather_45 : decode mX8_gather.2.1 45 = .ok (.iaload, 1) := by decide +kernel
theorem dX8_gather_46 : decode mX8_gather.2.1 46 = .ok (.iload_n 2, 1) := by decide +kernel
theorem dX8_gather_47 : decode mX8_gather.2.1 47 = .ok (.invokevirtual 250, 3) := by decide +kernel
theorem dX8_gather_50 : decode mX8_gather.2.1 50 = .ok (.iinc 2 1, 3) := by decide +kernel
theorem dX8_gather_53 : decode mX8_gather.2.1 53 = .ok (.goto (-46), 3) := by decide +kernel
theorem dX8_gather_56 : decode mX8_gather.2.1 56 = .ok (.iconst 1, 1) := by decide +kernel
theorem dX8_gather_57 : decode mX8_gather.2.1 57 = .ok (.istore_n 2, 1) := by decide +kernel
theorem dX8_gather_58 : decode mX8_gather.2.1 58 = .ok (.iload_n 2, 1) := by decide +kernel
theorem dX8_gather_59 : decode mX8_gather.2.1 59 = .ok (.aload_n 0, 1) := by decide +kernel
theorem dX8_gather_60 : decode mX8_gather.2.1 60 = .ok (.getfield 247, 3) := by decide +kernel
theorem dX8_gather_63 : decode mX8_gather.2.1 63 = .ok (.if_icmp .ge 37, 3) := by decide +kernel
theorem dX8_gather_66 : decode mX8_gather.2.1 66 = .ok (.aload_n 0, 1) := by decide +kernel
theorem dX8_gather_67 : decode mX8_gather.2.1 67 = .ok (.getfield 59, 3) := by decide +kernel
theorem dX8_gather_70 : decode mX8_gather.2.1 70 = .ok (.iload_n 2, 1) := by decide +kernel
theorem dX8_gather_71 : decode mX8_gather.2.1 71 = .ok (.iconst 1, 1) := by decide +kernel
theorem dX8_gather_72 : decode mX8_gather.2.1 72 = .ok (.isub, 1) := by decide +kernel
theorem dX8_gather_73 : decode mX8_gather.2.1 73 = .ok (.iaload, 1) := by decide +kernel
theorem dX8_gather_74 : decode mX8_gather.2.1 74 = .ok (.aload_n 0, 1) := by decide +kernel
theorem dX8_gather_75 : decode mX8_gather.2.1 75 = .ok (.getfield 62, 3) := by decide +kernel
theorem dX8_gather_78 : decode mX8_gather.2.1 78 = .ok (.iload_n 2, 1) := by decide +kernel
theorem dX8_gather_79 : decode mX8_gather.2.1 79 = .ok (.iconst 1, 1) := by decide +kernel
theorem dX8_gather_80 : decode mX8_gather.2.1 80 = .ok (.isub, 1) := by decide +kernel
theorem dX8_gather_81 : decode mX8_gather.2.1 81 = .ok (.iaload, 1) := by decide +kernel
theorem dX8_gather_82 : decode mX8_gather.2.1 82 = .ok (.iadd, 1) := by decide +kernel
theorem dX8_gather_83 : decode mX8_gather.2.1 83 = .ok (.aload_n 0, 1) := by decide +kernel
theorem dX8_gather_84 : decode mX8_gather.2.1 84 = .ok (.getfield 59, 3) := by decide +kernel
theorem dX8_gather_87 : decode mX8_gather.2.1 87 = .ok (.iload_n 2, 1) := by decide +kernel
theorem dX8_gather_88 : decode mX8_gather.2.1 88 = .ok (.iaload, 1) := by decide +kernel
theorem dX8_gather_89 : decode mX8_gather.2.1 89 = .ok (.if_icmp .le 5, 3) := by decide +kernel
theorem dX8_gather_92 : decode mX8_gather.2.1 92 = .ok (.iconst 0, 1) := by decide +kernel
theorem dX8_gather_93 : decode mX8_gather.2.1 93 = .ok (.ireturn, 1) := by decide +kernel
theorem dX8_gather_94 : decode mX8_gather.2.1 94 = .ok (.iinc 2 1, 3) := by decide +kernel
theorem dX8_gather_97 : decode mX8_gather.2.1 97 = .ok (.goto (-39), 3) := by decide +kernel
theorem dX8_gather_100 : decode mX8_gather.2.1 100 = .ok (.iconst 1, 1) := by decide +kernel
theorem dX8_gather_101 : decode mX8_gather.2.1 101 = .ok (.ireturn, 1) := by decide +kernel
theorem dX8_begin_0 : decode mX8_begin.2.1 0 = .ok (.iconst 0, 1) := by decide +kernel
theorem dX8_begin_1 : decode mX8_begin.2.1 1 = .ok (.istore 4, 2) := by decide +kernel
theorem dX8_begin_3 : decode mX8_begin.2.1 3 = .ok (.iload 4, 2) := by decide +kernel
theorem dX8_begin_5 : decode mX8_begin.2.1 5 = .ok (.sipush 416, 3) := by decide +kernel
theorem dX8_begin_8 : decode mX8_begin.2.1 8 = .ok (.if_icmp .ge 17, 3) := by decide +kernel
theorem dX8_begin_11 : decode mX8_begin.2.1 11 = .ok (.aload_n 0, 1) := by decide +kernel
theorem dX8_begin_12 : decode mX8_begin.2.1 12 = .ok (.getfield 50, 3) := by decide +kernel
theorem dX8_begin_15 : decode mX8_begin.2.1 15 = .ok (.iload 4, 2) := by decide +kernel
theorem dX8_begin_17 : decode mX8_begin.2.1 17 = .ok (.iconst 0, 1) := by decide +kernel
theorem dX8_begin_18 : decode mX8_begin.2.1 18 = .ok (.iastore, 1) := by decide +kernel
theorem dX8_begin_19 : decode mX8_begin.2.1 19 = .ok (.iinc 4 1, 3) := by decide +kernel
theorem dX8_begin_22 : decode mX8_begin.2.1 22 = .ok (.goto (-19), 3) := by decide +kernel
theorem dX8_begin_25 : decode mX8_begin.2.1 25 = .ok (.aload_n 0, 1) := by decide +kernel
theorem dX8_begin_26 : decode mX8_begin.2.1 26 = .ok (.getfield 50, 3) := by decide +kernel
theorem dX8_begin_29 : decode mX8_begin.2.1 29 = .ok (.sipush 294, 3) := by decide +kernel
theorem dX8_begin_32 : decode mX8_begin.2.1 32 = .ok (.iload_n 1, 1) := by decide +kernel
theorem dX8_begin_33 : decode mX8_begin.2.1 33 = .ok (.iastore, 1) := by decide +kernel
theorem dX8_begin_34 : decode mX8_begin.2.1 34 = .ok (.aload_n 0, 1) := by decide +kernel
theorem dX8_begin_35 : decode mX8_begin.2.1 35 = .ok (.getfield 50, 3) := by decide +kernel
theorem dX8_begin_38 : decode mX8_begin.2.1 38 = .ok (.sipush 295, 3) := by decide +kernel
theorem dX8_begin_41 : decode mX8_begin.2.1 41 = .ok (.iconst 1, 1) := by decide +kernel
theorem dX8_begin_42 : decode mX8_begin.2.1 42 = .ok (.iastore, 1) := by decide +kernel
theorem dX8_begin_43 : decode mX8_begin.2.1 43 = .ok (.aload_n 0, 1) := by decide +kernel
theorem dX8_begin_44 : decode mX8_begin.2.1 44 = .ok (.lload_n 2, 1) := by decide +kernel
theorem dX8_begin_45 : decode mX8_begin.2.1 45 = .ok (.putfield 254, 3) := by decide +kernel
theorem dX8_begin_48 : decode mX8_begin.2.1 48 = .ok (.iconst 0, 1) := by decide +kernel
theorem dX8_begin_49 : decode mX8_begin.2.1 49 = .ok (.istore 4, 2) := by decide +kernel
theorem dX8_begin_51 : decode mX8_begin.2.1 51 = .ok (.iload 4, 2) := by decide +kernel
theorem dX8_begin_53 : decode mX8_begin.2.1 53 = .ok (.aload_n 0, 1) := by decide +kernel
theorem dX8_begin_54 : decode mX8_begin.2.1 54 = .ok (.getfield 247, 3) := by decide +kernel
theorem dX8_begin_57 : decode mX8_begin.2.1 57 = .ok (.if_icmp .ge 68, 3) := by decide +kernel
theorem dX8_begin_60 : decode mX8_begin.2.1 60 = .ok (.iload 4, 2) := by decide +kernel
theorem dX8_begin_62 : decode mX8_begin.2.1 62 = .ok (.iconst 1, 1) := by decide +kernel
theorem dX8_begin_63 : decode mX8_begin.2.1 63 = .ok (.iadd, 1) := by decide +kernel
theorem dX8_begin_64 : decode mX8_begin.2.1 64 = .ok (.istore 5, 2) := by decide +kernel
theorem dX8_begin_66 : decode mX8_begin.2.1 66 = .ok (.iload 5, 2) := by decide +kernel
theorem dX8_begin_68 : decode mX8_begin.2.1 68 = .ok (.aload_n 0, 1) := by decide +kernel
theorem dX8_begin_69 : decode mX8_begin.2.1 69 = .ok (.getfield 247, 3) := by decide +kernel
theorem dX8_begin_72 : decode mX8_begin.2.1 72 = .ok (.if_icmp .ge 38, 3) := by decide +kernel
theorem dX8_begin_75 : decode mX8_begin.2.1 75 = .ok (.aload_n 0, 1) := by decide +kernel
theorem dX8_begin_76 : decode mX8_begin.2.1 76 = .ok (.getfield 59, 3) := by decide +kernel
theorem dX8_begin_79 : decode mX8_begin.2.1 79 = .ok (.iload 5, 2) := by decide +kernel
theorem dX8_begin_81 : decode mX8_begin.2.1 81 = .ok (.iconst 1, 1) := by decide +kernel
theorem dX8_begin_82 : decode mX8_begin.2.1 82 = .ok (.isub, 1) := by decide +kernel
theorem dX8_begin_83 : decode mX8_begin.2.1 83 = .ok (.iaload, 1) := by decide +kernel
theorem dX8_begin_84 : decode mX8_begin.2.1 84 = .ok (.aload_n 0, 1) := by decide +kernel
theorem dX8_begin_85 : decode mX8_begin.2.1 85 = .ok (.getfield 62, 3) := by decide +kernel
theorem dX8_begin_88 : decode mX8_begin.2.1 88 = .ok (.iload 5, 2) := by decide +kernel
theorem dX8_begin_90 : decode mX8_begin.2.1 90 = .ok (.iconst 1, 1) := by decide +kernel
theorem dX8_begin_91 : decode mX8_begin.2.1 91 = .ok (.isub, 1) := by decide +kernel
theorem dX8_begin_92 : decode mX8_begin.2.1 92 = .ok (.iaload, 1) := by decide +kernel
theorem dX8_begin_93 : decode mX8_begin.2.1 93 = .ok (.iadd, 1) := by decide +kernel
theorem dX8_begin_94 : decode mX8_begin.2.1 94 = .ok (.aload_n 0, 1) := by decide +kernel
theorem dX8_begin_95 : decode mX8_begin.2.1 95 = .ok (.getfield 59, 3) := by decide +kernel
theorem dX8_begin_98 : decode mX8_begin.2.1 98 = .ok (.iload 5, 2) := by decide +kernel
theorem dX8_begin_100 : decode mX8_begin.2.1 100 = .ok (.iaload, 1) := by decide +kernel
theorem dX8_begin_101 : decode mX8_begin.2.1 101 = .ok (.if_icmp .ne 9, 3) := by decide +kernel
theorem dX8_begin_104 : decode mX8_begin.2.1 104 = .ok (.iinc 5 1, 3) := by decide +kernel
theorem dX8_begin_107 : decode mX8_begin.2.1 107 = .ok (.goto (-41), 3) := by decide +kernel
theorem dX8_begin_110 : decode mX8_begin.2.1 110 = .ok (.aload_n 0, 1) := by decide +kernel
theorem dX8_begin_111 : decode mX8_begin.2.1 111 = .ok (.iload 4, 2) := by decide +kernel
theorem dX8_begin_113 : decode mX8_begin.2.1 113 = .ok (.iload 5, 2) := by decide +kernel
theorem dX8_begin_115 : decode mX8_begin.2.1 115 = .ok (.invokevirtual 258, 3) := by decide +kernel
theorem dX8_begin_118 : decode mX8_begin.2.1 118 = .ok (.iload 5, 2) := by decide +kernel
theorem dX8_begin_120 : decode mX8_begin.2.1 120 = .ok (.istore 4, 2) := by decide +kernel
theorem dX8_begin_122 : decode mX8_begin.2.1 122 = .ok (.goto (-71), 3) := by decide +kernel
theorem dX8_begin_125 : decode mX8_begin.2.1 125 = .ok (.return_, 1) := by decide +kernel
theorem dX8_land_0 : decode mX8_land.2.1 0 = .ok (.aload_n 0, 1) := by decide +kernel
theorem dX8_land_1 : decode mX8_land.2.1 1 = .ok (.getfield 59, 3) := by decide +kernel
theorem dX8_land_4 : decode mX8_land.2.1 4 = .ok (.iload_n 1, 1) := by decide +kernel
theorem dX8_land_5 : decode mX8_land.2.1 5 = .ok (.iaload, 1) := by decide +kernel
theorem dX8_land_6 : decode mX8_land.2.1 6 = .ok (.istore_n 3, 1) := by decide +kernel
theorem dX8_land_7 : decode mX8_land.2.1 7 = .ok (.aload_n 0, 1) := by decide +kernel
theorem dX8_land_8 : decode mX8_land.2.1 8 = .ok (.getfield 59, 3) := by decide +kernel
theorem dX8_land_11 : decode mX8_land.2.1 11 = .ok (.iload_n 2, 1) := by decide +kernel
theorem dX8_land_12 : decode mX8_land.2.1 12 = .ok (.iconst 1, 1) := by decide +kernel
theorem dX8_land_13 : decode mX8_land.2.1 13 = .ok (.isub, 1) := by decide +kernel
theorem dX8_land_14 : decode mX8_land.2.1 14 = .ok (.iaload, 1) := by decide +kernel
theorem dX8_land_15 : decode mX8_land.2.1 15 = .ok (.aload_n 0, 1) := by decide +kernel
theorem dX8_land_16 : decode mX8_land.2.1 16 = .ok (.getfield 62, 3) := by decide +kernel
theorem dX8_land_19 : decode mX8_land.2.1 19 = .ok (.iload_n 2, 1) := by decide +kernel
theorem dX8_land_20 : decode mX8_land.2.1 20 = .ok (.iconst 1, 1) := by decide +kernel
theorem dX8_land_21 : decode mX8_land.2.1 21 = .ok (.isub, 1) := by decide +kernel
theorem dX8_land_22 : decode mX8_land.2.1 22 = .ok (.iaload, 1) := by decide +kernel
theorem dX8_land_23 : decode mX8_land.2.1 23 = .ok (.iadd, 1) := by decide +kernel
theorem dX8_land_24 : decode mX8_land.2.1 24 = .ok (.iconst 1, 1) := by decide +kernel
theorem dX8_land_25 : decode mX8_land.2.1 25 = .ok (.isub, 1) := by decide +kernel
theorem dX8_land_26 : decode mX8_land.2.1 26 = .ok (.istore 4, 2) := by decide +kernel
theorem dX8_land_28 : decode mX8_land.2.1 28 = .ok (.aload_n 0, 1) := by decide +kernel
theorem dX8_land_29 : decode mX8_land.2.1 29 = .ok (.getfield 65, 3) := by decide +kernel
theorem dX8_land_32 : decode mX8_land.2.1 32 = .ok (.iload_n 1, 1) := by decide +kernel
theorem dX8_land_33 : decode mX8_land.2.1 33 = .ok (.iaload, 1) := by decide +kernel
theorem dX8_land_34 : decode mX8_land.2.1 34 = .ok (.istore 5, 2) := by decide +kernel
theorem dX8_land_36 : decode mX8_land.2.1 36 = .ok (.iconst 0, 1) := by decide +kernel
theorem dX8_land_37 : decode mX8_land.2.1 37 = .ok (.istore 6, 2) := by decide +kernel
theorem dX8_land_39 : decode mX8_land.2.1 39 = .ok (.iconst 0, 1) := by decide +kernel
theorem dX8_land_40 : decode mX8_land.2.1 40 = .ok (.istore 7, 2) := by decide +kernel
theorem dX8_land_42 : decode mX8_land.2.1 42 = .ok (.iconst 0, 1) := by decide +kernel
theorem dX8_land_43 : decode mX8_land.2.1 43 = .ok (.istore 8, 2) := by decide +kernel
theorem dX8_land_45 : decode mX8_land.2.1 45 = .ok (.iload_n 1, 1) := by decide +kernel
theorem dX8_land_46 : decode mX8_land.2.1 46 = .ok (.istore 9, 2) := by decide +kernel
theorem dX8_land_48 : decode mX8_land.2.1 48 = .ok (.iload 9, 2) := by decide +kernel
theorem dX8_land_50 : decode mX8_land.2.1 50 = .ok (.iload_n 2, 1) := by decide +kernel
theorem dX8_land_51 : decode mX8_land.2.1 51 = .ok (.if_icmp .ge 89, 3) := by decide +kernel
theorem dX8_land_54 : decode mX8_land.2.1 54 = .ok (.iload 5, 2) := by decide +kernel
theorem dX8_land_56 : decode mX8_land.2.1 56 = .ok (.aload_n 0, 1) := by decide +kernel
theorem dX8_land_57 : decode mX8_land.2.1 57 = .ok (.getfield 65, 3) := by decide +kernel
theorem dX8_land_60 : decode mX8_land.2.1 60 = .ok (.iload 9, 2) := by decide +kernel
theorem dX8_land_62 : decode mX8_land.2.1 62 = .ok (.iaload, 1) := by decide +kernel
theorem dX8_land_63 : decode mX8_land.2.1 63 = .ok (.invokestatic 261, 3) := by decide +kernel
theorem dX8_land_66 : decode mX8_land.2.1 66 = .ok (.istore 5, 2) := by decide +kernel
theorem dX8_land_68 : decode mX8_land.2.1 68 = .ok (.iload 6, 2) := by decide +kernel
theorem dX8_land_70 : decode mX8_land.2.1 70 = .ok (.aload_n 0, 1) := by decide +kernel
theorem dX8_land_71 : decode mX8_land.2.1 71 = .ok (.getfield 40, 3) := by decide +kernel
theorem dX8_land_74 : decode mX8_land.2.1 74 = .ok (.bipush 12, 2) := by decide +kernel
theorem dX8_land_76 : decode mX8_land.2.1 76 = .ok (.aload_n 0, 1) := by decide +kernel
theorem dX8_land_77 : decode mX8_land.2.1 77 = .ok (.getfield 65, 3) := by decide +kernel
theorem dX8_land_80 : decode mX8_land.2.1 80 = .ok (.iload 9, 2) := by decide +kernel
theorem dX8_land_82 : decode mX8_land.2.1 82 = .ok (.iaload, 1) := by decide +kernel
theorem dX8_land_83 : decode mX8_land.2.1 83 = .ok (.imul, 1) := by decide +kernel
theorem dX8_land_84 : decode mX8_land.2.1 84 = .ok (.iconst 2, 1) := by decide +kernel
theorem dX8_land_85 : decode mX8_land.2.1 85 = .ok (.iadd, 1) := by decide +kernel
theorem dX8_land_86 : decode mX8_land.2.1 86 = .ok (.iaload, 1) := by decide +kernel
theorem dX8_land_87 : decode mX8_land.2.1 87 = .ok (.iadd, 1) := by decide +kernel
theorem dX8_land_88 : decode mX8_land.2.1 88 = .ok (.istore 6, 2) := by decide +kernel
theorem dX8_land_90 : decode mX8_land.2.1 90 = .ok (.iload 7, 2) := by decide +kernel
theorem dX8_land_92 : decode mX8_land.2.1 92 = .ok (.aload_n 0, 1) := by decide +kernel
theorem dX8_land_93 : decode mX8_land.2.1 93 = .ok (.getfield 40, 3) := by decide +kernel
theorem dX8_land_96 : decode mX8_land.2.1 96 = .ok (.bipush 12, 2) := by decide +kernel
theorem dX8_land_98 : decode mX8_land.2.1 98 = .ok (.aload_n 0, 1) := by decide +kernel
theorem dX8_land_99 : decode mX8_land.2.1 99 = .ok (.getfield 65, 3) := by decide +kernel
theorem dX8_land_102 : decode mX8_land.2.1 102 = .ok (.iload 9, 2) := by decide +kernel
theorem dX8_land_104 : decode mX8_land.2.1 104 = .ok (.iaload, 1) := by decide +kernel
theorem dX8_land_105 : decode mX8_land.2.1 105 = .ok (.imul, 1) := by decide +kernel
theorem dX8_land_106 : decode mX8_land.2.1 106 = .ok (.iconst 3, 1) := by decide +kernel
theorem dX8_land_107 : decode mX8_land.2.1 107 = .ok (.iadd, 1) := by decide +kernel
theorem dX8_land_108 : decode mX8_land.2.1 108 = .ok (.iaload, 1) := by decide +kernel
theorem dX8_land_109 : decode mX8_land.2.1 109 = .ok (.iadd, 1) := by decide +kernel
theorem dX8_land_110 : decode mX8_land.2.1 110 = .ok (.istore 7, 2) := by decide +kernel
theorem dX8_land_112 : decode mX8_land.2.1 112 = .ok (.iload 8, 2) := by decide +kernel
theorem dX8_land_114 : decode mX8_land.2.1 114 = .ok (.aload_n 0, 1) := by decide +kernel
theorem dX8_land_115 : decode mX8_land.2.1 115 = .ok (.getfield 40, 3) := by decide +kernel
theorem dX8_land_118 : decode mX8_land.2.1 118 = .ok (.bipush 12, 2) := by decide +kernel
theorem dX8_land_120 : decode mX8_land.2.1 120 = .ok (.aload_n 0, 1) := by decide +kernel
theorem dX8_land_121 : decode mX8_land.2.1 121 = .ok (.getfield 65, 3) := by decide +kernel
theorem dX8_land_124 : decode mX8_land.2.1 124 = .ok (.iload 9, 2) := by decide +kernel
theorem dX8_land_126 : decode mX8_land.2.1 126 = .ok (.iaload, 1) := by decide +kernel
theorem dX8_land_127 : decode mX8_land.2.1 127 = .ok (.imul, 1) := by decide +kernel
theorem dX8_land_128 : decode mX8_land.2.1 128 = .ok (.iconst 4, 1) := by decide +kernel
theorem dX8_land_129 : decode mX8_land.2.1 129 = .ok (.iadd, 1) := by decide +kernel
theorem dX8_land_130 : decode mX8_land.2.1 130 = .ok (.iaload, 1) := by decide +kernel
theorem dX8_land_131 : decode mX8_land.2.1 131 = .ok (.iadd, 1) := by decide +kernel
theorem dX8_land_132 : decode mX8_land.2.1 132 = .ok (.istore 8, 2) := by decide +kernel
theorem dX8_land_134 : decode mX8_land.2.1 134 = .ok (.iinc 9 1, 3) := by decide +kernel
theorem dX8_land_137 : decode mX8_land.2.1 137 = .ok (.goto (-89), 3) := by decide +kernel
theorem dX8_land_140 : decode mX8_land.2.1 140 = .ok (.aload_n 0, 1) := by decide +kernel
theorem dX8_land_141 : decode mX8_land.2.1 141 = .ok (.getfield 50, 3) := by decide +kernel
theorem dX8_land_144 : decode mX8_land.2.1 144 = .ok (.sipush 288, 3) := by decide +kernel
theorem dX8_land_147 : decode mX8_land.2.1 147 = .ok (.iaload, 1) := by decide +kernel
theorem dX8_land_148 : decode mX8_land.2.1 148 = .ok (.istore 9, 2) := by decide +kernel
theorem dX8_land_150 : decode mX8_land.2.1 150 = .ok (.aload_n 0, 1) := by decide +kernel
theorem dX8_land_151 : decode mX8_land.2.1 151 = .ok (.getfield 50, 3) := by decide +kernel
theorem dX8_land_154 : decode mX8_land.2.1 154 = .ok (.sipush 288, 3) := by decide +kernel
theorem dX8_land_157 : decode mX8_land.2.1 157 = .ok (.dup2, 1) := by decide +kernel
theorem dX8_land_158 : decode mX8_land.2.1 158 = .ok (.iaload, 1) := by decide +kernel
theorem dX8_land_159 : decode mX8_land.2.1 159 = .ok (.iconst 1, 1) := by decide +kernel
theorem dX8_land_160 : decode mX8_land.2.1 160 = .ok (.iadd, 1) := by decide +kernel
theorem dX8_land_161 : decode mX8_land.2.1 161 = .ok (.iastore, 1) := by decide +kernel
theorem dX8_land_162 : decode mX8_land.2.1 162 = .ok (.aload_n 0, 1) := by decide +kernel
theorem dX8_land_163 : decode mX8_land.2.1 163 = .ok (.getfield 50, 3) := by decide +kernel
theorem dX8_land_166 : decode mX8_land.2.1 166 = .ok (.sipush 240, 3) := by decide +kernel
theorem dX8_land_169 : decode mX8_land.2.1 169 = .ok (.iload 9, 2) := by decide +kernel
theorem dX8_land_171 : decode mX8_land.2.1 171 = .ok (.iadd, 1) := by decide +kernel
theorem dX8_land_172 : decode mX8_land.2.1 172 = .ok (.iload_n 3, 1) := by decide +kernel
theorem dX8_land_173 : decode mX8_land.2.1 173 = .ok (.iastore, 1) := by decide +kernel
theorem dX8_land_174 : decode mX8_land.2.1 174 = .ok (.aload_n 0, 1) := by decide +kernel
theorem dX8_land_175 : decode mX8_land.2.1 175 = .ok (.getfield 50, 3) := by decide +kernel
theorem dX8_land_178 : decode mX8_land.2.1 178 = .ok (.sipush 252, 3) := by decide +kernel
theorem dX8_land_181 : decode mX8_land.2.1 181 = .ok (.iload 9, 2) := by decide +kernel
theorem dX8_land_183 : decode mX8_land.2.1 183 = .ok (.iadd, 1) := by decide +kernel
theorem dX8_land_184 : decode mX8_land.2.1 184 = .ok (.iload 4, 2) := by decide +kernel
theorem dX8_land_186 : decode mX8_land.2.1 186 = .ok (.iastore, 1) := by decide +kernel
theorem dX8_land_187 : decode mX8_land.2.1 187 = .ok (.aload_n 0, 1) := by decide +kernel
theorem dX8_land_188 : decode mX8_land.2.1 188 = .ok (.getfield 50, 3) := by decide +kernel
theorem dX8_land_191 : decode mX8_land.2.1 191 = .ok (.sipush 264, 3) := by decide +kernel
theorem dX8_land_194 : decode mX8_land.2.1 194 = .ok (.iload 9, 2) := by decide +kernel
theorem dX8_land_196 : decode mX8_land.2.1 196 = .ok (.iadd, 1) := by decide +kernel
theorem dX8_land_197 : decode mX8_land.2.1 197 = .ok (.iload 5, 2) := by decide +kernel
theorem dX8_land_199 : decode mX8_land.2.1 199 = .ok (.iastore, 1) := by decide +kernel
theorem dX8_land_200 : decode mX8_land.2.1 200 = .ok (.aload_n 0, 1) := by decide +kernel
theorem dX8_land_201 : decode mX8_land.2.1 201 = .ok (.getfield 50, 3) := by decide +kernel
theorem dX8_land_204 : decode mX8_land.2.1 204 = .ok (.sipush 192, 3) := by decide +kernel
theorem dX8_land_207 : decode mX8_land.2.1 207 = .ok (.iload_n 3, 1) := by decide +kernel
theorem dX8_land_208 : decode mX8_land.2.1 208 = .ok (.iadd, 1) := by decide +kernel
theorem dX8_land_209 : decode mX8_land.2.1 209 = .ok (.iconst 1, 1) := by decide +kernel
theorem dX8_land_210 : decode mX8_land.2.1 210 = .ok (.iastore, 1) := by decide +kernel
theorem dX8_land_211 : decode mX8_land.2.1 211 = .ok (.aload_n 0, 1) := by decide +kernel
theorem dX8_land_212 : decode mX8_land.2.1 212 = .ok (.getfield 50, 3) := by decide +kernel
theorem dX8_land_215 : decode mX8_land.2.1 215 = .ok (.sipush 192, 3) := by decide +kernel
theorem dX8_land_218 : decode mX8_land.2.1 218 = .ok (.iload 4, 2) := by decide +kernel
theorem dX8_land_220 : decode mX8_land.2.1 220 = .ok (.iadd, 1) := by decide +kernel
theorem dX8_land_221 : decode mX8_land.2.1 221 = .ok (.iconst 1, 1) := by decide +kernel
theorem dX8_land_222 : decode mX8_land.2.1 222 = .ok (.iastore, 1) := by decide +kernel
theorem dX8_land_223 : decode mX8_land.2.1 223 = .ok (.iload_n 3, 1) := by decide +kernel
theorem dX8_land_224 : decode mX8_land.2.1 224 = .ok (.istore 10, 2) := by decide +kernel
theorem dX8_land_226 : decode mX8_land.2.1 226 = .ok (.iload 10, 2) := by decide +kernel
theorem dX8_land_228 : decode mX8_land.2.1 228 = .ok (.iload 4, 2) := by decide +kernel
theorem dX8_land_230 : decode mX8_land.2.1 230 = .ok (.if_icmp .gt 21, 3) := by decide +kernel
theorem dX8_land_233 : decode mX8_land.2.1 233 = .ok (.aload_n 0, 1) := by decide +kernel
theorem dX8_land_234 : decode mX8_land.2.1 234 = .ok (.getfield 50, 3) := by decide +kernel
theorem dX8_land_237 : decode mX8_land.2.1 237 = .ok (.sipush 216, 3) := by decide +kernel
theorem dX8_land_240 : decode mX8_land.2.1 240 = .ok (.iload 10, 2) := by decide +kernel
theorem dX8_land_242 : decode mX8_land.2.1 242 = .ok (.iadd, 1) := by decide +kernel
theorem dX8_land_243 : decode mX8_land.2.1 243 = .ok (.iconst 1, 1) := by decide +kernel
theorem dX8_land_244 : decode mX8_land.2.1 244 = .ok (.iastore, 1) := by decide +kernel
theorem dX8_land_245 : decode mX8_land.2.1 245 = .ok (.iinc 10 1, 3) := by decide +kernel
theorem dX8_land_248 : decode mX8_land.2.1 248 = .ok (.goto (-22), 3) := by decide +kernel
theorem dX8_land_251 : decode mX8_land.2.1 251 = .ok (.aload_n 0, 1) := by decide +kernel
theorem dX8_land_252 : decode mX8_land.2.1 252 = .ok (.iload_n 3, 1) := by decide +kernel
theorem dX8_land_253 : decode mX8_land.2.1 253 = .ok (.iload 4, 2) := by decide +kernel
theorem dX8_land_255 : decode mX8_land.2.1 255 = .ok (.iload 6, 2) := by decide +kernel
theorem dX8_land_257 : decode mX8_land.2.1 257 = .ok (.aload_n 0, 1) := by decide +kernel
theorem dX8_land_258 : decode mX8_land.2.1 258 = .ok (.getfield 40, 3) := by decide +kernel
theorem dX8_land_261 : decode mX8_land.2.1 261 = .ok (.bipush 12, 2) := by decide +kernel
theorem dX8_land_263 : decode mX8_land.2.1 263 = .ok (.iload 5, 2) := by decide +kernel
theorem dX8_land_265 : decode mX8_land.2.1 265 = .ok (.imul, 1) := by decide +kernel
theorem dX8_land_266 : decode mX8_land.2.1 266 = .ok (.bipush 11, 2) := by decide +kernel
theorem dX8_land_268 : decode mX8_land.2.1 268 = .ok (.iadd, 1) := by decide +kernel
theorem dX8_land_269 : decode mX8_land.2.1 269 = .ok (.iaload, 1) := by decide +kernel
theorem dX8_land_270 : decode mX8_land.2.1 270 = .ok (.invokevirtual 264, 3) := by decide +kernel
theorem dX8_land_273 : decode mX8_land.2.1 273 = .ok (.iconst 0, 1) := by decide +kernel
theorem dX8_land_274 : decode mX8_land.2.1 274 = .ok (.istore 10, 2) := by decide +kernel
theorem dX8_land_276 : decode mX8_land.2.1 276 = .ok (.iload 10, 2) := by decide +kernel
theorem dX8_land_278 : decode mX8_land.2.1 278 = .ok (.iload 7, 2) := by decide +kernel
theorem dX8_land_280 : decode mX8_land.2.1 280 = .ok (.if_icmp .ge 32, 3) := by decide +kernel
theorem dX8_land_283 : decode mX8_land.2.1 283 = .ok (.aload_n 0, 1) := by decide +kernel
theorem dX8_land_284 : decode mX8_land.2.1 284 = .ok (.getfield 50, 3) := by decide +kernel
theorem dX8_land_287 : decode mX8_land.2.1 287 = .ok (.bipush 24, 2) := by decide +kernel
theorem dX8_land_289 : decode mX8_land.2.1 289 = .ok (.iload_n 3, 1) := by decide +kernel
theorem dX8_land_290 : decode mX8_land.2.1 290 = .ok (.iadd, 1) := by decide +kernel
theorem dX8_land_291 : decode mX8_land.2.1 291 = .ok (.iload 10, 2) := by decide +kernel
theorem dX8_land_293 : decode mX8_land.2.1 293 = .ok (.iload 4, 2) := by decide +kernel
theorem dX8_land_295 : decode mX8_land.2.1 295 = .ok (.iload_n 3, 1) := by decide +kernel
theorem dX8_land_296 : decode mX8_land.2.1 296 = .ok (.isub, 1) := by decide +kernel
theorem dX8_land_297 : decode mX8_land.2.1 297 = .ok (.iconst 1, 1) := by decide +kernel
theorem dX8_land_298 : decode mX8_land.2.1 298 = .ok (.iadd, 1) := by decide +kernel
theorem dX8_land_299 : decode mX8_land.2.1 299 = .ok (.irem, 1) := by decide +kernel
theorem dX8_land_300 : decode mX8_land.2.1 300 = .ok (.iadd, 1) := by decide +kernel
theorem dX8_land_301 : decode mX8_land.2.1 301 = .ok (.dup2, 1) := by decide +kernel
theorem dX8_land_302 : decode mX8_land.2.1 302 = .ok (.iaload, 1) := by decide +kernel
theorem dX8_land_303 : decode mX8_land.2.1 303 = .ok (.iconst 1, 1) := by decide +kernel
theorem dX8_land_304 : decode mX8_land.2.1 304 = .ok (.iadd, 1) := by decide +kernel
theorem dX8_land_305 : decode mX8_land.2.1 305 = .ok (.iastore, 1) := by decide +kernel
theorem dX8_land_306 : decode mX8_land.2.1 306 = .ok (.iinc 10 1, 3) := by decide +kernel
theorem dX8_land_309 : decode mX8_land.2.1 309 = .ok (.goto (-33), 3) := by decide +kernel
theorem dX8_land_312 : decode mX8_land.2.1 312 = .ok (.iconst 0, 1) := by decide +kernel
theorem dX8_land_313 : decode mX8_land.2.1 313 = .ok (.istore 10, 2) := by decide +kernel
theorem dX8_land_315 : decode mX8_land.2.1 315 = .ok (.iload 10, 2) := by decide +kernel
theorem dX8_land_317 : decode mX8_land.2.1 317 = .ok (.iload 8, 2) := by decide +kernel
theorem dX8_land_319 : decode mX8_land.2.1 319 = .ok (.if_icmp .ge 32, 3) := by decide +kernel
theorem dX8_land_322 : decode mX8_land.2.1 322 = .ok (.aload_n 0, 1) := by decide +kernel
theorem dX8_land_323 : decode mX8_land.2.1 323 = .ok (.getfield 50, 3) := by decide +kernel
theorem dX8_land_326 : decode mX8_land.2.1 326 = .ok (.bipush 48, 2) := by decide +kernel
theorem dX8_land_328 : decode mX8_land.2.1 328 = .ok (.iload_n 3, 1) := by decide +kernel
theorem dX8_land_329 : decode mX8_land.2.1 329 = .ok (.iadd, 1) := by decide +kernel
theorem dX8_land_330 : decode mX8_land.2.1 330 = .ok (.iload 10, 2) := by decide +kernel
theorem dX8_land_332 : decode mX8_land.2.1 332 = .ok (.iload 4, 2) := by decide +kernel
theorem dX8_land_334 : decode mX8_land.2.1 334 = .ok (.iload_n 3, 1) := by decide +kernel
theorem dX8_land_335 : decode mX8_land.2.1 335 = .ok (.isub, 1) := by decide +kernel
theorem dX8_land_336 : decode mX8_land.2.1 336 = .ok (.iconst 1, 1) := by decide +kernel
theorem dX8_land_337 : decode mX8_land.2.1 337 = .ok (.iadd, 1) := by decide +kernel
theorem dX8_land_338 : decode mX8_land.2.1 338 = .ok (.irem, 1) := by decide +kernel
theorem dX8_land_339 : decode mX8_land.2.1 339 = .ok (.iadd, 1) := by decide +kernel
theorem dX8_land_340 : decode mX8_land.2.1 340 = .ok (.dup2, 1) := by decide +kernel
theorem dX8_land_341 : decode mX8_land.2.1 341 = .ok (.iaload, 1) := by decide +kernel
theorem dX8_land_342 : decode mX8_land.2.1 342 = .ok (.iconst 1, 1) := by decide +kernel
theorem dX8_land_343 : decode mX8_land.2.1 343 = .ok (.iadd, 1) := by decide +kernel
theorem dX8_land_344 : decode mX8_land.2.1 344 = .ok (.iastore, 1) := by decide +kernel
theorem dX8_land_345 : decode mX8_land.2.1 345 = .ok (.iinc 10 1, 3) := by decide +kernel
theorem dX8_land_348 : decode mX8_land.2.1 348 = .ok (.goto (-33), 3) := by decide +kernel
theorem dX8_land_351 : decode mX8_land.2.1 351 = .ok (.return_, 1) := by decide +kernel
theorem dX8_weightAt_0 : decode mX8_weightAt.2.1 0 = .ok (.iload_n 2, 1) := by decide +kernel
theorem dX8_weightAt_1 : decode mX8_weightAt.2.1 1 = .ok (.iload_n 0, 1) := by decide +kernel
theorem dX8_weightAt_2 : decode mX8_weightAt.2.1 2 = .ok (.isub, 1) := by decide +kernel
theorem dX8_weightAt_3 : decode mX8_weightAt.2.1 3 = .ok (.iconst 1, 1) := by decide +kernel
theorem dX8_weightAt_4 : decode mX8_weightAt.2.1 4 = .ok (.iadd, 1) := by decide +kernel
theorem dX8_weightAt_5 : decode mX8_weightAt.2.1 5 = .ok (.iload_n 1, 1) := by decide +kernel
theorem dX8_weightAt_6 : decode mX8_weightAt.2.1 6 = .ok (.iload_n 2, 1) := by decide +kernel
theorem dX8_weightAt_7 : decode mX8_weightAt.2.1 7 = .ok (.isub, 1) := by decide +kernel
theorem dX8_weightAt_8 : decode mX8_weightAt.2.1 8 = .ok (.iconst 1, 1) := by decide +kernel
theorem dX8_weightAt_9 : decode mX8_weightAt.2.1 9 = .ok (.iadd, 1) := by decide +kernel
theorem dX8_weightAt_10 : decode mX8_weightAt.2.1 10 = .ok (.imul, 1) := by decide +kernel
theorem dX8_weightAt_11 : decode mX8_weightAt.2.1 11 = .ok (.bipush 10, 2) := by decide +kernel
theorem dX8_weightAt_13 : decode mX8_weightAt.2.1 13 = .ok (.iload_n 3, 1) := by decide +kernel
theorem dX8_weightAt_14 : decode mX8_weightAt.2.1 14 = .ok (.iload_n 2, 1) := by decide +kernel
theorem dX8_weightAt_15 : decode mX8_weightAt.2.1 15 = .ok (.iload_n 0, 1) := by decide +kernel
theorem dX8_weightAt_16 : decode mX8_weightAt.2.1 16 = .ok (.isub, 1) := by decide +kernel
theorem dX8_weightAt_17 : decode mX8_weightAt.2.1 17 = .ok (.imul, 1) := by decide +kernel
theorem dX8_weightAt_18 : decode mX8_weightAt.2.1 18 = .ok (.iadd, 1) := by decide +kernel
theorem dX8_weightAt_19 : decode mX8_weightAt.2.1 19 = .ok (.imul, 1) := by decide +kernel
theorem dX8_weightAt_20 : decode mX8_weightAt.2.1 20 = .ok (.ireturn, 1) := by decide +kernel
theorem dX8_shape_0 : decode mX8_shape.2.1 0 = .ok (.iconst 0, 1) := by decide +kernel
theorem dX8_shape_1 : decode mX8_shape.2.1 1 = .ok (.istore 5, 2) := by decide +kernel
theorem dX8_shape_3 : decode mX8_shape.2.1 3 = .ok (.iload_n 1, 1) := by decide +kernel
theorem dX8_shape_4 : decode mX8_shape.2.1 4 = .ok (.istore 6, 2) := by decide +kernel
theorem dX8_shape_6 : decode mX8_shape.2.1 6 = .ok (.iload 6, 2) := by decide +kernel
theorem dX8_shape_8 : decode mX8_shape.2.1 8 = .ok (.iload_n 2, 1) := by decide +kernel
theorem dX8_shape_9 : decode mX8_shape.2.1 9 = .ok (.if_icmp .gt 23, 3) := by decide +kernel
theorem dX8_shape_12 : decode mX8_shape.2.1 12 = .ok (.iload 5, 2) := by decide +kernel
theorem dX8_shape_14 : decode mX8_shape.2.1 14 = .ok (.iload_n 1, 1) := by decide +kernel
theorem dX8_shape_15 : decode mX8_shape.2.1 15 = .ok (.iload_n 2, 1) := by decide +kernel
theorem dX8_shape_16 : decode mX8_shape.2.1 16 = .ok (.iload 6, 2) := by decide +kernel
theorem dX8_shape_18 : decode mX8_shape.2.1 18 = .ok (.iload 4, 2) := by decide +kernel
theorem dX8_shape_20 : decode mX8_shape.2.1 20 = .ok (.invokestatic 268, 3) := by decide +kernel
theorem dX8_shape_23 : decode mX8_shape.2.1 23 = .ok (.iadd, 1) := by decide +kernel
theorem dX8_shape_24 : decode mX8_shape.2.1 24 = .ok (.istore 5, 2) := by decide +kernel
theorem dX8_shape_26 : decode mX8_shape.2.1 26 = .ok (.iinc 6 1, 3) := by decide +kernel
theorem dX8_shape_29 : decode mX8_shape.2.1 29 = .ok (.goto (-23), 3) := by decide +kernel
theorem dX8_shape_32 : decode mX8_shape.2.1 32 = .ok (.iload_n 3, 1) := by decide +kernel
theorem dX8_shape_33 : decode mX8_shape.2.1 33 = .ok (.istore 6, 2) := by decide +kernel
theorem dX8_shape_35 : decode mX8_shape.2.1 35 = .ok (.iload_n 1, 1) := by decide +kernel
theorem dX8_shape_36 : decode mX8_shape.2.1 36 = .ok (.istore 7, 2) := by decide +kernel
theorem dX8_shape_38 : decode mX8_shape.2.1 38 = .ok (.iload 7, 2) := by decide +kernel
theorem dX8_shape_40 : decode mX8_shape.2.1 40 = .ok (.iload_n 2, 1) := by decide +kernel
theorem dX8_shape_41 : decode mX8_shape.2.1 41 = .ok (.if_icmp .gt 50, 3) := by decide +kernel
theorem dX8_shape_44 : decode mX8_shape.2.1 44 = .ok (.aload_n 0, 1) := by decide +kernel
theorem dX8_shape_45 : decode mX8_shape.2.1 45 = .ok (.getfield 50, 3) := by decide +kernel
theorem dX8_shape_48 : decode mX8_shape.2.1 48 = .ok (.iconst 0, 1) := by decide +kernel
theorem dX8_shape_49 : decode mX8_shape.2.1 49 = .ok (.iload 7, 2) := by decide +kernel
theorem dX8_shape_51 : decode mX8_shape.2.1 51 = .ok (.iadd, 1) := by decide +kernel
theorem dX8_shape_52 : decode mX8_shape.2.1 52 = .ok (.iload_n 3, 1) := by decide +kernel
theorem dX8_shape_53 : decode mX8_shape.2.1 53 = .ok (.i2l, 1) := by decide +kernel
theorem dX8_shape_54 : decode mX8_shape.2.1 54 = .ok (.iload_n 1, 1) := by decide +kernel
theorem dX8_shape_55 : decode mX8_shape.2.1 55 = .ok (.iload_n 2, 1) := by decide +kernel
theorem dX8_shape_56 : decode mX8_shape.2.1 56 = .ok (.iload 7, 2) := by decide +kernel
theorem dX8_shape_58 : decode mX8_shape.2.1 58 = .ok (.iload 4, 2) := by decide +kernel
theorem dX8_shape_60 : decode mX8_shape.2.1 60 = .ok (.invokestatic 268, 3) := by decide +kernel
theorem dX8_shape_63 : decode mX8_shape.2.1 63 = .ok (.i2l, 1) := by decide +kernel
theorem dX8_shape_64 : decode mX8_shape.2.1 64 = .ok (.lmul, 1) := by decide +kernel
theorem dX8_shape_65 : decode mX8_shape.2.1 65 = .ok (.iload 5, 2) := by decide +kernel
theorem dX8_shape_67 : decode mX8_shape.2.1 67 = .ok (.i2l, 1) := by decide +kernel
theorem dX8_shape_68 : decode mX8_shape.2.1 68 = .ok (.ldiv, 1) := by decide +kernel
theorem dX8_shape_69 : decode mX8_shape.2.1 69 = .ok (.l2i, 1) := by decide +kernel
theorem dX8_shape_70 : decode mX8_shape.2.1 70 = .ok (.iastore, 1) := by decide +kernel
theorem dX8_shape_71 : decode mX8_shape.2.1 71 = .ok (.iload 6, 2) := by decide +kernel
theorem dX8_shape_73 : decode mX8_shape.2.1 73 = .ok (.aload_n 0, 1) := by decide +kernel
theorem dX8_shape_74 : decode mX8_shape.2.1 74 = .ok (.getfield 50, 3) := by decide +kernel
theorem dX8_shape_77 : decode mX8_shape.2.1 77 = .ok (.iconst 0, 1) := by decide +kernel
theorem dX8_shape_78 : decode mX8_shape.2.1 78 = .ok (.iload 7, 2) := by decide +kernel
theorem dX8_shape_80 : decode mX8_shape.2.1 80 = .ok (.iadd, 1) := by decide +kernel
theorem dX8_shape_81 : decode mX8_shape.2.1 81 = .ok (.iaload, 1) := by decide +kernel
theorem dX8_shape_82 : decode mX8_shape.2.1 82 = .ok (.isub, 1) := by decide +kernel
theorem dX8_shape_83 : decode mX8_shape.2.1 83 = .ok (.istore 6, 2) := by decide +kernel
theorem dX8_shape_85 : decode mX8_shape.2.1 85 = .ok (.iinc 7 1, 3) := by decide +kernel
theorem dX8_shape_88 : decode mX8_shape.2.1 88 = .ok (.goto (-50), 3) := by decide +kernel
theorem dX8_shape_91 : decode mX8_shape.2.1 91 = .ok (.iload_n 1, 1) := by decide +kernel
theorem dX8_shape_92 : decode mX8_shape.2.1 92 = .ok (.istore 7, 2) := by decide +kernel
theorem dX8_shape_94 : decode mX8_shape.2.1 94 = .ok (.iload 6, 2) := by decide +kernel
theorem dX8_shape_96 : decode mX8_shape.2.1 96 = .ok (.ifCond .le 25, 3) := by decide +kernel
theorem dX8_shape_99 : decode mX8_shape.2.1 99 = .ok (.aload_n 0, 1) := by decide +kernel
theorem dX8_shape_100 : decode mX8_shape.2.1 100 = .ok (.getfield 50, 3) := by decide +kernel
theorem dX8_shape_103 : decode mX8_shape.2.1 103 = .ok (.iconst 0, 1) := by decide +kernel
theorem dX8_shape_104 : decode mX8_shape.2.1 104 = .ok (.iload 7, 2) := by decide +kernel
theorem dX8_shape_106 : decode mX8_shape.2.1 106 = .ok (.iadd, 1) := by decide +kernel
theorem dX8_shape_107 : decode mX8_shape.2.1 107 = .ok (.dup2, 1) := by decide +kernel
theorem dX8_shape_108 : decode mX8_shape.2.1 108 = .ok (.iaload, 1) := by decide +kernel
theorem dX8_shape_109 : decode mX8_shape.2.1 109 = .ok (.iconst 1, 1) := by decide +kernel
theorem dX8_shape_110 : decode mX8_shape.2.1 110 = .ok (.iadd, 1) := by decide +kernel
theorem dX8_shape_111 : decode mX8_shape.2.1 111 = .ok (.iastore, 1) := by decide +kernel
theorem dX8_shape_112 : decode mX8_shape.2.1 112 = .ok (.iinc 6 (-1), 3) := by decide +kernel
theorem dX8_shape_115 : decode mX8_shape.2.1 115 = .ok (.iinc 7 1, 3) := by decide +kernel
theorem dX8_shape_118 : decode mX8_shape.2.1 118 = .ok (.goto (-24), 3) := by decide +kernel
theorem dX8_shape_121 : decode mX8_shape.2.1 121 = .ok (.return_, 1) := by decide +kernel
theorem dX8_start_0 : decode mX8_start.2.1 0 = .ok (.aload_n 0, 1) := by decide +kernel
theorem dX8_start_1 : decode mX8_start.2.1 1 = .ok (.iload_n 1, 1) := by decide +kernel
theorem dX8_start_2 : decode mX8_start.2.1 2 = .ok (.invokevirtual 272, 3) := by decide +kernel
theorem dX8_start_5 : decode mX8_start.2.1 5 = .ok (.ifCond .eq 19, 3) := by decide +kernel
theorem dX8_start_8 : decode mX8_start.2.1 8 = .ok (.aload_n 0, 1) := by decide +kernel
theorem dX8_start_9 : decode mX8_start.2.1 9 = .ok (.iload_n 2, 1) := by decide +kernel
theorem dX8_start_10 : decode mX8_start.2.1 10 = .ok (.invokevirtual 275, 3) := by decide +kernel
theorem dX8_start_13 : decode mX8_start.2.1 13 = .ok (.ifCond .eq 11, 3) := by decide +kernel
theorem dX8_start_16 : decode mX8_start.2.1 16 = .ok (.aload_n 0, 1) := by decide +kernel
theorem dX8_start_17 : decode mX8_start.2.1 17 = .ok (.iload_n 2, 1) := by decide +kernel
theorem dX8_start_18 : decode mX8_start.2.1 18 = .ok (.invokevirtual 278, 3) := by decide +kernel
theorem dX8_start_21 : decode mX8_start.2.1 21 = .ok (.ifCond .ne 5, 3) := by decide +kernel
theorem dX8_start_24 : decode mX8_start.2.1 24 = .ok (.iconst (-1), 1) := by decide +kernel
theorem dX8_start_25 : decode mX8_start.2.1 25 = .ok (.ireturn, 1) := by decide +kernel
theorem dX8_start_26 : decode mX8_start.2.1 26 = .ok (.aload_n 0, 1) := by decide +kernel
theorem dX8_start_27 : decode mX8_start.2.1 27 = .ok (.iload_n 1, 1) := by decide +kernel
theorem dX8_start_28 : decode mX8_start.2.1 28 = .ok (.lload_n 3, 1) := by decide +kernel
theorem dX8_start_29 : decode mX8_start.2.1 29 = .ok (.invokevirtual 281, 3) := by decide +kernel
theorem dX8_start_32 : decode mX8_start.2.1 32 = .ok (.aload_n 0, 1) := by decide +kernel
theorem dX8_start_33 : decode mX8_start.2.1 33 = .ok (.getfield 50, 3) := by decide +kernel
theorem dX8_start_36 : decode mX8_start.2.1 36 = .ok (.sipush 288, 3) := by decide +kernel
theorem dX8_start_39 : decode mX8_start.2.1 39 = .ok (.iaload, 1) := by decide +kernel
theorem dX8_start_40 : decode mX8_start.2.1 40 = .ok (.ireturn, 1) := by decide +kernel
theorem dX8_of_0 : decode mX8_of.2.1 0 = .ok (.aload_n 0, 1) := by decide +kernel
theorem dX8_of_1 : decode mX8_of.2.1 1 = .ok (.getfield 40, 3) := by decide +kernel
theorem dX8_of_4 : decode mX8_of.2.1 4 = .ok (.bipush 12, 2) := by decide +kernel
theorem dX8_of_6 : decode mX8_of.2.1 6 = .ok (.aload_n 0, 1) := by decide +kernel
theorem dX8_of_7 : decode mX8_of.2.1 7 = .ok (.getfield 285, 3) := by decide +kernel
theorem dX8_of_10 : decode mX8_of.2.1 10 = .ok (.imul, 1) := by decide +kernel
theorem dX8_of_11 : decode mX8_of.2.1 11 = .ok (.iload_n 1, 1) := by decide +kernel
theorem dX8_of_12 : decode mX8_of.2.1 12 = .ok (.iadd, 1) := by decide +kernel
theorem dX8_of_13 : decode mX8_of.2.1 13 = .ok (.iaload, 1) := by decide +kernel
theorem dX8_of_14 : decode mX8_of.2.1 14 = .ok (.ireturn, 1) := by decide +kernel
theorem dX8_fall_0 : decode mX8_fall.2.1 0 = .ok (.aload_n 0, 1) := by decide +kernel
theorem dX8_fall_1 : decode mX8_fall.2.1 1 = .ok (.getfield 50, 3) := by decide +kernel
theorem dX8_fall_4 : decode mX8_fall.2.1 4 = .ok (.bipush 24, 2) := by decide +kernel
theorem dX8_fall_6 : decode mX8_fall.2.1 6 = .ok (.bipush 24, 2) := by decide +kernel
theorem dX8_fall_8 : decode mX8_fall.2.1 8 = .ok (.iload_n 2, 1) := by decide +kernel
theorem dX8_fall_9 : decode mX8_fall.2.1 9 = .ok (.imul, 1) := by decide +kernel
theorem dX8_fall_10 : decode mX8_fall.2.1 10 = .ok (.iadd, 1) := by decide +kernel
theorem dX8_fall_11 : decode mX8_fall.2.1 11 = .ok (.iload_n 1, 1) := by decide +kernel
theorem dX8_fall_12 : decode mX8_fall.2.1 12 = .ok (.iadd, 1) := by decide +kernel
theorem dX8_fall_13 : decode mX8_fall.2.1 13 = .ok (.dup2, 1) := by decide +kernel
theorem dX8_fall_14 : decode mX8_fall.2.1 14 = .ok (.iaload, 1) := by decide +kernel
theorem dX8_fall_15 : decode mX8_fall.2.1 15 = .ok (.iload_n 3, 1) := by decide +kernel
theorem dX8_fall_16 : decode mX8_fall.2.1 16 = .ok (.isub, 1) := by decide +kernel
theorem dX8_fall_17 : decode mX8_fall.2.1 17 = .ok (.iastore, 1) := by decide +kernel
theorem dX8_fall_18 : decode mX8_fall.2.1 18 = .ok (.aload_n 0, 1) := by decide +kernel
theorem dX8_fall_19 : decode mX8_fall.2.1 19 = .ok (.getfield 50, 3) := by decide +kernel
theorem dX8_fall_22 : decode mX8_fall.2.1 22 = .ok (.bipush 72, 2) := by decide +kernel
theorem dX8_fall_24 : decode mX8_fall.2.1 24 = .ok (.bipush 24, 2) := by decide +kernel
theorem dX8_fall_26 : decode mX8_fall.2.1 26 = .ok (.iload_n 2, 1) := by decide +kernel
theorem dX8_fall_27 : decode mX8_fall.2.1 27 = .ok (.imul, 1) := by decide +kernel
theorem dX8_fall_28 : decode mX8_fall.2.1 28 = .ok (.iadd, 1) := by decide +kernel
theorem dX8_fall_29 : decode mX8_fall.2.1 29 = .ok (.iload_n 1, 1) := by decide +kernel
theorem dX8_fall_30 : decode mX8_fall.2.1 30 = .ok (.iadd, 1) := by decide +kernel
theorem dX8_fall_31 : decode mX8_fall.2.1 31 = .ok (.dup2, 1) := by decide +kernel
theorem dX8_fall_32 : decode mX8_fall.2.1 32 = .ok (.iaload, 1) := by decide +kernel
theorem dX8_fall_33 : decode mX8_fall.2.1 33 = .ok (.iload_n 3, 1) := by decide +kernel
theorem dX8_fall_34 : decode mX8_fall.2.1 34 = .ok (.iadd, 1) := by decide +kernel
theorem dX8_fall_35 : decode mX8_fall.2.1 35 = .ok (.iastore, 1) := by decide +kernel
theorem dX8_fall_36 : decode mX8_fall.2.1 36 = .ok (.aload_n 0, 1) := by decide +kernel
theorem dX8_fall_37 : decode mX8_fall.2.1 37 = .ok (.getfield 68, 3) := by decide +kernel
theorem dX8_fall_40 : decode mX8_fall.2.1 40 = .ok (.bipush 24, 2) := by decide +kernel
theorem dX8_fall_42 : decode mX8_fall.2.1 42 = .ok (.iload_n 2, 1) := by decide +kernel
theorem dX8_fall_43 : decode mX8_fall.2.1 43 = .ok (.imul, 1) := by decide +kernel
theorem dX8_fall_44 : decode mX8_fall.2.1 44 = .ok (.iload_n 1, 1) := by decide +kernel
theorem dX8_fall_45 : decode mX8_fall.2.1 45 = .ok (.iadd, 1) := by decide +kernel
theorem dX8_fall_46 : decode mX8_fall.2.1 46 = .ok (.dup2, 1) := by decide +kernel
theorem dX8_fall_47 : decode mX8_fall.2.1 47 = .ok (.iaload, 1) := by decide +kernel
theorem dX8_fall_48 : decode mX8_fall.2.1 48 = .ok (.iload_n 3, 1) := by decide +kernel
theorem dX8_fall_49 : decode mX8_fall.2.1 49 = .ok (.iadd, 1) := by decide +kernel
theorem dX8_fall_50 : decode mX8_fall.2.1 50 = .ok (.iastore, 1) := by decide +kernel
theorem dX8_fall_51 : decode mX8_fall.2.1 51 = .ok (.return_, 1) := by decide +kernel
theorem dX8_lose_0 : decode mX8_lose.2.1 0 = .ok (.iconst 0, 1) := by decide +kernel
theorem dX8_lose_1 : decode mX8_lose.2.1 1 = .ok (.istore_n 1, 1) := by decide +kernel
theorem dX8_lose_2 : decode mX8_lose.2.1 2 = .ok (.aload_n 0, 1) := by decide +kernel
theorem dX8_lose_3 : decode mX8_lose.2.1 3 = .ok (.getfield 288, 3) := by decide +kernel
theorem dX8_lose_6 : decode mX8_lose.2.1 6 = .ok (.istore_n 2, 1) := by decide +kernel
theorem dX8_lose_7 : decode mX8_lose.2.1 7 = .ok (.iload_n 2, 1) := by decide +kernel
theorem dX8_lose_8 : decode mX8_lose.2.1 8 = .ok (.aload_n 0, 1) := by decide +kernel
theorem dX8_lose_9 : decode mX8_lose.2.1 9 = .ok (.getfield 291, 3) := by decide +kernel
theorem dX8_lose_12 : decode mX8_lose.2.1 12 = .ok (.if_icmp .gt 201, 3) := by decide +kernel
theorem dX8_lose_15 : decode mX8_lose.2.1 15 = .ok (.aload_n 0, 1) := by decide +kernel
theorem dX8_lose_16 : decode mX8_lose.2.1 16 = .ok (.getfield 34, 3) := by decide +kernel
theorem dX8_lose_19 : decode mX8_lose.2.1 19 = .ok (.iconst 0, 1) := by decide +kernel
theorem dX8_lose_20 : decode mX8_lose.2.1 20 = .ok (.iload_n 2, 1) := by decide +kernel
theorem dX8_lose_21 : decode mX8_lose.2.1 21 = .ok (.aload_n 0, 1) := by decide +kernel
theorem dX8_lose_22 : decode mX8_lose.2.1 22 = .ok (.getfield 288, 3) := by decide +kernel
theorem dX8_lose_25 : decode mX8_lose.2.1 25 = .ok (.isub, 1) := by decide +kernel
theorem dX8_lose_26 : decode mX8_lose.2.1 26 = .ok (.aload_n 0, 1) := by decide +kernel
theorem dX8_lose_27 : decode mX8_lose.2.1 27 = .ok (.getfield 291, 3) := by decide +kernel
theorem dX8_lose_30 : decode mX8_lose.2.1 30 = .ok (.iload_n 2, 1) := by decide +kernel
theorem dX8_lose_31 : decode mX8_lose.2.1 31 = .ok (.isub, 1) := by decide +kernel
theorem dX8_lose_32 : decode mX8_lose.2.1 32 = .ok (.invokestatic 261, 3) := by decide +kernel
theorem dX8_lose_35 : decode mX8_lose.2.1 35 = .ok (.iastore, 1) := by decide +kernel
theorem dX8_lose_36 : decode mX8_lose.2.1 36 = .ok (.aload_n 0, 1) := by decide +kernel
theorem dX8_lose_37 : decode mX8_lose.2.1 37 = .ok (.getfield 34, 3) := by decide +kernel
theorem dX8_lose_40 : decode mX8_lose.2.1 40 = .ok (.iconst 1, 1) := by decide +kernel
theorem dX8_lose_41 : decode mX8_lose.2.1 41 = .ok (.aload_n 0, 1) := by decide +kernel
theorem dX8_lose_42 : decode mX8_lose.2.1 42 = .ok (.getfield 50, 3) := by decide +kernel
theorem dX8_lose_45 : decode mX8_lose.2.1 45 = .ok (.iconst 0, 1) := by decide +kernel
theorem dX8_lose_46 : decode mX8_lose.2.1 46 = .ok (.iload_n 2, 1) := by decide +kernel
theorem dX8_lose_47 : decode mX8_lose.2.1 47 = .ok (.iadd, 1) := by decide +kernel
theorem dX8_lose_48 : decode mX8_lose.2.1 48 = .ok (.iaload, 1) := by decide +kernel
theorem dX8_lose_49 : decode mX8_lose.2.1 49 = .ok (.iastore, 1) := by decide +kernel
theorem dX8_lose_50 : decode mX8_lose.2.1 50 = .ok (.aload_n 0, 1) := by decide +kernel
theorem dX8_lose_51 : decode mX8_lose.2.1 51 = .ok (.getfield 34, 3) := by decide +kernel
theorem dX8_lose_54 : decode mX8_lose.2.1 54 = .ok (.iconst 2, 1) := by decide +kernel
theorem dX8_lose_55 : decode mX8_lose.2.1 55 = .ok (.aload_n 0, 1) := by decide +kernel
theorem dX8_lose_56 : decode mX8_lose.2.1 56 = .ok (.getfield 50, 3) := by decide +kernel
theorem dX8_lose_59 : decode mX8_lose.2.1 59 = .ok (.bipush 24, 2) := by decide +kernel
theorem dX8_lose_61 : decode mX8_lose.2.1 61 = .ok (.iload_n 2, 1) := by decide +kernel
theorem dX8_lose_62 : decode mX8_lose.2.1 62 = .ok (.iadd, 1) := by decide +kernel
theorem dX8_lose_63 : decode mX8_lose.2.1 63 = .ok (.iaload, 1) := by decide +kernel
theorem dX8_lose_64 : decode mX8_lose.2.1 64 = .ok (.aload_n 0, 1) := by decide +kernel
theorem dX8_lose_65 : decode mX8_lose.2.1 65 = .ok (.getfield 50, 3) := by decide +kernel
theorem dX8_lose_68 : decode mX8_lose.2.1 68 = .ok (.bipush 48, 2) := by decide +kernel
theorem dX8_lose_70 : decode mX8_lose.2.1 70 = .ok (.iload_n 2, 1) := by decide +kernel
theorem dX8_lose_71 : decode mX8_lose.2.1 71 = .ok (.iadd, 1) := by decide +kernel
theorem dX8_lose_72 : decode mX8_lose.2.1 72 = .ok (.iaload, 1) := by decide +kernel
theorem dX8_lose_73 : decode mX8_lose.2.1 73 = .ok (.iadd, 1) := by decide +kernel
theorem dX8_lose_74 : decode mX8_lose.2.1 74 = .ok (.iastore, 1) := by decide +kernel
theorem dX8_lose_75 : decode mX8_lose.2.1 75 = .ok (.aload_n 0, 1) := by decide +kernel
theorem dX8_lose_76 : decode mX8_lose.2.1 76 = .ok (.getfield 34, 3) := by decide +kernel
theorem dX8_lose_79 : decode mX8_lose.2.1 79 = .ok (.iconst 3, 1) := by decide +kernel
theorem dX8_lose_80 : decode mX8_lose.2.1 80 = .ok (.aload_n 0, 1) := by decide +kernel
theorem dX8_lose_81 : decode mX8_lose.2.1 81 = .ok (.getfield 50, 3) := by decide +kernel
theorem dX8_lose_84 : decode mX8_lose.2.1 84 = .ok (.sipush 289, 3) := by decide +kernel
theorem dX8_lose_87 : decode mX8_lose.2.1 87 = .ok (.iaload, 1) := by decide +kernel
theorem dX8_lose_88 : decode mX8_lose.2.1 88 = .ok (.iastore, 1) := by decide +kernel
theorem dX8_lose_89 : decode mX8_lose.2.1 89 = .ok (.aload_n 0, 1) := by decide +kernel
theorem dX8_lose_90 : decode mX8_lose.2.1 90 = .ok (.getfield 34, 3) := by decide +kernel
theorem dX8_lose_93 : decode mX8_lose.2.1 93 = .ok (.iconst 4, 1) := by decide +kernel
theorem dX8_lose_94 : decode mX8_lose.2.1 94 = .ok (.aload_n 0, 1) := by decide +kernel
theorem dX8_lose_95 : decode mX8_lose.2.1 95 = .ok (.iconst 5, 1) := by decide +kernel
theorem dX8_lose_96 : decode mX8_lose.2.1 96 = .ok (.invokevirtual 294, 3) := by decide +kernel
theorem dX8_lose_99 : decode mX8_lose.2.1 99 = .ok (.iastore, 1) := by decide +kernel
theorem dX8_lose_100 : decode mX8_lose.2.1 100 = .ok (.aload_n 0, 1) := by decide +kernel
theorem dX8_lose_101 : decode mX8_lose.2.1 101 = .ok (.getfield 34, 3) := by decide +kernel
theorem dX8_lose_104 : decode mX8_lose.2.1 104 = .ok (.iconst 5, 1) := by decide +kernel
theorem dX8_lose_105 : decode mX8_lose.2.1 105 = .ok (.aload_n 0, 1) := by decide +kernel
theorem dX8_lose_106 : decode mX8_lose.2.1 106 = .ok (.bipush 6, 2) := by decide +kernel
theorem dX8_lose_108 : decode mX8_lose.2.1 108 = .ok (.invokevirtual 294, 3) := by decide +kernel
theorem dX8_lose_111 : decode mX8_lose.2.1 111 = .ok (.iastore, 1) := by decide +kernel
theorem dX8_lose_112 : decode mX8_lose.2.1 112 = .ok (.aload_n 0, 1) := by decide +kernel
theorem dX8_lose_113 : decode mX8_lose.2.1 113 = .ok (.getfield 34, 3) := by decide +kernel
theorem dX8_lose_116 : decode mX8_lose.2.1 116 = .ok (.bipush 6, 2) := by decide +kernel
theorem dX8_lose_118 : decode mX8_lose.2.1 118 = .ok (.aload_n 0, 1) := by decide +kernel
theorem dX8_lose_119 : decode mX8_lose.2.1 119 = .ok (.getfield 291, 3) := by decide +kernel
theorem dX8_lose_122 : decode mX8_lose.2.1 122 = .ok (.aload_n 0, 1) := by decide +kernel
theorem dX8_lose_123 : decode mX8_lose.2.1 123 = .ok (.getfield 288, 3) := by decide +kernel
theorem dX8_lose_126 : decode mX8_lose.2.1 126 = .ok (.isub, 1) := by decide +kernel
theorem dX8_lose_127 : decode mX8_lose.2.1 127 = .ok (.iconst 1, 1) := by decide +kernel
theorem dX8_lose_128 : decode mX8_lose.2.1 128 = .ok (.iadd, 1) := by decide +kernel
theorem dX8_lose_129 : decode mX8_lose.2.1 129 = .ok (.iastore, 1) := by decide +kernel
theorem dX8_lose_130 : decode mX8_lose.2.1 130 = .ok (.iconst 0, 1) := by decide +kernel
theorem dX8_lose_131 : decode mX8_lose.2.1 131 = .ok (.aload_n 0, 1) := by decide +kernel
theorem dX8_lose_132 : decode mX8_lose.2.1 132 = .ok (.getfield 50, 3) := by decide +kernel
theorem dX8_lose_135 : decode mX8_lose.2.1 135 = .ok (.iconst 0, 1) := by decide +kernel
theorem dX8_lose_136 : decode mX8_lose.2.1 136 = .ok (.iload_n 2, 1) := by decide +kernel
theorem dX8_lose_137 : decode mX8_lose.2.1 137 = .ok (.iadd, 1) := by decide +kernel
theorem dX8_lose_138 : decode mX8_lose.2.1 138 = .ok (.iaload, 1) := by decide +kernel
theorem dX8_lose_139 : decode mX8_lose.2.1 139 = .ok (.aload_n 0, 1) := by decide +kernel
theorem dX8_lose_140 : decode mX8_lose.2.1 140 = .ok (.aload_n 0, 1) := by decide +kernel
theorem dX8_lose_141 : decode mX8_lose.2.1 141 = .ok (.getfield 50, 3) := by decide +kernel
theorem dX8_lose_144 : decode mX8_lose.2.1 144 = .ok (.sipush 294, 3) := by decide +kernel
theorem dX8_lose_147 : decode mX8_lose.2.1 147 = .ok (.iaload, 1) := by decide +kernel
theorem dX8_lose_148 : decode mX8_lose.2.1 148 = .ok (.invokevirtual 297, 3) := by decide +kernel
theorem dX8_lose_151 : decode mX8_lose.2.1 151 = .ok (.invokestatic 261, 3) := by decide +kernel
theorem dX8_lose_154 : decode mX8_lose.2.1 154 = .ok (.invokestatic 300, 3) := by decide +kernel
theorem dX8_lose_157 : decode mX8_lose.2.1 157 = .ok (.istore_n 3, 1) := by decide +kernel
theorem dX8_lose_158 : decode mX8_lose.2.1 158 = .ok (.iload_n 3, 1) := by decide +kernel
theorem dX8_lose_159 : decode mX8_lose.2.1 159 = .ok (.iload_n 3, 1) := by decide +kernel
theorem dX8_lose_160 : decode mX8_lose.2.1 160 = .ok (.aload_n 0, 1) := by decide +kernel
theorem dX8_lose_161 : decode mX8_lose.2.1 161 = .ok (.bipush 6, 2) := by decide +kernel
theorem dX8_lose_163 : decode mX8_lose.2.1 163 = .ok (.invokevirtual 294, 3) := by decide +kernel
theorem dX8_lose_166 : decode mX8_lose.2.1 166 = .ok (.imul, 1) := by decide +kernel
theorem dX8_lose_167 : decode mX8_lose.2.1 167 = .ok (.bipush 100, 2) := by decide +kernel
theorem dX8_lose_169 : decode mX8_lose.2.1 169 = .ok (.idiv, 1) := by decide +kernel
theorem dX8_lose_170 : decode mX8_lose.2.1 170 = .ok (.isub, 1) := by decide +kernel
theorem dX8_lose_171 : decode mX8_lose.2.1 171 = .ok (.istore_n 3, 1) := by decide +kernel
theorem dX8_lose_172 : decode mX8_lose.2.1 172 = .ok (.aload_n 0, 1) := by decide +kernel
theorem dX8_lose_173 : decode mX8_lose.2.1 173 = .ok (.getfield 50, 3) := by decide +kernel
theorem dX8_lose_176 : decode mX8_lose.2.1 176 = .ok (.iconst 0, 1) := by decide +kernel
theorem dX8_lose_177 : decode mX8_lose.2.1 177 = .ok (.iload_n 2, 1) := by decide +kernel
theorem dX8_lose_178 : decode mX8_lose.2.1 178 = .ok (.iadd, 1) := by decide +kernel
theorem dX8_lose_179 : decode mX8_lose.2.1 179 = .ok (.dup2, 1) := by decide +kernel
theorem dX8_lose_180 : decode mX8_lose.2.1 180 = .ok (.iaload, 1) := by decide +kernel
theorem dX8_lose_181 : decode mX8_lose.2.1 181 = .ok (.iload_n 3, 1) := by decide +kernel
theorem dX8_lose_182 : decode mX8_lose.2.1 182 = .ok (.isub, 1) := by decide +kernel
theorem dX8_lose_183 : decode mX8_lose.2.1 183 = .ok (.iastore, 1) := by decide +kernel
theorem dX8_lose_184 : decode mX8_lose.2.1 184 = .ok (.aload_n 0, 1) := by decide +kernel
theorem dX8_lose_185 : decode mX8_lose.2.1 185 = .ok (.getfield 50, 3) := by decide +kernel
theorem dX8_lose_188 : decode mX8_lose.2.1 188 = .ok (.sipush 290, 3) := by decide +kernel
theorem dX8_lose_191 : decode mX8_lose.2.1 191 = .ok (.dup2, 1) := by decide +kernel
theorem dX8_lose_192 : decode mX8_lose.2.1 192 = .ok (.iaload, 1) := by decide +kernel
theorem dX8_lose_193 : decode mX8_lose.2.1 193 = .ok (.iload_n 3, 1) := by decide +kernel
theorem dX8_lose_194 : decode mX8_lose.2.1 194 = .ok (.iadd, 1) := by decide +kernel
theorem dX8_lose_195 : decode mX8_lose.2.1 195 = .ok (.iastore, 1) := by decide +kernel
theorem dX8_lose_196 : decode mX8_lose.2.1 196 = .ok (.iload_n 1, 1) := by decide +kernel
theorem dX8_lose_197 : decode mX8_lose.2.1 197 = .ok (.aload_n 0, 1) := by decide +kernel
theorem dX8_lose_198 : decode mX8_lose.2.1 198 = .ok (.getfield 50, 3) := by decide +kernel
theorem dX8_lose_201 : decode mX8_lose.2.1 201 = .ok (.iconst 0, 1) := by decide +kernel
theorem dX8_lose_202 : decode mX8_lose.2.1 202 = .ok (.iload_n 2, 1) := by decide +kernel
theorem dX8_lose_203 : decode mX8_lose.2.1 203 = .ok (.iadd, 1) := by decide +kernel
theorem dX8_lose_204 : decode mX8_lose.2.1 204 = .ok (.iaload, 1) := by decide +kernel
theorem dX8_lose_205 : decode mX8_lose.2.1 205 = .ok (.iadd, 1) := by decide +kernel
theorem dX8_lose_206 : decode mX8_lose.2.1 206 = .ok (.istore_n 1, 1) := by decide +kernel
theorem dX8_lose_207 : decode mX8_lose.2.1 207 = .ok (.iinc 2 1, 3) := by decide +kernel
theorem dX8_lose_210 : decode mX8_lose.2.1 210 = .ok (.goto (-203), 3) := by decide +kernel
theorem dX8_lose_213 : decode mX8_lose.2.1 213 = .ok (.iload_n 1, 1) := by decide +kernel
theorem dX8_lose_214 : decode mX8_lose.2.1 214 = .ok (.ireturn, 1) := by decide +kernel
theorem dX8_letGo_0 : decode mX8_letGo.2.1 0 = .ok (.iconst 0, 1) := by decide +kernel
theorem dX8_letGo_1 : decode mX8_letGo.2.1 1 = .ok (.istore_n 2, 1) := by decide +kernel
theorem dX8_letGo_2 : decode mX8_letGo.2.1 2 = .ok (.iload_n 2, 1) := by decide +kernel
theorem dX8_letGo_3 : decode mX8_letGo.2.1 3 = .ok (.iload_n 1, 1) := by decide +kernel
theorem dX8_letGo_4 : decode mX8_letGo.2.1 4 = .ok (.if_icmp .ge 57, 3) := by decide +kernel
theorem dX8_letGo_7 : decode mX8_letGo.2.1 7 = .ok (.aload_n 0, 1) := by decide +kernel
theorem dX8_letGo_8 : decode mX8_letGo.2.1 8 = .ok (.aload_n 0, 1) := by decide +kernel
theorem dX8_letGo_9 : decode mX8_letGo.2.1 9 = .ok (.getfield 288, 3) := by decide +kernel
theorem dX8_letGo_12 : decode mX8_letGo.2.1 12 = .ok (.aload_n 0, 1) := by decide +kernel
theorem dX8_letGo_13 : decode mX8_letGo.2.1 13 = .ok (.getfield 288, 3) := by decide +kernel
theorem dX8_letGo_16 : decode mX8_letGo.2.1 16 = .ok (.iconst 1, 1) := by decide +kernel
theorem dX8_letGo_17 : decode mX8_letGo.2.1 17 = .ok (.iadd, 1) := by decide +kernel
theorem dX8_letGo_18 : decode mX8_letGo.2.1 18 = .ok (.invokevirtual 302, 3) := by decide +kernel
theorem dX8_letGo_21 : decode mX8_letGo.2.1 21 = .ok (.aload_n 0, 1) := by decide +kernel
theorem dX8_letGo_22 : decode mX8_letGo.2.1 22 = .ok (.dup, 1) := by decide +kernel
theorem dX8_letGo_23 : decode mX8_letGo.2.1 23 = .ok (.getfield 288, 3) := by decide +kernel
theorem dX8_letGo_26 : decode mX8_letGo.2.1 26 = .ok (.iconst 1, 1) := by decide +kernel
theorem dX8_letGo_27 : decode mX8_letGo.2.1 27 = .ok (.iadd, 1) := by decide +kernel
theorem dX8_letGo_28 : decode mX8_letGo.2.1 28 = .ok (.putfield 288, 3) := by decide +kernel
theorem dX8_letGo_31 : decode mX8_letGo.2.1 31 = .ok (.aload_n 0, 1) := by decide +kernel
theorem dX8_letGo_32 : decode mX8_letGo.2.1 32 = .ok (.aload_n 0, 1) := by decide +kernel
theorem dX8_letGo_33 : decode mX8_letGo.2.1 33 = .ok (.getfield 291, 3) := by decide +kernel
theorem dX8_letGo_36 : decode mX8_letGo.2.1 36 = .ok (.aload_n 0, 1) := by decide +kernel
theorem dX8_letGo_37 : decode mX8_letGo.2.1 37 = .ok (.getfield 291, 3) := by decide +kernel
theorem dX8_letGo_40 : decode mX8_letGo.2.1 40 = .ok (.iconst 1, 1) := by decide +kernel
theorem dX8_letGo_41 : decode mX8_letGo.2.1 41 = .ok (.isub, 1) := by decide +kernel
theorem dX8_letGo_42 : decode mX8_letGo.2.1 42 = .ok (.invokevirtual 302, 3) := by decide +kernel
theorem dX8_letGo_45 : decode mX8_letGo.2.1 45 = .ok (.aload_n 0, 1) := by decide +kernel
theorem dX8_letGo_46 : decode mX8_letGo.2.1 46 = .ok (.dup, 1) := by decide +kernel
theorem dX8_letGo_47 : decode mX8_letGo.2.1 47 = .ok (.getfield 291, 3) := by decide +kernel
theorem dX8_letGo_50 : decode mX8_letGo.2.1 50 = .ok (.iconst 1, 1) := by decide +kernel
theorem dX8_letGo_51 : decode mX8_letGo.2.1 51 = .ok (.isub, 1) := by decide +kernel
theorem dX8_letGo_52 : decode mX8_letGo.2.1 52 = .ok (.putfield 291, 3) := by decide +kernel
theorem dX8_letGo_55 : decode mX8_letGo.2.1 55 = .ok (.iinc 2 1, 3) := by decide +kernel
theorem dX8_letGo_58 : decode mX8_letGo.2.1 58 = .ok (.goto (-56), 3) := by decide +kernel
theorem dX8_letGo_61 : decode mX8_letGo.2.1 61 = .ok (.return_, 1) := by decide +kernel
theorem dX8_shed_0 : decode mX8_shed.2.1 0 = .ok (.aload_n 0, 1) := by decide +kernel
theorem dX8_shed_1 : decode mX8_shed.2.1 1 = .ok (.getfield 50, 3) := by decide +kernel
theorem dX8_shed_4 : decode mX8_shed.2.1 4 = .ok (.iconst 0, 1) := by decide +kernel
theorem dX8_shed_5 : decode mX8_shed.2.1 5 = .ok (.iload_n 2, 1) := by decide +kernel
theorem dX8_shed_6 : decode mX8_shed.2.1 6 = .ok (.iadd, 1) := by decide +kernel
theorem dX8_shed_7 : decode mX8_shed.2.1 7 = .ok (.dup2, 1) := by decide +kernel
theorem dX8_shed_8 : decode mX8_shed.2.1 8 = .ok (.iaload, 1) := by decide +kernel
theorem dX8_shed_9 : decode mX8_shed.2.1 9 = .ok (.aload_n 0, 1) := by decide +kernel
theorem dX8_shed_10 : decode mX8_shed.2.1 10 = .ok (.getfield 50, 3) := by decide +kernel
theorem dX8_shed_13 : decode mX8_shed.2.1 13 = .ok (.iconst 0, 1) := by decide +kernel
theorem dX8_shed_14 : decode mX8_shed.2.1 14 = .ok (.iload_n 1, 1) := by decide +kernel
theorem dX8_shed_15 : decode mX8_shed.2.1 15 = .ok (.iadd, 1) := by decide +kernel
theorem dX8_shed_16 : decode mX8_shed.2.1 16 = .ok (.iaload, 1) := by decide +kernel
theorem dX8_shed_17 : decode mX8_shed.2.1 17 = .ok (.iadd, 1) := by decide +kernel
theorem dX8_shed_18 : decode mX8_shed.2.1 18 = .ok (.iastore, 1) := by decide +kernel
theorem dX8_shed_19 : decode mX8_shed.2.1 19 = .ok (.aload_n 0, 1) := by decide +kernel
theorem dX8_shed_20 : decode mX8_shed.2.1 20 = .ok (.getfield 50, 3) := by decide +kernel
theorem dX8_shed_23 : decode mX8_shed.2.1 23 = .ok (.iconst 0, 1) := by decide +kernel
theorem dX8_shed_24 : decode mX8_shed.2.1 24 = .ok (.iload_n 1, 1) := by decide +kernel
theorem dX8_shed_25 : decode mX8_shed.2.1 25 = .ok (.iadd, 1) := by decide +kernel
theorem dX8_shed_26 : decode mX8_shed.2.1 26 = .ok (.iconst 0, 1) := by decide +kernel
theorem dX8_shed_27 : decode mX8_shed.2.1 27 = .ok (.iastore, 1) := by decide +kernel
theorem dX8_shed_28 : decode mX8_shed.2.1 28 = .ok (.aload_n 0, 1) := by decide +kernel
theorem dX8_shed_29 : decode mX8_shed.2.1 29 = .ok (.iload_n 1, 1) := by decide +kernel
theorem dX8_shed_30 : decode mX8_shed.2.1 30 = .ok (.iconst 0, 1) := by decide +kernel
theorem dX8_shed_31 : decode mX8_shed.2.1 31 = .ok (.aload_n 0, 1) := by decide +kernel
theorem dX8_shed_32 : decode mX8_shed.2.1 32 = .ok (.getfield 50, 3) := by decide +kernel
theorem dX8_shed_35 : decode mX8_shed.2.1 35 = .ok (.bipush 24, 2) := by decide +kernel
theorem dX8_shed_37 : decode mX8_shed.2.1 37 = .ok (.iload_n 1, 1) := by decide +kernel
theorem dX8_shed_38 : decode mX8_shed.2.1 38 = .ok (.iadd, 1) := by decide +kernel
theorem dX8_shed_39 : decode mX8_shed.2.1 39 = .ok (.iaload, 1) := by decide +kernel
theorem dX8_shed_40 : decode mX8_shed.2.1 40 = .ok (.invokevirtual 305, 3) := by decide +kernel
theorem dX8_shed_43 : decode mX8_shed.2.1 43 = .ok (.aload_n 0, 1) := by decide +kernel
theorem dX8_shed_44 : decode mX8_shed.2.1 44 = .ok (.iload_n 1, 1) := by decide +kernel
theorem dX8_shed_45 : decode mX8_shed.2.1 45 = .ok (.iconst 1, 1) := by decide +kernel
theorem dX8_shed_46 : decode mX8_shed.2.1 46 = .ok (.aload_n 0, 1) := by decide +kernel
theorem dX8_shed_47 : decode mX8_shed.2.1 47 = .ok (.getfield 50, 3) := by decide +kernel
theorem dX8_shed_50 : decode mX8_shed.2.1 50 = .ok (.bipush 48, 2) := by decide +kernel
theorem dX8_shed_52 : decode mX8_shed.2.1 52 = .ok (.iload_n 1, 1) := by decide +kernel
theorem dX8_shed_53 : decode mX8_shed.2.1 53 = .ok (.iadd, 1) := by decide +kernel
theorem dX8_shed_54 : decode mX8_shed.2.1 54 = .ok (.iaload, 1) := by decide +kernel
theorem dX8_shed_55 : decode mX8_shed.2.1 55 = .ok (.invokevirtual 305, 3) := by decide +kernel
theorem dX8_shed_58 : decode mX8_shed.2.1 58 = .ok (.return_, 1) := by decide +kernel
theorem dX8_flows_0 : decode mX8_flows.2.1 0 = .ok (.aload_n 0, 1) := by decide +kernel
theorem dX8_flows_1 : decode mX8_flows.2.1 1 = .ok (.getfield 288, 3) := by decide +kernel
theorem dX8_flows_4 : decode mX8_flows.2.1 4 = .ok (.istore_n 2, 1) := by decide +kernel
theorem dX8_flows_5 : decode mX8_flows.2.1 5 = .ok (.iload_n 2, 1) := by decide +kernel
theorem dX8_flows_6 : decode mX8_flows.2.1 6 = .ok (.aload_n 0, 1) := by decide +kernel
theorem dX8_flows_7 : decode mX8_flows.2.1 7 = .ok (.getfield 291, 3) := by decide +kernel
theorem dX8_flows_10 : decode mX8_flows.2.1 10 = .ok (.if_icmp .gt 23, 3) := by decide +kernel
theorem dX8_flows_13 : decode mX8_flows.2.1 13 = .ok (.aload_n 0, 1) := by decide +kernel
theorem dX8_flows_14 : decode mX8_flows.2.1 14 = .ok (.getfield 71, 3) := by decide +kernel
theorem dX8_flows_17 : decode mX8_flows.2.1 17 = .ok (.iload_n 2, 1) := by decide +kernel
theorem dX8_flows_18 : decode mX8_flows.2.1 18 = .ok (.aload_n 0, 1) := by decide +kernel
theorem dX8_flows_19 : decode mX8_flows.2.1 19 = .ok (.getfield 50, 3) := by decide +kernel
theorem dX8_flows_22 : decode mX8_flows.2.1 22 = .ok (.iconst 0, 1) := by decide +kernel
theorem dX8_flows_23 : decode mX8_flows.2.1 23 = .ok (.iload_n 2, 1) := by decide +kernel
theorem dX8_flows_24 : decode mX8_flows.2.1 24 = .ok (.iadd, 1) := by decide +kernel
theorem dX8_flows_25 : decode mX8_flows.2.1 25 = .ok (.iaload, 1) := by decide +kernel
theorem dX8_flows_26 : decode mX8_flows.2.1 26 = .ok (.iastore, 1) := by decide +kernel
theorem dX8_flows_27 : decode mX8_flows.2.1 27 = .ok (.iinc 2 1, 3) := by decide +kernel
theorem dX8_flows_30 : decode mX8_flows.2.1 30 = .ok (.goto (-25), 3) := by decide +kernel
theorem dX8_flows_33 : decode mX8_flows.2.1 33 = .ok (.aload_n 0, 1) := by decide +kernel
theorem dX8_flows_34 : decode mX8_flows.2.1 34 = .ok (.aload_n 0, 1) := by decide +kernel
theorem dX8_flows_35 : decode mX8_flows.2.1 35 = .ok (.getfield 288, 3) := by decide +kernel
theorem dX8_flows_38 : decode mX8_flows.2.1 38 = .ok (.aload_n 0, 1) := by decide +kernel
theorem dX8_flows_39 : decode mX8_flows.2.1 39 = .ok (.getfield 291, 3) := by decide +kernel
theorem dX8_flows_42 : decode mX8_flows.2.1 42 = .ok (.iload_n 1, 1) := by decide +kernel
theorem dX8_flows_43 : decode mX8_flows.2.1 43 = .ok (.aload_n 0, 1) := by decide +kernel
theorem dX8_flows_44 : decode mX8_flows.2.1 44 = .ok (.bipush 11, 2) := by decide +kernel
theorem dX8_flows_46 : decode mX8_flows.2.1 46 = .ok (.invokevirtual 294, 3) := by decide +kernel
theorem dX8_flows_49 : decode mX8_flows.2.1 49 = .ok (.invokevirtual 264, 3) := by decide +kernel
theorem dX8_flows_52 : decode mX8_flows.2.1 52 = .ok (.iconst 0, 1) := by decide +kernel
theorem dX8_flows_53 : decode mX8_flows.2.1 53 = .ok (.istore_n 2, 1) := by decide +kernel
theorem dX8_flows_54 : decode mX8_flows.2.1 54 = .ok (.aload_n 0, 1) := by decide +kernel
theorem dX8_flows_55 : decode mX8_flows.2.1 55 = .ok (.getfield 288, 3) := by decide +kernel
theorem dX8_flows_58 : decode mX8_flows.2.1 58 = .ok (.istore_n 3, 1) := by decide +kernel
theorem dX8_flows_59 : decode mX8_flows.2.1 59 = .ok (.iload_n 3, 1) := by decide +kernel
theorem dX8_flows_60 : decode mX8_flows.2.1 60 = .ok (.aload_n 0, 1) := by decide +kernel
theorem dX8_flows_61 : decode mX8_flows.2.1 61 = .ok (.getfield 291, 3) := by decide +kernel
theorem dX8_flows_64 : decode mX8_flows.2.1 64 = .ok (.if_icmp .ge 125, 3) := by decide +kernel
theorem dX8_flows_67 : decode mX8_flows.2.1 67 = .ok (.iload_n 2, 1) := by decide +kernel
theorem dX8_flows_68 : decode mX8_flows.2.1 68 = .ok (.aload_n 0, 1) := by decide +kernel
theorem dX8_flows_69 : decode mX8_flows.2.1 69 = .ok (.getfield 71, 3) := by decide +kernel
theorem dX8_flows_72 : decode mX8_flows.2.1 72 = .ok (.iload_n 3, 1) := by decide +kernel
theorem dX8_flows_73 : decode mX8_flows.2.1 73 = .ok (.iaload, 1) := by decide +kernel
theorem dX8_flows_74 : decode mX8_flows.2.1 74 = .ok (.aload_n 0, 1) := by decide +kernel
theorem dX8_flows_75 : decode mX8_flows.2.1 75 = .ok (.getfield 50, 3) := by decide +kernel
theorem dX8_flows_78 : decode mX8_flows.2.1 78 = .ok (.iconst 0, 1) := by decide +kernel
theorem dX8_flows_79 : decode mX8_flows.2.1 79 = .ok (.iload_n 3, 1) := by decide +kernel
theorem dX8_flows_80 : decode mX8_flows.2.1 80 = .ok (.iadd, 1) := by decide +kernel
theorem dX8_flows_81 : decode mX8_flows.2.1 81 = .ok (.iaload, 1) := by decide +kernel
theorem dX8_flows_82 : decode mX8_flows.2.1 82 = .ok (.isub, 1) := by decide +kernel
theorem dX8_flows_83 : decode mX8_flows.2.1 83 = .ok (.iadd, 1) := by decide +kernel
theorem dX8_flows_84 : decode mX8_flows.2.1 84 = .ok (.istore_n 2, 1) := by decide +kernel
theorem dX8_flows_85 : decode mX8_flows.2.1 85 = .ok (.aload_n 0, 1) := by decide +kernel
theorem dX8_flows_86 : decode mX8_flows.2.1 86 = .ok (.getfield 50, 3) := by decide +kernel
theorem dX8_flows_89 : decode mX8_flows.2.1 89 = .ok (.sipush 168, 3) := by decide +kernel
theorem dX8_flows_92 : decode mX8_flows.2.1 92 = .ok (.iload_n 3, 1) := by decide +kernel
theorem dX8_flows_93 : decode mX8_flows.2.1 93 = .ok (.iadd, 1) := by decide +kernel
theorem dX8_flows_94 : decode mX8_flows.2.1 94 = .ok (.iload_n 2, 1) := by decide +kernel
theorem dX8_flows_95 : decode mX8_flows.2.1 95 = .ok (.iastore, 1) := by decide +kernel
theorem dX8_flows_96 : decode mX8_flows.2.1 96 = .ok (.iload_n 3, 1) := by decide +kernel
theorem dX8_flows_97 : decode mX8_flows.2.1 97 = .ok (.aload_n 0, 1) := by decide +kernel
theorem dX8_flows_98 : decode mX8_flows.2.1 98 = .ok (.getfield 288, 3) := by decide +kernel
theorem dX8_flows_101 : decode mX8_flows.2.1 101 = .ok (.isub, 1) := by decide +kernel
theorem dX8_flows_102 : decode mX8_flows.2.1 102 = .ok (.aload_n 0, 1) := by decide +kernel
theorem dX8_flows_103 : decode mX8_flows.2.1 103 = .ok (.getfield 291, 3) := by decide +kernel
theorem dX8_flows_106 : decode mX8_flows.2.1 106 = .ok (.iload_n 3, 1) := by decide +kernel
theorem dX8_flows_107 : decode mX8_flows.2.1 107 = .ok (.isub, 1) := by decide +kernel
theorem dX8_flows_108 : decode mX8_flows.2.1 108 = .ok (.if_icmp .lt 7, 3) := by decide +kernel
theorem dX8_flows_111 : decode mX8_flows.2.1 111 = .ok (.iconst 1, 1) := by decide +kernel
theorem dX8_flows_112 : decode mX8_flows.2.1 112 = .ok (.goto 4, 3) := by decide +kernel
theorem dX8_flows_115 : decode mX8_flows.2.1 115 = .ok (.iconst 0, 1) := by decide +kernel
theorem dX8_flows_116 : decode mX8_flows.2.1 116 = .ok (.istore 4, 2) := by decide +kernel
theorem dX8_flows_118 : decode mX8_flows.2.1 118 = .ok (.iload_n 3, 1) := by decide +kernel
theorem dX8_flows_119 : decode mX8_flows.2.1 119 = .ok (.iconst 1, 1) := by decide +kernel
theorem dX8_flows_120 : decode mX8_flows.2.1 120 = .ok (.iadd, 1) := by decide +kernel
theorem dX8_flows_121 : decode mX8_flows.2.1 121 = .ok (.aload_n 0, 1) := by decide +kernel
theorem dX8_flows_122 : decode mX8_flows.2.1 122 = .ok (.getfield 288, 3) := by decide +kernel
theorem dX8_flows_125 : decode mX8_flows.2.1 125 = .ok (.isub, 1) := by decide +kernel
theorem dX8_flows_126 : decode mX8_flows.2.1 126 = .ok (.aload_n 0, 1) := by decide +kernel
theorem dX8_flows_127 : decode mX8_flows.2.1 127 = .ok (.getfield 291, 3) := by decide +kernel
theorem dX8_flows_130 : decode mX8_flows.2.1 130 = .ok (.iload_n 3, 1) := by decide +kernel
theorem dX8_flows_131 : decode mX8_flows.2.1 131 = .ok (.isub, 1) := by decide +kernel
theorem dX8_flows_132 : decode mX8_flows.2.1 132 = .ok (.iconst 1, 1) := by decide +kernel
theorem dX8_flows_133 : decode mX8_flows.2.1 133 = .ok (.isub, 1) := by decide +kernel
theorem dX8_flows_134 : decode mX8_flows.2.1 134 = .ok (.if_icmp .gt 7, 3) := by decide +kernel
theorem dX8_flows_137 : decode mX8_flows.2.1 137 = .ok (.iconst 1, 1) := by decide +kernel
theorem dX8_flows_138 : decode mX8_flows.2.1 138 = .ok (.goto 4, 3) := by decide +kernel
theorem dX8_flows_141 : decode mX8_flows.2.1 141 = .ok (.iconst 0, 1) := by decide +kernel
theorem dX8_flows_142 : decode mX8_flows.2.1 142 = .ok (.istore 5, 2) := by decide +kernel
theorem dX8_flows_144 : decode mX8_flows.2.1 144 = .ok (.aload_n 0, 1) := by decide +kernel
theorem dX8_flows_145 : decode mX8_flows.2.1 145 = .ok (.getfield 50, 3) := by decide +kernel
theorem dX8_flows_148 : decode mX8_flows.2.1 148 = .ok (.sipush 293, 3) := by decide +kernel
theorem dX8_flows_151 : decode mX8_flows.2.1 151 = .ok (.dup2, 1) := by decide +kernel
theorem dX8_flows_152 : decode mX8_flows.2.1 152 = .ok (.iaload, 1) := by decide +kernel
theorem dX8_flows_153 : decode mX8_flows.2.1 153 = .ok (.iload 4, 2) := by decide +kernel
theorem dX8_flows_155 : decode mX8_flows.2.1 155 = .ok (.ifCond .eq 11, 3) := by decide +kernel
theorem dX8_flows_158 : decode mX8_flows.2.1 158 = .ok (.iload_n 2, 1) := by decide +kernel
theorem dX8_flows_159 : decode mX8_flows.2.1 159 = .ok (.ifCond .le 7, 3) := by decide +kernel
theorem dX8_flows_162 : decode mX8_flows.2.1 162 = .ok (.iload_n 2, 1) := by decide +kernel
theorem dX8_flows_163 : decode mX8_flows.2.1 163 = .ok (.goto 18, 3) := by decide +kernel
theorem dX8_flows_166 : decode mX8_flows.2.1 166 = .ok (.iload 5, 2) := by decide +kernel
theorem dX8_flows_168 : decode mX8_flows.2.1 168 = .ok (.ifCond .eq 12, 3) := by decide +kernel
theorem dX8_flows_171 : decode mX8_flows.2.1 171 = .ok (.iload_n 2, 1) := by decide +kernel
theorem dX8_flows_172 : decode mX8_flows.2.1 172 = .ok (.ifCond .ge 8, 3) := by decide +kernel
theorem dX8_flows_175 : decode mX8_flows.2.1 175 = .ok (.iload_n 2, 1) := by decide +kernel
theorem dX8_flows_176 : decode mX8_flows.2.1 176 = .ok (.ineg, 1) := by decide +kernel
theorem dX8_flows_177 : decode mX8_flows.2.1 177 = .ok (.goto 4, 3) := by decide +kernel
theorem dX8_flows_180 : decode mX8_flows.2.1 180 = .ok (.iconst 0, 1) := by decide +kernel
theorem dX8_flows_181 : decode mX8_flows.2.1 181 = .ok (.iadd, 1) := by decide +kernel
theorem dX8_flows_182 : decode mX8_flows.2.1 182 = .ok (.iastore, 1) := by decide +kernel
theorem dX8_flows_183 : decode mX8_flows.2.1 183 = .ok (.iinc 3 1, 3) := by decide +kernel
theorem dX8_flows_186 : decode mX8_flows.2.1 186 = .ok (.goto (-127), 3) := by decide +kernel
theorem dX8_flows_189 : decode mX8_flows.2.1 189 = .ok (.return_, 1) := by decide +kernel
theorem dX8_carry_0 : decode mX8_carry.2.1 0 = .ok (.aload_n 0, 1) := by decide +kernel
theorem dX8_carry_1 : decode mX8_carry.2.1 1 = .ok (.getfield 288, 3) := by decide +kernel
theorem dX8_carry_4 : decode mX8_carry.2.1 4 = .ok (.istore_n 1, 1) := by decide +kernel
theorem dX8_carry_5 : decode mX8_carry.2.1 5 = .ok (.iload_n 1, 1) := by decide +kernel
theorem dX8_carry_6 : decode mX8_carry.2.1 6 = .ok (.aload_n 0, 1) := by decide +kernel
theorem dX8_carry_7 : decode mX8_carry.2.1 7 = .ok (.getfield 291, 3) := by decide +kernel
theorem dX8_carry_10 : decode mX8_carry.2.1 10 = .ok (.if_icmp .ge 222, 3) := by decide +kernel
theorem dX8_carry_13 : decode mX8_carry.2.1 13 = .ok (.aload_n 0, 1) := by decide +kernel
theorem dX8_carry_14 : decode mX8_carry.2.1 14 = .ok (.getfield 50, 3) := by decide +kernel
theorem dX8_carry_17 : decode mX8_carry.2.1 17 = .ok (.sipush 168, 3) := by decide +kernel
theorem dX8_carry_20 : decode mX8_carry.2.1 20 = .ok (.iload_n 1, 1) := by decide +kernel
theorem dX8_carry_21 : decode mX8_carry.2.1 21 = .ok (.iadd, 1) := by decide +kernel
theorem dX8_carry_22 : decode mX8_carry.2.1 22 = .ok (.iaload, 1) := by decide +kernel
theorem dX8_carry_23 : decode mX8_carry.2.1 23 = .ok (.istore_n 2, 1) := by decide +kernel
theorem dX8_carry_24 : decode mX8_carry.2.1 24 = .ok (.iload_n 2, 1) := by decide +kernel
theorem dX8_carry_25 : decode mX8_carry.2.1 25 = .ok (.ifCond .le 7, 3) := by decide +kernel
theorem dX8_carry_28 : decode mX8_carry.2.1 28 = .ok (.iload_n 1, 1) := by decide +kernel
theorem dX8_carry_29 : decode mX8_carry.2.1 29 = .ok (.goto 6, 3) := by decide +kernel
theorem dX8_carry_32 : decode mX8_carry.2.1 32 = .ok (.iload_n 1, 1) := by decide +kernel
theorem dX8_carry_33 : decode mX8_carry.2.1 33 = .ok (.iconst 1, 1) := by decide +kernel
theorem dX8_carry_34 : decode mX8_carry.2.1 34 = .ok (.iadd, 1) := by decide +kernel
theorem dX8_carry_35 : decode mX8_carry.2.1 35 = .ok (.istore_n 3, 1) := by decide +kernel
theorem dX8_carry_36 : decode mX8_carry.2.1 36 = .ok (.iload_n 2, 1) := by decide +kernel
theorem dX8_carry_37 : decode mX8_carry.2.1 37 = .ok (.ifCond .le 9, 3) := by decide +kernel
theorem dX8_carry_40 : decode mX8_carry.2.1 40 = .ok (.iload_n 1, 1) := by decide +kernel
theorem dX8_carry_41 : decode mX8_carry.2.1 41 = .ok (.iconst 1, 1) := by decide +kernel
theorem dX8_carry_42 : decode mX8_carry.2.1 42 = .ok (.iadd, 1) := by decide +kernel
theorem dX8_carry_43 : decode mX8_carry.2.1 43 = .ok (.goto 4, 3) := by decide +kernel
theorem dX8_carry_46 : decode mX8_carry.2.1 46 = .ok (.iload_n 1, 1) := by decide +kernel
theorem dX8_carry_47 : decode mX8_carry.2.1 47 = .ok (.istore 4, 2) := by decide +kernel
theorem dX8_carry_49 : decode mX8_carry.2.1 49 = .ok (.aload_n 0, 1) := by decide +kernel
theorem dX8_carry_50 : decode mX8_carry.2.1 50 = .ok (.getfield 50, 3) := by decide +kernel
theorem dX8_carry_53 : decode mX8_carry.2.1 53 = .ok (.bipush 48, 2) := by decide +kernel
theorem dX8_carry_55 : decode mX8_carry.2.1 55 = .ok (.iload_n 3, 1) := by decide +kernel
theorem dX8_carry_56 : decode mX8_carry.2.1 56 = .ok (.iadd, 1) := by decide +kernel
theorem dX8_carry_57 : decode mX8_carry.2.1 57 = .ok (.iaload, 1) := by decide +kernel
theorem dX8_carry_58 : decode mX8_carry.2.1 58 = .ok (.istore 5, 2) := by decide +kernel
theorem dX8_carry_60 : decode mX8_carry.2.1 60 = .ok (.iload 5, 2) := by decide +kernel
theorem dX8_carry_62 : decode mX8_carry.2.1 62 = .ok (.ifCond .le 27, 3) := by decide +kernel
theorem dX8_carry_65 : decode mX8_carry.2.1 65 = .ok (.bipush 10, 2) := by decide +kernel
theorem dX8_carry_67 : decode mX8_carry.2.1 67 = .ok (.iload 5, 2) := by decide +kernel
theorem dX8_carry_69 : decode mX8_carry.2.1 69 = .ok (.imul, 1) := by decide +kernel
theorem dX8_carry_70 : decode mX8_carry.2.1 70 = .ok (.iload 5, 2) := by decide +kernel
theorem dX8_carry_72 : decode mX8_carry.2.1 72 = .ok (.aload_n 0, 1) := by decide +kernel
theorem dX8_carry_73 : decode mX8_carry.2.1 73 = .ok (.getfield 50, 3) := by decide +kernel
theorem dX8_carry_76 : decode mX8_carry.2.1 76 = .ok (.bipush 24, 2) := by decide +kernel
theorem dX8_carry_78 : decode mX8_carry.2.1 78 = .ok (.iload_n 3, 1) := by decide +kernel
theorem dX8_carry_79 : decode mX8_carry.2.1 79 = .ok (.iadd, 1) := by decide +kernel
theorem dX8_carry_80 : decode mX8_carry.2.1 80 = .ok (.iaload, 1) := by decide +kernel
theorem dX8_carry_81 : decode mX8_carry.2.1 81 = .ok (.iadd, 1) := by decide +kernel
theorem dX8_carry_82 : decode mX8_carry.2.1 82 = .ok (.if_icmp .lt 7, 3) := by decide +kernel
theorem dX8_carry_85 : decode mX8_carry.2.1 85 = .ok (.iconst 1, 1) := by decide +kernel
theorem dX8_carry_86 : decode mX8_carry.2.1 86 = .ok (.goto 4, 3) := by decide +kernel
theorem dX8_carry_89 : decode mX8_carry.2.1 89 = .ok (.iconst 0, 1) := by decide +kernel
theorem dX8_carry_90 : decode mX8_carry.2.1 90 = .ok (.istore 6, 2) := by decide +kernel
theorem dX8_carry_92 : decode mX8_carry.2.1 92 = .ok (.iconst 0, 1) := by decide +kernel
theorem dX8_carry_93 : decode mX8_carry.2.1 93 = .ok (.istore 7, 2) := by decide +kernel
theorem dX8_carry_95 : decode mX8_carry.2.1 95 = .ok (.iload 7, 2) := by decide +kernel
theorem dX8_carry_97 : decode mX8_carry.2.1 97 = .ok (.iconst 2, 1) := by decide +kernel
theorem dX8_carry_98 : decode mX8_carry.2.1 98 = .ok (.if_icmp .ge 128, 3) := by decide +kernel
theorem dX8_carry_101 : decode mX8_carry.2.1 101 = .ok (.iload_n 2, 1) := by decide +kernel
theorem dX8_carry_102 : decode mX8_carry.2.1 102 = .ok (.ifCond .eq 124, 3) := by decide +kernel
theorem dX8_carry_105 : decode mX8_carry.2.1 105 = .ok (.aload_n 0, 1) := by decide +kernel
theorem dX8_carry_106 : decode mX8_carry.2.1 106 = .ok (.getfield 71, 3) := by decide +kernel
theorem dX8_carry_109 : decode mX8_carry.2.1 109 = .ok (.iload_n 3, 1) := by decide +kernel
theorem dX8_carry_110 : decode mX8_carry.2.1 110 = .ok (.iaload, 1) := by decide +kernel
theorem dX8_carry_111 : decode mX8_carry.2.1 111 = .ok (.ifCond .le 115, 3) := by decide +kernel
theorem dX8_carry_114 : decode mX8_carry.2.1 114 = .ok (.iload 6, 2) := by decide +kernel
theorem dX8_carry_116 : decode mX8_carry.2.1 116 = .ok (.ifCond .ne 110, 3) := by decide +kernel
theorem dX8_carry_119 : decode mX8_carry.2.1 119 = .ok (.aload_n 0, 1) := by decide +kernel
theorem dX8_carry_120 : decode mX8_carry.2.1 120 = .ok (.getfield 50, 3) := by decide +kernel
theorem dX8_carry_123 : decode mX8_carry.2.1 123 = .ok (.bipush 24, 2) := by decide +kernel
theorem dX8_carry_125 : decode mX8_carry.2.1 125 = .ok (.bipush 24, 2) := by decide +kernel
theorem dX8_carry_127 : decode mX8_carry.2.1 127 = .ok (.iload 7, 2) := by decide +kernel
theorem dX8_carry_129 : decode mX8_carry.2.1 129 = .ok (.imul, 1) := by decide +kernel
theorem dX8_carry_130 : decode mX8_carry.2.1 130 = .ok (.iadd, 1) := by decide +kernel
theorem dX8_carry_131 : decode mX8_carry.2.1 131 = .ok (.iload_n 3, 1) := by decide +kernel
theorem dX8_carry_132 : decode mX8_carry.2.1 132 = .ok (.iadd, 1) := by decide +kernel
theorem dX8_carry_133 : decode mX8_carry.2.1 133 = .ok (.iaload, 1) := by decide +kernel
theorem dX8_carry_134 : decode mX8_carry.2.1 134 = .ok (.istore 8, 2) := by decide +kernel
theorem dX8_carry_136 : decode mX8_carry.2.1 136 = .ok (.iload 8, 2) := by decide +kernel
theorem dX8_carry_138 : decode mX8_carry.2.1 138 = .ok (.i2l, 1) := by decide +kernel
theorem dX8_carry_139 : decode mX8_carry.2.1 139 = .ok (.iload 8, 2) := by decide +kernel
theorem dX8_carry_141 : decode mX8_carry.2.1 141 = .ok (.i2l, 1) := by decide +kernel
theorem dX8_carry_142 : decode mX8_carry.2.1 142 = .ok (.iload_n 2, 1) := by decide +kernel
theorem dX8_carry_143 : decode mX8_carry.2.1 143 = .ok (.invokestatic 308, 3) := by decide +kernel
theorem dX8_carry_146 : decode mX8_carry.2.1 146 = .ok (.i2l, 1) := by decide +kernel
theorem dX8_carry_147 : decode mX8_carry.2.1 147 = .ok (.lmul, 1) := by decide +kernel
theorem dX8_carry_148 : decode mX8_carry.2.1 148 = .ok (.aload_n 0, 1) := by decide +kernel
theorem dX8_carry_149 : decode mX8_carry.2.1 149 = .ok (.getfield 71, 3) := by decide +kernel
theorem dX8_carry_152 : decode mX8_carry.2.1 152 = .ok (.iload_n 3, 1) := by decide +kernel
theorem dX8_carry_153 : decode mX8_carry.2.1 153 = .ok (.iaload, 1) := by decide +kernel
theorem dX8_carry_154 : decode mX8_carry.2.1 154 = .ok (.i2l, 1) := by decide +kernel
theorem dX8_carry_155 : decode mX8_carry.2.1 155 = .ok (.ldiv, 1) := by decide +kernel
theorem dX8_carry_156 : decode mX8_carry.2.1 156 = .ok (.invokestatic 179, 3) := by decide +kernel
theorem dX8_carry_159 : decode mX8_carry.2.1 159 = .ok (.l2i, 1) := by decide +kernel
theorem dX8_carry_160 : decode mX8_carry.2.1 160 = .ok (.istore 9, 2) := by decide +kernel
theorem dX8_carry_162 : decode mX8_carry.2.1 162 = .ok (.iload 9, 2) := by decide +kernel
theorem dX8_carry_164 : decode mX8_carry.2.1 164 = .ok (.bipush 100, 2) := by decide +kernel
theorem dX8_carry_166 : decode mX8_carry.2.1 166 = .ok (.aload_n 0, 1) := by decide +kernel
theorem dX8_carry_167 : decode mX8_carry.2.1 167 = .ok (.bipush 7, 2) := by decide +kernel
theorem dX8_carry_169 : decode mX8_carry.2.1 169 = .ok (.invokevirtual 294, 3) := by decide +kernel
theorem dX8_carry_172 : decode mX8_carry.2.1 172 = .ok (.isub, 1) := by decide +kernel
theorem dX8_carry_173 : decode mX8_carry.2.1 173 = .ok (.imul, 1) := by decide +kernel
theorem dX8_carry_174 : decode mX8_carry.2.1 174 = .ok (.bipush 100, 2) := by decide +kernel
theorem dX8_carry_176 : decode mX8_carry.2.1 176 = .ok (.idiv, 1) := by decide +kernel
theorem dX8_carry_177 : decode mX8_carry.2.1 177 = .ok (.istore 9, 2) := by decide +kernel
theorem dX8_carry_179 : decode mX8_carry.2.1 179 = .ok (.aload_n 0, 1) := by decide +kernel
theorem dX8_carry_180 : decode mX8_carry.2.1 180 = .ok (.getfield 50, 3) := by decide +kernel
theorem dX8_carry_183 : decode mX8_carry.2.1 183 = .ok (.bipush 24, 2) := by decide +kernel
theorem dX8_carry_185 : decode mX8_carry.2.1 185 = .ok (.bipush 24, 2) := by decide +kernel
theorem dX8_carry_187 : decode mX8_carry.2.1 187 = .ok (.iload 7, 2) := by decide +kernel
theorem dX8_carry_189 : decode mX8_carry.2.1 189 = .ok (.imul, 1) := by decide +kernel
theorem dX8_carry_190 : decode mX8_carry.2.1 190 = .ok (.iadd, 1) := by decide +kernel
theorem dX8_carry_191 : decode mX8_carry.2.1 191 = .ok (.iload_n 3, 1) := by decide +kernel
theorem dX8_carry_192 : decode mX8_carry.2.1 192 = .ok (.iadd, 1) := by decide +kernel
theorem dX8_carry_193 : decode mX8_carry.2.1 193 = .ok (.dup2, 1) := by decide +kernel
theorem dX8_carry_194 : decode mX8_carry.2.1 194 = .ok (.iaload, 1) := by decide +kernel
theorem dX8_carry_195 : decode mX8_carry.2.1 195 = .ok (.iload 9, 2) := by decide +kernel
theorem dX8_carry_197 : decode mX8_carry.2.1 197 = .ok (.isub, 1) := by decide +kernel
theorem dX8_carry_198 : decode mX8_carry.2.1 198 = .ok (.iastore, 1) := by decide +kernel
theorem dX8_carry_199 : decode mX8_carry.2.1 199 = .ok (.aload_n 0, 1) := by decide +kernel
theorem dX8_carry_200 : decode mX8_carry.2.1 200 = .ok (.getfield 50, 3) := by decide +kernel
theorem dX8_carry_203 : decode mX8_carry.2.1 203 = .ok (.bipush 24, 2) := by decide +kernel
theorem dX8_carry_205 : decode mX8_carry.2.1 205 = .ok (.bipush 24, 2) := by decide +kernel
theorem dX8_carry_207 : decode mX8_carry.2.1 207 = .ok (.iload 7, 2) := by decide +kernel
theorem dX8_carry_209 : decode mX8_carry.2.1 209 = .ok (.imul, 1) := by decide +kernel
theorem dX8_carry_210 : decode mX8_carry.2.1 210 = .ok (.iadd, 1) := by decide +kernel
theorem dX8_carry_211 : decode mX8_carry.2.1 211 = .ok (.iload 4, 2) := by decide +kernel
theorem dX8_carry_213 : decode mX8_carry.2.1 213 = .ok (.iadd, 1) := by decide +kernel
theorem dX8_carry_214 : decode mX8_carry.2.1 214 = .ok (.dup2, 1) := by decide +kernel
theorem dX8_carry_215 : decode mX8_carry.2.1 215 = .ok (.iaload, 1) := by decide +kernel
theorem dX8_carry_216 : decode mX8_carry.2.1 216 = .ok (.iload 9, 2) := by decide +kernel
theorem dX8_carry_218 : decode mX8_carry.2.1 218 = .ok (.iadd, 1) := by decide +kernel
theorem dX8_carry_219 : decode mX8_carry.2.1 219 = .ok (.iastore, 1) := by decide +kernel
theorem dX8_carry_220 : decode mX8_carry.2.1 220 = .ok (.iinc 7 1, 3) := by decide +kernel
theorem dX8_carry_223 : decode mX8_carry.2.1 223 = .ok (.goto (-128), 3) := by decide +kernel
theorem dX8_carry_226 : decode mX8_carry.2.1 226 = .ok (.iinc 1 1, 3) := by decide +kernel
theorem dX8_carry_229 : decode mX8_carry.2.1 229 = .ok (.goto (-224), 3) := by decide +kernel
theorem dX8_carry_232 : decode mX8_carry.2.1 232 = .ok (.return_, 1) := by decide +kernel
theorem dX8_stir_0 : decode mX8_stir.2.1 0 = .ok (.aload_n 0, 1) := by decide +kernel
theorem dX8_stir_1 : decode mX8_stir.2.1 1 = .ok (.getfield 288, 3) := by decide +kernel
theorem dX8_stir_4 : decode mX8_stir.2.1 4 = .ok (.istore_n 1, 1) := by decide +kernel
theorem dX8_stir_5 : decode mX8_stir.2.1 5 = .ok (.iload_n 1, 1) := by decide +kernel
theorem dX8_stir_6 : decode mX8_stir.2.1 6 = .ok (.aload_n 0, 1) := by decide +kernel
theorem dX8_stir_7 : decode mX8_stir.2.1 7 = .ok (.getfield 291, 3) := by decide +kernel
theorem dX8_stir_10 : decode mX8_stir.2.1 10 = .ok (.if_icmp .ge 75, 3) := by decide +kernel
theorem dX8_stir_13 : decode mX8_stir.2.1 13 = .ok (.iconst 0, 1) := by decide +kernel
theorem dX8_stir_14 : decode mX8_stir.2.1 14 = .ok (.istore_n 2, 1) := by decide +kernel
theorem dX8_stir_15 : decode mX8_stir.2.1 15 = .ok (.iload_n 2, 1) := by decide +kernel
theorem dX8_stir_16 : decode mX8_stir.2.1 16 = .ok (.iconst 2, 1) := by decide +kernel
theorem dX8_stir_17 : decode mX8_stir.2.1 17 = .ok (.if_icmp .ge 62, 3) := by decide +kernel
theorem dX8_stir_20 : decode mX8_stir.2.1 20 = .ok (.bipush 24, 2) := by decide +kernel
theorem dX8_stir_22 : decode mX8_stir.2.1 22 = .ok (.bipush 24, 2) := by decide +kernel
theorem dX8_stir_24 : decode mX8_stir.2.1 24 = .ok (.iload_n 2, 1) := by decide +kernel
theorem dX8_stir_25 : decode mX8_stir.2.1 25 = .ok (.imul, 1) := by decide +kernel
theorem dX8_stir_26 : decode mX8_stir.2.1 26 = .ok (.iadd, 1) := by decide +kernel
theorem dX8_stir_27 : decode mX8_stir.2.1 27 = .ok (.iload_n 1, 1) := by decide +kernel
theorem dX8_stir_28 : decode mX8_stir.2.1 28 = .ok (.iadd, 1) := by decide +kernel
theorem dX8_stir_29 : decode mX8_stir.2.1 29 = .ok (.istore_n 3, 1) := by decide +kernel
theorem dX8_stir_30 : decode mX8_stir.2.1 30 = .ok (.aload_n 0, 1) := by decide +kernel
theorem dX8_stir_31 : decode mX8_stir.2.1 31 = .ok (.getfield 50, 3) := by decide +kernel
theorem dX8_stir_34 : decode mX8_stir.2.1 34 = .ok (.iload_n 3, 1) := by decide +kernel
theorem dX8_stir_35 : decode mX8_stir.2.1 35 = .ok (.iaload, 1) := by decide +kernel
theorem dX8_stir_36 : decode mX8_stir.2.1 36 = .ok (.aload_n 0, 1) := by decide +kernel
theorem dX8_stir_37 : decode mX8_stir.2.1 37 = .ok (.getfield 50, 3) := by decide +kernel
theorem dX8_stir_40 : decode mX8_stir.2.1 40 = .ok (.iload_n 3, 1) := by decide +kernel
theorem dX8_stir_41 : decode mX8_stir.2.1 41 = .ok (.iconst 1, 1) := by decide +kernel
theorem dX8_stir_42 : decode mX8_stir.2.1 42 = .ok (.iadd, 1) := by decide +kernel
theorem dX8_stir_43 : decode mX8_stir.2.1 43 = .ok (.iaload, 1) := by decide +kernel
theorem dX8_stir_44 : decode mX8_stir.2.1 44 = .ok (.isub, 1) := by decide +kernel
theorem dX8_stir_45 : decode mX8_stir.2.1 45 = .ok (.iconst 2, 1) := by decide +kernel
theorem dX8_stir_46 : decode mX8_stir.2.1 46 = .ok (.idiv, 1) := by decide +kernel
theorem dX8_stir_47 : decode mX8_stir.2.1 47 = .ok (.istore 4, 2) := by decide +kernel
theorem dX8_stir_49 : decode mX8_stir.2.1 49 = .ok (.aload_n 0, 1) := by decide +kernel
theorem dX8_stir_50 : decode mX8_stir.2.1 50 = .ok (.getfield 50, 3) := by decide +kernel
theorem dX8_stir_53 : decode mX8_stir.2.1 53 = .ok (.iload_n 3, 1) := by decide +kernel
theorem dX8_stir_54 : decode mX8_stir.2.1 54 = .ok (.dup2, 1) := by decide +kernel
theorem dX8_stir_55 : decode mX8_stir.2.1 55 = .ok (.iaload, 1) := by decide +kernel
theorem dX8_stir_56 : decode mX8_stir.2.1 56 = .ok (.iload 4, 2) := by decide +kernel
theorem dX8_stir_58 : decode mX8_stir.2.1 58 = .ok (.isub, 1) := by decide +kernel
theorem dX8_stir_59 : decode mX8_stir.2.1 59 = .ok (.iastore, 1) := by decide +kernel
theorem dX8_stir_60 : decode mX8_stir.2.1 60 = .ok (.aload_n 0, 1) := by decide +kernel
theorem dX8_stir_61 : decode mX8_stir.2.1 61 = .ok (.getfield 50, 3) := by decide +kernel
theorem dX8_stir_64 : decode mX8_stir.2.1 64 = .ok (.iload_n 3, 1) := by decide +kernel
theorem dX8_stir_65 : decode mX8_stir.2.1 65 = .ok (.iconst 1, 1) := by decide +kernel
theorem dX8_stir_66 : decode mX8_stir.2.1 66 = .ok (.iadd, 1) := by decide +kernel
theorem dX8_stir_67 : decode mX8_stir.2.1 67 = .ok (.dup2, 1) := by decide +kernel
theorem dX8_stir_68 : decode mX8_stir.2.1 68 = .ok (.iaload, 1) := by decide +kernel
theorem dX8_stir_69 : decode mX8_stir.2.1 69 = .ok (.iload 4, 2) := by decide +kernel
theorem dX8_stir_71 : decode mX8_stir.2.1 71 = .ok (.iadd, 1) := by decide +kernel
theorem dX8_stir_72 : decode mX8_stir.2.1 72 = .ok (.iastore, 1) := by decide +kernel
theorem dX8_stir_73 : decode mX8_stir.2.1 73 = .ok (.iinc 2 1, 3) := by decide +kernel
theorem dX8_stir_76 : decode mX8_stir.2.1 76 = .ok (.goto (-61), 3) := by decide +kernel
theorem dX8_stir_79 : decode mX8_stir.2.1 79 = .ok (.iinc 1 1, 3) := by decide +kernel
theorem dX8_stir_82 : decode mX8_stir.2.1 82 = .ok (.goto (-77), 3) := by decide +kernel
theorem dX8_stir_85 : decode mX8_stir.2.1 85 = .ok (.return_, 1) := by decide +kernel
theorem dX8_draw_0 : decode mX8_draw.2.1 0 = .ok (.aload_n 0, 1) := by decide +kernel
theorem dX8_draw_1 : decode mX8_draw.2.1 1 = .ok (.aload_n 0, 1) := by decide +kernel
theorem dX8_draw_2 : decode mX8_draw.2.1 2 = .ok (.getfield 254, 3) := by decide +kernel
theorem dX8_draw_5 : decode mX8_draw.2.1 5 = .ok (.ldc2_w 311, 3) := by decide +kernel
theorem dX8_draw_8 : decode mX8_draw.2.1 8 = .ok (.lmul, 1) := by decide +kernel
theorem dX8_draw_9 : decode mX8_draw.2.1 9 = .ok (.ldc2_w 313, 3) := by decide +kernel
theorem dX8_draw_12 : decode mX8_draw.2.1 12 = .ok (.ladd, 1) := by decide +kernel
theorem dX8_draw_13 : decode mX8_draw.2.1 13 = .ok (.putfield 254, 3) := by decide +kernel
theorem dX8_draw_16 : decode mX8_draw.2.1 16 = .ok (.aload_n 0, 1) := by decide +kernel
theorem dX8_draw_17 : decode mX8_draw.2.1 17 = .ok (.getfield 254, 3) := by decide +kernel
theorem dX8_draw_20 : decode mX8_draw.2.1 20 = .ok (.bipush 33, 2) := by decide +kernel
theorem dX8_draw_22 : decode mX8_draw.2.1 22 = .ok (.lushr, 1) := by decide +kernel
theorem dX8_draw_23 : decode mX8_draw.2.1 23 = .ok (.ldc2_w 315, 3) := by decide +kernel
theorem dX8_draw_26 : decode mX8_draw.2.1 26 = .ok (.lrem, 1) := by decide +kernel
theorem dX8_draw_27 : decode mX8_draw.2.1 27 = .ok (.l2i, 1) := by decide +kernel
theorem dX8_draw_28 : decode mX8_draw.2.1 28 = .ok (.ireturn, 1) := by decide +kernel
theorem dX8_wander_0 : decode mX8_wander.2.1 0 = .ok (.aload_n 0, 1) := by decide +kernel
theorem dX8_wander_1 : decode mX8_wander.2.1 1 = .ok (.getfield 288, 3) := by decide +kernel
theorem dX8_wander_4 : decode mX8_wander.2.1 4 = .ok (.istore_n 1, 1) := by decide +kernel
theorem dX8_wander_5 : decode mX8_wander.2.1 5 = .ok (.iload_n 1, 1) := by decide +kernel
theorem dX8_wander_6 : decode mX8_wander.2.1 6 = .ok (.aload_n 0, 1) := by decide +kernel
theorem dX8_wander_7 : decode mX8_wander.2.1 7 = .ok (.getfield 291, 3) := by decide +kernel
theorem dX8_wander_10 : decode mX8_wander.2.1 10 = .ok (.if_icmp .gt 92, 3) := by decide +kernel
theorem dX8_wander_13 : decode mX8_wander.2.1 13 = .ok (.aload_n 0, 1) := by decide +kernel
theorem dX8_wander_14 : decode mX8_wander.2.1 14 = .ok (.invokevirtual 317, 3) := by decide +kernel
theorem dX8_wander_17 : decode mX8_wander.2.1 17 = .ok (.istore_n 2, 1) := by decide +kernel
theorem dX8_wander_18 : decode mX8_wander.2.1 18 = .ok (.iload_n 2, 1) := by decide +kernel
theorem dX8_wander_19 : decode mX8_wander.2.1 19 = .ok (.iconst 1, 1) := by decide +kernel
theorem dX8_wander_20 : decode mX8_wander.2.1 20 = .ok (.if_icmp .ne 9, 3) := by decide +kernel
theorem dX8_wander_23 : decode mX8_wander.2.1 23 = .ok (.iload_n 1, 1) := by decide +kernel
theorem dX8_wander_24 : decode mX8_wander.2.1 24 = .ok (.iconst 1, 1) := by decide +kernel
theorem dX8_wander_25 : decode mX8_wander.2.1 25 = .ok (.isub, 1) := by decide +kernel
theorem dX8_wander_26 : decode mX8_wander.2.1 26 = .ok (.goto 15, 3) := by decide +kernel
theorem dX8_wander_29 : decode mX8_wander.2.1 29 = .ok (.iload_n 2, 1) := by decide +kernel
theorem dX8_wander_30 : decode mX8_wander.2.1 30 = .ok (.iconst 2, 1) := by decide +kernel
theorem dX8_wander_31 : decode mX8_wander.2.1 31 = .ok (.if_icmp .ne 9, 3) := by decide +kernel
theorem dX8_wander_34 : decode mX8_wander.2.1 34 = .ok (.iload_n 1, 1) := by decide +kernel
theorem dX8_wander_35 : decode mX8_wander.2.1 35 = .ok (.iconst 1, 1) := by decide +kernel
theorem dX8_wander_36 : decode mX8_wander.2.1 36 = .ok (.iadd, 1) := by decide +kernel
theorem dX8_wander_37 : decode mX8_wander.2.1 37 = .ok (.goto 4, 3) := by decide +kernel
theorem dX8_wander_40 : decode mX8_wander.2.1 40 = .ok (.iload_n 1, 1) := by decide +kernel
theorem dX8_wander_41 : decode mX8_wander.2.1 41 = .ok (.istore_n 3, 1) := by decide +kernel
theorem dX8_wander_42 : decode mX8_wander.2.1 42 = .ok (.aload_n 0, 1) := by decide +kernel
theorem dX8_wander_43 : decode mX8_wander.2.1 43 = .ok (.getfield 50, 3) := by decide +kernel
theorem dX8_wander_46 : decode mX8_wander.2.1 46 = .ok (.bipush 24, 2) := by decide +kernel
theorem dX8_wander_48 : decode mX8_wander.2.1 48 = .ok (.iload_n 1, 1) := by decide +kernel
theorem dX8_wander_49 : decode mX8_wander.2.1 49 = .ok (.iadd, 1) := by decide +kernel
theorem dX8_wander_50 : decode mX8_wander.2.1 50 = .ok (.iaload, 1) := by decide +kernel
theorem dX8_wander_51 : decode mX8_wander.2.1 51 = .ok (.ifCond .le 45, 3) := by decide +kernel
theorem dX8_wander_54 : decode mX8_wander.2.1 54 = .ok (.iload_n 3, 1) := by decide +kernel
theorem dX8_wander_55 : decode mX8_wander.2.1 55 = .ok (.aload_n 0, 1) := by decide +kernel
theorem dX8_wander_56 : decode mX8_wander.2.1 56 = .ok (.getfield 288, 3) := by decide +kernel
theorem dX8_wander_59 : decode mX8_wander.2.1 59 = .ok (.if_icmp .lt 37, 3) := by decide +kernel
theorem dX8_wander_62 : decode mX8_wander.2.1 62 = .ok (.iload_n 3, 1) := by decide +kernel
theorem dX8_wander_63 : decode mX8_wander.2.1 63 = .ok (.aload_n 0, 1) := by decide +kernel
theorem dX8_wander_64 : decode mX8_wander.2.1 64 = .ok (.getfield 291, 3) := by decide +kernel
theorem dX8_wander_67 : decode mX8_wander.2.1 67 = .ok (.if_icmp .gt 29, 3) := by decide +kernel
theorem dX8_wander_70 : decode mX8_wander.2.1 70 = .ok (.aload_n 0, 1) := by decide +kernel
theorem dX8_wander_71 : decode mX8_wander.2.1 71 = .ok (.getfield 50, 3) := by decide +kernel
theorem dX8_wander_74 : decode mX8_wander.2.1 74 = .ok (.bipush 24, 2) := by decide +kernel
theorem dX8_wander_76 : decode mX8_wander.2.1 76 = .ok (.iload_n 1, 1) := by decide +kernel
theorem dX8_wander_77 : decode mX8_wander.2.1 77 = .ok (.iadd, 1) := by decide +kernel
theorem dX8_wander_78 : decode mX8_wander.2.1 78 = .ok (.dup2, 1) := by decide +kernel
theorem dX8_wander_79 : decode mX8_wander.2.1 79 = .ok (.iaload, 1) := by decide +kernel
theorem dX8_wander_80 : decode mX8_wander.2.1 80 = .ok (.iconst 1, 1) := by decide +kernel
theorem dX8_wander_81 : decode mX8_wander.2.1 81 = .ok (.isub, 1) := by decide +kernel
theorem dX8_wander_82 : decode mX8_wander.2.1 82 = .ok (.iastore, 1) := by decide +kernel
theorem dX8_wander_83 : decode mX8_wander.2.1 83 = .ok (.aload_n 0, 1) := by decide +kernel
theorem dX8_wander_84 : decode mX8_wander.2.1 84 = .ok (.getfield 50, 3) := by decide +kernel
theorem dX8_wander_87 : decode mX8_wander.2.1 87 = .ok (.bipush 24, 2) := by decide +kernel
theorem dX8_wander_89 : decode mX8_wander.2.1 89 = .ok (.iload_n 3, 1) := by decide +kernel
theorem dX8_wander_90 : decode mX8_wander.2.1 90 = .ok (.iadd, 1) := by decide +kernel
theorem dX8_wander_91 : decode mX8_wander.2.1 91 = .ok (.dup2, 1) := by decide +kernel
theorem dX8_wander_92 : decode mX8_wander.2.1 92 = .ok (.iaload, 1) := by decide +kernel
theorem dX8_wander_93 : decode mX8_wander.2.1 93 = .ok (.iconst 1, 1) := by decide +kernel
theorem dX8_wander_94 : decode mX8_wander.2.1 94 = .ok (.iadd, 1) := by decide +kernel
theorem dX8_wander_95 : decode mX8_wander.2.1 95 = .ok (.iastore, 1) := by decide +kernel
theorem dX8_wander_96 : decode mX8_wander.2.1 96 = .ok (.iinc 1 1, 3) := by decide +kernel
theorem dX8_wander_99 : decode mX8_wander.2.1 99 = .ok (.goto (-94), 3) := by decide +kernel
theorem dX8_wander_102 : decode mX8_wander.2.1 102 = .ok (.return_, 1) := by decide +kernel
theorem dX8_bear_0 : decode mX8_bear.2.1 0 = .ok (.aload_n 0, 1) := by decide +kernel
theorem dX8_bear_1 : decode mX8_bear.2.1 1 = .ok (.getfield 288, 3) := by decide +kernel
theorem dX8_bear_4 : decode mX8_bear.2.1 4 = .ok (.istore_n 1, 1) := by decide +kernel
theorem dX8_bear_5 : decode mX8_bear.2.1 5 = .ok (.iload_n 1, 1) := by decide +kernel
theorem dX8_bear_6 : decode mX8_bear.2.1 6 = .ok (.aload_n 0, 1) := by decide +kernel
theorem dX8_bear_7 : decode mX8_bear.2.1 7 = .ok (.getfield 291, 3) := by decide +kernel
theorem dX8_bear_10 : decode mX8_bear.2.1 10 = .ok (.if_icmp .gt 82, 3) := by decide +kernel
theorem dX8_bear_13 : decode mX8_bear.2.1 13 = .ok (.aload_n 0, 1) := by decide +kernel
theorem dX8_bear_14 : decode mX8_bear.2.1 14 = .ok (.getfield 50, 3) := by decide +kernel
theorem dX8_bear_17 : decode mX8_bear.2.1 17 = .ok (.bipush 24, 2) := by decide +kernel
theorem dX8_bear_19 : decode mX8_bear.2.1 19 = .ok (.iload_n 1, 1) := by decide +kernel
theorem dX8_bear_20 : decode mX8_bear.2.1 20 = .ok (.iadd, 1) := by decide +kernel
theorem dX8_bear_21 : decode mX8_bear.2.1 21 = .ok (.iaload, 1) := by decide +kernel
theorem dX8_bear_22 : decode mX8_bear.2.1 22 = .ok (.aload_n 0, 1) := by decide +kernel
theorem dX8_bear_23 : decode mX8_bear.2.1 23 = .ok (.getfield 50, 3) := by decide +kernel
theorem dX8_bear_26 : decode mX8_bear.2.1 26 = .ok (.bipush 48, 2) := by decide +kernel
theorem dX8_bear_28 : decode mX8_bear.2.1 28 = .ok (.iload_n 1, 1) := by decide +kernel
theorem dX8_bear_29 : decode mX8_bear.2.1 29 = .ok (.iadd, 1) := by decide +kernel
theorem dX8_bear_30 : decode mX8_bear.2.1 30 = .ok (.iaload, 1) := by decide +kernel
theorem dX8_bear_31 : decode mX8_bear.2.1 31 = .ok (.iadd, 1) := by decide +kernel
theorem dX8_bear_32 : decode mX8_bear.2.1 32 = .ok (.aload_n 0, 1) := by decide +kernel
theorem dX8_bear_33 : decode mX8_bear.2.1 33 = .ok (.getfield 50, 3) := by decide +kernel
theorem dX8_bear_36 : decode mX8_bear.2.1 36 = .ok (.iconst 0, 1) := by decide +kernel
theorem dX8_bear_37 : decode mX8_bear.2.1 37 = .ok (.iload_n 1, 1) := by decide +kernel
theorem dX8_bear_38 : decode mX8_bear.2.1 38 = .ok (.iadd, 1) := by decide +kernel
theorem dX8_bear_39 : decode mX8_bear.2.1 39 = .ok (.iaload, 1) := by decide +kernel
theorem dX8_bear_40 : decode mX8_bear.2.1 40 = .ok (.aload_n 0, 1) := by decide +kernel
theorem dX8_bear_41 : decode mX8_bear.2.1 41 = .ok (.bipush 8, 2) := by decide +kernel
theorem dX8_bear_43 : decode mX8_bear.2.1 43 = .ok (.invokevirtual 294, 3) := by decide +kernel
theorem dX8_bear_46 : decode mX8_bear.2.1 46 = .ok (.imul, 1) := by decide +kernel
theorem dX8_bear_47 : decode mX8_bear.2.1 47 = .ok (.bipush 10, 2) := by decide +kernel
theorem dX8_bear_49 : decode mX8_bear.2.1 49 = .ok (.idiv, 1) := by decide +kernel
theorem dX8_bear_50 : decode mX8_bear.2.1 50 = .ok (.isub, 1) := by decide +kernel
theorem dX8_bear_51 : decode mX8_bear.2.1 51 = .ok (.istore_n 2, 1) := by decide +kernel
theorem dX8_bear_52 : decode mX8_bear.2.1 52 = .ok (.iload_n 2, 1) := by decide +kernel
theorem dX8_bear_53 : decode mX8_bear.2.1 53 = .ok (.ifCond .le 33, 3) := by decide +kernel
theorem dX8_bear_56 : decode mX8_bear.2.1 56 = .ok (.iload_n 2, 1) := by decide +kernel
theorem dX8_bear_57 : decode mX8_bear.2.1 57 = .ok (.aload_n 0, 1) := by decide +kernel
theorem dX8_bear_58 : decode mX8_bear.2.1 58 = .ok (.getfield 50, 3) := by decide +kernel
theorem dX8_bear_61 : decode mX8_bear.2.1 61 = .ok (.bipush 24, 2) := by decide +kernel
theorem dX8_bear_63 : decode mX8_bear.2.1 63 = .ok (.iload_n 1, 1) := by decide +kernel
theorem dX8_bear_64 : decode mX8_bear.2.1 64 = .ok (.iadd, 1) := by decide +kernel
theorem dX8_bear_65 : decode mX8_bear.2.1 65 = .ok (.iaload, 1) := by decide +kernel
theorem dX8_bear_66 : decode mX8_bear.2.1 66 = .ok (.invokestatic 261, 3) := by decide +kernel
theorem dX8_bear_69 : decode mX8_bear.2.1 69 = .ok (.istore_n 3, 1) := by decide +kernel
theorem dX8_bear_70 : decode mX8_bear.2.1 70 = .ok (.aload_n 0, 1) := by decide +kernel
theorem dX8_bear_71 : decode mX8_bear.2.1 71 = .ok (.iload_n 1, 1) := by decide +kernel
theorem dX8_bear_72 : decode mX8_bear.2.1 72 = .ok (.iconst 0, 1) := by decide +kernel
theorem dX8_bear_73 : decode mX8_bear.2.1 73 = .ok (.iload_n 3, 1) := by decide +kernel
theorem dX8_bear_74 : decode mX8_bear.2.1 74 = .ok (.invokevirtual 305, 3) := by decide +kernel
theorem dX8_bear_77 : decode mX8_bear.2.1 77 = .ok (.aload_n 0, 1) := by decide +kernel
theorem dX8_bear_78 : decode mX8_bear.2.1 78 = .ok (.iload_n 1, 1) := by decide +kernel
theorem dX8_bear_79 : decode mX8_bear.2.1 79 = .ok (.iconst 1, 1) := by decide +kernel
theorem dX8_bear_80 : decode mX8_bear.2.1 80 = .ok (.iload_n 2, 1) := by decide +kernel
theorem dX8_bear_81 : decode mX8_bear.2.1 81 = .ok (.iload_n 3, 1) := by decide +kernel
theorem dX8_bear_82 : decode mX8_bear.2.1 82 = .ok (.isub, 1) := by decide +kernel
theorem dX8_bear_83 : decode mX8_bear.2.1 83 = .ok (.invokevirtual 305, 3) := by decide +kernel
theorem dX8_bear_86 : decode mX8_bear.2.1 86 = .ok (.iinc 1 1, 3) := by decide +kernel
theorem dX8_bear_89 : decode mX8_bear.2.1 89 = .ok (.goto (-84), 3) := by decide +kernel
theorem dX8_bear_92 : decode mX8_bear.2.1 92 = .ok (.return_, 1) := by decide +kernel
theorem dX8_goes_0 : decode mX8_goes.2.1 0 = .ok (.aload_n 0, 1) := by decide +kernel
theorem dX8_goes_1 : decode mX8_goes.2.1 1 = .ok (.aload_n 0, 1) := by decide +kernel
theorem dX8_goes_2 : decode mX8_goes.2.1 2 = .ok (.getfield 50, 3) := by decide +kernel
theorem dX8_goes_5 : decode mX8_goes.2.1 5 = .ok (.sipush 240, 3) := by decide +kernel
theorem dX8_goes_8 : decode mX8_goes.2.1 8 = .ok (.iload_n 1, 1) := by decide +kernel
theorem dX8_goes_9 : decode mX8_goes.2.1 9 = .ok (.iadd, 1) := by decide +kernel
theorem dX8_goes_10 : decode mX8_goes.2.1 10 = .ok (.iaload, 1) := by decide +kernel
theorem dX8_goes_11 : decode mX8_goes.2.1 11 = .ok (.putfield 288, 3) := by decide +kernel
theorem dX8_goes_14 : decode mX8_goes.2.1 14 = .ok (.aload_n 0, 1) := by decide +kernel
theorem dX8_goes_15 : decode mX8_goes.2.1 15 = .ok (.aload_n 0, 1) := by decide +kernel
theorem dX8_goes_16 : decode mX8_goes.2.1 16 = .ok (.getfield 50, 3) := by decide +kernel
theorem dX8_goes_19 : decode mX8_goes.2.1 19 = .ok (.sipush 252, 3) := by decide +kernel
theorem dX8_goes_22 : decode mX8_goes.2.1 22 = .ok (.iload_n 1, 1) := by decide +kernel
theorem dX8_goes_23 : decode mX8_goes.2.1 23 = .ok (.iadd, 1) := by decide +kernel
theorem dX8_goes_24 : decode mX8_goes.2.1 24 = .ok (.iaload, 1) := by decide +kernel
theorem dX8_goes_25 : decode mX8_goes.2.1 25 = .ok (.putfield 291, 3) := by decide +kernel
theorem dX8_goes_28 : decode mX8_goes.2.1 28 = .ok (.aload_n 0, 1) := by decide +kernel
theorem dX8_goes_29 : decode mX8_goes.2.1 29 = .ok (.aload_n 0, 1) := by decide +kernel
theorem dX8_goes_30 : decode mX8_goes.2.1 30 = .ok (.getfield 50, 3) := by decide +kernel
theorem dX8_goes_33 : decode mX8_goes.2.1 33 = .ok (.sipush 264, 3) := by decide +kernel
theorem dX8_goes_36 : decode mX8_goes.2.1 36 = .ok (.iload_n 1, 1) := by decide +kernel
theorem dX8_goes_37 : decode mX8_goes.2.1 37 = .ok (.iadd, 1) := by decide +kernel
theorem dX8_goes_38 : decode mX8_goes.2.1 38 = .ok (.iaload, 1) := by decide +kernel
theorem dX8_goes_39 : decode mX8_goes.2.1 39 = .ok (.putfield 285, 3) := by decide +kernel
theorem dX8_goes_42 : decode mX8_goes.2.1 42 = .ok (.aload_n 0, 1) := by decide +kernel
theorem dX8_goes_43 : decode mX8_goes.2.1 43 = .ok (.invokevirtual 320, 3) := by decide +kernel
theorem dX8_goes_46 : decode mX8_goes.2.1 46 = .ok (.istore_n 2, 1) := by decide +kernel
theorem dX8_goes_47 : decode mX8_goes.2.1 47 = .ok (.aload_n 0, 1) := by decide +kernel
theorem dX8_goes_48 : decode mX8_goes.2.1 48 = .ok (.getfield 291, 3) := by decide +kernel
theorem dX8_goes_51 : decode mX8_goes.2.1 51 = .ok (.aload_n 0, 1) := by decide +kernel
theorem dX8_goes_52 : decode mX8_goes.2.1 52 = .ok (.getfield 288, 3) := by decide +kernel
theorem dX8_goes_55 : decode mX8_goes.2.1 55 = .ok (.isub, 1) := by decide +kernel
theorem dX8_goes_56 : decode mX8_goes.2.1 56 = .ok (.iconst 1, 1) := by decide +kernel
theorem dX8_goes_57 : decode mX8_goes.2.1 57 = .ok (.iadd, 1) := by decide +kernel
theorem dX8_goes_58 : decode mX8_goes.2.1 58 = .ok (.istore_n 3, 1) := by decide +kernel
theorem dX8_goes_59 : decode mX8_goes.2.1 59 = .ok (.iload_n 2, 1) := by decide +kernel
theorem dX8_goes_60 : decode mX8_goes.2.1 60 = .ok (.aload_n 0, 1) := by decide +kernel
theorem dX8_goes_61 : decode mX8_goes.2.1 61 = .ok (.bipush 9, 2) := by decide +kernel
theorem dX8_goes_63 : decode mX8_goes.2.1 63 = .ok (.invokevirtual 294, 3) := by decide +kernel
theorem dX8_goes_66 : decode mX8_goes.2.1 66 = .ok (.iload_n 3, 1) := by decide +kernel
theorem dX8_goes_67 : decode mX8_goes.2.1 67 = .ok (.imul, 1) := by decide +kernel
theorem dX8_goes_68 : decode mX8_goes.2.1 68 = .ok (.if_icmp .ge 41, 3) := by decide +kernel
theorem dX8_goes_71 : decode mX8_goes.2.1 71 = .ok (.iload_n 3, 1) := by decide +kernel
theorem dX8_goes_72 : decode mX8_goes.2.1 72 = .ok (.iconst 2, 1) := by decide +kernel
theorem dX8_goes_73 : decode mX8_goes.2.1 73 = .ok (.aload_n 0, 1) := by decide +kernel
theorem dX8_goes_74 : decode mX8_goes.2.1 74 = .ok (.bipush 10, 2) := by decide +kernel
theorem dX8_goes_76 : decode mX8_goes.2.1 76 = .ok (.invokevirtual 294, 3) := by decide +kernel
theorem dX8_goes_79 : decode mX8_goes.2.1 79 = .ok (.imul, 1) := by decide +kernel
theorem dX8_goes_80 : decode mX8_goes.2.1 80 = .ok (.iconst 1, 1) := by decide +kernel
theorem dX8_goes_81 : decode mX8_goes.2.1 81 = .ok (.iadd, 1) := by decide +kernel
theorem dX8_goes_82 : decode mX8_goes.2.1 82 = .ok (.if_icmp .le 27, 3) := by decide +kernel
theorem dX8_goes_85 : decode mX8_goes.2.1 85 = .ok (.aload_n 0, 1) := by decide +kernel
theorem dX8_goes_86 : decode mX8_goes.2.1 86 = .ok (.aload_n 0, 1) := by decide +kernel
theorem dX8_goes_87 : decode mX8_goes.2.1 87 = .ok (.bipush 10, 2) := by decide +kernel
theorem dX8_goes_89 : decode mX8_goes.2.1 89 = .ok (.invokevirtual 294, 3) := by decide +kernel
theorem dX8_goes_92 : decode mX8_goes.2.1 92 = .ok (.invokevirtual 323, 3) := by decide +kernel
theorem dX8_goes_95 : decode mX8_goes.2.1 95 = .ok (.aload_n 0, 1) := by decide +kernel
theorem dX8_goes_96 : decode mX8_goes.2.1 96 = .ok (.getfield 50, 3) := by decide +kernel
theorem dX8_goes_99 : decode mX8_goes.2.1 99 = .ok (.sipush 276, 3) := by decide +kernel
theorem dX8_goes_102 : decode mX8_goes.2.1 102 = .ok (.iload_n 1, 1) := by decide +kernel
theorem dX8_goes_103 : decode mX8_goes.2.1 103 = .ok (.iadd, 1) := by decide +kernel
theorem dX8_goes_104 : decode mX8_goes.2.1 104 = .ok (.dup2, 1) := by decide +kernel
theorem dX8_goes_105 : decode mX8_goes.2.1 105 = .ok (.iaload, 1) := by decide +kernel
theorem dX8_goes_106 : decode mX8_goes.2.1 106 = .ok (.iconst 1, 1) := by decide +kernel
theorem dX8_goes_107 : decode mX8_goes.2.1 107 = .ok (.iadd, 1) := by decide +kernel
theorem dX8_goes_108 : decode mX8_goes.2.1 108 = .ok (.iastore, 1) := by decide +kernel
theorem dX8_goes_109 : decode mX8_goes.2.1 109 = .ok (.aload_n 0, 1) := by decide +kernel
theorem dX8_goes_110 : decode mX8_goes.2.1 110 = .ok (.iload_n 2, 1) := by decide +kernel
theorem dX8_goes_111 : decode mX8_goes.2.1 111 = .ok (.invokevirtual 326, 3) := by decide +kernel
theorem dX8_goes_114 : decode mX8_goes.2.1 114 = .ok (.aload_n 0, 1) := by decide +kernel
theorem dX8_goes_115 : decode mX8_goes.2.1 115 = .ok (.invokevirtual 329, 3) := by decide +kernel
theorem dX8_goes_118 : decode mX8_goes.2.1 118 = .ok (.aload_n 0, 1) := by decide +kernel
theorem dX8_goes_119 : decode mX8_goes.2.1 119 = .ok (.iconst 5, 1) := by decide +kernel
theorem dX8_goes_120 : decode mX8_goes.2.1 120 = .ok (.invokevirtual 294, 3) := by decide +kernel
theorem dX8_goes_123 : decode mX8_goes.2.1 123 = .ok (.bipush 50, 2) := by decide +kernel
theorem dX8_goes_125 : decode mX8_goes.2.1 125 = .ok (.if_icmp .lt 7, 3) := by decide +kernel
theorem dX8_goes_128 : decode mX8_goes.2.1 128 = .ok (.aload_n 0, 1) := by decide +kernel
theorem dX8_goes_129 : decode mX8_goes.2.1 129 = .ok (.invokevirtual 332, 3) := by decide +kernel
theorem dX8_goes_132 : decode mX8_goes.2.1 132 = .ok (.aload_n 0, 1) := by decide +kernel
theorem dX8_goes_133 : decode mX8_goes.2.1 133 = .ok (.invokevirtual 335, 3) := by decide +kernel
theorem dX8_goes_136 : decode mX8_goes.2.1 136 = .ok (.aload_n 0, 1) := by decide +kernel
theorem dX8_goes_137 : decode mX8_goes.2.1 137 = .ok (.invokevirtual 338, 3) := by decide +kernel
theorem dX8_goes_140 : decode mX8_goes.2.1 140 = .ok (.aload_n 0, 1) := by decide +kernel
theorem dX8_goes_141 : decode mX8_goes.2.1 141 = .ok (.getfield 50, 3) := by decide +kernel
theorem dX8_goes_144 : decode mX8_goes.2.1 144 = .ok (.sipush 240, 3) := by decide +kernel
theorem dX8_goes_147 : decode mX8_goes.2.1 147 = .ok (.iload_n 1, 1) := by decide +kernel
theorem dX8_goes_148 : decode mX8_goes.2.1 148 = .ok (.iadd, 1) := by decide +kernel
theorem dX8_goes_149 : decode mX8_goes.2.1 149 = .ok (.aload_n 0, 1) := by decide +kernel
theorem dX8_goes_150 : decode mX8_goes.2.1 150 = .ok (.getfield 288, 3) := by decide +kernel
theorem dX8_goes_153 : decode mX8_goes.2.1 153 = .ok (.iastore, 1) := by decide +kernel
theorem dX8_goes_154 : decode mX8_goes.2.1 154 = .ok (.aload_n 0, 1) := by decide +kernel
theorem dX8_goes_155 : decode mX8_goes.2.1 155 = .ok (.getfield 50, 3) := by decide +kernel
theorem dX8_goes_158 : decode mX8_goes.2.1 158 = .ok (.sipush 252, 3) := by decide +kernel
theorem dX8_goes_161 : decode mX8_goes.2.1 161 = .ok (.iload_n 1, 1) := by decide +kernel
theorem dX8_goes_162 : decode mX8_goes.2.1 162 = .ok (.iadd, 1) := by decide +kernel
theorem dX8_goes_163 : decode mX8_goes.2.1 163 = .ok (.aload_n 0, 1) := by decide +kernel
theorem dX8_goes_164 : decode mX8_goes.2.1 164 = .ok (.getfield 291, 3) := by decide +kernel
theorem dX8_goes_167 : decode mX8_goes.2.1 167 = .ok (.iastore, 1) := by decide +kernel
theorem dX8_goes_168 : decode mX8_goes.2.1 168 = .ok (.iload_n 2, 1) := by decide +kernel
theorem dX8_goes_169 : decode mX8_goes.2.1 169 = .ok (.ifCond .le 7, 3) := by decide +kernel
theorem dX8_goes_172 : decode mX8_goes.2.1 172 = .ok (.iconst 1, 1) := by decide +kernel
theorem dX8_goes_173 : decode mX8_goes.2.1 173 = .ok (.goto 4, 3) := by decide +kernel
theorem dX8_goes_176 : decode mX8_goes.2.1 176 = .ok (.iconst 0, 1) := by decide +kernel
theorem dX8_goes_177 : decode mX8_goes.2.1 177 = .ok (.ireturn, 1) := by decide +kernel
theorem dX8_remove_0 : decode mX8_remove.2.1 0 = .ok (.aload_n 0, 1) := by decide +kernel
theorem dX8_remove_1 : decode mX8_remove.2.1 1 = .ok (.getfield 50, 3) := by decide +kernel
theorem dX8_remove_4 : decode mX8_remove.2.1 4 = .ok (.sipush 288, 3) := by decide +kernel
theorem dX8_remove_7 : decode mX8_remove.2.1 7 = .ok (.dup2, 1) := by decide +kernel
theorem dX8_remove_8 : decode mX8_remove.2.1 8 = .ok (.iaload, 1) := by decide +kernel
theorem dX8_remove_9 : decode mX8_remove.2.1 9 = .ok (.iconst 1, 1) := by decide +kernel
theorem dX8_remove_10 : decode mX8_remove.2.1 10 = .ok (.isub, 1) := by decide +kernel
theorem dX8_remove_11 : decode mX8_remove.2.1 11 = .ok (.iastore, 1) := by decide +kernel
theorem dX8_remove_12 : decode mX8_remove.2.1 12 = .ok (.iload_n 1, 1) := by decide +kernel
theorem dX8_remove_13 : decode mX8_remove.2.1 13 = .ok (.istore_n 2, 1) := by decide +kernel
theorem dX8_remove_14 : decode mX8_remove.2.1 14 = .ok (.iload_n 2, 1) := by decide +kernel
theorem dX8_remove_15 : decode mX8_remove.2.1 15 = .ok (.aload_n 0, 1) := by decide +kernel
theorem dX8_remove_16 : decode mX8_remove.2.1 16 = .ok (.getfield 50, 3) := by decide +kernel
theorem dX8_remove_19 : decode mX8_remove.2.1 19 = .ok (.sipush 288, 3) := by decide +kernel
theorem dX8_remove_22 : decode mX8_remove.2.1 22 = .ok (.iaload, 1) := by decide +kernel
theorem dX8_remove_23 : decode mX8_remove.2.1 23 = .ok (.if_icmp .ge 97, 3) := by decide +kernel
theorem dX8_remove_26 : decode mX8_remove.2.1 26 = .ok (.aload_n 0, 1) := by decide +kernel
theorem dX8_remove_27 : decode mX8_remove.2.1 27 = .ok (.getfield 50, 3) := by decide +kernel
theorem dX8_remove_30 : decode mX8_remove.2.1 30 = .ok (.sipush 240, 3) := by decide +kernel
theorem dX8_remove_33 : decode mX8_remove.2.1 33 = .ok (.iload_n 2, 1) := by decide +kernel
theorem dX8_remove_34 : decode mX8_remove.2.1 34 = .ok (.iadd, 1) := by decide +kernel
theorem dX8_remove_35 : decode mX8_remove.2.1 35 = .ok (.aload_n 0, 1) := by decide +kernel
theorem dX8_remove_36 : decode mX8_remove.2.1 36 = .ok (.getfield 50, 3) := by decide +kernel
theorem dX8_remove_39 : decode mX8_remove.2.1 39 = .ok (.sipush 240, 3) := by decide +kernel
theorem dX8_remove_42 : decode mX8_remove.2.1 42 = .ok (.iload_n 2, 1) := by decide +kernel
theorem dX8_remove_43 : decode mX8_remove.2.1 43 = .ok (.iadd, 1) := by decide +kernel
theorem dX8_remove_44 : decode mX8_remove.2.1 44 = .ok (.iconst 1, 1) := by decide +kernel
theorem dX8_remove_45 : decode mX8_remove.2.1 45 = .ok (.iadd, 1) := by decide +kernel
theorem dX8_remove_46 : decode mX8_remove.2.1 46 = .ok (.iaload, 1) := by decide +kernel
theorem dX8_remove_47 : decode mX8_remove.2.1 47 = .ok (.iastore, 1) := by decide +kernel
theorem dX8_remove_48 : decode mX8_remove.2.1 48 = .ok (.aload_n 0, 1) := by decide +kernel
theorem dX8_remove_49 : decode mX8_remove.2.1 49 = .ok (.getfield 50, 3) := by decide +kernel
theorem dX8_remove_52 : decode mX8_remove.2.1 52 = .ok (.sipush 252, 3) := by decide +kernel
theorem dX8_remove_55 : decode mX8_remove.2.1 55 = .ok (.iload_n 2, 1) := by decide +kernel
theorem dX8_remove_56 : decode mX8_remove.2.1 56 = .ok (.iadd, 1) := by decide +kernel
theorem dX8_remove_57 : decode mX8_remove.2.1 57 = .ok (.aload_n 0, 1) := by decide +kernel
theorem dX8_remove_58 : decode mX8_remove.2.1 58 = .ok (.getfield 50, 3) := by decide +kernel
theorem dX8_remove_61 : decode mX8_remove.2.1 61 = .ok (.sipush 252, 3) := by decide +kernel
theorem dX8_remove_64 : decode mX8_remove.2.1 64 = .ok (.iload_n 2, 1) := by decide +kernel
theorem dX8_remove_65 : decode mX8_remove.2.1 65 = .ok (.iadd, 1) := by decide +kernel
theorem dX8_remove_66 : decode mX8_remove.2.1 66 = .ok (.iconst 1, 1) := by decide +kernel
theorem dX8_remove_67 : decode mX8_remove.2.1 67 = .ok (.iadd, 1) := by decide +kernel
theorem dX8_remove_68 : decode mX8_remove.2.1 68 = .ok (.iaload, 1) := by decide +kernel
theorem dX8_remove_69 : decode mX8_remove.2.1 69 = .ok (.iastore, 1) := by decide +kernel
theorem dX8_remove_70 : decode mX8_remove.2.1 70 = .ok (.aload_n 0, 1) := by decide +kernel
theorem dX8_remove_71 : decode mX8_remove.2.1 71 = .ok (.getfield 50, 3) := by decide +kernel
theorem dX8_remove_74 : decode mX8_remove.2.1 74 = .ok (.sipush 264, 3) := by decide +kernel
theorem dX8_remove_77 : decode mX8_remove.2.1 77 = .ok (.iload_n 2, 1) := by decide +kernel
theorem dX8_remove_78 : decode mX8_remove.2.1 78 = .ok (.iadd, 1) := by decide +kernel
theorem dX8_remove_79 : decode mX8_remove.2.1 79 = .ok (.aload_n 0, 1) := by decide +kernel
theorem dX8_remove_80 : decode mX8_remove.2.1 80 = .ok (.getfield 50, 3) := by decide +kernel
theorem dX8_remove_83 : decode mX8_remove.2.1 83 = .ok (.sipush 264, 3) := by decide +kernel
theorem dX8_remove_86 : decode mX8_remove.2.1 86 = .ok (.iload_n 2, 1) := by decide +kernel
theorem dX8_remove_87 : decode mX8_remove.2.1 87 = .ok (.iadd, 1) := by decide +kernel
theorem dX8_remove_88 : decode mX8_remove.2.1 88 = .ok (.iconst 1, 1) := by decide +kernel
theorem dX8_remove_89 : decode mX8_remove.2.1 89 = .ok (.iadd, 1) := by decide +kernel
theorem dX8_remove_90 : decode mX8_remove.2.1 90 = .ok (.iaload, 1) := by decide +kernel
theorem dX8_remove_91 : decode mX8_remove.2.1 91 = .ok (.iastore, 1) := by decide +kernel
theorem dX8_remove_92 : decode mX8_remove.2.1 92 = .ok (.aload_n 0, 1) := by decide +kernel
theorem dX8_remove_93 : decode mX8_remove.2.1 93 = .ok (.getfield 50, 3) := by decide +kernel
theorem dX8_remove_96 : decode mX8_remove.2.1 96 = .ok (.sipush 276, 3) := by decide +kernel
theorem dX8_remove_99 : decode mX8_remove.2.1 99 = .ok (.iload_n 2, 1) := by decide +kernel
theorem dX8_remove_100 : decode mX8_remove.2.1 100 = .ok (.iadd, 1) := by decide +kernel
theorem dX8_remove_101 : decode mX8_remove.2.1 101 = .ok (.aload_n 0, 1) := by decide +kernel
theorem dX8_remove_102 : decode mX8_remove.2.1 102 = .ok (.getfield 50, 3) := by decide +kernel
theorem dX8_remove_105 : decode mX8_remove.2.1 105 = .ok (.sipush 276, 3) := by decide +kernel
theorem dX8_remove_108 : decode mX8_remove.2.1 108 = .ok (.iload_n 2, 1) := by decide +kernel
theorem dX8_remove_109 : decode mX8_remove.2.1 109 = .ok (.iadd, 1) := by decide +kernel
theorem dX8_remove_110 : decode mX8_remove.2.1 110 = .ok (.iconst 1, 1) := by decide +kernel
theorem dX8_remove_111 : decode mX8_remove.2.1 111 = .ok (.iadd, 1) := by decide +kernel
theorem dX8_remove_112 : decode mX8_remove.2.1 112 = .ok (.iaload, 1) := by decide +kernel
theorem dX8_remove_113 : decode mX8_remove.2.1 113 = .ok (.iastore, 1) := by decide +kernel
theorem dX8_remove_114 : decode mX8_remove.2.1 114 = .ok (.iinc 2 1, 3) := by decide +kernel
theorem dX8_remove_117 : decode mX8_remove.2.1 117 = .ok (.goto (-103), 3) := by decide +kernel
theorem dX8_remove_120 : decode mX8_remove.2.1 120 = .ok (.return_, 1) := by decide +kernel
theorem dX8_tickOnce_0 : decode mX8_tickOnce.2.1 0 = .ok (.iconst 0, 1) := by decide +kernel
theorem dX8_tickOnce_1 : decode mX8_tickOnce.2.1 1 = .ok (.istore_n 1, 1) := by decide +kernel
theorem dX8_tickOnce_2 : decode mX8_tickOnce.2.1 2 = .ok (.iload_n 1, 1) := by decide +kernel
theorem dX8_tickOnce_3 : decode mX8_tickOnce.2.1 3 = .ok (.bipush 24, 2) := by decide +kernel
theorem dX8_tickOnce_5 : decode mX8_tickOnce.2.1 5 = .ok (.if_icmp .ge 37, 3) := by decide +kernel
theorem dX8_tickOnce_8 : decode mX8_tickOnce.2.1 8 = .ok (.aload_n 0, 1) := by decide +kernel
theorem dX8_tickOnce_9 : decode mX8_tickOnce.2.1 9 = .ok (.getfield 50, 3) := by decide +kernel
theorem dX8_tickOnce_12 : decode mX8_tickOnce.2.1 12 = .ok (.sipush 168, 3) := by decide +kernel
theorem dX8_tickOnce_15 : decode mX8_tickOnce.2.1 15 = .ok (.iload_n 1, 1) := by decide +kernel
theorem dX8_tickOnce_16 : decode mX8_tickOnce.2.1 16 = .ok (.iadd, 1) := by decide +kernel
theorem dX8_tickOnce_17 : decode mX8_tickOnce.2.1 17 = .ok (.iconst 0, 1) := by decide +kernel
theorem dX8_tickOnce_18 : decode mX8_tickOnce.2.1 18 = .ok (.iastore, 1) := by decide +kernel
theorem dX8_tickOnce_19 : decode mX8_tickOnce.2.1 19 = .ok (.aload_n 0, 1) := by decide +kernel
theorem dX8_tickOnce_20 : decode mX8_tickOnce.2.1 20 = .ok (.getfield 68, 3) := by decide +kernel
theorem dX8_tickOnce_23 : decode mX8_tickOnce.2.1 23 = .ok (.iload_n 1, 1) := by decide +kernel
theorem dX8_tickOnce_24 : decode mX8_tickOnce.2.1 24 = .ok (.iconst 0, 1) := by decide +kernel
theorem dX8_tickOnce_25 : decode mX8_tickOnce.2.1 25 = .ok (.iastore, 1) := by decide +kernel
theorem dX8_tickOnce_26 : decode mX8_tickOnce.2.1 26 = .ok (.aload_n 0, 1) := by decide +kernel
theorem dX8_tickOnce_27 : decode mX8_tickOnce.2.1 27 = .ok (.getfield 68, 3) := by decide +kernel
theorem dX8_tickOnce_30 : decode mX8_tickOnce.2.1 30 = .ok (.bipush 24, 2) := by decide +kernel
theorem dX8_tickOnce_32 : decode mX8_tickOnce.2.1 32 = .ok (.iload_n 1, 1) := by decide +kernel
theorem dX8_tickOnce_33 : decode mX8_tickOnce.2.1 33 = .ok (.iadd, 1) := by decide +kernel
theorem dX8_tickOnce_34 : decode mX8_tickOnce.2.1 34 = .ok (.iconst 0, 1) := by decide +kernel
theorem dX8_tickOnce_35 : decode mX8_tickOnce.2.1 35 = .ok (.iastore, 1) := by decide +kernel
theorem dX8_tickOnce_36 : decode mX8_tickOnce.2.1 36 = .ok (.iinc 1 1, 3) := by decide +kernel
theorem dX8_tickOnce_39 : decode mX8_tickOnce.2.1 39 = .ok (.goto (-37), 3) := by decide +kernel
theorem dX8_tickOnce_42 : decode mX8_tickOnce.2.1 42 = .ok (.aload_n 0, 1) := by decide +kernel
theorem dX8_tickOnce_43 : decode mX8_tickOnce.2.1 43 = .ok (.getfield 50, 3) := by decide +kernel
theorem dX8_tickOnce_46 : decode mX8_tickOnce.2.1 46 = .ok (.sipush 293, 3) := by decide +kernel
theorem dX8_tickOnce_49 : decode mX8_tickOnce.2.1 49 = .ok (.iconst 0, 1) := by decide +kernel
theorem dX8_tickOnce_50 : decode mX8_tickOnce.2.1 50 = .ok (.iastore, 1) := by decide +kernel
theorem dX8_tickOnce_51 : decode mX8_tickOnce.2.1 51 = .ok (.iconst 0, 1) := by decide +kernel
theorem dX8_tickOnce_52 : decode mX8_tickOnce.2.1 52 = .ok (.istore_n 1, 1) := by decide +kernel
theorem dX8_tickOnce_53 : decode mX8_tickOnce.2.1 53 = .ok (.iload_n 1, 1) := by decide +kernel
theorem dX8_tickOnce_54 : decode mX8_tickOnce.2.1 54 = .ok (.aload_n 0, 1) := by decide +kernel
theorem dX8_tickOnce_55 : decode mX8_tickOnce.2.1 55 = .ok (.getfield 50, 3) := by decide +kernel
theorem dX8_tickOnce_58 : decode mX8_tickOnce.2.1 58 = .ok (.sipush 288, 3) := by decide +kernel
theorem dX8_tickOnce_61 : decode mX8_tickOnce.2.1 61 = .ok (.iaload, 1) := by decide +kernel
theorem dX8_tickOnce_62 : decode mX8_tickOnce.2.1 62 = .ok (.if_icmp .ge 25, 3) := by decide +kernel
theorem dX8_tickOnce_65 : decode mX8_tickOnce.2.1 65 = .ok (.aload_n 0, 1) := by decide +kernel
theorem dX8_tickOnce_66 : decode mX8_tickOnce.2.1 66 = .ok (.iload_n 1, 1) := by decide +kernel
theorem dX8_tickOnce_67 : decode mX8_tickOnce.2.1 67 = .ok (.invokevirtual 341, 3) := by decide +kernel
theorem dX8_tickOnce_70 : decode mX8_tickOnce.2.1 70 = .ok (.ifCond .eq 9, 3) := by decide +kernel
theorem dX8_tickOnce_73 : decode mX8_tickOnce.2.1 73 = .ok (.iinc 1 1, 3) := by decide +kernel
theorem dX8_tickOnce_76 : decode mX8_tickOnce.2.1 76 = .ok (.goto (-23), 3) := by decide +kernel
theorem dX8_tickOnce_79 : decode mX8_tickOnce.2.1 79 = .ok (.aload_n 0, 1) := by decide +kernel
theorem dX8_tickOnce_80 : decode mX8_tickOnce.2.1 80 = .ok (.iload_n 1, 1) := by decide +kernel
theorem dX8_tickOnce_81 : decode mX8_tickOnce.2.1 81 = .ok (.invokevirtual 344, 3) := by decide +kernel
theorem dX8_tickOnce_84 : decode mX8_tickOnce.2.1 84 = .ok (.goto (-31), 3) := by decide +kernel
theorem dX8_tickOnce_87 : decode mX8_tickOnce.2.1 87 = .ok (.aload_n 0, 1) := by decide +kernel
theorem dX8_tickOnce_88 : decode mX8_tickOnce.2.1 88 = .ok (.getfield 50, 3) := by decide +kernel
theorem dX8_tickOnce_91 : decode mX8_tickOnce.2.1 91 = .ok (.sipush 289, 3) := by decide +kernel
theorem dX8_tickOnce_94 : decode mX8_tickOnce.2.1 94 = .ok (.dup2, 1) := by decide +kernel
theorem dX8_tickOnce_95 : decode mX8_tickOnce.2.1 95 = .ok (.iaload, 1) := by decide +kernel
theorem dX8_tickOnce_96 : decode mX8_tickOnce.2.1 96 = .ok (.iconst 1, 1) := by decide +kernel
theorem dX8_tickOnce_97 : decode mX8_tickOnce.2.1 97 = .ok (.iadd, 1) := by decide +kernel
theorem dX8_tickOnce_98 : decode mX8_tickOnce.2.1 98 = .ok (.iastore, 1) := by decide +kernel
theorem dX8_tickOnce_99 : decode mX8_tickOnce.2.1 99 = .ok (.iconst 0, 1) := by decide +kernel
theorem dX8_tickOnce_100 : decode mX8_tickOnce.2.1 100 = .ok (.istore_n 2, 1) := by decide +kernel
theorem dX8_tickOnce_101 : decode mX8_tickOnce.2.1 101 = .ok (.iconst 0, 1) := by decide +kernel
theorem dX8_tickOnce_102 : decode mX8_tickOnce.2.1 102 = .ok (.istore_n 3, 1) := by decide +kernel
theorem dX8_tickOnce_103 : decode mX8_tickOnce.2.1 103 = .ok (.iload_n 3, 1) := by decide +kernel
theorem dX8_tickOnce_104 : decode mX8_tickOnce.2.1 104 = .ok (.bipush 24, 2) := by decide +kernel
theorem dX8_tickOnce_106 : decode mX8_tickOnce.2.1 106 = .ok (.if_icmp .ge 61, 3) := by decide +kernel
theorem dX8_tickOnce_109 : decode mX8_tickOnce.2.1 109 = .ok (.aload_n 0, 1) := by decide +kernel
theorem dX8_tickOnce_110 : decode mX8_tickOnce.2.1 110 = .ok (.getfield 68, 3) := by decide +kernel
theorem dX8_tickOnce_113 : decode mX8_tickOnce.2.1 113 = .ok (.iload_n 3, 1) := by decide +kernel
theorem dX8_tickOnce_114 : decode mX8_tickOnce.2.1 114 = .ok (.iaload, 1) := by decide +kernel
theorem dX8_tickOnce_115 : decode mX8_tickOnce.2.1 115 = .ok (.aload_n 0, 1) := by decide +kernel
theorem dX8_tickOnce_116 : decode mX8_tickOnce.2.1 116 = .ok (.getfield 68, 3) := by decide +kernel
theorem dX8_tickOnce_119 : decode mX8_tickOnce.2.1 119 = .ok (.bipush 24, 2) := by decide +kernel
theorem dX8_tickOnce_121 : decode mX8_tickOnce.2.1 121 = .ok (.iload_n 3, 1) := by decide +kernel
theorem dX8_tickOnce_122 : decode mX8_tickOnce.2.1 122 = .ok (.iadd, 1) := by decide +kernel
theorem dX8_tickOnce_123 : decode mX8_tickOnce.2.1 123 = .ok (.iaload, 1) := by decide +kernel
theorem dX8_tickOnce_124 : decode mX8_tickOnce.2.1 124 = .ok (.iadd, 1) := by decide +kernel
theorem dX8_tickOnce_125 : decode mX8_tickOnce.2.1 125 = .ok (.istore 4, 2) := by decide +kernel
theorem dX8_tickOnce_127 : decode mX8_tickOnce.2.1 127 = .ok (.aload_n 0, 1) := by decide +kernel
theorem dX8_tickOnce_128 : decode mX8_tickOnce.2.1 128 = .ok (.getfield 50, 3) := by decide +kernel
theorem dX8_tickOnce_131 : decode mX8_tickOnce.2.1 131 = .ok (.iload 4, 2) := by decide +kernel
theorem dX8_tickOnce_133 : decode mX8_tickOnce.2.1 133 = .ok (.aload_n 0, 1) := by decide +kernel
theorem dX8_tickOnce_134 : decode mX8_tickOnce.2.1 134 = .ok (.getfield 46, 3) := by decide +kernel
theorem dX8_tickOnce_137 : decode mX8_tickOnce.2.1 137 = .ok (.if_icmp .gt 8, 3) := by decide +kernel
theorem dX8_tickOnce_140 : decode mX8_tickOnce.2.1 140 = .ok (.bipush 120, 2) := by decide +kernel
theorem dX8_tickOnce_142 : decode mX8_tickOnce.2.1 142 = .ok (.goto 6, 3) := by decide +kernel
theorem dX8_tickOnce_145 : decode mX8_tickOnce.2.1 145 = .ok (.sipush 144, 3) := by decide +kernel
theorem dX8_tickOnce_148 : decode mX8_tickOnce.2.1 148 = .ok (.iload_n 3, 1) := by decide +kernel
theorem dX8_tickOnce_149 : decode mX8_tickOnce.2.1 149 = .ok (.iadd, 1) := by decide +kernel
theorem dX8_tickOnce_150 : decode mX8_tickOnce.2.1 150 = .ok (.dup2, 1) := by decide +kernel
theorem dX8_tickOnce_151 : decode mX8_tickOnce.2.1 151 = .ok (.iaload, 1) := by decide +kernel
theorem dX8_tickOnce_152 : decode mX8_tickOnce.2.1 152 = .ok (.iload 4, 2) := by decide +kernel
theorem dX8_tickOnce_154 : decode mX8_tickOnce.2.1 154 = .ok (.iadd, 1) := by decide +kernel
theorem dX8_tickOnce_155 : decode mX8_tickOnce.2.1 155 = .ok (.iastore, 1) := by decide +kernel
theorem dX8_tickOnce_156 : decode mX8_tickOnce.2.1 156 = .ok (.iload_n 2, 1) := by decide +kernel
theorem dX8_tickOnce_157 : decode mX8_tickOnce.2.1 157 = .ok (.iload 4, 2) := by decide +kernel
theorem dX8_tickOnce_159 : decode mX8_tickOnce.2.1 159 = .ok (.iadd, 1) := by decide +kernel
theorem dX8_tickOnce_160 : decode mX8_tickOnce.2.1 160 = .ok (.istore_n 2, 1) := by decide +kernel
theorem dX8_tickOnce_161 : decode mX8_tickOnce.2.1 161 = .ok (.iinc 3 1, 3) := by decide +kernel
theorem dX8_tickOnce_164 : decode mX8_tickOnce.2.1 164 = .ok (.goto (-61), 3) := by decide +kernel
theorem dX8_tickOnce_167 : decode mX8_tickOnce.2.1 167 = .ok (.aload_n 0, 1) := by decide +kernel
theorem dX8_tickOnce_168 : decode mX8_tickOnce.2.1 168 = .ok (.getfield 50, 3) := by decide +kernel
theorem dX8_tickOnce_171 : decode mX8_tickOnce.2.1 171 = .ok (.sipush 289, 3) := by decide +kernel
theorem dX8_tickOnce_174 : decode mX8_tickOnce.2.1 174 = .ok (.iaload, 1) := by decide +kernel
theorem dX8_tickOnce_175 : decode mX8_tickOnce.2.1 175 = .ok (.bipush 120, 2) := by decide +kernel
theorem dX8_tickOnce_177 : decode mX8_tickOnce.2.1 177 = .ok (.if_icmp .gt 23, 3) := by decide +kernel
theorem dX8_tickOnce_180 : decode mX8_tickOnce.2.1 180 = .ok (.aload_n 0, 1) := by decide +kernel
theorem dX8_tickOnce_181 : decode mX8_tickOnce.2.1 181 = .ok (.getfield 50, 3) := by decide +kernel
theorem dX8_tickOnce_184 : decode mX8_tickOnce.2.1 184 = .ok (.sipush 296, 3) := by decide +kernel
theorem dX8_tickOnce_187 : decode mX8_tickOnce.2.1 187 = .ok (.aload_n 0, 1) := by decide +kernel
theorem dX8_tickOnce_188 : decode mX8_tickOnce.2.1 188 = .ok (.getfield 50, 3) := by decide +kernel
theorem dX8_tickOnce_191 : decode mX8_tickOnce.2.1 191 = .ok (.sipush 289, 3) := by decide +kernel
theorem dX8_tickOnce_194 : decode mX8_tickOnce.2.1 194 = .ok (.iaload, 1) := by decide +kernel
theorem dX8_tickOnce_195 : decode mX8_tickOnce.2.1 195 = .ok (.iadd, 1) := by decide +kernel
theorem dX8_tickOnce_196 : decode mX8_tickOnce.2.1 196 = .ok (.iconst 1, 1) := by decide +kernel
theorem dX8_tickOnce_197 : decode mX8_tickOnce.2.1 197 = .ok (.isub, 1) := by decide +kernel
theorem dX8_tickOnce_198 : decode mX8_tickOnce.2.1 198 = .ok (.iload_n 2, 1) := by decide +kernel
theorem dX8_tickOnce_199 : decode mX8_tickOnce.2.1 199 = .ok (.iastore, 1) := by decide +kernel
theorem dX8_tickOnce_200 : decode mX8_tickOnce.2.1 200 = .ok (.iload_n 2, 1) := by decide +kernel
theorem dX8_tickOnce_201 : decode mX8_tickOnce.2.1 201 = .ok (.aload_n 0, 1) := by decide +kernel
theorem dX8_tickOnce_202 : decode mX8_tickOnce.2.1 202 = .ok (.getfield 50, 3) := by decide +kernel
theorem dX8_tickOnce_205 : decode mX8_tickOnce.2.1 205 = .ok (.sipush 292, 3) := by decide +kernel
theorem dX8_tickOnce_208 : decode mX8_tickOnce.2.1 208 = .ok (.iaload, 1) := by decide +kernel
theorem dX8_tickOnce_209 : decode mX8_tickOnce.2.1 209 = .ok (.if_icmp .le 28, 3) := by decide +kernel
theorem dX8_tickOnce_212 : decode mX8_tickOnce.2.1 212 = .ok (.aload_n 0, 1) := by decide +kernel
theorem dX8_tickOnce_213 : decode mX8_tickOnce.2.1 213 = .ok (.getfield 50, 3) := by decide +kernel
theorem dX8_tickOnce_216 : decode mX8_tickOnce.2.1 216 = .ok (.sipush 292, 3) := by decide +kernel
theorem dX8_tickOnce_219 : decode mX8_tickOnce.2.1 219 = .ok (.iload_n 2, 1) := by decide +kernel
theorem dX8_tickOnce_220 : decode mX8_tickOnce.2.1 220 = .ok (.iastore, 1) := by decide +kernel
theorem dX8_tickOnce_221 : decode mX8_tickOnce.2.1 221 = .ok (.aload_n 0, 1) := by decide +kernel
theorem dX8_tickOnce_222 : decode mX8_tickOnce.2.1 222 = .ok (.getfield 50, 3) := by decide +kernel
theorem dX8_tickOnce_225 : decode mX8_tickOnce.2.1 225 = .ok (.sipush 291, 3) := by decide +kernel
theorem dX8_tickOnce_228 : decode mX8_tickOnce.2.1 228 = .ok (.aload_n 0, 1) := by decide +kernel
theorem dX8_tickOnce_229 : decode mX8_tickOnce.2.1 229 = .ok (.getfield 50, 3) := by decide +kernel
theorem dX8_tickOnce_232 : decode mX8_tickOnce.2.1 232 = .ok (.sipush 289, 3) := by decide +kernel
theorem dX8_tickOnce_235 : decode mX8_tickOnce.2.1 235 = .ok (.iaload, 1) := by decide +kernel
theorem dX8_tickOnce_236 : decode mX8_tickOnce.2.1 236 = .ok (.iastore, 1) := by decide +kernel
theorem dX8_tickOnce_237 : decode mX8_tickOnce.2.1 237 = .ok (.return_, 1) := by decide +kernel
theorem dX8_run_0 : decode mX8_run.2.1 0 = .ok (.iconst 0, 1) := by decide +kernel
theorem dX8_run_1 : decode mX8_run.2.1 1 = .ok (.istore_n 2, 1) := by decide +kernel
theorem dX8_run_2 : decode mX8_run.2.1 2 = .ok (.iload_n 2, 1) := by decide +kernel
theorem dX8_run_3 : decode mX8_run.2.1 3 = .ok (.iload_n 1, 1) := by decide +kernel
theorem dX8_run_4 : decode mX8_run.2.1 4 = .ok (.if_icmp .ge 24, 3) := by decide +kernel
theorem dX8_run_7 : decode mX8_run.2.1 7 = .ok (.aload_n 0, 1) := by decide +kernel
theorem dX8_run_8 : decode mX8_run.2.1 8 = .ok (.getfield 50, 3) := by decide +kernel
theorem dX8_run_11 : decode mX8_run.2.1 11 = .ok (.sipush 288, 3) := by decide +kernel
theorem dX8_run_14 : decode mX8_run.2.1 14 = .ok (.iaload, 1) := by decide +kernel
theorem dX8_run_15 : decode mX8_run.2.1 15 = .ok (.ifCond .le 13, 3) := by decide +kernel
theorem dX8_run_18 : decode mX8_run.2.1 18 = .ok (.aload_n 0, 1) := by decide +kernel
theorem dX8_run_19 : decode mX8_run.2.1 19 = .ok (.invokevirtual 347, 3) := by decide +kernel
theorem dX8_run_22 : decode mX8_run.2.1 22 = .ok (.iinc 2 1, 3) := by decide +kernel
theorem dX8_run_25 : decode mX8_run.2.1 25 = .ok (.goto (-23), 3) := by decide +kernel
theorem dX8_run_28 : decode mX8_run.2.1 28 = .ok (.iload_n 2, 1) := by decide +kernel
theorem dX8_run_29 : decode mX8_run.2.1 29 = .ok (.ireturn, 1) := by decide +kernel
theorem dX8_tick_0 : decode mX8_tick.2.1 0 = .ok (.aload_n 0, 1) := by decide +kernel
theorem dX8_tick_1 : decode mX8_tick.2.1 1 = .ok (.getfield 50, 3) := by decide +kernel
theorem dX8_tick_4 : decode mX8_tick.2.1 4 = .ok (.sipush 295, 3) := by decide +kernel
theorem dX8_tick_7 : decode mX8_tick.2.1 7 = .ok (.iaload, 1) := by decide +kernel
theorem dX8_tick_8 : decode mX8_tick.2.1 8 = .ok (.iconst 1, 1) := by decide +kernel
theorem dX8_tick_9 : decode mX8_tick.2.1 9 = .ok (.if_icmp .ne 21, 3) := by decide +kernel
theorem dX8_tick_12 : decode mX8_tick.2.1 12 = .ok (.iload_n 1, 1) := by decide +kernel
theorem dX8_tick_13 : decode mX8_tick.2.1 13 = .ok (.iconst 1, 1) := by decide +kernel
theorem dX8_tick_14 : decode mX8_tick.2.1 14 = .ok (.bipush 60, 2) := by decide +kernel
theorem dX8_tick_16 : decode mX8_tick.2.1 16 = .ok (.invokestatic 216, 3) := by decide +kernel
theorem dX8_tick_19 : decode mX8_tick.2.1 19 = .ok (.ifCond .eq 11, 3) := by decide +kernel
theorem dX8_tick_22 : decode mX8_tick.2.1 22 = .ok (.aload_n 0, 1) := by decide +kernel
theorem dX8_tick_23 : decode mX8_tick.2.1 23 = .ok (.iload_n 1, 1) := by decide +kernel
theorem dX8_tick_24 : decode mX8_tick.2.1 24 = .ok (.invokevirtual 350, 3) := by decide +kernel
theorem dX8_tick_27 : decode mX8_tick.2.1 27 = .ok (.goto 4, 3) := by decide +kernel
theorem dX8_tick_30 : decode mX8_tick.2.1 30 = .ok (.iconst (-1), 1) := by decide +kernel
theorem dX8_tick_31 : decode mX8_tick.2.1 31 = .ok (.ireturn, 1) := by decide +kernel
theorem dX8_isCell_0 : decode mX8_isCell.2.1 0 = .ok (.iload_n 0, 1) := by decide +kernel
theorem dX8_isCell_1 : decode mX8_isCell.2.1 1 = .ok (.iconst 0, 1) := by decide +kernel
theorem dX8_isCell_2 : decode mX8_isCell.2.1 2 = .ok (.bipush 23, 2) := by decide +kernel
theorem dX8_isCell_4 : decode mX8_isCell.2.1 4 = .ok (.invokestatic 216, 3) := by decide +kernel
theorem dX8_isCell_7 : decode mX8_isCell.2.1 7 = .ok (.ireturn, 1) := by decide +kernel
theorem dX8_body_0 : decode mX8_body.2.1 0 = .ok (.iload_n 1, 1) := by decide +kernel
theorem dX8_body_1 : decode mX8_body.2.1 1 = .ok (.iconst 0, 1) := by decide +kernel
theorem dX8_body_2 : decode mX8_body.2.1 2 = .ok (.aload_n 0, 1) := by decide +kernel
theorem dX8_body_3 : decode mX8_body.2.1 3 = .ok (.getfield 50, 3) := by decide +kernel
theorem dX8_body_6 : decode mX8_body.2.1 6 = .ok (.sipush 288, 3) := by decide +kernel
theorem dX8_body_9 : decode mX8_body.2.1 9 = .ok (.iaload, 1) := by decide +kernel
theorem dX8_body_10 : decode mX8_body.2.1 10 = .ok (.iconst 1, 1) := by decide +kernel
theorem dX8_body_11 : decode mX8_body.2.1 11 = .ok (.isub, 1) := by decide +kernel
theorem dX8_body_12 : decode mX8_body.2.1 12 = .ok (.invokestatic 216, 3) := by decide +kernel
theorem dX8_body_15 : decode mX8_body.2.1 15 = .ok (.ifCond .eq 12, 3) := by decide +kernel
theorem dX8_body_18 : decode mX8_body.2.1 18 = .ok (.iload_n 2, 1) := by decide +kernel
theorem dX8_body_19 : decode mX8_body.2.1 19 = .ok (.iconst 0, 1) := by decide +kernel
theorem dX8_body_20 : decode mX8_body.2.1 20 = .ok (.iconst 3, 1) := by decide +kernel
theorem dX8_body_21 : decode mX8_body.2.1 21 = .ok (.invokestatic 216, 3) := by decide +kernel
theorem dX8_body_24 : decode mX8_body.2.1 24 = .ok (.ifCond .ne 5, 3) := by decide +kernel
theorem dX8_body_27 : decode mX8_body.2.1 27 = .ok (.iconst (-1), 1) := by decide +kernel
theorem dX8_body_28 : decode mX8_body.2.1 28 = .ok (.ireturn, 1) := by decide +kernel
theorem dX8_body_29 : decode mX8_body.2.1 29 = .ok (.iload_n 2, 1) := by decide +kernel
theorem dX8_body_30 : decode mX8_body.2.1 30 = .ok (.iconst 2, 1) := by decide +kernel
theorem dX8_body_31 : decode mX8_body.2.1 31 = .ok (.if_icmp .eq 35, 3) := by decide +kernel
theorem dX8_body_34 : decode mX8_body.2.1 34 = .ok (.aload_n 0, 1) := by decide +kernel
theorem dX8_body_35 : decode mX8_body.2.1 35 = .ok (.getfield 50, 3) := by decide +kernel
theorem dX8_body_38 : decode mX8_body.2.1 38 = .ok (.iload_n 2, 1) := by decide +kernel
theorem dX8_body_39 : decode mX8_body.2.1 39 = .ok (.ifCond .ne 9, 3) := by decide +kernel
theorem dX8_body_42 : decode mX8_body.2.1 42 = .ok (.sipush 240, 3) := by decide +kernel
theorem dX8_body_45 : decode mX8_body.2.1 45 = .ok (.goto 17, 3) := by decide +kernel
theorem dX8_body_48 : decode mX8_body.2.1 48 = .ok (.iload_n 2, 1) := by decide +kernel
theorem dX8_body_49 : decode mX8_body.2.1 49 = .ok (.iconst 1, 1) := by decide +kernel
theorem dX8_body_50 : decode mX8_body.2.1 50 = .ok (.if_icmp .ne 9, 3) := by decide +kernel
theorem dX8_body_53 : decode mX8_body.2.1 53 = .ok (.sipush 252, 3) := by decide +kernel
theorem dX8_body_56 : decode mX8_body.2.1 56 = .ok (.goto 6, 3) := by decide +kernel
theorem dX8_body_59 : decode mX8_body.2.1 59 = .ok (.sipush 276, 3) := by decide +kernel
theorem dX8_body_62 : decode mX8_body.2.1 62 = .ok (.iload_n 1, 1) := by decide +kernel
theorem dX8_body_63 : decode mX8_body.2.1 63 = .ok (.iadd, 1) := by decide +kernel
theorem dX8_body_64 : decode mX8_body.2.1 64 = .ok (.iaload, 1) := by decide +kernel
theorem dX8_body_65 : decode mX8_body.2.1 65 = .ok (.ireturn, 1) := by decide +kernel
theorem dX8_body_66 : decode mX8_body.2.1 66 = .ok (.iconst 0, 1) := by decide +kernel
theorem dX8_body_67 : decode mX8_body.2.1 67 = .ok (.istore_n 3, 1) := by decide +kernel
theorem dX8_body_68 : decode mX8_body.2.1 68 = .ok (.aload_n 0, 1) := by decide +kernel
theorem dX8_body_69 : decode mX8_body.2.1 69 = .ok (.getfield 50, 3) := by decide +kernel
theorem dX8_body_72 : decode mX8_body.2.1 72 = .ok (.sipush 240, 3) := by decide +kernel
theorem dX8_body_75 : decode mX8_body.2.1 75 = .ok (.iload_n 1, 1) := by decide +kernel
theorem dX8_body_76 : decode mX8_body.2.1 76 = .ok (.iadd, 1) := by decide +kernel
theorem dX8_body_77 : decode mX8_body.2.1 77 = .ok (.iaload, 1) := by decide +kernel
theorem dX8_body_78 : decode mX8_body.2.1 78 = .ok (.istore 4, 2) := by decide +kernel
theorem dX8_body_80 : decode mX8_body.2.1 80 = .ok (.iload 4, 2) := by decide +kernel
theorem dX8_body_82 : decode mX8_body.2.1 82 = .ok (.aload_n 0, 1) := by decide +kernel
theorem dX8_body_83 : decode mX8_body.2.1 83 = .ok (.getfield 50, 3) := by decide +kernel
theorem dX8_body_86 : decode mX8_body.2.1 86 = .ok (.sipush 252, 3) := by decide +kernel
theorem dX8_body_89 : decode mX8_body.2.1 89 = .ok (.iload_n 1, 1) := by decide +kernel
theorem dX8_body_90 : decode mX8_body.2.1 90 = .ok (.iadd, 1) := by decide +kernel
theorem dX8_body_91 : decode mX8_body.2.1 91 = .ok (.iaload, 1) := by decide +kernel
theorem dX8_body_92 : decode mX8_body.2.1 92 = .ok (.if_icmp .gt 21, 3) := by decide +kernel
theorem dX8_body_95 : decode mX8_body.2.1 95 = .ok (.iload_n 3, 1) := by decide +kernel
theorem dX8_body_96 : decode mX8_body.2.1 96 = .ok (.aload_n 0, 1) := by decide +kernel
theorem dX8_body_97 : decode mX8_body.2.1 97 = .ok (.getfield 50, 3) := by decide +kernel
theorem dX8_body_100 : decode mX8_body.2.1 100 = .ok (.iconst 0, 1) := by decide +kernel
theorem dX8_body_101 : decode mX8_body.2.1 101 = .ok (.iload 4, 2) := by decide +kernel
theorem dX8_body_103 : decode mX8_body.2.1 103 = .ok (.iadd, 1) := by decide +kernel
theorem dX8_body_104 : decode mX8_body.2.1 104 = .ok (.iaload, 1) := by decide +kernel
theorem dX8_body_105 : decode mX8_body.2.1 105 = .ok (.iadd, 1) := by decide +kernel
theorem dX8_body_106 : decode mX8_body.2.1 106 = .ok (.istore_n 3, 1) := by decide +kernel
theorem dX8_body_107 : decode mX8_body.2.1 107 = .ok (.iinc 4 1, 3) := by decide +kernel
theorem dX8_body_110 : decode mX8_body.2.1 110 = .ok (.goto (-30), 3) := by decide +kernel
theorem dX8_body_113 : decode mX8_body.2.1 113 = .ok (.iload_n 3, 1) := by decide +kernel
theorem dX8_body_114 : decode mX8_body.2.1 114 = .ok (.ireturn, 1) := by decide +kernel
theorem dX8_water_0 : decode mX8_water.2.1 0 = .ok (.iload_n 1, 1) := by decide +kernel
theorem dX8_water_1 : decode mX8_water.2.1 1 = .ok (.invokestatic 353, 3) := by decide +kernel
theorem dX8_water_4 : decode mX8_water.2.1 4 = .ok (.ifCond .eq 14, 3) := by decide +kernel
theorem dX8_water_7 : decode mX8_water.2.1 7 = .ok (.aload_n 0, 1) := by decide +kernel
theorem dX8_water_8 : decode mX8_water.2.1 8 = .ok (.getfield 50, 3) := by decide +kernel
theorem dX8_water_11 : decode mX8_water.2.1 11 = .ok (.iconst 0, 1) := by decide +kernel
theorem dX8_water_12 : decode mX8_water.2.1 12 = .ok (.iload_n 1, 1) := by decide +kernel
theorem dX8_water_13 : decode mX8_water.2.1 13 = .ok (.iadd, 1) := by decide +kernel
theorem dX8_water_14 : decode mX8_water.2.1 14 = .ok (.iaload, 1) := by decide +kernel
theorem dX8_water_15 : decode mX8_water.2.1 15 = .ok (.goto 4, 3) := by decide +kernel
theorem dX8_water_18 : decode mX8_water.2.1 18 = .ok (.iconst (-1), 1) := by decide +kernel
theorem dX8_water_19 : decode mX8_water.2.1 19 = .ok (.ireturn, 1) := by decide +kernel
theorem dX8_free_0 : decode mX8_free.2.1 0 = .ok (.iload_n 1, 1) := by decide +kernel
theorem dX8_free_1 : decode mX8_free.2.1 1 = .ok (.invokestatic 353, 3) := by decide +kernel
theorem dX8_free_4 : decode mX8_free.2.1 4 = .ok (.ifCond .eq 29, 3) := by decide +kernel
theorem dX8_free_7 : decode mX8_free.2.1 7 = .ok (.iload_n 2, 1) := by decide +kernel
theorem dX8_free_8 : decode mX8_free.2.1 8 = .ok (.iconst 0, 1) := by decide +kernel
theorem dX8_free_9 : decode mX8_free.2.1 9 = .ok (.iconst 1, 1) := by decide +kernel
theorem dX8_free_10 : decode mX8_free.2.1 10 = .ok (.invokestatic 216, 3) := by decide +kernel
theorem dX8_free_13 : decode mX8_free.2.1 13 = .ok (.ifCond .eq 20, 3) := by decide +kernel
theorem dX8_free_16 : decode mX8_free.2.1 16 = .ok (.aload_n 0, 1) := by decide +kernel
theorem dX8_free_17 : decode mX8_free.2.1 17 = .ok (.getfield 50, 3) := by decide +kernel
theorem dX8_free_20 : decode mX8_free.2.1 20 = .ok (.bipush 24, 2) := by decide +kernel
theorem dX8_free_22 : decode mX8_free.2.1 22 = .ok (.bipush 24, 2) := by decide +kernel
theorem dX8_free_24 : decode mX8_free.2.1 24 = .ok (.iload_n 2, 1) := by decide +kernel
theorem dX8_free_25 : decode mX8_free.2.1 25 = .ok (.imul, 1) := by decide +kernel
theorem dX8_free_26 : decode mX8_free.2.1 26 = .ok (.iadd, 1) := by decide +kernel
theorem dX8_free_27 : decode mX8_free.2.1 27 = .ok (.iload_n 1, 1) := by decide +kernel
theorem dX8_free_28 : decode mX8_free.2.1 28 = .ok (.iadd, 1) := by decide +kernel
theorem dX8_free_29 : decode mX8_free.2.1 29 = .ok (.iaload, 1) := by decide +kernel
theorem dX8_free_30 : decode mX8_free.2.1 30 = .ok (.goto 4, 3) := by decide +kernel
theorem dX8_free_33 : decode mX8_free.2.1 33 = .ok (.iconst (-1), 1) := by decide +kernel
theorem dX8_free_34 : decode mX8_free.2.1 34 = .ok (.ireturn, 1) := by decide +kernel
theorem dX8_lies_0 : decode mX8_lies.2.1 0 = .ok (.iload_n 1, 1) := by decide +kernel
theorem dX8_lies_1 : decode mX8_lies.2.1 1 = .ok (.invokestatic 353, 3) := by decide +kernel
theorem dX8_lies_4 : decode mX8_lies.2.1 4 = .ok (.ifCond .eq 29, 3) := by decide +kernel
theorem dX8_lies_7 : decode mX8_lies.2.1 7 = .ok (.iload_n 2, 1) := by decide +kernel
theorem dX8_lies_8 : decode mX8_lies.2.1 8 = .ok (.iconst 0, 1) := by decide +kernel
theorem dX8_lies_9 : decode mX8_lies.2.1 9 = .ok (.iconst 1, 1) := by decide +kernel
theorem dX8_lies_10 : decode mX8_lies.2.1 10 = .ok (.invokestatic 216, 3) := by decide +kernel
theorem dX8_lies_13 : decode mX8_lies.2.1 13 = .ok (.ifCond .eq 20, 3) := by decide +kernel
theorem dX8_lies_16 : decode mX8_lies.2.1 16 = .ok (.aload_n 0, 1) := by decide +kernel
theorem dX8_lies_17 : decode mX8_lies.2.1 17 = .ok (.getfield 50, 3) := by decide +kernel
theorem dX8_lies_20 : decode mX8_lies.2.1 20 = .ok (.bipush 72, 2) := by decide +kernel
theorem dX8_lies_22 : decode mX8_lies.2.1 22 = .ok (.bipush 24, 2) := by decide +kernel
theorem dX8_lies_24 : decode mX8_lies.2.1 24 = .ok (.iload_n 2, 1) := by decide +kernel
theorem dX8_lies_25 : decode mX8_lies.2.1 25 = .ok (.imul, 1) := by decide +kernel
theorem dX8_lies_26 : decode mX8_lies.2.1 26 = .ok (.iadd, 1) := by decide +kernel
theorem dX8_lies_27 : decode mX8_lies.2.1 27 = .ok (.iload_n 1, 1) := by decide +kernel
theorem dX8_lies_28 : decode mX8_lies.2.1 28 = .ok (.iadd, 1) := by decide +kernel
theorem dX8_lies_29 : decode mX8_lies.2.1 29 = .ok (.iaload, 1) := by decide +kernel
theorem dX8_lies_30 : decode mX8_lies.2.1 30 = .ok (.goto 4, 3) := by decide +kernel
theorem dX8_lies_33 : decode mX8_lies.2.1 33 = .ok (.iconst (-1), 1) := by decide +kernel
theorem dX8_lies_34 : decode mX8_lies.2.1 34 = .ok (.ireturn, 1) := by decide +kernel
theorem dX8_heap_0 : decode mX8_heap.2.1 0 = .ok (.iload_n 1, 1) := by decide +kernel
theorem dX8_heap_1 : decode mX8_heap.2.1 1 = .ok (.invokestatic 353, 3) := by decide +kernel
theorem dX8_heap_4 : decode mX8_heap.2.1 4 = .ok (.ifCond .eq 34, 3) := by decide +kernel
theorem dX8_heap_7 : decode mX8_heap.2.1 7 = .ok (.iload_n 2, 1) := by decide +kernel
theorem dX8_heap_8 : decode mX8_heap.2.1 8 = .ok (.iconst 0, 1) := by decide +kernel
theorem dX8_heap_9 : decode mX8_heap.2.1 9 = .ok (.iconst 1, 1) := by decide +kernel
theorem dX8_heap_10 : decode mX8_heap.2.1 10 = .ok (.invokestatic 216, 3) := by decide +kernel
theorem dX8_heap_13 : decode mX8_heap.2.1 13 = .ok (.ifCond .eq 25, 3) := by decide +kernel
theorem dX8_heap_16 : decode mX8_heap.2.1 16 = .ok (.aload_n 0, 1) := by decide +kernel
theorem dX8_heap_17 : decode mX8_heap.2.1 17 = .ok (.getfield 50, 3) := by decide +kernel
theorem dX8_heap_20 : decode mX8_heap.2.1 20 = .ok (.iload_n 2, 1) := by decide +kernel
theorem dX8_heap_21 : decode mX8_heap.2.1 21 = .ok (.ifCond .ne 8, 3) := by decide +kernel
theorem dX8_heap_24 : decode mX8_heap.2.1 24 = .ok (.bipush 120, 2) := by decide +kernel
theorem dX8_heap_26 : decode mX8_heap.2.1 26 = .ok (.goto 6, 3) := by decide +kernel
theorem dX8_heap_29 : decode mX8_heap.2.1 29 = .ok (.sipush 144, 3) := by decide +kernel
theorem dX8_heap_32 : decode mX8_heap.2.1 32 = .ok (.iload_n 1, 1) := by decide +kernel
theorem dX8_heap_33 : decode mX8_heap.2.1 33 = .ok (.iadd, 1) := by decide +kernel
theorem dX8_heap_34 : decode mX8_heap.2.1 34 = .ok (.iaload, 1) := by decide +kernel
theorem dX8_heap_35 : decode mX8_heap.2.1 35 = .ok (.goto 4, 3) := by decide +kernel
theorem dX8_heap_38 : decode mX8_heap.2.1 38 = .ok (.iconst (-1), 1) := by decide +kernel
theorem dX8_heap_39 : decode mX8_heap.2.1 39 = .ok (.ireturn, 1) := by decide +kernel
theorem dX8_flow_0 : decode mX8_flow.2.1 0 = .ok (.iload_n 1, 1) := by decide +kernel
theorem dX8_flow_1 : decode mX8_flow.2.1 1 = .ok (.invokestatic 353, 3) := by decide +kernel
theorem dX8_flow_4 : decode mX8_flow.2.1 4 = .ok (.ifCond .eq 16, 3) := by decide +kernel
theorem dX8_flow_7 : decode mX8_flow.2.1 7 = .ok (.aload_n 0, 1) := by decide +kernel
theorem dX8_flow_8 : decode mX8_flow.2.1 8 = .ok (.getfield 50, 3) := by decide +kernel
theorem dX8_flow_11 : decode mX8_flow.2.1 11 = .ok (.sipush 168, 3) := by decide +kernel
theorem dX8_flow_14 : decode mX8_flow.2.1 14 = .ok (.iload_n 1, 1) := by decide +kernel
theorem dX8_flow_15 : decode mX8_flow.2.1 15 = .ok (.iadd, 1) := by decide +kernel
theorem dX8_flow_16 : decode mX8_flow.2.1 16 = .ok (.iaload, 1) := by decide +kernel
theorem dX8_flow_17 : decode mX8_flow.2.1 17 = .ok (.goto 6, 3) := by decide +kernel
theorem dX8_flow_20 : decode mX8_flow.2.1 20 = .ok (.ldc_w 356, 3) := by decide +kernel
theorem dX8_flow_23 : decode mX8_flow.2.1 23 = .ok (.ireturn, 1) := by decide +kernel
theorem dX8_laidIn_0 : decode mX8_laidIn.2.1 0 = .ok (.iload_n 1, 1) := by decide +kernel
theorem dX8_laidIn_1 : decode mX8_laidIn.2.1 1 = .ok (.invokestatic 353, 3) := by decide +kernel
theorem dX8_laidIn_4 : decode mX8_laidIn.2.1 4 = .ok (.ifCond .eq 25, 3) := by decide +kernel
theorem dX8_laidIn_7 : decode mX8_laidIn.2.1 7 = .ok (.aload_n 0, 1) := by decide +kernel
theorem dX8_laidIn_8 : decode mX8_laidIn.2.1 8 = .ok (.getfield 50, 3) := by decide +kernel
theorem dX8_laidIn_11 : decode mX8_laidIn.2.1 11 = .ok (.bipush 72, 2) := by decide +kernel
theorem dX8_laidIn_13 : decode mX8_laidIn.2.1 13 = .ok (.iload_n 1, 1) := by decide +kernel
theorem dX8_laidIn_14 : decode mX8_laidIn.2.1 14 = .ok (.iadd, 1) := by decide +kernel
theorem dX8_laidIn_15 : decode mX8_laidIn.2.1 15 = .ok (.iaload, 1) := by decide +kernel
theorem dX8_laidIn_16 : decode mX8_laidIn.2.1 16 = .ok (.aload_n 0, 1) := by decide +kernel
theorem dX8_laidIn_17 : decode mX8_laidIn.2.1 17 = .ok (.getfield 50, 3) := by decide +kernel
theorem dX8_laidIn_20 : decode mX8_laidIn.2.1 20 = .ok (.bipush 96, 2) := by decide +kernel
theorem dX8_laidIn_22 : decode mX8_laidIn.2.1 22 = .ok (.iload_n 1, 1) := by decide +kernel
theorem dX8_laidIn_23 : decode mX8_laidIn.2.1 23 = .ok (.iadd, 1) := by decide +kernel
theorem dX8_laidIn_24 : decode mX8_laidIn.2.1 24 = .ok (.iaload, 1) := by decide +kernel
theorem dX8_laidIn_25 : decode mX8_laidIn.2.1 25 = .ok (.iadd, 1) := by decide +kernel
theorem dX8_laidIn_26 : decode mX8_laidIn.2.1 26 = .ok (.goto 4, 3) := by decide +kernel
theorem dX8_laidIn_29 : decode mX8_laidIn.2.1 29 = .ok (.iconst 0, 1) := by decide +kernel
theorem dX8_laidIn_30 : decode mX8_laidIn.2.1 30 = .ok (.ireturn, 1) := by decide +kernel
theorem dX8_ring_0 : decode mX8_ring.2.1 0 = .ok (.iconst 0, 1) := by decide +kernel
theorem dX8_ring_1 : decode mX8_ring.2.1 1 = .ok (.istore_n 1, 1) := by decide +kernel
theorem dX8_ring_2 : decode mX8_ring.2.1 2 = .ok (.iconst 0, 1) := by decide +kernel
theorem dX8_ring_3 : decode mX8_ring.2.1 3 = .ok (.istore_n 2, 1) := by decide +kernel
theorem dX8_ring_4 : decode mX8_ring.2.1 4 = .ok (.iconst 0, 1) := by decide +kernel
theorem dX8_ring_5 : decode mX8_ring.2.1 5 = .ok (.istore_n 3, 1) := by decide +kernel
theorem dX8_ring_6 : decode mX8_ring.2.1 6 = .ok (.iload_n 3, 1) := by decide +kernel
theorem dX8_ring_7 : decode mX8_ring.2.1 7 = .ok (.bipush 24, 2) := by decide +kernel
theorem dX8_ring_9 : decode mX8_ring.2.1 9 = .ok (.if_icmp .ge 36, 3) := by decide +kernel
theorem dX8_ring_12 : decode mX8_ring.2.1 12 = .ok (.iload_n 1, 1) := by decide +kernel
theorem dX8_ring_13 : decode mX8_ring.2.1 13 = .ok (.aload_n 0, 1) := by decide +kernel
theorem dX8_ring_14 : decode mX8_ring.2.1 14 = .ok (.iload_n 3, 1) := by decide +kernel
theorem dX8_ring_15 : decode mX8_ring.2.1 15 = .ok (.invokevirtual 357, 3) := by decide +kernel
theorem dX8_ring_18 : decode mX8_ring.2.1 18 = .ok (.iadd, 1) := by decide +kernel
theorem dX8_ring_19 : decode mX8_ring.2.1 19 = .ok (.istore_n 1, 1) := by decide +kernel
theorem dX8_ring_20 : decode mX8_ring.2.1 20 = .ok (.iload_n 2, 1) := by decide +kernel
theorem dX8_ring_21 : decode mX8_ring.2.1 21 = .ok (.aload_n 0, 1) := by decide +kernel
theorem dX8_ring_22 : decode mX8_ring.2.1 22 = .ok (.getfield 50, 3) := by decide +kernel
theorem dX8_ring_25 : decode mX8_ring.2.1 25 = .ok (.sipush 192, 3) := by decide +kernel
theorem dX8_ring_28 : decode mX8_ring.2.1 28 = .ok (.iload_n 3, 1) := by decide +kernel
theorem dX8_ring_29 : decode mX8_ring.2.1 29 = .ok (.iadd, 1) := by decide +kernel
theorem dX8_ring_30 : decode mX8_ring.2.1 30 = .ok (.iaload, 1) := by decide +kernel
theorem dX8_ring_31 : decode mX8_ring.2.1 31 = .ok (.aload_n 0, 1) := by decide +kernel
theorem dX8_ring_32 : decode mX8_ring.2.1 32 = .ok (.iload_n 3, 1) := by decide +kernel
theorem dX8_ring_33 : decode mX8_ring.2.1 33 = .ok (.invokevirtual 357, 3) := by decide +kernel
theorem dX8_ring_36 : decode mX8_ring.2.1 36 = .ok (.imul, 1) := by decide +kernel
theorem dX8_ring_37 : decode mX8_ring.2.1 37 = .ok (.iadd, 1) := by decide +kernel
theorem dX8_ring_38 : decode mX8_ring.2.1 38 = .ok (.istore_n 2, 1) := by decide +kernel
theorem dX8_ring_39 : decode mX8_ring.2.1 39 = .ok (.iinc 3 1, 3) := by decide +kernel
theorem dX8_ring_42 : decode mX8_ring.2.1 42 = .ok (.goto (-36), 3) := by decide +kernel
theorem dX8_ring_45 : decode mX8_ring.2.1 45 = .ok (.iload_n 1, 1) := by decide +kernel
theorem dX8_ring_46 : decode mX8_ring.2.1 46 = .ok (.ifCond .ne 7, 3) := by decide +kernel
theorem dX8_ring_49 : decode mX8_ring.2.1 49 = .ok (.iconst 0, 1) := by decide +kernel
theorem dX8_ring_50 : decode mX8_ring.2.1 50 = .ok (.goto 9, 3) := by decide +kernel
theorem dX8_ring_53 : decode mX8_ring.2.1 53 = .ok (.bipush 100, 2) := by decide +kernel
theorem dX8_ring_55 : decode mX8_ring.2.1 55 = .ok (.iload_n 2, 1) := by decide +kernel
theorem dX8_ring_56 : decode mX8_ring.2.1 56 = .ok (.imul, 1) := by decide +kernel
theorem dX8_ring_57 : decode mX8_ring.2.1 57 = .ok (.iload_n 1, 1) := by decide +kernel
theorem dX8_ring_58 : decode mX8_ring.2.1 58 = .ok (.idiv, 1) := by decide +kernel
theorem dX8_ring_59 : decode mX8_ring.2.1 59 = .ok (.ireturn, 1) := by decide +kernel
theorem dX8_rings_0 : decode mX8_rings.2.1 0 = .ok (.iconst 0, 1) := by decide +kernel
theorem dX8_rings_1 : decode mX8_rings.2.1 1 = .ok (.istore_n 1, 1) := by decide +kernel
theorem dX8_rings_2 : decode mX8_rings.2.1 2 = .ok (.iconst 0, 1) := by decide +kernel
theorem dX8_rings_3 : decode mX8_rings.2.1 3 = .ok (.istore_n 2, 1) := by decide +kernel
theorem dX8_rings_4 : decode mX8_rings.2.1 4 = .ok (.iload_n 2, 1) := by decide +kernel
theorem dX8_rings_5 : decode mX8_rings.2.1 5 = .ok (.bipush 24, 2) := by decide +kernel
theorem dX8_rings_7 : decode mX8_rings.2.1 7 = .ok (.if_icmp .ge 47, 3) := by decide +kernel
theorem dX8_rings_10 : decode mX8_rings.2.1 10 = .ok (.iload_n 1, 1) := by decide +kernel
theorem dX8_rings_11 : decode mX8_rings.2.1 11 = .ok (.aload_n 0, 1) := by decide +kernel
theorem dX8_rings_12 : decode mX8_rings.2.1 12 = .ok (.iload_n 2, 1) := by decide +kernel
theorem dX8_rings_13 : decode mX8_rings.2.1 13 = .ok (.invokevirtual 357, 3) := by decide +kernel
theorem dX8_rings_16 : decode mX8_rings.2.1 16 = .ok (.aload_n 0, 1) := by decide +kernel
theorem dX8_rings_17 : decode mX8_rings.2.1 17 = .ok (.iload_n 2, 1) := by decide +kernel
theorem dX8_rings_18 : decode mX8_rings.2.1 18 = .ok (.iconst 1, 1) := by decide +kernel
theorem dX8_rings_19 : decode mX8_rings.2.1 19 = .ok (.isub, 1) := by decide +kernel
theorem dX8_rings_20 : decode mX8_rings.2.1 20 = .ok (.invokevirtual 357, 3) := by decide +kernel
theorem dX8_rings_23 : decode mX8_rings.2.1 23 = .ok (.if_icmp .le 22, 3) := by decide +kernel
theorem dX8_rings_26 : decode mX8_rings.2.1 26 = .ok (.aload_n 0, 1) := by decide +kernel
theorem dX8_rings_27 : decode mX8_rings.2.1 27 = .ok (.iload_n 2, 1) := by decide +kernel
theorem dX8_rings_28 : decode mX8_rings.2.1 28 = .ok (.invokevirtual 357, 3) := by decide +kernel
theorem dX8_rings_31 : decode mX8_rings.2.1 31 = .ok (.aload_n 0, 1) := by decide +kernel
theorem dX8_rings_32 : decode mX8_rings.2.1 32 = .ok (.iload_n 2, 1) := by decide +kernel
theorem dX8_rings_33 : decode mX8_rings.2.1 33 = .ok (.iconst 1, 1) := by decide +kernel
theorem dX8_rings_34 : decode mX8_rings.2.1 34 = .ok (.iadd, 1) := by decide +kernel
theorem dX8_rings_35 : decode mX8_rings.2.1 35 = .ok (.invokevirtual 357, 3) := by decide +kernel
theorem dX8_rings_38 : decode mX8_rings.2.1 38 = .ok (.if_icmp .le 7, 3) := by decide +kernel
theorem dX8_rings_41 : decode mX8_rings.2.1 41 = .ok (.iconst 1, 1) := by decide +kernel
theorem dX8_rings_42 : decode mX8_rings.2.1 42 = .ok (.goto 4, 3) := by decide +kernel
theorem dX8_rings_45 : decode mX8_rings.2.1 45 = .ok (.iconst 0, 1) := by decide +kernel
theorem dX8_rings_46 : decode mX8_rings.2.1 46 = .ok (.iadd, 1) := by decide +kernel
theorem dX8_rings_47 : decode mX8_rings.2.1 47 = .ok (.istore_n 1, 1) := by decide +kernel
theorem dX8_rings_48 : decode mX8_rings.2.1 48 = .ok (.iinc 2 1, 3) := by decide +kernel
theorem dX8_rings_51 : decode mX8_rings.2.1 51 = .ok (.goto (-47), 3) := by decide +kernel
theorem dX8_rings_54 : decode mX8_rings.2.1 54 = .ok (.iload_n 1, 1) := by decide +kernel
theorem dX8_rings_55 : decode mX8_rings.2.1 55 = .ok (.ireturn, 1) := by decide +kernel
theorem dX8_even_0 : decode mX8_even.2.1 0 = .ok (.iconst (-1), 1) := by decide +kernel
theorem dX8_even_1 : decode mX8_even.2.1 1 = .ok (.istore_n 1, 1) := by decide +kernel
theorem dX8_even_2 : decode mX8_even.2.1 2 = .ok (.iconst 0, 1) := by decide +kernel
theorem dX8_even_3 : decode mX8_even.2.1 3 = .ok (.istore_n 2, 1) := by decide +kernel
theorem dX8_even_4 : decode mX8_even.2.1 4 = .ok (.iconst 0, 1) := by decide +kernel
theorem dX8_even_5 : decode mX8_even.2.1 5 = .ok (.istore_n 3, 1) := by decide +kernel
theorem dX8_even_6 : decode mX8_even.2.1 6 = .ok (.iload_n 3, 1) := by decide +kernel
theorem dX8_even_7 : decode mX8_even.2.1 7 = .ok (.bipush 24, 2) := by decide +kernel
theorem dX8_even_9 : decode mX8_even.2.1 9 = .ok (.if_icmp .ge 56, 3) := by decide +kernel
theorem dX8_even_12 : decode mX8_even.2.1 12 = .ok (.aload_n 0, 1) := by decide +kernel
theorem dX8_even_13 : decode mX8_even.2.1 13 = .ok (.getfield 50, 3) := by decide +kernel
theorem dX8_even_16 : decode mX8_even.2.1 16 = .ok (.sipush 216, 3) := by decide +kernel
theorem dX8_even_19 : decode mX8_even.2.1 19 = .ok (.iload_n 3, 1) := by decide +kernel
theorem dX8_even_20 : decode mX8_even.2.1 20 = .ok (.iadd, 1) := by decide +kernel
theorem dX8_even_21 : decode mX8_even.2.1 21 = .ok (.iaload, 1) := by decide +kernel
theorem dX8_even_22 : decode mX8_even.2.1 22 = .ok (.iconst 1, 1) := by decide +kernel
theorem dX8_even_23 : decode mX8_even.2.1 23 = .ok (.if_icmp .ne 36, 3) := by decide +kernel
theorem dX8_even_26 : decode mX8_even.2.1 26 = .ok (.iload_n 1, 1) := by decide +kernel
theorem dX8_even_27 : decode mX8_even.2.1 27 = .ok (.iconst (-1), 1) := by decide +kernel
theorem dX8_even_28 : decode mX8_even.2.1 28 = .ok (.if_icmp .ne 11, 3) := by decide +kernel
theorem dX8_even_31 : decode mX8_even.2.1 31 = .ok (.aload_n 0, 1) := by decide +kernel
theorem dX8_even_32 : decode mX8_even.2.1 32 = .ok (.iload_n 3, 1) := by decide +kernel
theorem dX8_even_33 : decode mX8_even.2.1 33 = .ok (.invokevirtual 357, 3) := by decide +kernel
theorem dX8_even_36 : decode mX8_even.2.1 36 = .ok (.goto 12, 3) := by decide +kernel
theorem dX8_even_39 : decode mX8_even.2.1 39 = .ok (.iload_n 1, 1) := by decide +kernel
theorem dX8_even_40 : decode mX8_even.2.1 40 = .ok (.aload_n 0, 1) := by decide +kernel
theorem dX8_even_41 : decode mX8_even.2.1 41 = .ok (.iload_n 3, 1) := by decide +kernel
theorem dX8_even_42 : decode mX8_even.2.1 42 = .ok (.invokevirtual 357, 3) := by decide +kernel
theorem dX8_even_45 : decode mX8_even.2.1 45 = .ok (.invokestatic 261, 3) := by decide +kernel
theorem dX8_even_48 : decode mX8_even.2.1 48 = .ok (.istore_n 1, 1) := by decide +kernel
theorem dX8_even_49 : decode mX8_even.2.1 49 = .ok (.iload_n 2, 1) := by decide +kernel
theorem dX8_even_50 : decode mX8_even.2.1 50 = .ok (.aload_n 0, 1) := by decide +kernel
theorem dX8_even_51 : decode mX8_even.2.1 51 = .ok (.iload_n 3, 1) := by decide +kernel
theorem dX8_even_52 : decode mX8_even.2.1 52 = .ok (.invokevirtual 357, 3) := by decide +kernel
theorem dX8_even_55 : decode mX8_even.2.1 55 = .ok (.invokestatic 300, 3) := by decide +kernel
theorem dX8_even_58 : decode mX8_even.2.1 58 = .ok (.istore_n 2, 1) := by decide +kernel
theorem dX8_even_59 : decode mX8_even.2.1 59 = .ok (.iinc 3 1, 3) := by decide +kernel
theorem dX8_even_62 : decode mX8_even.2.1 62 = .ok (.goto (-56), 3) := by decide +kernel
theorem dX8_even_65 : decode mX8_even.2.1 65 = .ok (.iload_n 1, 1) := by decide +kernel
theorem dX8_even_66 : decode mX8_even.2.1 66 = .ok (.iconst (-1), 1) := by decide +kernel
theorem dX8_even_67 : decode mX8_even.2.1 67 = .ok (.if_icmp .ne 7, 3) := by decide +kernel
theorem dX8_even_70 : decode mX8_even.2.1 70 = .ok (.iconst 0, 1) := by decide +kernel
theorem dX8_even_71 : decode mX8_even.2.1 71 = .ok (.goto 6, 3) := by decide +kernel
theorem dX8_even_74 : decode mX8_even.2.1 74 = .ok (.iload_n 2, 1) := by decide +kernel
theorem dX8_even_75 : decode mX8_even.2.1 75 = .ok (.iload_n 1, 1) := by decide +kernel
theorem dX8_even_76 : decode mX8_even.2.1 76 = .ok (.isub, 1) := by decide +kernel
theorem dX8_even_77 : decode mX8_even.2.1 77 = .ok (.ireturn, 1) := by decide +kernel
theorem dX8_sumOf_0 : decode mX8_sumOf.2.1 0 = .ok (.iconst 0, 1) := by decide +kernel
theorem dX8_sumOf_1 : decode mX8_sumOf.2.1 1 = .ok (.istore_n 3, 1) := by decide +kernel
theorem dX8_sumOf_2 : decode mX8_sumOf.2.1 2 = .ok (.iload_n 1, 1) := by decide +kernel
theorem dX8_sumOf_3 : decode mX8_sumOf.2.1 3 = .ok (.istore 4, 2) := by decide +kernel
theorem dX8_sumOf_5 : decode mX8_sumOf.2.1 5 = .ok (.iload 4, 2) := by decide +kernel
theorem dX8_sumOf_7 : decode mX8_sumOf.2.1 7 = .ok (.iload_n 1, 1) := by decide +kernel
theorem dX8_sumOf_8 : decode mX8_sumOf.2.1 8 = .ok (.iload_n 2, 1) := by decide +kernel
theorem dX8_sumOf_9 : decode mX8_sumOf.2.1 9 = .ok (.iadd, 1) := by decide +kernel
theorem dX8_sumOf_10 : decode mX8_sumOf.2.1 10 = .ok (.if_icmp .ge 19, 3) := by decide +kernel
theorem dX8_sumOf_13 : decode mX8_sumOf.2.1 13 = .ok (.iload_n 3, 1) := by decide +kernel
theorem dX8_sumOf_14 : decode mX8_sumOf.2.1 14 = .ok (.aload_n 0, 1) := by decide +kernel
theorem dX8_sumOf_15 : decode mX8_sumOf.2.1 15 = .ok (.getfield 50, 3) := by decide +kernel
theorem dX8_sumOf_18 : decode mX8_sumOf.2.1 18 = .ok (.iload 4, 2) := by decide +kernel
theorem dX8_sumOf_20 : decode mX8_sumOf.2.1 20 = .ok (.iaload, 1) := by decide +kernel
theorem dX8_sumOf_21 : decode mX8_sumOf.2.1 21 = .ok (.iadd, 1) := by decide +kernel
theorem dX8_sumOf_22 : decode mX8_sumOf.2.1 22 = .ok (.istore_n 3, 1) := by decide +kernel
theorem dX8_sumOf_23 : decode mX8_sumOf.2.1 23 = .ok (.iinc 4 1, 3) := by decide +kernel
theorem dX8_sumOf_26 : decode mX8_sumOf.2.1 26 = .ok (.goto (-21), 3) := by decide +kernel
theorem dX8_sumOf_29 : decode mX8_sumOf.2.1 29 = .ok (.iload_n 3, 1) := by decide +kernel
theorem dX8_sumOf_30 : decode mX8_sumOf.2.1 30 = .ok (.ireturn, 1) := by decide +kernel
theorem dX8_about_0 : decode mX8_about.2.1 0 = .ok (.iload_n 1, 1) := by decide +kernel
theorem dX8_about_1 : decode mX8_about.2.1 1 = .ok (.tableswitch 121 0 8 #[51, 56, 61, 66, 75, 85, 94, 103, 112], 51) := by decide +kernel
theorem dX8_about_52 : decode mX8_about.2.1 52 = .ok (.aload_n 0, 1) := by decide +kernel
theorem dX8_about_53 : decode mX8_about.2.1 53 = .ok (.invokevirtual 360, 3) := by decide +kernel
theorem dX8_about_56 : decode mX8_about.2.1 56 = .ok (.ireturn, 1) := by decide +kernel
theorem dX8_about_57 : decode mX8_about.2.1 57 = .ok (.aload_n 0, 1) := by decide +kernel
theorem dX8_about_58 : decode mX8_about.2.1 58 = .ok (.invokevirtual 363, 3) := by decide +kernel
theorem dX8_about_61 : decode mX8_about.2.1 61 = .ok (.ireturn, 1) := by decide +kernel
theorem dX8_about_62 : decode mX8_about.2.1 62 = .ok (.aload_n 0, 1) := by decide +kernel
theorem dX8_about_63 : decode mX8_about.2.1 63 = .ok (.invokevirtual 366, 3) := by decide +kernel
theorem dX8_about_66 : decode mX8_about.2.1 66 = .ok (.ireturn, 1) := by decide +kernel
theorem dX8_about_67 : decode mX8_about.2.1 67 = .ok (.aload_n 0, 1) := by decide +kernel
theorem dX8_about_68 : decode mX8_about.2.1 68 = .ok (.bipush 72, 2) := by decide +kernel
theorem dX8_about_70 : decode mX8_about.2.1 70 = .ok (.bipush 48, 2) := by decide +kernel
theorem dX8_about_72 : decode mX8_about.2.1 72 = .ok (.invokevirtual 369, 3) := by decide +kernel
theorem dX8_about_75 : decode mX8_about.2.1 75 = .ok (.ireturn, 1) := by decide +kernel
theorem dX8_about_76 : decode mX8_about.2.1 76 = .ok (.aload_n 0, 1) := by decide +kernel
theorem dX8_about_77 : decode mX8_about.2.1 77 = .ok (.sipush 144, 3) := by decide +kernel
theorem dX8_about_80 : decode mX8_about.2.1 80 = .ok (.bipush 24, 2) := by decide +kernel
theorem dX8_about_82 : decode mX8_about.2.1 82 = .ok (.invokevirtual 369, 3) := by decide +kernel
theorem dX8_about_85 : decode mX8_about.2.1 85 = .ok (.ireturn, 1) := by decide +kernel
theorem dX8_about_86 : decode mX8_about.2.1 86 = .ok (.aload_n 0, 1) := by decide +kernel
theorem dX8_about_87 : decode mX8_about.2.1 87 = .ok (.getfield 50, 3) := by decide +kernel
theorem dX8_about_90 : decode mX8_about.2.1 90 = .ok (.sipush 289, 3) := by decide +kernel
theorem dX8_about_93 : decode mX8_about.2.1 93 = .ok (.iaload, 1) := by decide +kernel
theorem dX8_about_94 : decode mX8_about.2.1 94 = .ok (.ireturn, 1) := by decide +kernel
theorem dX8_about_95 : decode mX8_about.2.1 95 = .ok (.aload_n 0, 1) := by decide +kernel
theorem dX8_about_96 : decode mX8_about.2.1 96 = .ok (.getfield 50, 3) := by decide +kernel
theorem dX8_about_99 : decode mX8_about.2.1 99 = .ok (.sipush 290, 3) := by decide +kernel
theorem dX8_about_102 : decode mX8_about.2.1 102 = .ok (.iaload, 1) := by decide +kernel
theorem dX8_about_103 : decode mX8_about.2.1 103 = .ok (.ireturn, 1) := by decide +kernel
theorem dX8_about_104 : decode mX8_about.2.1 104 = .ok (.aload_n 0, 1) := by decide +kernel
theorem dX8_about_105 : decode mX8_about.2.1 105 = .ok (.getfield 50, 3) := by decide +kernel
theorem dX8_about_108 : decode mX8_about.2.1 108 = .ok (.sipush 288, 3) := by decide +kernel
theorem dX8_about_111 : decode mX8_about.2.1 111 = .ok (.iaload, 1) := by decide +kernel
theorem dX8_about_112 : decode mX8_about.2.1 112 = .ok (.ireturn, 1) := by decide +kernel
theorem dX8_about_113 : decode mX8_about.2.1 113 = .ok (.aload_n 0, 1) := by decide +kernel
theorem dX8_about_114 : decode mX8_about.2.1 114 = .ok (.bipush 24, 2) := by decide +kernel
theorem dX8_about_116 : decode mX8_about.2.1 116 = .ok (.bipush 48, 2) := by decide +kernel
theorem dX8_about_118 : decode mX8_about.2.1 118 = .ok (.invokevirtual 369, 3) := by decide +kernel
theorem dX8_about_121 : decode mX8_about.2.1 121 = .ok (.ireturn, 1) := by decide +kernel
theorem dX8_about_122 : decode mX8_about.2.1 122 = .ok (.iconst (-1), 1) := by decide +kernel
theorem dX8_about_123 : decode mX8_about.2.1 123 = .ok (.ireturn, 1) := by decide +kernel
theorem dX8_rush_0 : decode mX8_rush.2.1 0 = .ok (.aload_n 0, 1) := by decide +kernel
theorem dX8_rush_1 : decode mX8_rush.2.1 1 = .ok (.getfield 50, 3) := by decide +kernel
theorem dX8_rush_4 : decode mX8_rush.2.1 4 = .ok (.sipush 292, 3) := by decide +kernel
theorem dX8_rush_7 : decode mX8_rush.2.1 7 = .ok (.iaload, 1) := by decide +kernel
theorem dX8_rush_8 : decode mX8_rush.2.1 8 = .ok (.ifCond .eq 12, 3) := by decide +kernel
theorem dX8_rush_11 : decode mX8_rush.2.1 11 = .ok (.iload_n 1, 1) := by decide +kernel
theorem dX8_rush_12 : decode mX8_rush.2.1 12 = .ok (.iconst 0, 1) := by decide +kernel
theorem dX8_rush_13 : decode mX8_rush.2.1 13 = .ok (.iconst 1, 1) := by decide +kernel
theorem dX8_rush_14 : decode mX8_rush.2.1 14 = .ok (.invokestatic 216, 3) := by decide +kernel
theorem dX8_rush_17 : decode mX8_rush.2.1 17 = .ok (.ifCond .ne 7, 3) := by decide +kernel
theorem dX8_rush_20 : decode mX8_rush.2.1 20 = .ok (.iconst (-1), 1) := by decide +kernel
theorem dX8_rush_21 : decode mX8_rush.2.1 21 = .ok (.goto 26, 3) := by decide +kernel
theorem dX8_rush_24 : decode mX8_rush.2.1 24 = .ok (.iload_n 1, 1) := by decide +kernel
theorem dX8_rush_25 : decode mX8_rush.2.1 25 = .ok (.ifCond .ne 14, 3) := by decide +kernel
theorem dX8_rush_28 : decode mX8_rush.2.1 28 = .ok (.aload_n 0, 1) := by decide +kernel
theorem dX8_rush_29 : decode mX8_rush.2.1 29 = .ok (.getfield 50, 3) := by decide +kernel
theorem dX8_rush_32 : decode mX8_rush.2.1 32 = .ok (.sipush 291, 3) := by decide +kernel
theorem dX8_rush_35 : decode mX8_rush.2.1 35 = .ok (.iaload, 1) := by decide +kernel
theorem dX8_rush_36 : decode mX8_rush.2.1 36 = .ok (.goto 11, 3) := by decide +kernel
theorem dX8_rush_39 : decode mX8_rush.2.1 39 = .ok (.aload_n 0, 1) := by decide +kernel
theorem dX8_rush_40 : decode mX8_rush.2.1 40 = .ok (.getfield 50, 3) := by decide +kernel
theorem dX8_rush_43 : decode mX8_rush.2.1 43 = .ok (.sipush 292, 3) := by decide +kernel
theorem dX8_rush_46 : decode mX8_rush.2.1 46 = .ok (.iaload, 1) := by decide +kernel
theorem dX8_rush_47 : decode mX8_rush.2.1 47 = .ok (.ireturn, 1) := by decide +kernel
theorem dX8_speed_0 : decode mX8_speed.2.1 0 = .ok (.aload_n 0, 1) := by decide +kernel
theorem dX8_speed_1 : decode mX8_speed.2.1 1 = .ok (.getfield 50, 3) := by decide +kernel
theorem dX8_speed_4 : decode mX8_speed.2.1 4 = .ok (.sipush 293, 3) := by decide +kernel
theorem dX8_speed_7 : decode mX8_speed.2.1 7 = .ok (.iaload, 1) := by decide +kernel
theorem dX8_speed_8 : decode mX8_speed.2.1 8 = .ok (.ireturn, 1) := by decide +kernel
theorem dX8_isMet_0 : decode mX8_isMet.2.1 0 = .ok (.iconst 0, 1) := by decide +kernel
theorem dX8_isMet_1 : decode mX8_isMet.2.1 1 = .ok (.istore_n 2, 1) := by decide +kernel
theorem dX8_isMet_2 : decode mX8_isMet.2.1 2 = .ok (.iload_n 2, 1) := by decide +kernel
theorem dX8_isMet_3 : decode mX8_isMet.2.1 3 = .ok (.bipush 6, 2) := by decide +kernel
theorem dX8_isMet_5 : decode mX8_isMet.2.1 5 = .ok (.if_icmp .ge 20, 3) := by decide +kernel
theorem dX8_isMet_8 : decode mX8_isMet.2.1 8 = .ok (.aload_n 0, 1) := by decide +kernel
theorem dX8_isMet_9 : decode mX8_isMet.2.1 9 = .ok (.getfield 34, 3) := by decide +kernel
theorem dX8_isMet_12 : decode mX8_isMet.2.1 12 = .ok (.iload_n 2, 1) := by decide +kernel
theorem dX8_isMet_13 : decode mX8_isMet.2.1 13 = .ok (.aload_n 0, 1) := by decide +kernel
theorem dX8_isMet_14 : decode mX8_isMet.2.1 14 = .ok (.iload_n 2, 1) := by decide +kernel
theorem dX8_isMet_15 : decode mX8_isMet.2.1 15 = .ok (.invokevirtual 372, 3) := by decide +kernel
theorem dX8_isMet_18 : decode mX8_isMet.2.1 18 = .ok (.iastore, 1) := by decide +kernel
theorem dX8_isMet_19 : decode mX8_isMet.2.1 19 = .ok (.iinc 2 1, 3) := by decide +kernel
theorem dX8_isMet_22 : decode mX8_isMet.2.1 22 = .ok (.goto (-20), 3) := by decide +kernel
theorem dX8_isMet_25 : decode mX8_isMet.2.1 25 = .ok (.iconst 4, 1) := by decide +kernel
theorem dX8_isMet_26 : decode mX8_isMet.2.1 26 = .ok (.iload_n 1, 1) := by decide +kernel
theorem dX8_isMet_27 : decode mX8_isMet.2.1 27 = .ok (.iadd, 1) := by decide +kernel
theorem dX8_isMet_28 : decode mX8_isMet.2.1 28 = .ok (.istore_n 2, 1) := by decide +kernel
theorem dX8_isMet_29 : decode mX8_isMet.2.1 29 = .ok (.aload_n 0, 1) := by decide +kernel
theorem dX8_isMet_30 : decode mX8_isMet.2.1 30 = .ok (.iload_n 2, 1) := by decide +kernel
theorem dX8_isMet_31 : decode mX8_isMet.2.1 31 = .ok (.iconst 0, 1) := by decide +kernel
theorem dX8_isMet_32 : decode mX8_isMet.2.1 32 = .ok (.aload_n 0, 1) := by decide +kernel
theorem dX8_isMet_33 : decode mX8_isMet.2.1 33 = .ok (.getfield 19, 3) := by decide +kernel
theorem dX8_isMet_36 : decode mX8_isMet.2.1 36 = .ok (.iload_n 2, 1) := by decide +kernel
theorem dX8_isMet_37 : decode mX8_isMet.2.1 37 = .ok (.iaload, 1) := by decide +kernel
theorem dX8_isMet_38 : decode mX8_isMet.2.1 38 = .ok (.invokevirtual 196, 3) := by decide +kernel
theorem dX8_isMet_41 : decode mX8_isMet.2.1 41 = .ok (.ifCond .eq 7, 3) := by decide +kernel
theorem dX8_isMet_44 : decode mX8_isMet.2.1 44 = .ok (.iconst 1, 1) := by decide +kernel
theorem dX8_isMet_45 : decode mX8_isMet.2.1 45 = .ok (.goto 4, 3) := by decide +kernel
theorem dX8_isMet_48 : decode mX8_isMet.2.1 48 = .ok (.iconst 0, 1) := by decide +kernel
theorem dX8_isMet_49 : decode mX8_isMet.2.1 49 = .ok (.ireturn, 1) := by decide +kernel
theorem dX8_met_0 : decode mX8_met.2.1 0 = .ok (.iload_n 1, 1) := by decide +kernel
theorem dX8_met_1 : decode mX8_met.2.1 1 = .ok (.iconst 0, 1) := by decide +kernel
theorem dX8_met_2 : decode mX8_met.2.1 2 = .ok (.aload_n 0, 1) := by decide +kernel
theorem dX8_met_3 : decode mX8_met.2.1 3 = .ok (.getfield 238, 3) := by decide +kernel
theorem dX8_met_6 : decode mX8_met.2.1 6 = .ok (.iconst 1, 1) := by decide +kernel
theorem dX8_met_7 : decode mX8_met.2.1 7 = .ok (.isub, 1) := by decide +kernel
theorem dX8_met_8 : decode mX8_met.2.1 8 = .ok (.invokestatic 216, 3) := by decide +kernel
theorem dX8_met_11 : decode mX8_met.2.1 11 = .ok (.ifCond .eq 19, 3) := by decide +kernel
theorem dX8_met_14 : decode mX8_met.2.1 14 = .ok (.aload_n 0, 1) := by decide +kernel
theorem dX8_met_15 : decode mX8_met.2.1 15 = .ok (.iload_n 1, 1) := by decide +kernel
theorem dX8_met_16 : decode mX8_met.2.1 16 = .ok (.invokevirtual 375, 3) := by decide +kernel
theorem dX8_met_19 : decode mX8_met.2.1 19 = .ok (.ifCond .eq 7, 3) := by decide +kernel
theorem dX8_met_22 : decode mX8_met.2.1 22 = .ok (.iconst 1, 1) := by decide +kernel
theorem dX8_met_23 : decode mX8_met.2.1 23 = .ok (.goto 8, 3) := by decide +kernel
theorem dX8_met_26 : decode mX8_met.2.1 26 = .ok (.iconst 0, 1) := by decide +kernel
theorem dX8_met_27 : decode mX8_met.2.1 27 = .ok (.goto 4, 3) := by decide +kernel
theorem dX8_met_30 : decode mX8_met.2.1 30 = .ok (.iconst (-1), 1) := by decide +kernel
theorem dX8_met_31 : decode mX8_met.2.1 31 = .ok (.ireturn, 1) := by decide +kernel
theorem dX8_putAside_0 : decode mX8_putAside.2.1 0 = .ok (.iconst 0, 1) := by decide +kernel
theorem dX8_putAside_1 : decode mX8_putAside.2.1 1 = .ok (.istore_n 1, 1) := by decide +kernel
theorem dX8_putAside_2 : decode mX8_putAside.2.1 2 = .ok (.iload_n 1, 1) := by decide +kernel
theorem dX8_putAside_3 : decode mX8_putAside.2.1 3 = .ok (.sipush 416, 3) := by decide +kernel
theorem dX8_putAside_6 : decode mX8_putAside.2.1 6 = .ok (.if_icmp .ge 21, 3) := by decide +kernel
theorem dX8_putAside_9 : decode mX8_putAside.2.1 9 = .ok (.aload_n 0, 1) := by decide +kernel
theorem dX8_putAside_10 : decode mX8_putAside.2.1 10 = .ok (.getfield 53, 3) := by decide +kernel
theorem dX8_putAside_13 : decode mX8_putAside.2.1 13 = .ok (.iload_n 1, 1) := by decide +kernel
theorem dX8_putAside_14 : decode mX8_putAside.2.1 14 = .ok (.aload_n 0, 1) := by decide +kernel
theorem dX8_putAside_15 : decode mX8_putAside.2.1 15 = .ok (.getfield 50, 3) := by decide +kernel
theorem dX8_putAside_18 : decode mX8_putAside.2.1 18 = .ok (.iload_n 1, 1) := by decide +kernel
theorem dX8_putAside_19 : decode mX8_putAside.2.1 19 = .ok (.iaload, 1) := by decide +kernel
theorem dX8_putAside_20 : decode mX8_putAside.2.1 20 = .ok (.iastore, 1) := by decide +kernel
theorem dX8_putAside_21 : decode mX8_putAside.2.1 21 = .ok (.iinc 1 1, 3) := by decide +kernel
theorem dX8_putAside_24 : decode mX8_putAside.2.1 24 = .ok (.goto (-22), 3) := by decide +kernel
theorem dX8_putAside_27 : decode mX8_putAside.2.1 27 = .ok (.aload_n 0, 1) := by decide +kernel
theorem dX8_putAside_28 : decode mX8_putAside.2.1 28 = .ok (.aload_n 0, 1) := by decide +kernel
theorem dX8_putAside_29 : decode mX8_putAside.2.1 29 = .ok (.getfield 254, 3) := by decide +kernel
theorem dX8_putAside_32 : decode mX8_putAside.2.1 32 = .ok (.putfield 378, 3) := by decide +kernel
theorem dX8_putAside_35 : decode mX8_putAside.2.1 35 = .ok (.return_, 1) := by decide +kernel
theorem dX8_takeBack_0 : decode mX8_takeBack.2.1 0 = .ok (.iconst 0, 1) := by decide +kernel
theorem dX8_takeBack_1 : decode mX8_takeBack.2.1 1 = .ok (.istore_n 1, 1) := by decide +kernel
theorem dX8_takeBack_2 : decode mX8_takeBack.2.1 2 = .ok (.iload_n 1, 1) := by decide +kernel
theorem dX8_takeBack_3 : decode mX8_takeBack.2.1 3 = .ok (.sipush 416, 3) := by decide +kernel
theorem dX8_takeBack_6 : decode mX8_takeBack.2.1 6 = .ok (.if_icmp .ge 21, 3) := by decide +kernel
theorem dX8_takeBack_9 : decode mX8_takeBack.2.1 9 = .ok (.aload_n 0, 1) := by decide +kernel
theorem dX8_takeBack_10 : decode mX8_takeBack.2.1 10 = .ok (.getfield 50, 3) := by decide +kernel
theorem dX8_takeBack_13 : decode mX8_takeBack.2.1 13 = .ok (.iload_n 1, 1) := by decide +kernel
theorem dX8_takeBack_14 : decode mX8_takeBack.2.1 14 = .ok (.aload_n 0, 1) := by decide +kernel
theorem dX8_takeBack_15 : decode mX8_takeBack.2.1 15 = .ok (.getfield 53, 3) := by decide +kernel
theorem dX8_takeBack_18 : decode mX8_takeBack.2.1 18 = .ok (.iload_n 1, 1) := by decide +kernel
theorem dX8_takeBack_19 : decode mX8_takeBack.2.1 19 = .ok (.iaload, 1) := by decide +kernel
theorem dX8_takeBack_20 : decode mX8_takeBack.2.1 20 = .ok (.iastore, 1) := by decide +kernel
theorem dX8_takeBack_21 : decode mX8_takeBack.2.1 21 = .ok (.iinc 1 1, 3) := by decide +kernel
theorem dX8_takeBack_24 : decode mX8_takeBack.2.1 24 = .ok (.goto (-22), 3) := by decide +kernel
theorem dX8_takeBack_27 : decode mX8_takeBack.2.1 27 = .ok (.aload_n 0, 1) := by decide +kernel
theorem dX8_takeBack_28 : decode mX8_takeBack.2.1 28 = .ok (.aload_n 0, 1) := by decide +kernel
theorem dX8_takeBack_29 : decode mX8_takeBack.2.1 29 = .ok (.getfield 378, 3) := by decide +kernel
theorem dX8_takeBack_32 : decode mX8_takeBack.2.1 32 = .ok (.putfield 254, 3) := by decide +kernel
theorem dX8_takeBack_35 : decode mX8_takeBack.2.1 35 = .ok (.return_, 1) := by decide +kernel
theorem dX8_tryOut_0 : decode mX8_tryOut.2.1 0 = .ok (.aload_n 0, 1) := by decide +kernel
theorem dX8_tryOut_1 : decode mX8_tryOut.2.1 1 = .ok (.iload_n 1, 1) := by decide +kernel
theorem dX8_tryOut_2 : decode mX8_tryOut.2.1 2 = .ok (.lload_n 2, 1) := by decide +kernel
theorem dX8_tryOut_3 : decode mX8_tryOut.2.1 3 = .ok (.invokevirtual 281, 3) := by decide +kernel
theorem dX8_tryOut_6 : decode mX8_tryOut.2.1 6 = .ok (.aload_n 0, 1) := by decide +kernel
theorem dX8_tryOut_7 : decode mX8_tryOut.2.1 7 = .ok (.iload 4, 2) := by decide +kernel
theorem dX8_tryOut_9 : decode mX8_tryOut.2.1 9 = .ok (.invokevirtual 350, 3) := by decide +kernel
theorem dX8_tryOut_12 : decode mX8_tryOut.2.1 12 = .ok (.pop, 1) := by decide +kernel
theorem dX8_tryOut_13 : decode mX8_tryOut.2.1 13 = .ok (.return_, 1) := by decide +kernel
theorem dX8_areTicks_0 : decode mX8_areTicks.2.1 0 = .ok (.iload_n 0, 1) := by decide +kernel
theorem dX8_areTicks_1 : decode mX8_areTicks.2.1 1 = .ok (.iconst 1, 1) := by decide +kernel
theorem dX8_areTicks_2 : decode mX8_areTicks.2.1 2 = .ok (.bipush 60, 2) := by decide +kernel
theorem dX8_areTicks_4 : decode mX8_areTicks.2.1 4 = .ok (.invokestatic 216, 3) := by decide +kernel
theorem dX8_areTicks_7 : decode mX8_areTicks.2.1 7 = .ok (.ireturn, 1) := by decide +kernel
theorem dX8_tried_0 : decode mX8_tried.2.1 0 = .ok (.aload_n 0, 1) := by decide +kernel
theorem dX8_tried_1 : decode mX8_tried.2.1 1 = .ok (.iload_n 1, 1) := by decide +kernel
theorem dX8_tried_2 : decode mX8_tried.2.1 2 = .ok (.invokevirtual 272, 3) := by decide +kernel
theorem dX8_tried_5 : decode mX8_tried.2.1 5 = .ok (.ifCond .eq 38, 3) := by decide +kernel
theorem dX8_tried_8 : decode mX8_tried.2.1 8 = .ok (.aload_n 0, 1) := by decide +kernel
theorem dX8_tried_9 : decode mX8_tried.2.1 9 = .ok (.iload_n 2, 1) := by decide +kernel
theorem dX8_tried_10 : decode mX8_tried.2.1 10 = .ok (.invokevirtual 275, 3) := by decide +kernel
theorem dX8_tried_13 : decode mX8_tried.2.1 13 = .ok (.ifCond .eq 30, 3) := by decide +kernel
theorem dX8_tried_16 : decode mX8_tried.2.1 16 = .ok (.aload_n 0, 1) := by decide +kernel
theorem dX8_tried_17 : decode mX8_tried.2.1 17 = .ok (.iload_n 2, 1) := by decide +kernel
theorem dX8_tried_18 : decode mX8_tried.2.1 18 = .ok (.invokevirtual 278, 3) := by decide +kernel
theorem dX8_tried_21 : decode mX8_tried.2.1 21 = .ok (.ifCond .eq 22, 3) := by decide +kernel
theorem dX8_tried_24 : decode mX8_tried.2.1 24 = .ok (.iload 5, 2) := by decide +kernel
theorem dX8_tried_26 : decode mX8_tried.2.1 26 = .ok (.invokestatic 381, 3) := by decide +kernel
theorem dX8_tried_29 : decode mX8_tried.2.1 29 = .ok (.ifCond .eq 14, 3) := by decide +kernel
theorem dX8_tried_32 : decode mX8_tried.2.1 32 = .ok (.iload 6, 2) := by decide +kernel
theorem dX8_tried_34 : decode mX8_tried.2.1 34 = .ok (.iconst 0, 1) := by decide +kernel
theorem dX8_tried_35 : decode mX8_tried.2.1 35 = .ok (.bipush 32, 2) := by decide +kernel
theorem dX8_tried_37 : decode mX8_tried.2.1 37 = .ok (.invokestatic 216, 3) := by decide +kernel
theorem dX8_tried_40 : decode mX8_tried.2.1 40 = .ok (.ifCond .ne 5, 3) := by decide +kernel
theorem dX8_tried_43 : decode mX8_tried.2.1 43 = .ok (.iconst (-1), 1) := by decide +kernel
theorem dX8_tried_44 : decode mX8_tried.2.1 44 = .ok (.ireturn, 1) := by decide +kernel
theorem dX8_tried_45 : decode mX8_tried.2.1 45 = .ok (.aload_n 0, 1) := by decide +kernel
theorem dX8_tried_46 : decode mX8_tried.2.1 46 = .ok (.invokevirtual 384, 3) := by decide +kernel
theorem dX8_tried_49 : decode mX8_tried.2.1 49 = .ok (.aload_n 0, 1) := by decide +kernel
theorem dX8_tried_50 : decode mX8_tried.2.1 50 = .ok (.iload_n 1, 1) := by decide +kernel
theorem dX8_tried_51 : decode mX8_tried.2.1 51 = .ok (.lload_n 3, 1) := by decide +kernel
theorem dX8_tried_52 : decode mX8_tried.2.1 52 = .ok (.iload 5, 2) := by decide +kernel
theorem dX8_tried_54 : decode mX8_tried.2.1 54 = .ok (.invokevirtual 387, 3) := by decide +kernel
theorem dX8_tried_57 : decode mX8_tried.2.1 57 = .ok (.iload 6, 2) := by decide +kernel
theorem dX8_tried_59 : decode mX8_tried.2.1 59 = .ok (.bipush 8, 2) := by decide +kernel
theorem dX8_tried_61 : decode mX8_tried.2.1 61 = .ok (.if_icmp .le 15, 3) := by decide +kernel
theorem dX8_tried_64 : decode mX8_tried.2.1 64 = .ok (.aload_n 0, 1) := by decide +kernel
theorem dX8_tried_65 : decode mX8_tried.2.1 65 = .ok (.iload 6, 2) := by decide +kernel
theorem dX8_tried_67 : decode mX8_tried.2.1 67 = .ok (.bipush 9, 2) := by decide +kernel
theorem dX8_tried_69 : decode mX8_tried.2.1 69 = .ok (.isub, 1) := by decide +kernel
theorem dX8_tried_70 : decode mX8_tried.2.1 70 = .ok (.invokevirtual 357, 3) := by decide +kernel
theorem dX8_tried_73 : decode mX8_tried.2.1 73 = .ok (.goto 9, 3) := by decide +kernel
theorem dX8_tried_76 : decode mX8_tried.2.1 76 = .ok (.aload_n 0, 1) := by decide +kernel
theorem dX8_tried_77 : decode mX8_tried.2.1 77 = .ok (.iload 6, 2) := by decide +kernel
theorem dX8_tried_79 : decode mX8_tried.2.1 79 = .ok (.invokevirtual 372, 3) := by decide +kernel
theorem dX8_tried_82 : decode mX8_tried.2.1 82 = .ok (.istore 7, 2) := by decide +kernel
theorem dX8_tried_84 : decode mX8_tried.2.1 84 = .ok (.aload_n 0, 1) := by decide +kernel
theorem dX8_tried_85 : decode mX8_tried.2.1 85 = .ok (.invokevirtual 391, 3) := by decide +kernel
theorem dX8_tried_88 : decode mX8_tried.2.1 88 = .ok (.iload 7, 2) := by decide +kernel
theorem dX8_tried_90 : decode mX8_tried.2.1 90 = .ok (.ireturn, 1) := by decide +kernel
theorem dX8_least_0 : decode mX8_least.2.1 0 = .ok (.aload_n 0, 1) := by decide +kernel
theorem dX8_least_1 : decode mX8_least.2.1 1 = .ok (.iload_n 1, 1) := by decide +kernel
theorem dX8_least_2 : decode mX8_least.2.1 2 = .ok (.invokevirtual 272, 3) := by decide +kernel
theorem dX8_least_5 : decode mX8_least.2.1 5 = .ok (.ifCond .eq 50, 3) := by decide +kernel
theorem dX8_least_8 : decode mX8_least.2.1 8 = .ok (.aload_n 0, 1) := by decide +kernel
theorem dX8_least_9 : decode mX8_least.2.1 9 = .ok (.iload_n 2, 1) := by decide +kernel
theorem dX8_least_10 : decode mX8_least.2.1 10 = .ok (.invokevirtual 244, 3) := by decide +kernel
theorem dX8_least_13 : decode mX8_least.2.1 13 = .ok (.ifCond .eq 42, 3) := by decide +kernel
theorem dX8_least_16 : decode mX8_least.2.1 16 = .ok (.iload_n 3, 1) := by decide +kernel
theorem dX8_least_17 : decode mX8_least.2.1 17 = .ok (.iconst 3, 1) := by decide +kernel
theorem dX8_least_18 : decode mX8_least.2.1 18 = .ok (.bipush 9, 2) := by decide +kernel
theorem dX8_least_20 : decode mX8_least.2.1 20 = .ok (.invokestatic 216, 3) := by decide +kernel
theorem dX8_least_23 : decode mX8_least.2.1 23 = .ok (.ifCond .eq 32, 3) := by decide +kernel
theorem dX8_least_26 : decode mX8_least.2.1 26 = .ok (.iload_n 3, 1) := by decide +kernel
theorem dX8_least_27 : decode mX8_least.2.1 27 = .ok (.bipush 8, 2) := by decide +kernel
theorem dX8_least_29 : decode mX8_least.2.1 29 = .ok (.if_icmp .eq 26, 3) := by decide +kernel
theorem dX8_least_32 : decode mX8_least.2.1 32 = .ok (.iload 4, 2) := by decide +kernel
theorem dX8_least_34 : decode mX8_least.2.1 34 = .ok (.iconst 0, 1) := by decide +kernel
theorem dX8_least_35 : decode mX8_least.2.1 35 = .ok (.aload_n 0, 1) := by decide +kernel
theorem dX8_least_36 : decode mX8_least.2.1 36 = .ok (.getfield 238, 3) := by decide +kernel
theorem dX8_least_39 : decode mX8_least.2.1 39 = .ok (.iconst 1, 1) := by decide +kernel
theorem dX8_least_40 : decode mX8_least.2.1 40 = .ok (.isub, 1) := by decide +kernel
theorem dX8_least_41 : decode mX8_least.2.1 41 = .ok (.invokestatic 216, 3) := by decide +kernel
theorem dX8_least_44 : decode mX8_least.2.1 44 = .ok (.ifCond .eq 11, 3) := by decide +kernel
theorem dX8_least_47 : decode mX8_least.2.1 47 = .ok (.iload 7, 2) := by decide +kernel
theorem dX8_least_49 : decode mX8_least.2.1 49 = .ok (.invokestatic 381, 3) := by decide +kernel
theorem dX8_least_52 : decode mX8_least.2.1 52 = .ok (.ifCond .ne 5, 3) := by decide +kernel
theorem dX8_least_55 : decode mX8_least.2.1 55 = .ok (.iconst (-1), 1) := by decide +kernel
theorem dX8_least_56 : decode mX8_least.2.1 56 = .ok (.ireturn, 1) := by decide +kernel
theorem dX8_least_57 : decode mX8_least.2.1 57 = .ok (.aload_n 0, 1) := by decide +kernel
theorem dX8_least_58 : decode mX8_least.2.1 58 = .ok (.getfield 40, 3) := by decide +kernel
theorem dX8_least_61 : decode mX8_least.2.1 61 = .ok (.bipush 12, 2) := by decide +kernel
theorem dX8_least_63 : decode mX8_least.2.1 63 = .ok (.iload_n 2, 1) := by decide +kernel
theorem dX8_least_64 : decode mX8_least.2.1 64 = .ok (.imul, 1) := by decide +kernel
theorem dX8_least_65 : decode mX8_least.2.1 65 = .ok (.iload_n 3, 1) := by decide +kernel
theorem dX8_least_66 : decode mX8_least.2.1 66 = .ok (.iadd, 1) := by decide +kernel
theorem dX8_least_67 : decode mX8_least.2.1 67 = .ok (.iaload, 1) := by decide +kernel
theorem dX8_least_68 : decode mX8_least.2.1 68 = .ok (.istore 8, 2) := by decide +kernel
theorem dX8_least_70 : decode mX8_least.2.1 70 = .ok (.aload_n 0, 1) := by decide +kernel
theorem dX8_least_71 : decode mX8_least.2.1 71 = .ok (.invokevirtual 384, 3) := by decide +kernel
theorem dX8_least_74 : decode mX8_least.2.1 74 = .ok (.iconst (-1), 1) := by decide +kernel
theorem dX8_least_75 : decode mX8_least.2.1 75 = .ok (.istore 9, 2) := by decide +kernel
theorem dX8_least_77 : decode mX8_least.2.1 77 = .ok (.iconst 0, 1) := by decide +kernel
theorem dX8_least_78 : decode mX8_least.2.1 78 = .ok (.istore 10, 2) := by decide +kernel
theorem dX8_least_80 : decode mX8_least.2.1 80 = .ok (.iload 10, 2) := by decide +kernel
theorem dX8_least_82 : decode mX8_least.2.1 82 = .ok (.bipush 60, 2) := by decide +kernel
theorem dX8_least_84 : decode mX8_least.2.1 84 = .ok (.if_icmp .gt 62, 3) := by decide +kernel
theorem dX8_least_87 : decode mX8_least.2.1 87 = .ok (.iload 9, 2) := by decide +kernel
theorem dX8_least_89 : decode mX8_least.2.1 89 = .ok (.iconst (-1), 1) := by decide +kernel
theorem dX8_least_90 : decode mX8_least.2.1 90 = .ok (.if_icmp .ne 56, 3) := by decide +kernel
theorem dX8_least_93 : decode mX8_least.2.1 93 = .ok (.aload_n 0, 1) := by decide +kernel
theorem dX8_least_94 : decode mX8_least.2.1 94 = .ok (.getfield 40, 3) := by decide +kernel
theorem dX8_least_97 : decode mX8_least.2.1 97 = .ok (.bipush 12, 2) := by decide +kernel
theorem dX8_least_99 : decode mX8_least.2.1 99 = .ok (.iload_n 2, 1) := by decide +kernel
theorem dX8_least_100 : decode mX8_least.2.1 100 = .ok (.imul, 1) := by decide +kernel
theorem dX8_least_101 : decode mX8_least.2.1 101 = .ok (.iload_n 3, 1) := by decide +kernel
theorem dX8_least_102 : decode mX8_least.2.1 102 = .ok (.iadd, 1) := by decide +kernel
theorem dX8_least_103 : decode mX8_least.2.1 103 = .ok (.iload 10, 2) := by decide +kernel
theorem dX8_least_105 : decode mX8_least.2.1 105 = .ok (.iastore, 1) := by decide +kernel
theorem dX8_least_106 : decode mX8_least.2.1 106 = .ok (.aload_n 0, 1) := by decide +kernel
theorem dX8_least_107 : decode mX8_least.2.1 107 = .ok (.iconst 1, 1) := by decide +kernel
theorem dX8_least_108 : decode mX8_least.2.1 108 = .ok (.iload_n 2, 1) := by decide +kernel
theorem dX8_least_109 : decode mX8_least.2.1 109 = .ok (.ishl, 1) := by decide +kernel
theorem dX8_least_110 : decode mX8_least.2.1 110 = .ok (.invokevirtual 278, 3) := by decide +kernel
theorem dX8_least_113 : decode mX8_least.2.1 113 = .ok (.pop, 1) := by decide +kernel
theorem dX8_least_114 : decode mX8_least.2.1 114 = .ok (.aload_n 0, 1) := by decide +kernel
theorem dX8_least_115 : decode mX8_least.2.1 115 = .ok (.iload_n 1, 1) := by decide +kernel
theorem dX8_least_116 : decode mX8_least.2.1 116 = .ok (.lload 5, 2) := by decide +kernel
theorem dX8_least_118 : decode mX8_least.2.1 118 = .ok (.iload 7, 2) := by decide +kernel
theorem dX8_least_120 : decode mX8_least.2.1 120 = .ok (.invokevirtual 387, 3) := by decide +kernel
theorem dX8_least_123 : decode mX8_least.2.1 123 = .ok (.aload_n 0, 1) := by decide +kernel
theorem dX8_least_124 : decode mX8_least.2.1 124 = .ok (.iload 4, 2) := by decide +kernel
theorem dX8_least_126 : decode mX8_least.2.1 126 = .ok (.invokevirtual 375, 3) := by decide +kernel
theorem dX8_least_129 : decode mX8_least.2.1 129 = .ok (.ifCond .eq 8, 3) := by decide +kernel
theorem dX8_least_132 : decode mX8_least.2.1 132 = .ok (.iload 10, 2) := by decide +kernel
theorem dX8_least_134 : decode mX8_least.2.1 134 = .ok (.goto 4, 3) := by decide +kernel
theorem dX8_least_137 : decode mX8_least.2.1 137 = .ok (.iconst (-1), 1) := by decide +kernel
theorem dX8_least_138 : decode mX8_least.2.1 138 = .ok (.istore 9, 2) := by decide +kernel
theorem dX8_least_140 : decode mX8_least.2.1 140 = .ok (.iinc 10 1, 3) := by decide +kernel
theorem dX8_least_143 : decode mX8_least.2.1 143 = .ok (.goto (-63), 3) := by decide +kernel
theorem dX8_least_146 : decode mX8_least.2.1 146 = .ok (.aload_n 0, 1) := by decide +kernel
theorem dX8_least_147 : decode mX8_least.2.1 147 = .ok (.getfield 40, 3) := by decide +kernel
theorem dX8_least_150 : decode mX8_least.2.1 150 = .ok (.bipush 12, 2) := by decide +kernel
theorem dX8_least_152 : decode mX8_least.2.1 152 = .ok (.iload_n 2, 1) := by decide +kernel
theorem dX8_least_153 : decode mX8_least.2.1 153 = .ok (.imul, 1) := by decide +kernel
theorem dX8_least_154 : decode mX8_least.2.1 154 = .ok (.iload_n 3, 1) := by decide +kernel
theorem dX8_least_155 : decode mX8_least.2.1 155 = .ok (.iadd, 1) := by decide +kernel
theorem dX8_least_156 : decode mX8_least.2.1 156 = .ok (.iload 8, 2) := by decide +kernel
theorem dX8_least_158 : decode mX8_least.2.1 158 = .ok (.iastore, 1) := by decide +kernel
theorem dX8_least_159 : decode mX8_least.2.1 159 = .ok (.aload_n 0, 1) := by decide +kernel
theorem dX8_least_160 : decode mX8_least.2.1 160 = .ok (.invokevirtual 391, 3) := by decide +kernel
theorem dX8_least_163 : decode mX8_least.2.1 163 = .ok (.iload 9, 2) := by decide +kernel
theorem dX8_least_165 : decode mX8_least.2.1 165 = .ok (.ireturn, 1) := by decide +kernel
theorem dX8_stain_0 : decode mX8_stain.2.1 0 = .ok (.aload_n 0, 1) := by decide +kernel
theorem dX8_stain_1 : decode mX8_stain.2.1 1 = .ok (.getfield 394, 3) := by decide +kernel
theorem dX8_stain_4 : decode mX8_stain.2.1 4 = .ok (.bipush 6, 2) := by decide +kernel
theorem dX8_stain_6 : decode mX8_stain.2.1 6 = .ok (.if_icmp .ne 5, 3) := by decide +kernel
theorem dX8_stain_9 : decode mX8_stain.2.1 9 = .ok (.iconst (-1), 1) := by decide +kernel
theorem dX8_stain_10 : decode mX8_stain.2.1 10 = .ok (.ireturn, 1) := by decide +kernel
theorem dX8_stain_11 : decode mX8_stain.2.1 11 = .ok (.aload_n 0, 1) := by decide +kernel
theorem dX8_stain_12 : decode mX8_stain.2.1 12 = .ok (.dup, 1) := by decide +kernel
theorem dX8_stain_13 : decode mX8_stain.2.1 13 = .ok (.getfield 394, 3) := by decide +kernel
theorem dX8_stain_16 : decode mX8_stain.2.1 16 = .ok (.iconst 1, 1) := by decide +kernel
theorem dX8_stain_17 : decode mX8_stain.2.1 17 = .ok (.iadd, 1) := by decide +kernel
theorem dX8_stain_18 : decode mX8_stain.2.1 18 = .ok (.putfield 394, 3) := by decide +kernel
theorem dX8_stain_21 : decode mX8_stain.2.1 21 = .ok (.aload_n 0, 1) := by decide +kernel
theorem dX8_stain_22 : decode mX8_stain.2.1 22 = .ok (.getfield 394, 3) := by decide +kernel
theorem dX8_stain_25 : decode mX8_stain.2.1 25 = .ok (.iconst 1, 1) := by decide +kernel
theorem dX8_stain_26 : decode mX8_stain.2.1 26 = .ok (.isub, 1) := by decide +kernel
theorem dX8_stain_27 : decode mX8_stain.2.1 27 = .ok (.ireturn, 1) := by decide +kernel
theorem dX8_isStain_0 : decode mX8_isStain.2.1 0 = .ok (.iload_n 1, 1) := by decide +kernel
theorem dX8_isStain_1 : decode mX8_isStain.2.1 1 = .ok (.iconst 0, 1) := by decide +kernel
theorem dX8_isStain_2 : decode mX8_isStain.2.1 2 = .ok (.aload_n 0, 1) := by decide +kernel
theorem dX8_isStain_3 : decode mX8_isStain.2.1 3 = .ok (.getfield 394, 3) := by decide +kernel
theorem dX8_isStain_6 : decode mX8_isStain.2.1 6 = .ok (.iconst 1, 1) := by decide +kernel
theorem dX8_isStain_7 : decode mX8_isStain.2.1 7 = .ok (.isub, 1) := by decide +kernel
theorem dX8_isStain_8 : decode mX8_isStain.2.1 8 = .ok (.invokestatic 216, 3) := by decide +kernel
theorem dX8_isStain_11 : decode mX8_isStain.2.1 11 = .ok (.ireturn, 1) := by decide +kernel
theorem dX8_grain_0 : decode mX8_grain.2.1 0 = .ok (.aload_n 0, 1) := by decide +kernel
theorem dX8_grain_1 : decode mX8_grain.2.1 1 = .ok (.iload_n 1, 1) := by decide +kernel
theorem dX8_grain_2 : decode mX8_grain.2.1 2 = .ok (.invokevirtual 397, 3) := by decide +kernel
theorem dX8_grain_5 : decode mX8_grain.2.1 5 = .ok (.ifCond .eq 21, 3) := by decide +kernel
theorem dX8_grain_8 : decode mX8_grain.2.1 8 = .ok (.iload_n 2, 1) := by decide +kernel
theorem dX8_grain_9 : decode mX8_grain.2.1 9 = .ok (.invokestatic 353, 3) := by decide +kernel
theorem dX8_grain_12 : decode mX8_grain.2.1 12 = .ok (.ifCond .eq 14, 3) := by decide +kernel
theorem dX8_grain_15 : decode mX8_grain.2.1 15 = .ok (.iload_n 3, 1) := by decide +kernel
theorem dX8_grain_16 : decode mX8_grain.2.1 16 = .ok (.iconst 0, 1) := by decide +kernel
theorem dX8_grain_17 : decode mX8_grain.2.1 17 = .ok (.sipush 9999, 3) := by decide +kernel
theorem dX8_grain_20 : decode mX8_grain.2.1 20 = .ok (.invokestatic 216, 3) := by decide +kernel
theorem dX8_grain_23 : decode mX8_grain.2.1 23 = .ok (.ifCond .ne 5, 3) := by decide +kernel
theorem dX8_grain_26 : decode mX8_grain.2.1 26 = .ok (.iconst 0, 1) := by decide +kernel
theorem dX8_grain_27 : decode mX8_grain.2.1 27 = .ok (.ireturn, 1) := by decide +kernel
theorem dX8_grain_28 : decode mX8_grain.2.1 28 = .ok (.aload_n 0, 1) := by decide +kernel
theorem dX8_grain_29 : decode mX8_grain.2.1 29 = .ok (.getfield 74, 3) := by decide +kernel
theorem dX8_grain_32 : decode mX8_grain.2.1 32 = .ok (.bipush 24, 2) := by decide +kernel
theorem dX8_grain_34 : decode mX8_grain.2.1 34 = .ok (.iload_n 1, 1) := by decide +kernel
theorem dX8_grain_35 : decode mX8_grain.2.1 35 = .ok (.imul, 1) := by decide +kernel
theorem dX8_grain_36 : decode mX8_grain.2.1 36 = .ok (.iload_n 2, 1) := by decide +kernel
theorem dX8_grain_37 : decode mX8_grain.2.1 37 = .ok (.iadd, 1) := by decide +kernel
theorem dX8_grain_38 : decode mX8_grain.2.1 38 = .ok (.iload_n 3, 1) := by decide +kernel
theorem dX8_grain_39 : decode mX8_grain.2.1 39 = .ok (.iastore, 1) := by decide +kernel
theorem dX8_grain_40 : decode mX8_grain.2.1 40 = .ok (.iconst 1, 1) := by decide +kernel
theorem dX8_grain_41 : decode mX8_grain.2.1 41 = .ok (.ireturn, 1) := by decide +kernel
theorem dX8_print_0 : decode mX8_print.2.1 0 = .ok (.aload_n 0, 1) := by decide +kernel
theorem dX8_print_1 : decode mX8_print.2.1 1 = .ok (.iload_n 1, 1) := by decide +kernel
theorem dX8_print_2 : decode mX8_print.2.1 2 = .ok (.invokevirtual 397, 3) := by decide +kernel
theorem dX8_print_5 : decode mX8_print.2.1 5 = .ok (.ifCond .ne 5, 3) := by decide +kernel
theorem dX8_print_8 : decode mX8_print.2.1 8 = .ok (.iconst (-1), 1) := by decide +kernel
theorem dX8_print_9 : decode mX8_print.2.1 9 = .ok (.ireturn, 1) := by decide +kernel
theorem dX8_print_10 : decode mX8_print.2.1 10 = .ok (.iconst 0, 1) := by decide +kernel
theorem dX8_print_11 : decode mX8_print.2.1 11 = .ok (.istore_n 2, 1) := by decide +kernel
theorem dX8_print_12 : decode mX8_print.2.1 12 = .ok (.iconst 0, 1) := by decide +kernel
theorem dX8_print_13 : decode mX8_print.2.1 13 = .ok (.istore_n 3, 1) := by decide +kernel
theorem dX8_print_14 : decode mX8_print.2.1 14 = .ok (.iload_n 3, 1) := by decide +kernel
theorem dX8_print_15 : decode mX8_print.2.1 15 = .ok (.bipush 24, 2) := by decide +kernel
theorem dX8_print_17 : decode mX8_print.2.1 17 = .ok (.if_icmp .ge 33, 3) := by decide +kernel
theorem dX8_print_20 : decode mX8_print.2.1 20 = .ok (.aload_n 0, 1) := by decide +kernel
theorem dX8_print_21 : decode mX8_print.2.1 21 = .ok (.getfield 74, 3) := by decide +kernel
theorem dX8_print_24 : decode mX8_print.2.1 24 = .ok (.bipush 24, 2) := by decide +kernel
theorem dX8_print_26 : decode mX8_print.2.1 26 = .ok (.iload_n 1, 1) := by decide +kernel
theorem dX8_print_27 : decode mX8_print.2.1 27 = .ok (.imul, 1) := by decide +kernel
theorem dX8_print_28 : decode mX8_print.2.1 28 = .ok (.iload_n 3, 1) := by decide +kernel
theorem dX8_print_29 : decode mX8_print.2.1 29 = .ok (.iadd, 1) := by decide +kernel
theorem dX8_print_30 : decode mX8_print.2.1 30 = .ok (.aload_n 0, 1) := by decide +kernel
theorem dX8_print_31 : decode mX8_print.2.1 31 = .ok (.iload_n 3, 1) := by decide +kernel
theorem dX8_print_32 : decode mX8_print.2.1 32 = .ok (.invokevirtual 357, 3) := by decide +kernel
theorem dX8_print_35 : decode mX8_print.2.1 35 = .ok (.iastore, 1) := by decide +kernel
theorem dX8_print_36 : decode mX8_print.2.1 36 = .ok (.iload_n 2, 1) := by decide +kernel
theorem dX8_print_37 : decode mX8_print.2.1 37 = .ok (.aload_n 0, 1) := by decide +kernel
theorem dX8_print_38 : decode mX8_print.2.1 38 = .ok (.iload_n 3, 1) := by decide +kernel
theorem dX8_print_39 : decode mX8_print.2.1 39 = .ok (.invokevirtual 357, 3) := by decide +kernel
theorem dX8_print_42 : decode mX8_print.2.1 42 = .ok (.iadd, 1) := by decide +kernel
theorem dX8_print_43 : decode mX8_print.2.1 43 = .ok (.istore_n 2, 1) := by decide +kernel
theorem dX8_print_44 : decode mX8_print.2.1 44 = .ok (.iinc 3 1, 3) := by decide +kernel
theorem dX8_print_47 : decode mX8_print.2.1 47 = .ok (.goto (-33), 3) := by decide +kernel
theorem dX8_print_50 : decode mX8_print.2.1 50 = .ok (.iload_n 2, 1) := by decide +kernel
theorem dX8_print_51 : decode mX8_print.2.1 51 = .ok (.ireturn, 1) := by decide +kernel
theorem dX8_isRead_0 : decode mX8_isRead.2.1 0 = .ok (.iconst 0, 1) := by decide +kernel
theorem dX8_isRead_1 : decode mX8_isRead.2.1 1 = .ok (.istore_n 3, 1) := by decide +kernel
theorem dX8_isRead_2 : decode mX8_isRead.2.1 2 = .ok (.iload_n 3, 1) := by decide +kernel
theorem dX8_isRead_3 : decode mX8_isRead.2.1 3 = .ok (.bipush 24, 2) := by decide +kernel
theorem dX8_isRead_5 : decode mX8_isRead.2.1 5 = .ok (.if_icmp .ge 35, 3) := by decide +kernel
theorem dX8_isRead_8 : decode mX8_isRead.2.1 8 = .ok (.aload_n 0, 1) := by decide +kernel
theorem dX8_isRead_9 : decode mX8_isRead.2.1 9 = .ok (.iload_n 3, 1) := by decide +kernel
theorem dX8_isRead_10 : decode mX8_isRead.2.1 10 = .ok (.invokevirtual 357, 3) := by decide +kernel
theorem dX8_isRead_13 : decode mX8_isRead.2.1 13 = .ok (.aload_n 0, 1) := by decide +kernel
theorem dX8_isRead_14 : decode mX8_isRead.2.1 14 = .ok (.getfield 74, 3) := by decide +kernel
theorem dX8_isRead_17 : decode mX8_isRead.2.1 17 = .ok (.bipush 24, 2) := by decide +kernel
theorem dX8_isRead_19 : decode mX8_isRead.2.1 19 = .ok (.iload_n 1, 1) := by decide +kernel
theorem dX8_isRead_20 : decode mX8_isRead.2.1 20 = .ok (.imul, 1) := by decide +kernel
theorem dX8_isRead_21 : decode mX8_isRead.2.1 21 = .ok (.iload_n 3, 1) := by decide +kernel
theorem dX8_isRead_22 : decode mX8_isRead.2.1 22 = .ok (.iadd, 1) := by decide +kernel
theorem dX8_isRead_23 : decode mX8_isRead.2.1 23 = .ok (.iaload, 1) := by decide +kernel
theorem dX8_isRead_24 : decode mX8_isRead.2.1 24 = .ok (.isub, 1) := by decide +kernel
theorem dX8_isRead_25 : decode mX8_isRead.2.1 25 = .ok (.invokestatic 308, 3) := by decide +kernel
theorem dX8_isRead_28 : decode mX8_isRead.2.1 28 = .ok (.iload_n 2, 1) := by decide +kernel
theorem dX8_isRead_29 : decode mX8_isRead.2.1 29 = .ok (.if_icmp .le 5, 3) := by decide +kernel
theorem dX8_isRead_32 : decode mX8_isRead.2.1 32 = .ok (.iconst 0, 1) := by decide +kernel
theorem dX8_isRead_33 : decode mX8_isRead.2.1 33 = .ok (.ireturn, 1) := by decide +kernel
theorem dX8_isRead_34 : decode mX8_isRead.2.1 34 = .ok (.iinc 3 1, 3) := by decide +kernel
theorem dX8_isRead_37 : decode mX8_isRead.2.1 37 = .ok (.goto (-35), 3) := by decide +kernel
theorem dX8_isRead_40 : decode mX8_isRead.2.1 40 = .ok (.iconst 1, 1) := by decide +kernel
theorem dX8_isRead_41 : decode mX8_isRead.2.1 41 = .ok (.ireturn, 1) := by decide +kernel
theorem dX8_read_0 : decode mX8_read.2.1 0 = .ok (.aload_n 0, 1) := by decide +kernel
theorem dX8_read_1 : decode mX8_read.2.1 1 = .ok (.iload_n 1, 1) := by decide +kernel
theorem dX8_read_2 : decode mX8_read.2.1 2 = .ok (.invokevirtual 397, 3) := by decide +kernel
theorem dX8_read_5 : decode mX8_read.2.1 5 = .ok (.ifCond .eq 42, 3) := by decide +kernel
theorem dX8_read_8 : decode mX8_read.2.1 8 = .ok (.aload_n 0, 1) := by decide +kernel
theorem dX8_read_9 : decode mX8_read.2.1 9 = .ok (.iload_n 2, 1) := by decide +kernel
theorem dX8_read_10 : decode mX8_read.2.1 10 = .ok (.invokevirtual 272, 3) := by decide +kernel
theorem dX8_read_13 : decode mX8_read.2.1 13 = .ok (.ifCond .eq 34, 3) := by decide +kernel
theorem dX8_read_16 : decode mX8_read.2.1 16 = .ok (.iload_n 3, 1) := by decide +kernel
theorem dX8_read_17 : decode mX8_read.2.1 17 = .ok (.ifCond .eq 11, 3) := by decide +kernel
theorem dX8_read_20 : decode mX8_read.2.1 20 = .ok (.aload_n 0, 1) := by decide +kernel
theorem dX8_read_21 : decode mX8_read.2.1 21 = .ok (.iload_n 3, 1) := by decide +kernel
theorem dX8_read_22 : decode mX8_read.2.1 22 = .ok (.invokevirtual 275, 3) := by decide +kernel
theorem dX8_read_25 : decode mX8_read.2.1 25 = .ok (.ifCond .eq 22, 3) := by decide +kernel
theorem dX8_read_28 : decode mX8_read.2.1 28 = .ok (.iload 6, 2) := by decide +kernel
theorem dX8_read_30 : decode mX8_read.2.1 30 = .ok (.invokestatic 381, 3) := by decide +kernel
theorem dX8_read_33 : decode mX8_read.2.1 33 = .ok (.ifCond .eq 14, 3) := by decide +kernel
theorem dX8_read_36 : decode mX8_read.2.1 36 = .ok (.iload 7, 2) := by decide +kernel
theorem dX8_read_38 : decode mX8_read.2.1 38 = .ok (.iconst 0, 1) := by decide +kernel
theorem dX8_read_39 : decode mX8_read.2.1 39 = .ok (.bipush 99, 2) := by decide +kernel
theorem dX8_read_41 : decode mX8_read.2.1 41 = .ok (.invokestatic 216, 3) := by decide +kernel
theorem dX8_read_44 : decode mX8_read.2.1 44 = .ok (.ifCond .ne 5, 3) := by decide +kernel
theorem dX8_read_47 : decode mX8_read.2.1 47 = .ok (.iconst (-1), 1) := by decide +kernel
theorem dX8_read_48 : decode mX8_read.2.1 48 = .ok (.ireturn, 1) := by decide +kernel
theorem dX8_read_49 : decode mX8_read.2.1 49 = .ok (.aload_n 0, 1) := by decide +kernel
theorem dX8_read_50 : decode mX8_read.2.1 50 = .ok (.invokevirtual 384, 3) := by decide +kernel
theorem dX8_read_53 : decode mX8_read.2.1 53 = .ok (.iconst 0, 1) := by decide +kernel
theorem dX8_read_54 : decode mX8_read.2.1 54 = .ok (.istore 8, 2) := by decide +kernel
theorem dX8_read_56 : decode mX8_read.2.1 56 = .ok (.iconst 0, 1) := by decide +kernel
theorem dX8_read_57 : decode mX8_read.2.1 57 = .ok (.istore 9, 2) := by decide +kernel
theorem dX8_read_59 : decode mX8_read.2.1 59 = .ok (.iload 9, 2) := by decide +kernel
theorem dX8_read_61 : decode mX8_read.2.1 61 = .ok (.aload_n 0, 1) := by decide +kernel
theorem dX8_read_62 : decode mX8_read.2.1 62 = .ok (.getfield 241, 3) := by decide +kernel
theorem dX8_read_65 : decode mX8_read.2.1 65 = .ok (.if_icmp .ge 59, 3) := by decide +kernel
theorem dX8_read_68 : decode mX8_read.2.1 68 = .ok (.iload_n 3, 1) := by decide +kernel
theorem dX8_read_69 : decode mX8_read.2.1 69 = .ok (.iload 9, 2) := by decide +kernel
theorem dX8_read_71 : decode mX8_read.2.1 71 = .ok (.invokestatic 206, 3) := by decide +kernel
theorem dX8_read_74 : decode mX8_read.2.1 74 = .ok (.ifCond .eq 44, 3) := by decide +kernel
theorem dX8_read_77 : decode mX8_read.2.1 77 = .ok (.aload_n 0, 1) := by decide +kernel
theorem dX8_read_78 : decode mX8_read.2.1 78 = .ok (.iconst 1, 1) := by decide +kernel
theorem dX8_read_79 : decode mX8_read.2.1 79 = .ok (.iload 9, 2) := by decide +kernel
theorem dX8_read_81 : decode mX8_read.2.1 81 = .ok (.ishl, 1) := by decide +kernel
theorem dX8_read_82 : decode mX8_read.2.1 82 = .ok (.invokevirtual 278, 3) := by decide +kernel
theorem dX8_read_85 : decode mX8_read.2.1 85 = .ok (.pop, 1) := by decide +kernel
theorem dX8_read_86 : decode mX8_read.2.1 86 = .ok (.aload_n 0, 1) := by decide +kernel
theorem dX8_read_87 : decode mX8_read.2.1 87 = .ok (.iload_n 2, 1) := by decide +kernel
theorem dX8_read_88 : decode mX8_read.2.1 88 = .ok (.lload 4, 2) := by decide +kernel
theorem dX8_read_90 : decode mX8_read.2.1 90 = .ok (.iload 6, 2) := by decide +kernel
theorem dX8_read_92 : decode mX8_read.2.1 92 = .ok (.invokevirtual 387, 3) := by decide +kernel
theorem dX8_read_95 : decode mX8_read.2.1 95 = .ok (.iload 8, 2) := by decide +kernel
theorem dX8_read_97 : decode mX8_read.2.1 97 = .ok (.aload_n 0, 1) := by decide +kernel
theorem dX8_read_98 : decode mX8_read.2.1 98 = .ok (.iload_n 1, 1) := by decide +kernel
theorem dX8_read_99 : decode mX8_read.2.1 99 = .ok (.iload 7, 2) := by decide +kernel
theorem dX8_read_101 : decode mX8_read.2.1 101 = .ok (.invokevirtual 400, 3) := by decide +kernel
theorem dX8_read_104 : decode mX8_read.2.1 104 = .ok (.ifCond .eq 10, 3) := by decide +kernel
theorem dX8_read_107 : decode mX8_read.2.1 107 = .ok (.iconst 1, 1) := by decide +kernel
theorem dX8_read_108 : decode mX8_read.2.1 108 = .ok (.iload 9, 2) := by decide +kernel
theorem dX8_read_110 : decode mX8_read.2.1 110 = .ok (.ishl, 1) := by decide +kernel
theorem dX8_read_111 : decode mX8_read.2.1 111 = .ok (.goto 4, 3) := by decide +kernel
theorem dX8_read_114 : decode mX8_read.2.1 114 = .ok (.iconst 0, 1) := by decide +kernel
theorem dX8_read_115 : decode mX8_read.2.1 115 = .ok (.ior, 1) := by decide +kernel
theorem dX8_read_116 : decode mX8_read.2.1 116 = .ok (.istore 8, 2) := by decide +kernel
theorem dX8_read_118 : decode mX8_read.2.1 118 = .ok (.iinc 9 1, 3) := by decide +kernel
theorem dX8_read_121 : decode mX8_read.2.1 121 = .ok (.goto (-62), 3) := by decide +kernel
theorem dX8_read_124 : decode mX8_read.2.1 124 = .ok (.aload_n 0, 1) := by decide +kernel
theorem dX8_read_125 : decode mX8_read.2.1 125 = .ok (.invokevirtual 391, 3) := by decide +kernel
theorem dX8_read_128 : decode mX8_read.2.1 128 = .ok (.iload 8, 2) := by decide +kernel
theorem dX8_read_130 : decode mX8_read.2.1 130 = .ok (.ireturn, 1) := by decide +kernel
theorem dX8_weigh_0 : decode mX8_weigh.2.1 0 = .ok (.aload_n 0, 1) := by decide +kernel
theorem dX8_weigh_1 : decode mX8_weigh.2.1 1 = .ok (.iload_n 1, 1) := by decide +kernel
theorem dX8_weigh_2 : decode mX8_weigh.2.1 2 = .ok (.invokevirtual 244, 3) := by decide +kernel
theorem dX8_weigh_5 : decode mX8_weigh.2.1 5 = .ok (.ifCond .eq 13, 3) := by decide +kernel
theorem dX8_weigh_8 : decode mX8_weigh.2.1 8 = .ok (.iload_n 2, 1) := by decide +kernel
theorem dX8_weigh_9 : decode mX8_weigh.2.1 9 = .ok (.iconst 1, 1) := by decide +kernel
theorem dX8_weigh_10 : decode mX8_weigh.2.1 10 = .ok (.bipush 9, 2) := by decide +kernel
theorem dX8_weigh_12 : decode mX8_weigh.2.1 12 = .ok (.invokestatic 216, 3) := by decide +kernel
theorem dX8_weigh_15 : decode mX8_weigh.2.1 15 = .ok (.ifCond .ne 5, 3) := by decide +kernel
theorem dX8_weigh_18 : decode mX8_weigh.2.1 18 = .ok (.iconst 0, 1) := by decide +kernel
theorem dX8_weigh_19 : decode mX8_weigh.2.1 19 = .ok (.ireturn, 1) := by decide +kernel
theorem dX8_weigh_20 : decode mX8_weigh.2.1 20 = .ok (.aload_n 0, 1) := by decide +kernel
theorem dX8_weigh_21 : decode mX8_weigh.2.1 21 = .ok (.getfield 43, 3) := by decide +kernel
theorem dX8_weigh_24 : decode mX8_weigh.2.1 24 = .ok (.iload_n 1, 1) := by decide +kernel
theorem dX8_weigh_25 : decode mX8_weigh.2.1 25 = .ok (.iload_n 2, 1) := by decide +kernel
theorem dX8_weigh_26 : decode mX8_weigh.2.1 26 = .ok (.iastore, 1) := by decide +kernel
theorem dX8_weigh_27 : decode mX8_weigh.2.1 27 = .ok (.iconst 1, 1) := by decide +kernel
theorem dX8_weigh_28 : decode mX8_weigh.2.1 28 = .ok (.ireturn, 1) := by decide +kernel
theorem dX8_odds_0 : decode mX8_odds.2.1 0 = .ok (.aload_n 0, 1) := by decide +kernel
theorem dX8_odds_1 : decode mX8_odds.2.1 1 = .ok (.iload_n 1, 1) := by decide +kernel
theorem dX8_odds_2 : decode mX8_odds.2.1 2 = .ok (.iload_n 2, 1) := by decide +kernel
theorem dX8_odds_3 : decode mX8_odds.2.1 3 = .ok (.iload_n 3, 1) := by decide +kernel
theorem dX8_odds_4 : decode mX8_odds.2.1 4 = .ok (.lload 4, 2) := by decide +kernel
theorem dX8_odds_6 : decode mX8_odds.2.1 6 = .ok (.iload 6, 2) := by decide +kernel
theorem dX8_odds_8 : decode mX8_odds.2.1 8 = .ok (.iload 7, 2) := by decide +kernel
theorem dX8_odds_10 : decode mX8_odds.2.1 10 = .ok (.invokevirtual 403, 3) := by decide +kernel
theorem dX8_odds_13 : decode mX8_odds.2.1 13 = .ok (.istore 8, 2) := by decide +kernel
theorem dX8_odds_15 : decode mX8_odds.2.1 15 = .ok (.iload 8, 2) := by decide +kernel
theorem dX8_odds_17 : decode mX8_odds.2.1 17 = .ok (.iconst (-1), 1) := by decide +kernel
theorem dX8_odds_18 : decode mX8_odds.2.1 18 = .ok (.if_icmp .ne 5, 3) := by decide +kernel
theorem dX8_odds_21 : decode mX8_odds.2.1 21 = .ok (.iconst (-1), 1) := by decide +kernel
theorem dX8_odds_22 : decode mX8_odds.2.1 22 = .ok (.ireturn, 1) := by decide +kernel
theorem dX8_odds_23 : decode mX8_odds.2.1 23 = .ok (.iconst 0, 1) := by decide +kernel
theorem dX8_odds_24 : decode mX8_odds.2.1 24 = .ok (.istore 9, 2) := by decide +kernel
theorem dX8_odds_26 : decode mX8_odds.2.1 26 = .ok (.iconst 0, 1) := by decide +kernel
theorem dX8_odds_27 : decode mX8_odds.2.1 27 = .ok (.istore 10, 2) := by decide +kernel
theorem dX8_odds_29 : decode mX8_odds.2.1 29 = .ok (.iload 10, 2) := by decide +kernel
theorem dX8_odds_31 : decode mX8_odds.2.1 31 = .ok (.aload_n 0, 1) := by decide +kernel
theorem dX8_odds_32 : decode mX8_odds.2.1 32 = .ok (.getfield 241, 3) := by decide +kernel
theorem dX8_odds_35 : decode mX8_odds.2.1 35 = .ok (.if_icmp .ge 35, 3) := by decide +kernel
theorem dX8_odds_38 : decode mX8_odds.2.1 38 = .ok (.iload 9, 2) := by decide +kernel
theorem dX8_odds_40 : decode mX8_odds.2.1 40 = .ok (.iload 8, 2) := by decide +kernel
theorem dX8_odds_42 : decode mX8_odds.2.1 42 = .ok (.iload 10, 2) := by decide +kernel
theorem dX8_odds_44 : decode mX8_odds.2.1 44 = .ok (.invokestatic 206, 3) := by decide +kernel
theorem dX8_odds_47 : decode mX8_odds.2.1 47 = .ok (.ifCond .eq 13, 3) := by decide +kernel
theorem dX8_odds_50 : decode mX8_odds.2.1 50 = .ok (.aload_n 0, 1) := by decide +kernel
theorem dX8_odds_51 : decode mX8_odds.2.1 51 = .ok (.getfield 43, 3) := by decide +kernel
theorem dX8_odds_54 : decode mX8_odds.2.1 54 = .ok (.iload 10, 2) := by decide +kernel
theorem dX8_odds_56 : decode mX8_odds.2.1 56 = .ok (.iaload, 1) := by decide +kernel
theorem dX8_odds_57 : decode mX8_odds.2.1 57 = .ok (.goto 4, 3) := by decide +kernel
theorem dX8_odds_60 : decode mX8_odds.2.1 60 = .ok (.iconst 0, 1) := by decide +kernel
theorem dX8_odds_61 : decode mX8_odds.2.1 61 = .ok (.iadd, 1) := by decide +kernel
theorem dX8_odds_62 : decode mX8_odds.2.1 62 = .ok (.istore 9, 2) := by decide +kernel
theorem dX8_odds_64 : decode mX8_odds.2.1 64 = .ok (.iinc 10 1, 3) := by decide +kernel
theorem dX8_odds_67 : decode mX8_odds.2.1 67 = .ok (.goto (-38), 3) := by decide +kernel
theorem dX8_odds_70 : decode mX8_odds.2.1 70 = .ok (.iload 9, 2) := by decide +kernel
theorem dX8_odds_72 : decode mX8_odds.2.1 72 = .ok (.ireturn, 1) := by decide +kernel
theorem dX8_partsOf_0 : decode mX8_partsOf.2.1 0 = .ok (.aload_n 0, 1) := by decide +kernel
theorem dX8_partsOf_1 : decode mX8_partsOf.2.1 1 = .ok (.iconst 1, 1) := by decide +kernel
theorem dX8_partsOf_2 : decode mX8_partsOf.2.1 2 = .ok (.iload_n 3, 1) := by decide +kernel
theorem dX8_partsOf_3 : decode mX8_partsOf.2.1 3 = .ok (.ishl, 1) := by decide +kernel
theorem dX8_partsOf_4 : decode mX8_partsOf.2.1 4 = .ok (.invokevirtual 278, 3) := by decide +kernel
theorem dX8_partsOf_7 : decode mX8_partsOf.2.1 7 = .ok (.pop, 1) := by decide +kernel
theorem dX8_partsOf_8 : decode mX8_partsOf.2.1 8 = .ok (.aload_n 0, 1) := by decide +kernel
theorem dX8_partsOf_9 : decode mX8_partsOf.2.1 9 = .ok (.iload_n 1, 1) := by decide +kernel
theorem dX8_partsOf_10 : decode mX8_partsOf.2.1 10 = .ok (.lload 4, 2) := by decide +kernel
theorem dX8_partsOf_12 : decode mX8_partsOf.2.1 12 = .ok (.iload 6, 2) := by decide +kernel
theorem dX8_partsOf_14 : decode mX8_partsOf.2.1 14 = .ok (.invokevirtual 387, 3) := by decide +kernel
theorem dX8_partsOf_17 : decode mX8_partsOf.2.1 17 = .ok (.iconst 0, 1) := by decide +kernel
theorem dX8_partsOf_18 : decode mX8_partsOf.2.1 18 = .ok (.istore 7, 2) := by decide +kernel
theorem dX8_partsOf_20 : decode mX8_partsOf.2.1 20 = .ok (.iload 7, 2) := by decide +kernel
theorem dX8_partsOf_22 : decode mX8_partsOf.2.1 22 = .ok (.bipush 24, 2) := by decide +kernel
theorem dX8_partsOf_24 : decode mX8_partsOf.2.1 24 = .ok (.if_icmp .ge 22, 3) := by decide +kernel
theorem dX8_partsOf_27 : decode mX8_partsOf.2.1 27 = .ok (.aload_n 0, 1) := by decide +kernel
theorem dX8_partsOf_28 : decode mX8_partsOf.2.1 28 = .ok (.getfield 77, 3) := by decide +kernel
theorem dX8_partsOf_31 : decode mX8_partsOf.2.1 31 = .ok (.iload 7, 2) := by decide +kernel
theorem dX8_partsOf_33 : decode mX8_partsOf.2.1 33 = .ok (.aload_n 0, 1) := by decide +kernel
theorem dX8_partsOf_34 : decode mX8_partsOf.2.1 34 = .ok (.iload 7, 2) := by decide +kernel
theorem dX8_partsOf_36 : decode mX8_partsOf.2.1 36 = .ok (.invokevirtual 357, 3) := by decide +kernel
theorem dX8_partsOf_39 : decode mX8_partsOf.2.1 39 = .ok (.iastore, 1) := by decide +kernel
theorem dX8_partsOf_40 : decode mX8_partsOf.2.1 40 = .ok (.iinc 7 1, 3) := by decide +kernel
theorem dX8_partsOf_43 : decode mX8_partsOf.2.1 43 = .ok (.goto (-23), 3) := by decide +kernel
theorem dX8_partsOf_46 : decode mX8_partsOf.2.1 46 = .ok (.aload_n 0, 1) := by decide +kernel
theorem dX8_partsOf_47 : decode mX8_partsOf.2.1 47 = .ok (.iload_n 2, 1) := by decide +kernel
theorem dX8_partsOf_48 : decode mX8_partsOf.2.1 48 = .ok (.lload 4, 2) := by decide +kernel
theorem dX8_partsOf_50 : decode mX8_partsOf.2.1 50 = .ok (.iload 6, 2) := by decide +kernel
theorem dX8_partsOf_52 : decode mX8_partsOf.2.1 52 = .ok (.invokevirtual 387, 3) := by decide +kernel
theorem dX8_partsOf_55 : decode mX8_partsOf.2.1 55 = .ok (.iconst 0, 1) := by decide +kernel
theorem dX8_partsOf_56 : decode mX8_partsOf.2.1 56 = .ok (.istore 7, 2) := by decide +kernel
theorem dX8_partsOf_58 : decode mX8_partsOf.2.1 58 = .ok (.iconst 0, 1) := by decide +kernel
theorem dX8_partsOf_59 : decode mX8_partsOf.2.1 59 = .ok (.istore 8, 2) := by decide +kernel
theorem dX8_partsOf_61 : decode mX8_partsOf.2.1 61 = .ok (.iload 8, 2) := by decide +kernel
theorem dX8_partsOf_63 : decode mX8_partsOf.2.1 63 = .ok (.bipush 24, 2) := by decide +kernel
theorem dX8_partsOf_65 : decode mX8_partsOf.2.1 65 = .ok (.if_icmp .ge 31, 3) := by decide +kernel
theorem dX8_partsOf_68 : decode mX8_partsOf.2.1 68 = .ok (.iload 7, 2) := by decide +kernel
theorem dX8_partsOf_70 : decode mX8_partsOf.2.1 70 = .ok (.aload_n 0, 1) := by decide +kernel
theorem dX8_partsOf_71 : decode mX8_partsOf.2.1 71 = .ok (.getfield 77, 3) := by decide +kernel
theorem dX8_partsOf_74 : decode mX8_partsOf.2.1 74 = .ok (.iload 8, 2) := by decide +kernel
theorem dX8_partsOf_76 : decode mX8_partsOf.2.1 76 = .ok (.iaload, 1) := by decide +kernel
theorem dX8_partsOf_77 : decode mX8_partsOf.2.1 77 = .ok (.aload_n 0, 1) := by decide +kernel
theorem dX8_partsOf_78 : decode mX8_partsOf.2.1 78 = .ok (.iload 8, 2) := by decide +kernel
theorem dX8_partsOf_80 : decode mX8_partsOf.2.1 80 = .ok (.invokevirtual 357, 3) := by decide +kernel
theorem dX8_partsOf_83 : decode mX8_partsOf.2.1 83 = .ok (.isub, 1) := by decide +kernel
theorem dX8_partsOf_84 : decode mX8_partsOf.2.1 84 = .ok (.invokestatic 308, 3) := by decide +kernel
theorem dX8_partsOf_87 : decode mX8_partsOf.2.1 87 = .ok (.iadd, 1) := by decide +kernel
theorem dX8_partsOf_88 : decode mX8_partsOf.2.1 88 = .ok (.istore 7, 2) := by decide +kernel
theorem dX8_partsOf_90 : decode mX8_partsOf.2.1 90 = .ok (.iinc 8 1, 3) := by decide +kernel
theorem dX8_partsOf_93 : decode mX8_partsOf.2.1 93 = .ok (.goto (-32), 3) := by decide +kernel
theorem dX8_partsOf_96 : decode mX8_partsOf.2.1 96 = .ok (.iload 7, 2) := by decide +kernel
theorem dX8_partsOf_98 : decode mX8_partsOf.2.1 98 = .ok (.ireturn, 1) := by decide +kernel
theorem dX8_parts_0 : decode mX8_parts.2.1 0 = .ok (.aload_n 0, 1) := by decide +kernel
theorem dX8_parts_1 : decode mX8_parts.2.1 1 = .ok (.iload_n 1, 1) := by decide +kernel
theorem dX8_parts_2 : decode mX8_parts.2.1 2 = .ok (.invokevirtual 272, 3) := by decide +kernel
theorem dX8_parts_5 : decode mX8_parts.2.1 5 = .ok (.ifCond .eq 27, 3) := by decide +kernel
theorem dX8_parts_8 : decode mX8_parts.2.1 8 = .ok (.aload_n 0, 1) := by decide +kernel
theorem dX8_parts_9 : decode mX8_parts.2.1 9 = .ok (.iload_n 2, 1) := by decide +kernel
theorem dX8_parts_10 : decode mX8_parts.2.1 10 = .ok (.invokevirtual 272, 3) := by decide +kernel
theorem dX8_parts_13 : decode mX8_parts.2.1 13 = .ok (.ifCond .eq 19, 3) := by decide +kernel
theorem dX8_parts_16 : decode mX8_parts.2.1 16 = .ok (.aload_n 0, 1) := by decide +kernel
theorem dX8_parts_17 : decode mX8_parts.2.1 17 = .ok (.iload_n 3, 1) := by decide +kernel
theorem dX8_parts_18 : decode mX8_parts.2.1 18 = .ok (.invokevirtual 244, 3) := by decide +kernel
theorem dX8_parts_21 : decode mX8_parts.2.1 21 = .ok (.ifCond .eq 11, 3) := by decide +kernel
theorem dX8_parts_24 : decode mX8_parts.2.1 24 = .ok (.iload 6, 2) := by decide +kernel
theorem dX8_parts_26 : decode mX8_parts.2.1 26 = .ok (.invokestatic 381, 3) := by decide +kernel
theorem dX8_parts_29 : decode mX8_parts.2.1 29 = .ok (.ifCond .ne 5, 3) := by decide +kernel
theorem dX8_parts_32 : decode mX8_parts.2.1 32 = .ok (.iconst (-1), 1) := by decide +kernel
theorem dX8_parts_33 : decode mX8_parts.2.1 33 = .ok (.ireturn, 1) := by decide +kernel
theorem dX8_parts_34 : decode mX8_parts.2.1 34 = .ok (.aload_n 0, 1) := by decide +kernel
theorem dX8_parts_35 : decode mX8_parts.2.1 35 = .ok (.invokevirtual 384, 3) := by decide +kernel
theorem dX8_parts_38 : decode mX8_parts.2.1 38 = .ok (.aload_n 0, 1) := by decide +kernel
theorem dX8_parts_39 : decode mX8_parts.2.1 39 = .ok (.iload_n 1, 1) := by decide +kernel
theorem dX8_parts_40 : decode mX8_parts.2.1 40 = .ok (.iload_n 2, 1) := by decide +kernel
theorem dX8_parts_41 : decode mX8_parts.2.1 41 = .ok (.iload_n 3, 1) := by decide +kernel
theorem dX8_parts_42 : decode mX8_parts.2.1 42 = .ok (.lload 4, 2) := by decide +kernel
theorem dX8_parts_44 : decode mX8_parts.2.1 44 = .ok (.iload 6, 2) := by decide +kernel
theorem dX8_parts_46 : decode mX8_parts.2.1 46 = .ok (.invokevirtual 407, 3) := by decide +kernel
theorem dX8_parts_49 : decode mX8_parts.2.1 49 = .ok (.istore 7, 2) := by decide +kernel
theorem dX8_parts_51 : decode mX8_parts.2.1 51 = .ok (.aload_n 0, 1) := by decide +kernel
theorem dX8_parts_52 : decode mX8_parts.2.1 52 = .ok (.invokevirtual 391, 3) := by decide +kernel
theorem dX8_parts_55 : decode mX8_parts.2.1 55 = .ok (.iload 7, 2) := by decide +kernel
theorem dX8_parts_57 : decode mX8_parts.2.1 57 = .ok (.ireturn, 1) := by decide +kernel
theorem dX8_next_0 : decode mX8_next.2.1 0 = .ok (.aload_n 0, 1) := by decide +kernel
theorem dX8_next_1 : decode mX8_next.2.1 1 = .ok (.iload_n 1, 1) := by decide +kernel
theorem dX8_next_2 : decode mX8_next.2.1 2 = .ok (.invokevirtual 272, 3) := by decide +kernel
theorem dX8_next_5 : decode mX8_next.2.1 5 = .ok (.ifCond .eq 27, 3) := by decide +kernel
theorem dX8_next_8 : decode mX8_next.2.1 8 = .ok (.aload_n 0, 1) := by decide +kernel
theorem dX8_next_9 : decode mX8_next.2.1 9 = .ok (.iload_n 2, 1) := by decide +kernel
theorem dX8_next_10 : decode mX8_next.2.1 10 = .ok (.invokevirtual 272, 3) := by decide +kernel
theorem dX8_next_13 : decode mX8_next.2.1 13 = .ok (.ifCond .eq 19, 3) := by decide +kernel
theorem dX8_next_16 : decode mX8_next.2.1 16 = .ok (.aload_n 0, 1) := by decide +kernel
theorem dX8_next_17 : decode mX8_next.2.1 17 = .ok (.iload_n 3, 1) := by decide +kernel
theorem dX8_next_18 : decode mX8_next.2.1 18 = .ok (.invokevirtual 275, 3) := by decide +kernel
theorem dX8_next_21 : decode mX8_next.2.1 21 = .ok (.ifCond .eq 11, 3) := by decide +kernel
theorem dX8_next_24 : decode mX8_next.2.1 24 = .ok (.iload 6, 2) := by decide +kernel
theorem dX8_next_26 : decode mX8_next.2.1 26 = .ok (.invokestatic 381, 3) := by decide +kernel
theorem dX8_next_29 : decode mX8_next.2.1 29 = .ok (.ifCond .ne 5, 3) := by decide +kernel
theorem dX8_next_32 : decode mX8_next.2.1 32 = .ok (.iconst (-1), 1) := by decide +kernel
theorem dX8_next_33 : decode mX8_next.2.1 33 = .ok (.ireturn, 1) := by decide +kernel
theorem dX8_next_34 : decode mX8_next.2.1 34 = .ok (.aload_n 0, 1) := by decide +kernel
theorem dX8_next_35 : decode mX8_next.2.1 35 = .ok (.invokevirtual 384, 3) := by decide +kernel
theorem dX8_next_38 : decode mX8_next.2.1 38 = .ok (.iconst (-1), 1) := by decide +kernel
theorem dX8_next_39 : decode mX8_next.2.1 39 = .ok (.istore 7, 2) := by decide +kernel
theorem dX8_next_41 : decode mX8_next.2.1 41 = .ok (.iconst (-1), 1) := by decide +kernel
theorem dX8_next_42 : decode mX8_next.2.1 42 = .ok (.istore 8, 2) := by decide +kernel
theorem dX8_next_44 : decode mX8_next.2.1 44 = .ok (.iconst 0, 1) := by decide +kernel
theorem dX8_next_45 : decode mX8_next.2.1 45 = .ok (.istore 9, 2) := by decide +kernel
theorem dX8_next_47 : decode mX8_next.2.1 47 = .ok (.iload 9, 2) := by decide +kernel
theorem dX8_next_49 : decode mX8_next.2.1 49 = .ok (.aload_n 0, 1) := by decide +kernel
theorem dX8_next_50 : decode mX8_next.2.1 50 = .ok (.getfield 241, 3) := by decide +kernel
theorem dX8_next_53 : decode mX8_next.2.1 53 = .ok (.if_icmp .ge 61, 3) := by decide +kernel
theorem dX8_next_56 : decode mX8_next.2.1 56 = .ok (.iload_n 3, 1) := by decide +kernel
theorem dX8_next_57 : decode mX8_next.2.1 57 = .ok (.iload 9, 2) := by decide +kernel
theorem dX8_next_59 : decode mX8_next.2.1 59 = .ok (.invokestatic 206, 3) := by decide +kernel
theorem dX8_next_62 : decode mX8_next.2.1 62 = .ok (.ifCond .eq 18, 3) := by decide +kernel
theorem dX8_next_65 : decode mX8_next.2.1 65 = .ok (.aload_n 0, 1) := by decide +kernel
theorem dX8_next_66 : decode mX8_next.2.1 66 = .ok (.iload_n 1, 1) := by decide +kernel
theorem dX8_next_67 : decode mX8_next.2.1 67 = .ok (.iload_n 2, 1) := by decide +kernel
theorem dX8_next_68 : decode mX8_next.2.1 68 = .ok (.iload 9, 2) := by decide +kernel
theorem dX8_next_70 : decode mX8_next.2.1 70 = .ok (.lload 4, 2) := by decide +kernel
theorem dX8_next_72 : decode mX8_next.2.1 72 = .ok (.iload 6, 2) := by decide +kernel
theorem dX8_next_74 : decode mX8_next.2.1 74 = .ok (.invokevirtual 407, 3) := by decide +kernel
theorem dX8_next_77 : decode mX8_next.2.1 77 = .ok (.goto 4, 3) := by decide +kernel
theorem dX8_next_80 : decode mX8_next.2.1 80 = .ok (.iconst (-1), 1) := by decide +kernel
theorem dX8_next_81 : decode mX8_next.2.1 81 = .ok (.istore 10, 2) := by decide +kernel
theorem dX8_next_83 : decode mX8_next.2.1 83 = .ok (.iload 10, 2) := by decide +kernel
theorem dX8_next_85 : decode mX8_next.2.1 85 = .ok (.iload 8, 2) := by decide +kernel
theorem dX8_next_87 : decode mX8_next.2.1 87 = .ok (.if_icmp .le 8, 3) := by decide +kernel
theorem dX8_next_90 : decode mX8_next.2.1 90 = .ok (.iload 9, 2) := by decide +kernel
theorem dX8_next_92 : decode mX8_next.2.1 92 = .ok (.goto 5, 3) := by decide +kernel
theorem dX8_next_95 : decode mX8_next.2.1 95 = .ok (.iload 7, 2) := by decide +kernel
theorem dX8_next_97 : decode mX8_next.2.1 97 = .ok (.istore 7, 2) := by decide +kernel
theorem dX8_next_99 : decode mX8_next.2.1 99 = .ok (.iload 8, 2) := by decide +kernel
theorem dX8_next_101 : decode mX8_next.2.1 101 = .ok (.iload 10, 2) := by decide +kernel
theorem dX8_next_103 : decode mX8_next.2.1 103 = .ok (.invokestatic 300, 3) := by decide +kernel
theorem dX8_next_106 : decode mX8_next.2.1 106 = .ok (.istore 8, 2) := by decide +kernel
theorem dX8_next_108 : decode mX8_next.2.1 108 = .ok (.iinc 9 1, 3) := by decide +kernel
theorem dX8_next_111 : decode mX8_next.2.1 111 = .ok (.goto (-64), 3) := by decide +kernel
theorem dX8_next_114 : decode mX8_next.2.1 114 = .ok (.aload_n 0, 1) := by decide +kernel
theorem dX8_next_115 : decode mX8_next.2.1 115 = .ok (.invokevirtual 391, 3) := by decide +kernel
theorem dX8_next_118 : decode mX8_next.2.1 118 = .ok (.iload 7, 2) := by decide +kernel
theorem dX8_next_120 : decode mX8_next.2.1 120 = .ok (.ireturn, 1) := by decide +kernel
theorem dX8_copies_0 : decode mX8_copies.2.1 0 = .ok (.bipush 24, 2) := by decide +kernel
theorem dX8_copies_2 : decode mX8_copies.2.1 2 = .ok (.iload_n 2, 1) := by decide +kernel
theorem dX8_copies_3 : decode mX8_copies.2.1 3 = .ok (.iadd, 1) := by decide +kernel
theorem dX8_copies_4 : decode mX8_copies.2.1 4 = .ok (.aload_n 0, 1) := by decide +kernel
theorem dX8_copies_5 : decode mX8_copies.2.1 5 = .ok (.getfield 40, 3) := by decide +kernel
theorem dX8_copies_8 : decode mX8_copies.2.1 8 = .ok (.bipush 12, 2) := by decide +kernel
theorem dX8_copies_10 : decode mX8_copies.2.1 10 = .ok (.iload_n 1, 1) := by decide +kernel
theorem dX8_copies_11 : decode mX8_copies.2.1 11 = .ok (.imul, 1) := by decide +kernel
theorem dX8_copies_12 : decode mX8_copies.2.1 12 = .ok (.iconst 1, 1) := by decide +kernel
theorem dX8_copies_13 : decode mX8_copies.2.1 13 = .ok (.iadd, 1) := by decide +kernel
theorem dX8_copies_14 : decode mX8_copies.2.1 14 = .ok (.iaload, 1) := by decide +kernel
theorem dX8_copies_15 : decode mX8_copies.2.1 15 = .ok (.iload_n 2, 1) := by decide +kernel
theorem dX8_copies_16 : decode mX8_copies.2.1 16 = .ok (.iadd, 1) := by decide +kernel
theorem dX8_copies_17 : decode mX8_copies.2.1 17 = .ok (.idiv, 1) := by decide +kernel
theorem dX8_copies_18 : decode mX8_copies.2.1 18 = .ok (.ireturn, 1) := by decide +kernel
theorem dX8_evenOf_0 : decode mX8_evenOf.2.1 0 = .ok (.aload_n 0, 1) := by decide +kernel
theorem dX8_evenOf_1 : decode mX8_evenOf.2.1 1 = .ok (.iconst 0, 1) := by decide +kernel
theorem dX8_evenOf_2 : decode mX8_evenOf.2.1 2 = .ok (.putfield 247, 3) := by decide +kernel
theorem dX8_evenOf_5 : decode mX8_evenOf.2.1 5 = .ok (.iconst 0, 1) := by decide +kernel
theorem dX8_evenOf_6 : decode mX8_evenOf.2.1 6 = .ok (.istore 7, 2) := by decide +kernel
theorem dX8_evenOf_8 : decode mX8_evenOf.2.1 8 = .ok (.iload 7, 2) := by decide +kernel
theorem dX8_evenOf_10 : decode mX8_evenOf.2.1 10 = .ok (.aload_n 0, 1) := by decide +kernel
theorem dX8_evenOf_11 : decode mX8_evenOf.2.1 11 = .ok (.iload_n 2, 1) := by decide +kernel
theorem dX8_evenOf_12 : decode mX8_evenOf.2.1 12 = .ok (.iload_n 3, 1) := by decide +kernel
theorem dX8_evenOf_13 : decode mX8_evenOf.2.1 13 = .ok (.invokevirtual 411, 3) := by decide +kernel
theorem dX8_evenOf_16 : decode mX8_evenOf.2.1 16 = .ok (.if_icmp .ge 41, 3) := by decide +kernel
theorem dX8_evenOf_19 : decode mX8_evenOf.2.1 19 = .ok (.aload_n 0, 1) := by decide +kernel
theorem dX8_evenOf_20 : decode mX8_evenOf.2.1 20 = .ok (.iload 7, 2) := by decide +kernel
theorem dX8_evenOf_22 : decode mX8_evenOf.2.1 22 = .ok (.aload_n 0, 1) := by decide +kernel
theorem dX8_evenOf_23 : decode mX8_evenOf.2.1 23 = .ok (.getfield 40, 3) := by decide +kernel
theorem dX8_evenOf_26 : decode mX8_evenOf.2.1 26 = .ok (.bipush 12, 2) := by decide +kernel
theorem dX8_evenOf_28 : decode mX8_evenOf.2.1 28 = .ok (.iload_n 2, 1) := by decide +kernel
theorem dX8_evenOf_29 : decode mX8_evenOf.2.1 29 = .ok (.imul, 1) := by decide +kernel
theorem dX8_evenOf_30 : decode mX8_evenOf.2.1 30 = .ok (.iconst 1, 1) := by decide +kernel
theorem dX8_evenOf_31 : decode mX8_evenOf.2.1 31 = .ok (.iadd, 1) := by decide +kernel
theorem dX8_evenOf_32 : decode mX8_evenOf.2.1 32 = .ok (.iaload, 1) := by decide +kernel
theorem dX8_evenOf_33 : decode mX8_evenOf.2.1 33 = .ok (.iload_n 3, 1) := by decide +kernel
theorem dX8_evenOf_34 : decode mX8_evenOf.2.1 34 = .ok (.iadd, 1) := by decide +kernel
theorem dX8_evenOf_35 : decode mX8_evenOf.2.1 35 = .ok (.imul, 1) := by decide +kernel
theorem dX8_evenOf_36 : decode mX8_evenOf.2.1 36 = .ok (.aload_n 0, 1) := by decide +kernel
theorem dX8_evenOf_37 : decode mX8_evenOf.2.1 37 = .ok (.getfield 40, 3) := by decide +kernel
theorem dX8_evenOf_40 : decode mX8_evenOf.2.1 40 = .ok (.bipush 12, 2) := by decide +kernel
theorem dX8_evenOf_42 : decode mX8_evenOf.2.1 42 = .ok (.iload_n 2, 1) := by decide +kernel
theorem dX8_evenOf_43 : decode mX8_evenOf.2.1 43 = .ok (.imul, 1) := by decide +kernel
theorem dX8_evenOf_44 : decode mX8_evenOf.2.1 44 = .ok (.iconst 1, 1) := by decide +kernel
theorem dX8_evenOf_45 : decode mX8_evenOf.2.1 45 = .ok (.iadd, 1) := by decide +kernel
theorem dX8_evenOf_46 : decode mX8_evenOf.2.1 46 = .ok (.iaload, 1) := by decide +kernel
theorem dX8_evenOf_47 : decode mX8_evenOf.2.1 47 = .ok (.iload_n 2, 1) := by decide +kernel
theorem dX8_evenOf_48 : decode mX8_evenOf.2.1 48 = .ok (.invokevirtual 250, 3) := by decide +kernel
theorem dX8_evenOf_51 : decode mX8_evenOf.2.1 51 = .ok (.iinc 7 1, 3) := by decide +kernel
theorem dX8_evenOf_54 : decode mX8_evenOf.2.1 54 = .ok (.goto (-46), 3) := by decide +kernel
theorem dX8_evenOf_57 : decode mX8_evenOf.2.1 57 = .ok (.aload_n 0, 1) := by decide +kernel
theorem dX8_evenOf_58 : decode mX8_evenOf.2.1 58 = .ok (.iload_n 1, 1) := by decide +kernel
theorem dX8_evenOf_59 : decode mX8_evenOf.2.1 59 = .ok (.lload 4, 2) := by decide +kernel
theorem dX8_evenOf_61 : decode mX8_evenOf.2.1 61 = .ok (.iload 6, 2) := by decide +kernel
theorem dX8_evenOf_63 : decode mX8_evenOf.2.1 63 = .ok (.invokevirtual 387, 3) := by decide +kernel
theorem dX8_evenOf_66 : decode mX8_evenOf.2.1 66 = .ok (.aload_n 0, 1) := by decide +kernel
theorem dX8_evenOf_67 : decode mX8_evenOf.2.1 67 = .ok (.invokevirtual 366, 3) := by decide +kernel
theorem dX8_evenOf_70 : decode mX8_evenOf.2.1 70 = .ok (.ireturn, 1) := by decide +kernel
theorem dX8_printed_0 : decode mX8_printed.2.1 0 = .ok (.aload_n 0, 1) := by decide +kernel
theorem dX8_printed_1 : decode mX8_printed.2.1 1 = .ok (.iload_n 1, 1) := by decide +kernel
theorem dX8_printed_2 : decode mX8_printed.2.1 2 = .ok (.invokevirtual 272, 3) := by decide +kernel
theorem dX8_printed_5 : decode mX8_printed.2.1 5 = .ok (.ifCond .eq 39, 3) := by decide +kernel
theorem dX8_printed_8 : decode mX8_printed.2.1 8 = .ok (.aload_n 0, 1) := by decide +kernel
theorem dX8_printed_9 : decode mX8_printed.2.1 9 = .ok (.iload_n 2, 1) := by decide +kernel
theorem dX8_printed_10 : decode mX8_printed.2.1 10 = .ok (.invokevirtual 244, 3) := by decide +kernel
theorem dX8_printed_13 : decode mX8_printed.2.1 13 = .ok (.ifCond .eq 31, 3) := by decide +kernel
theorem dX8_printed_16 : decode mX8_printed.2.1 16 = .ok (.iload_n 3, 1) := by decide +kernel
theorem dX8_printed_17 : decode mX8_printed.2.1 17 = .ok (.iconst 0, 1) := by decide +kernel
theorem dX8_printed_18 : decode mX8_printed.2.1 18 = .ok (.bipush 9, 2) := by decide +kernel
theorem dX8_printed_20 : decode mX8_printed.2.1 20 = .ok (.invokestatic 216, 3) := by decide +kernel
theorem dX8_printed_23 : decode mX8_printed.2.1 23 = .ok (.ifCond .eq 21, 3) := by decide +kernel
theorem dX8_printed_26 : decode mX8_printed.2.1 26 = .ok (.iload 6, 2) := by decide +kernel
theorem dX8_printed_28 : decode mX8_printed.2.1 28 = .ok (.invokestatic 381, 3) := by decide +kernel
theorem dX8_printed_31 : decode mX8_printed.2.1 31 = .ok (.ifCond .eq 13, 3) := by decide +kernel
theorem dX8_printed_34 : decode mX8_printed.2.1 34 = .ok (.iload 7, 2) := by decide +kernel
theorem dX8_printed_36 : decode mX8_printed.2.1 36 = .ok (.iconst 0, 1) := by decide +kernel
theorem dX8_printed_37 : decode mX8_printed.2.1 37 = .ok (.iconst 1, 1) := by decide +kernel
theorem dX8_printed_38 : decode mX8_printed.2.1 38 = .ok (.invokestatic 216, 3) := by decide +kernel
theorem dX8_printed_41 : decode mX8_printed.2.1 41 = .ok (.ifCond .ne 5, 3) := by decide +kernel
theorem dX8_printed_44 : decode mX8_printed.2.1 44 = .ok (.iconst (-1), 1) := by decide +kernel
theorem dX8_printed_45 : decode mX8_printed.2.1 45 = .ok (.ireturn, 1) := by decide +kernel
theorem dX8_printed_46 : decode mX8_printed.2.1 46 = .ok (.iload 7, 2) := by decide +kernel
theorem dX8_printed_48 : decode mX8_printed.2.1 48 = .ok (.iconst 1, 1) := by decide +kernel
theorem dX8_printed_49 : decode mX8_printed.2.1 49 = .ok (.if_icmp .ne 10, 3) := by decide +kernel
theorem dX8_printed_52 : decode mX8_printed.2.1 52 = .ok (.aload_n 0, 1) := by decide +kernel
theorem dX8_printed_53 : decode mX8_printed.2.1 53 = .ok (.iload_n 2, 1) := by decide +kernel
theorem dX8_printed_54 : decode mX8_printed.2.1 54 = .ok (.iload_n 3, 1) := by decide +kernel
theorem dX8_printed_55 : decode mX8_printed.2.1 55 = .ok (.invokevirtual 411, 3) := by decide +kernel
theorem dX8_printed_58 : decode mX8_printed.2.1 58 = .ok (.ireturn, 1) := by decide +kernel
theorem dX8_printed_59 : decode mX8_printed.2.1 59 = .ok (.aload_n 0, 1) := by decide +kernel
theorem dX8_printed_60 : decode mX8_printed.2.1 60 = .ok (.invokevirtual 384, 3) := by decide +kernel
theorem dX8_printed_63 : decode mX8_printed.2.1 63 = .ok (.aload_n 0, 1) := by decide +kernel
theorem dX8_printed_64 : decode mX8_printed.2.1 64 = .ok (.iload_n 1, 1) := by decide +kernel
theorem dX8_printed_65 : decode mX8_printed.2.1 65 = .ok (.iload_n 2, 1) := by decide +kernel
theorem dX8_printed_66 : decode mX8_printed.2.1 66 = .ok (.iload_n 3, 1) := by decide +kernel
theorem dX8_printed_67 : decode mX8_printed.2.1 67 = .ok (.lload 4, 2) := by decide +kernel
theorem dX8_printed_69 : decode mX8_printed.2.1 69 = .ok (.iload 6, 2) := by decide +kernel
theorem dX8_printed_71 : decode mX8_printed.2.1 71 = .ok (.invokevirtual 414, 3) := by decide +kernel
theorem dX8_printed_74 : decode mX8_printed.2.1 74 = .ok (.istore 8, 2) := by decide +kernel
theorem dX8_printed_76 : decode mX8_printed.2.1 76 = .ok (.aload_n 0, 1) := by decide +kernel
theorem dX8_printed_77 : decode mX8_printed.2.1 77 = .ok (.invokevirtual 391, 3) := by decide +kernel
theorem dX8_printed_80 : decode mX8_printed.2.1 80 = .ok (.iload 8, 2) := by decide +kernel
theorem dX8_printed_82 : decode mX8_printed.2.1 82 = .ok (.ireturn, 1) := by decide +kernel
theorem dX8_dots_0 : decode mX8_dots.2.1 0 = .ok (.aload_n 0, 1) := by decide +kernel
theorem dX8_dots_1 : decode mX8_dots.2.1 1 = .ok (.iload_n 1, 1) := by decide +kernel
theorem dX8_dots_2 : decode mX8_dots.2.1 2 = .ok (.invokevirtual 272, 3) := by decide +kernel
theorem dX8_dots_5 : decode mX8_dots.2.1 5 = .ok (.ifCond .eq 19, 3) := by decide +kernel
theorem dX8_dots_8 : decode mX8_dots.2.1 8 = .ok (.aload_n 0, 1) := by decide +kernel
theorem dX8_dots_9 : decode mX8_dots.2.1 9 = .ok (.iload_n 2, 1) := by decide +kernel
theorem dX8_dots_10 : decode mX8_dots.2.1 10 = .ok (.invokevirtual 244, 3) := by decide +kernel
theorem dX8_dots_13 : decode mX8_dots.2.1 13 = .ok (.ifCond .eq 11, 3) := by decide +kernel
theorem dX8_dots_16 : decode mX8_dots.2.1 16 = .ok (.iload 5, 2) := by decide +kernel
theorem dX8_dots_18 : decode mX8_dots.2.1 18 = .ok (.invokestatic 381, 3) := by decide +kernel
theorem dX8_dots_21 : decode mX8_dots.2.1 21 = .ok (.ifCond .ne 5, 3) := by decide +kernel
theorem dX8_dots_24 : decode mX8_dots.2.1 24 = .ok (.iconst (-1), 1) := by decide +kernel
theorem dX8_dots_25 : decode mX8_dots.2.1 25 = .ok (.ireturn, 1) := by decide +kernel
theorem dX8_dots_26 : decode mX8_dots.2.1 26 = .ok (.aload_n 0, 1) := by decide +kernel
theorem dX8_dots_27 : decode mX8_dots.2.1 27 = .ok (.invokevirtual 384, 3) := by decide +kernel
theorem dX8_dots_30 : decode mX8_dots.2.1 30 = .ok (.iconst (-1), 1) := by decide +kernel
theorem dX8_dots_31 : decode mX8_dots.2.1 31 = .ok (.istore 6, 2) := by decide +kernel
theorem dX8_dots_33 : decode mX8_dots.2.1 33 = .ok (.iconst 0, 1) := by decide +kernel
theorem dX8_dots_34 : decode mX8_dots.2.1 34 = .ok (.istore 7, 2) := by decide +kernel
theorem dX8_dots_36 : decode mX8_dots.2.1 36 = .ok (.iconst 0, 1) := by decide +kernel
theorem dX8_dots_37 : decode mX8_dots.2.1 37 = .ok (.istore 8, 2) := by decide +kernel
theorem dX8_dots_39 : decode mX8_dots.2.1 39 = .ok (.iload 8, 2) := by decide +kernel
theorem dX8_dots_41 : decode mX8_dots.2.1 41 = .ok (.bipush 9, 2) := by decide +kernel
theorem dX8_dots_43 : decode mX8_dots.2.1 43 = .ok (.if_icmp .gt 43, 3) := by decide +kernel
theorem dX8_dots_46 : decode mX8_dots.2.1 46 = .ok (.aload_n 0, 1) := by decide +kernel
theorem dX8_dots_47 : decode mX8_dots.2.1 47 = .ok (.iload_n 1, 1) := by decide +kernel
theorem dX8_dots_48 : decode mX8_dots.2.1 48 = .ok (.iload_n 2, 1) := by decide +kernel
theorem dX8_dots_49 : decode mX8_dots.2.1 49 = .ok (.iload 8, 2) := by decide +kernel
theorem dX8_dots_51 : decode mX8_dots.2.1 51 = .ok (.lload_n 3, 1) := by decide +kernel
theorem dX8_dots_52 : decode mX8_dots.2.1 52 = .ok (.iload 5, 2) := by decide +kernel
theorem dX8_dots_54 : decode mX8_dots.2.1 54 = .ok (.invokevirtual 414, 3) := by decide +kernel
theorem dX8_dots_57 : decode mX8_dots.2.1 57 = .ok (.istore 9, 2) := by decide +kernel
theorem dX8_dots_59 : decode mX8_dots.2.1 59 = .ok (.iload 6, 2) := by decide +kernel
theorem dX8_dots_61 : decode mX8_dots.2.1 61 = .ok (.iconst (-1), 1) := by decide +kernel
theorem dX8_dots_62 : decode mX8_dots.2.1 62 = .ok (.if_icmp .eq 10, 3) := by decide +kernel
theorem dX8_dots_65 : decode mX8_dots.2.1 65 = .ok (.iload 9, 2) := by decide +kernel
theorem dX8_dots_67 : decode mX8_dots.2.1 67 = .ok (.iload 7, 2) := by decide +kernel
theorem dX8_dots_69 : decode mX8_dots.2.1 69 = .ok (.if_icmp .ge 11, 3) := by decide +kernel
theorem dX8_dots_72 : decode mX8_dots.2.1 72 = .ok (.iload 8, 2) := by decide +kernel
theorem dX8_dots_74 : decode mX8_dots.2.1 74 = .ok (.istore 6, 2) := by decide +kernel
theorem dX8_dots_76 : decode mX8_dots.2.1 76 = .ok (.iload 9, 2) := by decide +kernel
theorem dX8_dots_78 : decode mX8_dots.2.1 78 = .ok (.istore 7, 2) := by decide +kernel
theorem dX8_dots_80 : decode mX8_dots.2.1 80 = .ok (.iinc 8 1, 3) := by decide +kernel
theorem dX8_dots_83 : decode mX8_dots.2.1 83 = .ok (.goto (-44), 3) := by decide +kernel
theorem dX8_dots_86 : decode mX8_dots.2.1 86 = .ok (.aload_n 0, 1) := by decide +kernel
theorem dX8_dots_87 : decode mX8_dots.2.1 87 = .ok (.invokevirtual 391, 3) := by decide +kernel
theorem dX8_dots_90 : decode mX8_dots.2.1 90 = .ok (.iload 6, 2) := by decide +kernel
theorem dX8_dots_92 : decode mX8_dots.2.1 92 = .ok (.ireturn, 1) := by decide +kernel
theorem dX8_image_0 : decode mX8_image.2.1 0 = .ok (.iconst 0, 1) := by decide +kernel
theorem dX8_image_1 : decode mX8_image.2.1 1 = .ok (.istore_n 1, 1) := by decide +kernel
theorem dX8_image_2 : decode mX8_image.2.1 2 = .ok (.iload_n 1, 1) := by decide +kernel
theorem dX8_image_3 : decode mX8_image.2.1 3 = .ok (.sipush 416, 3) := by decide +kernel
theorem dX8_image_6 : decode mX8_image.2.1 6 = .ok (.if_icmp .ge 21, 3) := by decide +kernel
theorem dX8_image_9 : decode mX8_image.2.1 9 = .ok (.aload_n 0, 1) := by decide +kernel
theorem dX8_image_10 : decode mX8_image.2.1 10 = .ok (.getfield 56, 3) := by decide +kernel
theorem dX8_image_13 : decode mX8_image.2.1 13 = .ok (.iload_n 1, 1) := by decide +kernel
theorem dX8_image_14 : decode mX8_image.2.1 14 = .ok (.aload_n 0, 1) := by decide +kernel
theorem dX8_image_15 : decode mX8_image.2.1 15 = .ok (.getfield 50, 3) := by decide +kernel
theorem dX8_image_18 : decode mX8_image.2.1 18 = .ok (.iload_n 1, 1) := by decide +kernel
theorem dX8_image_19 : decode mX8_image.2.1 19 = .ok (.iaload, 1) := by decide +kernel
theorem dX8_image_20 : decode mX8_image.2.1 20 = .ok (.iastore, 1) := by decide +kernel
theorem dX8_image_21 : decode mX8_image.2.1 21 = .ok (.iinc 1 1, 3) := by decide +kernel
theorem dX8_image_24 : decode mX8_image.2.1 24 = .ok (.goto (-22), 3) := by decide +kernel
theorem dX8_image_27 : decode mX8_image.2.1 27 = .ok (.aload_n 0, 1) := by decide +kernel
theorem dX8_image_28 : decode mX8_image.2.1 28 = .ok (.aload_n 0, 1) := by decide +kernel
theorem dX8_image_29 : decode mX8_image.2.1 29 = .ok (.getfield 254, 3) := by decide +kernel
theorem dX8_image_32 : decode mX8_image.2.1 32 = .ok (.putfield 417, 3) := by decide +kernel
theorem dX8_image_35 : decode mX8_image.2.1 35 = .ok (.aload_n 0, 1) := by decide +kernel
theorem dX8_image_36 : decode mX8_image.2.1 36 = .ok (.iconst 1, 1) := by decide +kernel
theorem dX8_image_37 : decode mX8_image.2.1 37 = .ok (.putfield 420, 3) := by decide +kernel
theorem dX8_image_40 : decode mX8_image.2.1 40 = .ok (.aload_n 0, 1) := by decide +kernel
theorem dX8_image_41 : decode mX8_image.2.1 41 = .ok (.getfield 50, 3) := by decide +kernel
theorem dX8_image_44 : decode mX8_image.2.1 44 = .ok (.sipush 289, 3) := by decide +kernel
theorem dX8_image_47 : decode mX8_image.2.1 47 = .ok (.iaload, 1) := by decide +kernel
theorem dX8_image_48 : decode mX8_image.2.1 48 = .ok (.ireturn, 1) := by decide +kernel
theorem dX8_back_0 : decode mX8_back.2.1 0 = .ok (.aload_n 0, 1) := by decide +kernel
theorem dX8_back_1 : decode mX8_back.2.1 1 = .ok (.getfield 420, 3) := by decide +kernel
theorem dX8_back_4 : decode mX8_back.2.1 4 = .ok (.ifCond .ne 5, 3) := by decide +kernel
theorem dX8_back_7 : decode mX8_back.2.1 7 = .ok (.iconst (-1), 1) := by decide +kernel
theorem dX8_back_8 : decode mX8_back.2.1 8 = .ok (.ireturn, 1) := by decide +kernel
theorem dX8_back_9 : decode mX8_back.2.1 9 = .ok (.iconst 0, 1) := by decide +kernel
theorem dX8_back_10 : decode mX8_back.2.1 10 = .ok (.istore_n 1, 1) := by decide +kernel
theorem dX8_back_11 : decode mX8_back.2.1 11 = .ok (.iload_n 1, 1) := by decide +kernel
theorem dX8_back_12 : decode mX8_back.2.1 12 = .ok (.sipush 416, 3) := by decide +kernel
theorem dX8_back_15 : decode mX8_back.2.1 15 = .ok (.if_icmp .ge 21, 3) := by decide +kernel
theorem dX8_back_18 : decode mX8_back.2.1 18 = .ok (.aload_n 0, 1) := by decide +kernel
theorem dX8_back_19 : decode mX8_back.2.1 19 = .ok (.getfield 50, 3) := by decide +kernel
theorem dX8_back_22 : decode mX8_back.2.1 22 = .ok (.iload_n 1, 1) := by decide +kernel
theorem dX8_back_23 : decode mX8_back.2.1 23 = .ok (.aload_n 0, 1) := by decide +kernel
theorem dX8_back_24 : decode mX8_back.2.1 24 = .ok (.getfield 56, 3) := by decide +kernel
theorem dX8_back_27 : decode mX8_back.2.1 27 = .ok (.iload_n 1, 1) := by decide +kernel
theorem dX8_back_28 : decode mX8_back.2.1 28 = .ok (.iaload, 1) := by decide +kernel
theorem dX8_back_29 : decode mX8_back.2.1 29 = .ok (.iastore, 1) := by decide +kernel
theorem dX8_back_30 : decode mX8_back.2.1 30 = .ok (.iinc 1 1, 3) := by decide +kernel
theorem dX8_back_33 : decode mX8_back.2.1 33 = .ok (.goto (-22), 3) := by decide +kernel
theorem dX8_back_36 : decode mX8_back.2.1 36 = .ok (.aload_n 0, 1) := by decide +kernel
theorem dX8_back_37 : decode mX8_back.2.1 37 = .ok (.aload_n 0, 1) := by decide +kernel
theorem dX8_back_38 : decode mX8_back.2.1 38 = .ok (.getfield 417, 3) := by decide +kernel
theorem dX8_back_41 : decode mX8_back.2.1 41 = .ok (.putfield 254, 3) := by decide +kernel
theorem dX8_back_44 : decode mX8_back.2.1 44 = .ok (.aload_n 0, 1) := by decide +kernel
theorem dX8_back_45 : decode mX8_back.2.1 45 = .ok (.getfield 50, 3) := by decide +kernel
theorem dX8_back_48 : decode mX8_back.2.1 48 = .ok (.sipush 289, 3) := by decide +kernel
theorem dX8_back_51 : decode mX8_back.2.1 51 = .ok (.iaload, 1) := by decide +kernel
theorem dX8_back_52 : decode mX8_back.2.1 52 = .ok (.ireturn, 1) := by decide +kernel
theorem dX8_came_0 : decode mX8_came.2.1 0 = .ok (.iload_n 1, 1) := by decide +kernel
theorem dX8_came_1 : decode mX8_came.2.1 1 = .ok (.iconst 1, 1) := by decide +kernel
theorem dX8_came_2 : decode mX8_came.2.1 2 = .ok (.bipush 120, 2) := by decide +kernel
theorem dX8_came_4 : decode mX8_came.2.1 4 = .ok (.aload_n 0, 1) := by decide +kernel
theorem dX8_came_5 : decode mX8_came.2.1 5 = .ok (.getfield 50, 3) := by decide +kernel
theorem dX8_came_8 : decode mX8_came.2.1 8 = .ok (.sipush 289, 3) := by decide +kernel
theorem dX8_came_11 : decode mX8_came.2.1 11 = .ok (.iaload, 1) := by decide +kernel
theorem dX8_came_12 : decode mX8_came.2.1 12 = .ok (.invokestatic 261, 3) := by decide +kernel
theorem dX8_came_15 : decode mX8_came.2.1 15 = .ok (.invokestatic 216, 3) := by decide +kernel
theorem dX8_came_18 : decode mX8_came.2.1 18 = .ok (.ifCond .eq 18, 3) := by decide +kernel
theorem dX8_came_21 : decode mX8_came.2.1 21 = .ok (.aload_n 0, 1) := by decide +kernel
theorem dX8_came_22 : decode mX8_came.2.1 22 = .ok (.getfield 50, 3) := by decide +kernel
theorem dX8_came_25 : decode mX8_came.2.1 25 = .ok (.sipush 296, 3) := by decide +kernel
theorem dX8_came_28 : decode mX8_came.2.1 28 = .ok (.iload_n 1, 1) := by decide +kernel
theorem dX8_came_29 : decode mX8_came.2.1 29 = .ok (.iadd, 1) := by decide +kernel
theorem dX8_came_30 : decode mX8_came.2.1 30 = .ok (.iconst 1, 1) := by decide +kernel
theorem dX8_came_31 : decode mX8_came.2.1 31 = .ok (.isub, 1) := by decide +kernel
theorem dX8_came_32 : decode mX8_came.2.1 32 = .ok (.iaload, 1) := by decide +kernel
theorem dX8_came_33 : decode mX8_came.2.1 33 = .ok (.goto 4, 3) := by decide +kernel
theorem dX8_came_36 : decode mX8_came.2.1 36 = .ok (.iconst (-1), 1) := by decide +kernel
theorem dX8_came_37 : decode mX8_came.2.1 37 = .ok (.ireturn, 1) := by decide +kernel
theorem dX8_middle_0 : decode mX8_middle.2.1 0 = .ok (.iconst 0, 1) := by decide +kernel
theorem dX8_middle_1 : decode mX8_middle.2.1 1 = .ok (.istore_n 2, 1) := by decide +kernel
theorem dX8_middle_2 : decode mX8_middle.2.1 2 = .ok (.iconst 0, 1) := by decide +kernel
theorem dX8_middle_3 : decode mX8_middle.2.1 3 = .ok (.istore_n 3, 1) := by decide +kernel
theorem dX8_middle_4 : decode mX8_middle.2.1 4 = .ok (.iconst 0, 1) := by decide +kernel
theorem dX8_middle_5 : decode mX8_middle.2.1 5 = .ok (.istore 4, 2) := by decide +kernel
theorem dX8_middle_7 : decode mX8_middle.2.1 7 = .ok (.iload 4, 2) := by decide +kernel
theorem dX8_middle_9 : decode mX8_middle.2.1 9 = .ok (.bipush 24, 2) := by decide +kernel
theorem dX8_middle_11 : decode mX8_middle.2.1 11 = .ok (.if_icmp .ge 33, 3) := by decide +kernel
theorem dX8_middle_14 : decode mX8_middle.2.1 14 = .ok (.iload_n 2, 1) := by decide +kernel
theorem dX8_middle_15 : decode mX8_middle.2.1 15 = .ok (.aload_n 0, 1) := by decide +kernel
theorem dX8_middle_16 : decode mX8_middle.2.1 16 = .ok (.iload 4, 2) := by decide +kernel
theorem dX8_middle_18 : decode mX8_middle.2.1 18 = .ok (.invokevirtual 357, 3) := by decide +kernel
theorem dX8_middle_21 : decode mX8_middle.2.1 21 = .ok (.iadd, 1) := by decide +kernel
theorem dX8_middle_22 : decode mX8_middle.2.1 22 = .ok (.istore_n 2, 1) := by decide +kernel
theorem dX8_middle_23 : decode mX8_middle.2.1 23 = .ok (.iload_n 3, 1) := by decide +kernel
theorem dX8_middle_24 : decode mX8_middle.2.1 24 = .ok (.bipush 10, 2) := by decide +kernel
theorem dX8_middle_26 : decode mX8_middle.2.1 26 = .ok (.iload 4, 2) := by decide +kernel
theorem dX8_middle_28 : decode mX8_middle.2.1 28 = .ok (.imul, 1) := by decide +kernel
theorem dX8_middle_29 : decode mX8_middle.2.1 29 = .ok (.aload_n 0, 1) := by decide +kernel
theorem dX8_middle_30 : decode mX8_middle.2.1 30 = .ok (.iload 4, 2) := by decide +kernel
theorem dX8_middle_32 : decode mX8_middle.2.1 32 = .ok (.invokevirtual 357, 3) := by decide +kernel
theorem dX8_middle_35 : decode mX8_middle.2.1 35 = .ok (.imul, 1) := by decide +kernel
theorem dX8_middle_36 : decode mX8_middle.2.1 36 = .ok (.iadd, 1) := by decide +kernel
theorem dX8_middle_37 : decode mX8_middle.2.1 37 = .ok (.istore_n 3, 1) := by decide +kernel
theorem dX8_middle_38 : decode mX8_middle.2.1 38 = .ok (.iinc 4 1, 3) := by decide +kernel
theorem dX8_middle_41 : decode mX8_middle.2.1 41 = .ok (.goto (-34), 3) := by decide +kernel
theorem dX8_middle_44 : decode mX8_middle.2.1 44 = .ok (.iload_n 2, 1) := by decide +kernel
theorem dX8_middle_45 : decode mX8_middle.2.1 45 = .ok (.ifCond .eq 12, 3) := by decide +kernel
theorem dX8_middle_48 : decode mX8_middle.2.1 48 = .ok (.iload_n 1, 1) := by decide +kernel
theorem dX8_middle_49 : decode mX8_middle.2.1 49 = .ok (.iconst 0, 1) := by decide +kernel
theorem dX8_middle_50 : decode mX8_middle.2.1 50 = .ok (.iconst 1, 1) := by decide +kernel
theorem dX8_middle_51 : decode mX8_middle.2.1 51 = .ok (.invokestatic 216, 3) := by decide +kernel
theorem dX8_middle_54 : decode mX8_middle.2.1 54 = .ok (.ifCond .ne 5, 3) := by decide +kernel
theorem dX8_middle_57 : decode mX8_middle.2.1 57 = .ok (.iconst (-1), 1) := by decide +kernel
theorem dX8_middle_58 : decode mX8_middle.2.1 58 = .ok (.ireturn, 1) := by decide +kernel
theorem dX8_middle_59 : decode mX8_middle.2.1 59 = .ok (.iconst 0, 1) := by decide +kernel
theorem dX8_middle_60 : decode mX8_middle.2.1 60 = .ok (.istore 4, 2) := by decide +kernel
theorem dX8_middle_62 : decode mX8_middle.2.1 62 = .ok (.iconst 0, 1) := by decide +kernel
theorem dX8_middle_63 : decode mX8_middle.2.1 63 = .ok (.istore 5, 2) := by decide +kernel
theorem dX8_middle_65 : decode mX8_middle.2.1 65 = .ok (.iload 5, 2) := by decide +kernel
theorem dX8_middle_67 : decode mX8_middle.2.1 67 = .ok (.bipush 24, 2) := by decide +kernel
theorem dX8_middle_69 : decode mX8_middle.2.1 69 = .ok (.if_icmp .ge 33, 3) := by decide +kernel
theorem dX8_middle_72 : decode mX8_middle.2.1 72 = .ok (.iload 4, 2) := by decide +kernel
theorem dX8_middle_74 : decode mX8_middle.2.1 74 = .ok (.aload_n 0, 1) := by decide +kernel
theorem dX8_middle_75 : decode mX8_middle.2.1 75 = .ok (.iload 5, 2) := by decide +kernel
theorem dX8_middle_77 : decode mX8_middle.2.1 77 = .ok (.invokevirtual 357, 3) := by decide +kernel
theorem dX8_middle_80 : decode mX8_middle.2.1 80 = .ok (.iload 5, 2) := by decide +kernel
theorem dX8_middle_82 : decode mX8_middle.2.1 82 = .ok (.iload_n 3, 1) := by decide +kernel
theorem dX8_middle_83 : decode mX8_middle.2.1 83 = .ok (.iload_n 2, 1) := by decide +kernel
theorem dX8_middle_84 : decode mX8_middle.2.1 84 = .ok (.idiv, 1) := by decide +kernel
theorem dX8_middle_85 : decode mX8_middle.2.1 85 = .ok (.bipush 10, 2) := by decide +kernel
theorem dX8_middle_87 : decode mX8_middle.2.1 87 = .ok (.idiv, 1) := by decide +kernel
theorem dX8_middle_88 : decode mX8_middle.2.1 88 = .ok (.isub, 1) := by decide +kernel
theorem dX8_middle_89 : decode mX8_middle.2.1 89 = .ok (.invokestatic 308, 3) := by decide +kernel
theorem dX8_middle_92 : decode mX8_middle.2.1 92 = .ok (.imul, 1) := by decide +kernel
theorem dX8_middle_93 : decode mX8_middle.2.1 93 = .ok (.iadd, 1) := by decide +kernel
theorem dX8_middle_94 : decode mX8_middle.2.1 94 = .ok (.istore 4, 2) := by decide +kernel
theorem dX8_middle_96 : decode mX8_middle.2.1 96 = .ok (.iinc 5 1, 3) := by decide +kernel
theorem dX8_middle_99 : decode mX8_middle.2.1 99 = .ok (.goto (-34), 3) := by decide +kernel
theorem dX8_middle_102 : decode mX8_middle.2.1 102 = .ok (.iload_n 1, 1) := by decide +kernel
theorem dX8_middle_103 : decode mX8_middle.2.1 103 = .ok (.ifCond .ne 9, 3) := by decide +kernel
theorem dX8_middle_106 : decode mX8_middle.2.1 106 = .ok (.iload_n 3, 1) := by decide +kernel
theorem dX8_middle_107 : decode mX8_middle.2.1 107 = .ok (.iload_n 2, 1) := by decide +kernel
theorem dX8_middle_108 : decode mX8_middle.2.1 108 = .ok (.idiv, 1) := by decide +kernel
theorem dX8_middle_109 : decode mX8_middle.2.1 109 = .ok (.goto 5, 3) := by decide +kernel
theorem dX8_middle_112 : decode mX8_middle.2.1 112 = .ok (.iload 4, 2) := by decide +kernel
theorem dX8_middle_114 : decode mX8_middle.2.1 114 = .ok (.ireturn, 1) := by decide +kernel
theorem dX8_dry_0 : decode mX8_dry.2.1 0 = .ok (.aload_n 0, 1) := by decide +kernel
theorem dX8_dry_1 : decode mX8_dry.2.1 1 = .ok (.iload_n 1, 1) := by decide +kernel
theorem dX8_dry_2 : decode mX8_dry.2.1 2 = .ok (.invokevirtual 272, 3) := by decide +kernel
theorem dX8_dry_5 : decode mX8_dry.2.1 5 = .ok (.ifCond .eq 11, 3) := by decide +kernel
theorem dX8_dry_8 : decode mX8_dry.2.1 8 = .ok (.aload_n 0, 1) := by decide +kernel
theorem dX8_dry_9 : decode mX8_dry.2.1 9 = .ok (.iload_n 2, 1) := by decide +kernel
theorem dX8_dry_10 : decode mX8_dry.2.1 10 = .ok (.invokevirtual 244, 3) := by decide +kernel
theorem dX8_dry_13 : decode mX8_dry.2.1 13 = .ok (.ifCond .ne 5, 3) := by decide +kernel
theorem dX8_dry_16 : decode mX8_dry.2.1 16 = .ok (.iconst (-1), 1) := by decide +kernel
theorem dX8_dry_17 : decode mX8_dry.2.1 17 = .ok (.ireturn, 1) := by decide +kernel
theorem dX8_dry_18 : decode mX8_dry.2.1 18 = .ok (.aload_n 0, 1) := by decide +kernel
theorem dX8_dry_19 : decode mX8_dry.2.1 19 = .ok (.invokevirtual 384, 3) := by decide +kernel
theorem dX8_dry_22 : decode mX8_dry.2.1 22 = .ok (.aload_n 0, 1) := by decide +kernel
theorem dX8_dry_23 : decode mX8_dry.2.1 23 = .ok (.iconst 1, 1) := by decide +kernel
theorem dX8_dry_24 : decode mX8_dry.2.1 24 = .ok (.iload_n 2, 1) := by decide +kernel
theorem dX8_dry_25 : decode mX8_dry.2.1 25 = .ok (.ishl, 1) := by decide +kernel
theorem dX8_dry_26 : decode mX8_dry.2.1 26 = .ok (.invokevirtual 278, 3) := by decide +kernel
theorem dX8_dry_29 : decode mX8_dry.2.1 29 = .ok (.pop, 1) := by decide +kernel
theorem dX8_dry_30 : decode mX8_dry.2.1 30 = .ok (.aload_n 0, 1) := by decide +kernel
theorem dX8_dry_31 : decode mX8_dry.2.1 31 = .ok (.iload_n 1, 1) := by decide +kernel
theorem dX8_dry_32 : decode mX8_dry.2.1 32 = .ok (.lload_n 3, 1) := by decide +kernel
theorem dX8_dry_33 : decode mX8_dry.2.1 33 = .ok (.invokevirtual 281, 3) := by decide +kernel
theorem dX8_dry_36 : decode mX8_dry.2.1 36 = .ok (.aload_n 0, 1) := by decide +kernel
theorem dX8_dry_37 : decode mX8_dry.2.1 37 = .ok (.sipush 200, 3) := by decide +kernel
theorem dX8_dry_40 : decode mX8_dry.2.1 40 = .ok (.invokevirtual 350, 3) := by decide +kernel
theorem dX8_dry_43 : decode mX8_dry.2.1 43 = .ok (.istore 5, 2) := by decide +kernel
theorem dX8_dry_45 : decode mX8_dry.2.1 45 = .ok (.aload_n 0, 1) := by decide +kernel
theorem dX8_dry_46 : decode mX8_dry.2.1 46 = .ok (.getfield 50, 3) := by decide +kernel
theorem dX8_dry_49 : decode mX8_dry.2.1 49 = .ok (.sipush 288, 3) := by decide +kernel
theorem dX8_dry_52 : decode mX8_dry.2.1 52 = .ok (.iaload, 1) := by decide +kernel
theorem dX8_dry_53 : decode mX8_dry.2.1 53 = .ok (.ifCond .ne 8, 3) := by decide +kernel
theorem dX8_dry_56 : decode mX8_dry.2.1 56 = .ok (.iload 5, 2) := by decide +kernel
theorem dX8_dry_58 : decode mX8_dry.2.1 58 = .ok (.goto 4, 3) := by decide +kernel
theorem dX8_dry_61 : decode mX8_dry.2.1 61 = .ok (.iconst (-1), 1) := by decide +kernel
theorem dX8_dry_62 : decode mX8_dry.2.1 62 = .ok (.istore 6, 2) := by decide +kernel
theorem dX8_dry_64 : decode mX8_dry.2.1 64 = .ok (.aload_n 0, 1) := by decide +kernel
theorem dX8_dry_65 : decode mX8_dry.2.1 65 = .ok (.invokevirtual 391, 3) := by decide +kernel
theorem dX8_dry_68 : decode mX8_dry.2.1 68 = .ok (.iload 6, 2) := by decide +kernel
theorem dX8_dry_70 : decode mX8_dry.2.1 70 = .ok (.ireturn, 1) := by decide +kernel
theorem dX8_luck_0 : decode mX8_luck.2.1 0 = .ok (.aload_n 0, 1) := by decide +kernel
theorem dX8_luck_1 : decode mX8_luck.2.1 1 = .ok (.iload_n 1, 1) := by decide +kernel
theorem dX8_luck_2 : decode mX8_luck.2.1 2 = .ok (.invokevirtual 272, 3) := by decide +kernel
theorem dX8_luck_5 : decode mX8_luck.2.1 5 = .ok (.ifCond .eq 44, 3) := by decide +kernel
theorem dX8_luck_8 : decode mX8_luck.2.1 8 = .ok (.aload_n 0, 1) := by decide +kernel
theorem dX8_luck_9 : decode mX8_luck.2.1 9 = .ok (.iload_n 2, 1) := by decide +kernel
theorem dX8_luck_10 : decode mX8_luck.2.1 10 = .ok (.invokevirtual 244, 3) := by decide +kernel
theorem dX8_luck_13 : decode mX8_luck.2.1 13 = .ok (.ifCond .eq 36, 3) := by decide +kernel
theorem dX8_luck_16 : decode mX8_luck.2.1 16 = .ok (.iload_n 3, 1) := by decide +kernel
theorem dX8_luck_17 : decode mX8_luck.2.1 17 = .ok (.iconst 0, 1) := by decide +kernel
theorem dX8_luck_18 : decode mX8_luck.2.1 18 = .ok (.aload_n 0, 1) := by decide +kernel
theorem dX8_luck_19 : decode mX8_luck.2.1 19 = .ok (.getfield 238, 3) := by decide +kernel
theorem dX8_luck_22 : decode mX8_luck.2.1 22 = .ok (.iconst 1, 1) := by decide +kernel
theorem dX8_luck_23 : decode mX8_luck.2.1 23 = .ok (.isub, 1) := by decide +kernel
theorem dX8_luck_24 : decode mX8_luck.2.1 24 = .ok (.invokestatic 216, 3) := by decide +kernel
theorem dX8_luck_27 : decode mX8_luck.2.1 27 = .ok (.ifCond .eq 22, 3) := by decide +kernel
theorem dX8_luck_30 : decode mX8_luck.2.1 30 = .ok (.iload 6, 2) := by decide +kernel
theorem dX8_luck_32 : decode mX8_luck.2.1 32 = .ok (.iconst 1, 1) := by decide +kernel
theorem dX8_luck_33 : decode mX8_luck.2.1 33 = .ok (.bipush 20, 2) := by decide +kernel
theorem dX8_luck_35 : decode mX8_luck.2.1 35 = .ok (.invokestatic 216, 3) := by decide +kernel
theorem dX8_luck_38 : decode mX8_luck.2.1 38 = .ok (.ifCond .eq 11, 3) := by decide +kernel
theorem dX8_luck_41 : decode mX8_luck.2.1 41 = .ok (.iload 7, 2) := by decide +kernel
theorem dX8_luck_43 : decode mX8_luck.2.1 43 = .ok (.invokestatic 381, 3) := by decide +kernel
theorem dX8_luck_46 : decode mX8_luck.2.1 46 = .ok (.ifCond .ne 5, 3) := by decide +kernel
theorem dX8_luck_49 : decode mX8_luck.2.1 49 = .ok (.iconst (-1), 1) := by decide +kernel
theorem dX8_luck_50 : decode mX8_luck.2.1 50 = .ok (.ireturn, 1) := by decide +kernel
theorem dX8_luck_51 : decode mX8_luck.2.1 51 = .ok (.aload_n 0, 1) := by decide +kernel
theorem dX8_luck_52 : decode mX8_luck.2.1 52 = .ok (.invokevirtual 384, 3) := by decide +kernel
theorem dX8_luck_55 : decode mX8_luck.2.1 55 = .ok (.iconst 0, 1) := by decide +kernel
theorem dX8_luck_56 : decode mX8_luck.2.1 56 = .ok (.istore 8, 2) := by decide +kernel
theorem dX8_luck_58 : decode mX8_luck.2.1 58 = .ok (.iconst 0, 1) := by decide +kernel
theorem dX8_luck_59 : decode mX8_luck.2.1 59 = .ok (.istore 9, 2) := by decide +kernel
theorem dX8_luck_61 : decode mX8_luck.2.1 61 = .ok (.iload 9, 2) := by decide +kernel
theorem dX8_luck_63 : decode mX8_luck.2.1 63 = .ok (.iload 6, 2) := by decide +kernel
theorem dX8_luck_65 : decode mX8_luck.2.1 65 = .ok (.if_icmp .ge 48, 3) := by decide +kernel
theorem dX8_luck_68 : decode mX8_luck.2.1 68 = .ok (.aload_n 0, 1) := by decide +kernel
theorem dX8_luck_69 : decode mX8_luck.2.1 69 = .ok (.iconst 1, 1) := by decide +kernel
theorem dX8_luck_70 : decode mX8_luck.2.1 70 = .ok (.iload_n 2, 1) := by decide +kernel
theorem dX8_luck_71 : decode mX8_luck.2.1 71 = .ok (.ishl, 1) := by decide +kernel
theorem dX8_luck_72 : decode mX8_luck.2.1 72 = .ok (.invokevirtual 278, 3) := by decide +kernel
theorem dX8_luck_75 : decode mX8_luck.2.1 75 = .ok (.pop, 1) := by decide +kernel
theorem dX8_luck_76 : decode mX8_luck.2.1 76 = .ok (.aload_n 0, 1) := by decide +kernel
theorem dX8_luck_77 : decode mX8_luck.2.1 77 = .ok (.iload_n 1, 1) := by decide +kernel
theorem dX8_luck_78 : decode mX8_luck.2.1 78 = .ok (.lload 4, 2) := by decide +kernel
theorem dX8_luck_80 : decode mX8_luck.2.1 80 = .ok (.iload 9, 2) := by decide +kernel
theorem dX8_luck_82 : decode mX8_luck.2.1 82 = .ok (.i2l, 1) := by decide +kernel
theorem dX8_luck_83 : decode mX8_luck.2.1 83 = .ok (.ladd, 1) := by decide +kernel
theorem dX8_luck_84 : decode mX8_luck.2.1 84 = .ok (.iload 7, 2) := by decide +kernel
theorem dX8_luck_86 : decode mX8_luck.2.1 86 = .ok (.invokevirtual 387, 3) := by decide +kernel
theorem dX8_luck_89 : decode mX8_luck.2.1 89 = .ok (.iload 8, 2) := by decide +kernel
theorem dX8_luck_91 : decode mX8_luck.2.1 91 = .ok (.aload_n 0, 1) := by decide +kernel
theorem dX8_luck_92 : decode mX8_luck.2.1 92 = .ok (.iload_n 3, 1) := by decide +kernel
theorem dX8_luck_93 : decode mX8_luck.2.1 93 = .ok (.invokevirtual 375, 3) := by decide +kernel
theorem dX8_luck_96 : decode mX8_luck.2.1 96 = .ok (.ifCond .eq 7, 3) := by decide +kernel
theorem dX8_luck_99 : decode mX8_luck.2.1 99 = .ok (.iconst 1, 1) := by decide +kernel
theorem dX8_luck_100 : decode mX8_luck.2.1 100 = .ok (.goto 4, 3) := by decide +kernel
theorem dX8_luck_103 : decode mX8_luck.2.1 103 = .ok (.iconst 0, 1) := by decide +kernel
theorem dX8_luck_104 : decode mX8_luck.2.1 104 = .ok (.iadd, 1) := by decide +kernel
theorem dX8_luck_105 : decode mX8_luck.2.1 105 = .ok (.istore 8, 2) := by decide +kernel
theorem dX8_luck_107 : decode mX8_luck.2.1 107 = .ok (.iinc 9 1, 3) := by decide +kernel
theorem dX8_luck_110 : decode mX8_luck.2.1 110 = .ok (.goto (-49), 3) := by decide +kernel
theorem dX8_luck_113 : decode mX8_luck.2.1 113 = .ok (.aload_n 0, 1) := by decide +kernel
theorem dX8_luck_114 : decode mX8_luck.2.1 114 = .ok (.invokevirtual 391, 3) := by decide +kernel
theorem dX8_luck_117 : decode mX8_luck.2.1 117 = .ok (.iload 8, 2) := by decide +kernel
theorem dX8_luck_119 : decode mX8_luck.2.1 119 = .ok (.ireturn, 1) := by decide +kernel
theorem dX8_isLetter_0 : decode mX8_isLetter.2.1 0 = .ok (.iload_n 0, 1) := by decide +kernel
theorem dX8_isLetter_1 : decode mX8_isLetter.2.1 1 = .ok (.iconst 3, 1) := by decide +kernel
theorem dX8_isLetter_2 : decode mX8_isLetter.2.1 2 = .ok (.bipush 9, 2) := by decide +kernel
theorem dX8_isLetter_4 : decode mX8_isLetter.2.1 4 = .ok (.invokestatic 216, 3) := by decide +kernel
theorem dX8_isLetter_7 : decode mX8_isLetter.2.1 7 = .ok (.ifCond .eq 13, 3) := by decide +kernel
theorem dX8_isLetter_10 : decode mX8_isLetter.2.1 10 = .ok (.iload_n 0, 1) := by decide +kernel
theorem dX8_isLetter_11 : decode mX8_isLetter.2.1 11 = .ok (.bipush 8, 2) := by decide +kernel
theorem dX8_isLetter_13 : decode mX8_isLetter.2.1 13 = .ok (.if_icmp .eq 7, 3) := by decide +kernel
theorem dX8_isLetter_16 : decode mX8_isLetter.2.1 16 = .ok (.iconst 1, 1) := by decide +kernel
theorem dX8_isLetter_17 : decode mX8_isLetter.2.1 17 = .ok (.goto 4, 3) := by decide +kernel
theorem dX8_isLetter_20 : decode mX8_isLetter.2.1 20 = .ok (.iconst 0, 1) := by decide +kernel
theorem dX8_isLetter_21 : decode mX8_isLetter.2.1 21 = .ok (.ireturn, 1) := by decide +kernel
theorem dX8_line_0 : decode mX8_line.2.1 0 = .ok (.aload_n 0, 1) := by decide +kernel
theorem dX8_line_1 : decode mX8_line.2.1 1 = .ok (.iload_n 2, 1) := by decide +kernel
theorem dX8_line_2 : decode mX8_line.2.1 2 = .ok (.invokevirtual 244, 3) := by decide +kernel
theorem dX8_line_5 : decode mX8_line.2.1 5 = .ok (.ifCond .eq 66, 3) := by decide +kernel
theorem dX8_line_8 : decode mX8_line.2.1 8 = .ok (.iload_n 3, 1) := by decide +kernel
theorem dX8_line_9 : decode mX8_line.2.1 9 = .ok (.invokestatic 423, 3) := by decide +kernel
theorem dX8_line_12 : decode mX8_line.2.1 12 = .ok (.ifCond .eq 59, 3) := by decide +kernel
theorem dX8_line_15 : decode mX8_line.2.1 15 = .ok (.iload 4, 2) := by decide +kernel
theorem dX8_line_17 : decode mX8_line.2.1 17 = .ok (.invokestatic 423, 3) := by decide +kernel
theorem dX8_line_20 : decode mX8_line.2.1 20 = .ok (.ifCond .eq 51, 3) := by decide +kernel
theorem dX8_line_23 : decode mX8_line.2.1 23 = .ok (.iload_n 3, 1) := by decide +kernel
theorem dX8_line_24 : decode mX8_line.2.1 24 = .ok (.iload 4, 2) := by decide +kernel
theorem dX8_line_26 : decode mX8_line.2.1 26 = .ok (.if_icmp .eq 45, 3) := by decide +kernel
theorem dX8_line_29 : decode mX8_line.2.1 29 = .ok (.iload 5, 2) := by decide +kernel
theorem dX8_line_31 : decode mX8_line.2.1 31 = .ok (.iconst (-1), 1) := by decide +kernel
theorem dX8_line_32 : decode mX8_line.2.1 32 = .ok (.bipush 60, 2) := by decide +kernel
theorem dX8_line_34 : decode mX8_line.2.1 34 = .ok (.invokestatic 216, 3) := by decide +kernel
theorem dX8_line_37 : decode mX8_line.2.1 37 = .ok (.ifCond .eq 34, 3) := by decide +kernel
theorem dX8_line_40 : decode mX8_line.2.1 40 = .ok (.aload_n 0, 1) := by decide +kernel
theorem dX8_line_41 : decode mX8_line.2.1 41 = .ok (.iload_n 1, 1) := by decide +kernel
theorem dX8_line_42 : decode mX8_line.2.1 42 = .ok (.invokevirtual 272, 3) := by decide +kernel
theorem dX8_line_45 : decode mX8_line.2.1 45 = .ok (.ifCond .eq 26, 3) := by decide +kernel
theorem dX8_line_48 : decode mX8_line.2.1 48 = .ok (.iload 6, 2) := by decide +kernel
theorem dX8_line_50 : decode mX8_line.2.1 50 = .ok (.iconst 0, 1) := by decide +kernel
theorem dX8_line_51 : decode mX8_line.2.1 51 = .ok (.aload_n 0, 1) := by decide +kernel
theorem dX8_line_52 : decode mX8_line.2.1 52 = .ok (.getfield 238, 3) := by decide +kernel
theorem dX8_line_55 : decode mX8_line.2.1 55 = .ok (.iconst 1, 1) := by decide +kernel
theorem dX8_line_56 : decode mX8_line.2.1 56 = .ok (.isub, 1) := by decide +kernel
theorem dX8_line_57 : decode mX8_line.2.1 57 = .ok (.invokestatic 216, 3) := by decide +kernel
theorem dX8_line_60 : decode mX8_line.2.1 60 = .ok (.ifCond .eq 11, 3) := by decide +kernel
theorem dX8_line_63 : decode mX8_line.2.1 63 = .ok (.iload 9, 2) := by decide +kernel
theorem dX8_line_65 : decode mX8_line.2.1 65 = .ok (.invokestatic 381, 3) := by decide +kernel
theorem dX8_line_68 : decode mX8_line.2.1 68 = .ok (.ifCond .ne 5, 3) := by decide +kernel
theorem dX8_line_71 : decode mX8_line.2.1 71 = .ok (.iconst (-1), 1) := by decide +kernel
theorem dX8_line_72 : decode mX8_line.2.1 72 = .ok (.ireturn, 1) := by decide +kernel
theorem dX8_line_73 : decode mX8_line.2.1 73 = .ok (.aload_n 0, 1) := by decide +kernel
theorem dX8_line_74 : decode mX8_line.2.1 74 = .ok (.getfield 40, 3) := by decide +kernel
theorem dX8_line_77 : decode mX8_line.2.1 77 = .ok (.bipush 12, 2) := by decide +kernel
theorem dX8_line_79 : decode mX8_line.2.1 79 = .ok (.iload_n 2, 1) := by decide +kernel
theorem dX8_line_80 : decode mX8_line.2.1 80 = .ok (.imul, 1) := by decide +kernel
theorem dX8_line_81 : decode mX8_line.2.1 81 = .ok (.iload_n 3, 1) := by decide +kernel
theorem dX8_line_82 : decode mX8_line.2.1 82 = .ok (.iadd, 1) := by decide +kernel
theorem dX8_line_83 : decode mX8_line.2.1 83 = .ok (.iaload, 1) := by decide +kernel
theorem dX8_line_84 : decode mX8_line.2.1 84 = .ok (.istore 10, 2) := by decide +kernel
theorem dX8_line_86 : decode mX8_line.2.1 86 = .ok (.iconst 0, 1) := by decide +kernel
theorem dX8_line_87 : decode mX8_line.2.1 87 = .ok (.istore 11, 2) := by decide +kernel
theorem dX8_line_89 : decode mX8_line.2.1 89 = .ok (.iconst (-1), 1) := by decide +kernel
theorem dX8_line_90 : decode mX8_line.2.1 90 = .ok (.istore 12, 2) := by decide +kernel
theorem dX8_line_92 : decode mX8_line.2.1 92 = .ok (.iload 5, 2) := by decide +kernel
theorem dX8_line_94 : decode mX8_line.2.1 94 = .ok (.iconst (-1), 1) := by decide +kernel
theorem dX8_line_95 : decode mX8_line.2.1 95 = .ok (.if_icmp .ne 7, 3) := by decide +kernel
theorem dX8_line_98 : decode mX8_line.2.1 98 = .ok (.iconst 0, 1) := by decide +kernel
theorem dX8_line_99 : decode mX8_line.2.1 99 = .ok (.goto 5, 3) := by decide +kernel
theorem dX8_line_102 : decode mX8_line.2.1 102 = .ok (.iload 5, 2) := by decide +kernel
theorem dX8_line_104 : decode mX8_line.2.1 104 = .ok (.istore 13, 2) := by decide +kernel
theorem dX8_line_106 : decode mX8_line.2.1 106 = .ok (.iload 13, 2) := by decide +kernel
theorem dX8_line_108 : decode mX8_line.2.1 108 = .ok (.iload 5, 2) := by decide +kernel
theorem dX8_line_110 : decode mX8_line.2.1 110 = .ok (.iconst (-1), 1) := by decide +kernel
theorem dX8_line_111 : decode mX8_line.2.1 111 = .ok (.if_icmp .ne 8, 3) := by decide +kernel
theorem dX8_line_114 : decode mX8_line.2.1 114 = .ok (.bipush 60, 2) := by decide +kernel
theorem dX8_line_116 : decode mX8_line.2.1 116 = .ok (.goto 5, 3) := by decide +kernel
theorem dX8_line_119 : decode mX8_line.2.1 119 = .ok (.iload 5, 2) := by decide +kernel
theorem dX8_line_121 : decode mX8_line.2.1 121 = .ok (.if_icmp .gt 60, 3) := by decide +kernel
theorem dX8_line_124 : decode mX8_line.2.1 124 = .ok (.aload_n 0, 1) := by decide +kernel
theorem dX8_line_125 : decode mX8_line.2.1 125 = .ok (.getfield 40, 3) := by decide +kernel
theorem dX8_line_128 : decode mX8_line.2.1 128 = .ok (.bipush 12, 2) := by decide +kernel
theorem dX8_line_130 : decode mX8_line.2.1 130 = .ok (.iload_n 2, 1) := by decide +kernel
theorem dX8_line_131 : decode mX8_line.2.1 131 = .ok (.imul, 1) := by decide +kernel
theorem dX8_line_132 : decode mX8_line.2.1 132 = .ok (.iload_n 3, 1) := by decide +kernel
theorem dX8_line_133 : decode mX8_line.2.1 133 = .ok (.iadd, 1) := by decide +kernel
theorem dX8_line_134 : decode mX8_line.2.1 134 = .ok (.iload 13, 2) := by decide +kernel
theorem dX8_line_136 : decode mX8_line.2.1 136 = .ok (.iastore, 1) := by decide +kernel
theorem dX8_line_137 : decode mX8_line.2.1 137 = .ok (.aload_n 0, 1) := by decide +kernel
theorem dX8_line_138 : decode mX8_line.2.1 138 = .ok (.iload_n 1, 1) := by decide +kernel
theorem dX8_line_139 : decode mX8_line.2.1 139 = .ok (.iload_n 2, 1) := by decide +kernel
theorem dX8_line_140 : decode mX8_line.2.1 140 = .ok (.iload 4, 2) := by decide +kernel
theorem dX8_line_142 : decode mX8_line.2.1 142 = .ok (.iload 6, 2) := by decide +kernel
theorem dX8_line_144 : decode mX8_line.2.1 144 = .ok (.lload 7, 2) := by decide +kernel
theorem dX8_line_146 : decode mX8_line.2.1 146 = .ok (.iload 9, 2) := by decide +kernel
theorem dX8_line_148 : decode mX8_line.2.1 148 = .ok (.invokevirtual 426, 3) := by decide +kernel
theorem dX8_line_151 : decode mX8_line.2.1 151 = .ok (.istore 12, 2) := by decide +kernel
theorem dX8_line_153 : decode mX8_line.2.1 153 = .ok (.iload 11, 2) := by decide +kernel
theorem dX8_line_155 : decode mX8_line.2.1 155 = .ok (.iload 12, 2) := by decide +kernel
theorem dX8_line_157 : decode mX8_line.2.1 157 = .ok (.iconst (-1), 1) := by decide +kernel
theorem dX8_line_158 : decode mX8_line.2.1 158 = .ok (.if_icmp .eq 13, 3) := by decide +kernel
theorem dX8_line_161 : decode mX8_line.2.1 161 = .ok (.iconst 1, 1) := by decide +kernel
theorem dX8_line_162 : decode mX8_line.2.1 162 = .ok (.iload 13, 2) := by decide +kernel
theorem dX8_line_164 : decode mX8_line.2.1 164 = .ok (.bipush 10, 2) := by decide +kernel
theorem dX8_line_166 : decode mX8_line.2.1 166 = .ok (.idiv, 1) := by decide +kernel
theorem dX8_line_167 : decode mX8_line.2.1 167 = .ok (.ishl, 1) := by decide +kernel
theorem dX8_line_168 : decode mX8_line.2.1 168 = .ok (.goto 4, 3) := by decide +kernel
theorem dX8_line_171 : decode mX8_line.2.1 171 = .ok (.iconst 0, 1) := by decide +kernel
theorem dX8_line_172 : decode mX8_line.2.1 172 = .ok (.ior, 1) := by decide +kernel
theorem dX8_line_173 : decode mX8_line.2.1 173 = .ok (.istore 11, 2) := by decide +kernel
theorem dX8_line_175 : decode mX8_line.2.1 175 = .ok (.iinc 13 10, 3) := by decide +kernel
theorem dX8_line_178 : decode mX8_line.2.1 178 = .ok (.goto (-72), 3) := by decide +kernel
theorem dX8_line_181 : decode mX8_line.2.1 181 = .ok (.aload_n 0, 1) := by decide +kernel
theorem dX8_line_182 : decode mX8_line.2.1 182 = .ok (.getfield 40, 3) := by decide +kernel
theorem dX8_line_185 : decode mX8_line.2.1 185 = .ok (.bipush 12, 2) := by decide +kernel
theorem dX8_line_187 : decode mX8_line.2.1 187 = .ok (.iload_n 2, 1) := by decide +kernel
theorem dX8_line_188 : decode mX8_line.2.1 188 = .ok (.imul, 1) := by decide +kernel
theorem dX8_line_189 : decode mX8_line.2.1 189 = .ok (.iload_n 3, 1) := by decide +kernel
theorem dX8_line_190 : decode mX8_line.2.1 190 = .ok (.iadd, 1) := by decide +kernel
theorem dX8_line_191 : decode mX8_line.2.1 191 = .ok (.iload 10, 2) := by decide +kernel
theorem dX8_line_193 : decode mX8_line.2.1 193 = .ok (.iastore, 1) := by decide +kernel
theorem dX8_line_194 : decode mX8_line.2.1 194 = .ok (.iload 5, 2) := by decide +kernel
theorem dX8_line_196 : decode mX8_line.2.1 196 = .ok (.iconst (-1), 1) := by decide +kernel
theorem dX8_line_197 : decode mX8_line.2.1 197 = .ok (.if_icmp .ne 8, 3) := by decide +kernel
theorem dX8_line_200 : decode mX8_line.2.1 200 = .ok (.iload 11, 2) := by decide +kernel
theorem dX8_line_202 : decode mX8_line.2.1 202 = .ok (.goto 5, 3) := by decide +kernel
theorem dX8_line_205 : decode mX8_line.2.1 205 = .ok (.iload 12, 2) := by decide +kernel
theorem dX8_line_207 : decode mX8_line.2.1 207 = .ok (.ireturn, 1) := by decide +kernel
theorem dX8_alike_0 : decode mX8_alike.2.1 0 = .ok (.aload_n 0, 1) := by decide +kernel
theorem dX8_alike_1 : decode mX8_alike.2.1 1 = .ok (.iload_n 1, 1) := by decide +kernel
theorem dX8_alike_2 : decode mX8_alike.2.1 2 = .ok (.invokevirtual 272, 3) := by decide +kernel
theorem dX8_alike_5 : decode mX8_alike.2.1 5 = .ok (.ifCond .eq 27, 3) := by decide +kernel
theorem dX8_alike_8 : decode mX8_alike.2.1 8 = .ok (.aload_n 0, 1) := by decide +kernel
theorem dX8_alike_9 : decode mX8_alike.2.1 9 = .ok (.iload_n 2, 1) := by decide +kernel
theorem dX8_alike_10 : decode mX8_alike.2.1 10 = .ok (.invokevirtual 244, 3) := by decide +kernel
theorem dX8_alike_13 : decode mX8_alike.2.1 13 = .ok (.ifCond .eq 19, 3) := by decide +kernel
theorem dX8_alike_16 : decode mX8_alike.2.1 16 = .ok (.aload_n 0, 1) := by decide +kernel
theorem dX8_alike_17 : decode mX8_alike.2.1 17 = .ok (.iload_n 3, 1) := by decide +kernel
theorem dX8_alike_18 : decode mX8_alike.2.1 18 = .ok (.invokevirtual 244, 3) := by decide +kernel
theorem dX8_alike_21 : decode mX8_alike.2.1 21 = .ok (.ifCond .eq 11, 3) := by decide +kernel
theorem dX8_alike_24 : decode mX8_alike.2.1 24 = .ok (.iload 6, 2) := by decide +kernel
theorem dX8_alike_26 : decode mX8_alike.2.1 26 = .ok (.invokestatic 381, 3) := by decide +kernel
theorem dX8_alike_29 : decode mX8_alike.2.1 29 = .ok (.ifCond .ne 5, 3) := by decide +kernel
theorem dX8_alike_32 : decode mX8_alike.2.1 32 = .ok (.iconst (-1), 1) := by decide +kernel
theorem dX8_alike_33 : decode mX8_alike.2.1 33 = .ok (.ireturn, 1) := by decide +kernel
theorem dX8_alike_34 : decode mX8_alike.2.1 34 = .ok (.aload_n 0, 1) := by decide +kernel
theorem dX8_alike_35 : decode mX8_alike.2.1 35 = .ok (.invokevirtual 384, 3) := by decide +kernel
theorem dX8_alike_38 : decode mX8_alike.2.1 38 = .ok (.aload_n 0, 1) := by decide +kernel
theorem dX8_alike_39 : decode mX8_alike.2.1 39 = .ok (.iconst 1, 1) := by decide +kernel
theorem dX8_alike_40 : decode mX8_alike.2.1 40 = .ok (.iload_n 2, 1) := by decide +kernel
theorem dX8_alike_41 : decode mX8_alike.2.1 41 = .ok (.ishl, 1) := by decide +kernel
theorem dX8_alike_42 : decode mX8_alike.2.1 42 = .ok (.invokevirtual 278, 3) := by decide +kernel
theorem dX8_alike_45 : decode mX8_alike.2.1 45 = .ok (.pop, 1) := by decide +kernel
theorem dX8_alike_46 : decode mX8_alike.2.1 46 = .ok (.aload_n 0, 1) := by decide +kernel
theorem dX8_alike_47 : decode mX8_alike.2.1 47 = .ok (.iload_n 1, 1) := by decide +kernel
theorem dX8_alike_48 : decode mX8_alike.2.1 48 = .ok (.lload 4, 2) := by decide +kernel
theorem dX8_alike_50 : decode mX8_alike.2.1 50 = .ok (.iload 6, 2) := by decide +kernel
theorem dX8_alike_52 : decode mX8_alike.2.1 52 = .ok (.invokevirtual 387, 3) := by decide +kernel
theorem dX8_alike_55 : decode mX8_alike.2.1 55 = .ok (.iconst 0, 1) := by decide +kernel
theorem dX8_alike_56 : decode mX8_alike.2.1 56 = .ok (.istore 7, 2) := by decide +kernel
theorem dX8_alike_58 : decode mX8_alike.2.1 58 = .ok (.iload 7, 2) := by decide +kernel
theorem dX8_alike_60 : decode mX8_alike.2.1 60 = .ok (.bipush 24, 2) := by decide +kernel
theorem dX8_alike_62 : decode mX8_alike.2.1 62 = .ok (.if_icmp .ge 22, 3) := by decide +kernel
theorem dX8_alike_65 : decode mX8_alike.2.1 65 = .ok (.aload_n 0, 1) := by decide +kernel
theorem dX8_alike_66 : decode mX8_alike.2.1 66 = .ok (.getfield 77, 3) := by decide +kernel
theorem dX8_alike_69 : decode mX8_alike.2.1 69 = .ok (.iload 7, 2) := by decide +kernel
theorem dX8_alike_71 : decode mX8_alike.2.1 71 = .ok (.aload_n 0, 1) := by decide +kernel
theorem dX8_alike_72 : decode mX8_alike.2.1 72 = .ok (.iload 7, 2) := by decide +kernel
theorem dX8_alike_74 : decode mX8_alike.2.1 74 = .ok (.invokevirtual 357, 3) := by decide +kernel
theorem dX8_alike_77 : decode mX8_alike.2.1 77 = .ok (.iastore, 1) := by decide +kernel
theorem dX8_alike_78 : decode mX8_alike.2.1 78 = .ok (.iinc 7 1, 3) := by decide +kernel
theorem dX8_alike_81 : decode mX8_alike.2.1 81 = .ok (.goto (-23), 3) := by decide +kernel
theorem dX8_alike_84 : decode mX8_alike.2.1 84 = .ok (.aload_n 0, 1) := by decide +kernel
theorem dX8_alike_85 : decode mX8_alike.2.1 85 = .ok (.iconst 1, 1) := by decide +kernel
theorem dX8_alike_86 : decode mX8_alike.2.1 86 = .ok (.iload_n 3, 1) := by decide +kernel
theorem dX8_alike_87 : decode mX8_alike.2.1 87 = .ok (.ishl, 1) := by decide +kernel
theorem dX8_alike_88 : decode mX8_alike.2.1 88 = .ok (.invokevirtual 278, 3) := by decide +kernel
theorem dX8_alike_91 : decode mX8_alike.2.1 91 = .ok (.pop, 1) := by decide +kernel
theorem dX8_alike_92 : decode mX8_alike.2.1 92 = .ok (.aload_n 0, 1) := by decide +kernel
theorem dX8_alike_93 : decode mX8_alike.2.1 93 = .ok (.iload_n 1, 1) := by decide +kernel
theorem dX8_alike_94 : decode mX8_alike.2.1 94 = .ok (.lload 4, 2) := by decide +kernel
theorem dX8_alike_96 : decode mX8_alike.2.1 96 = .ok (.iload 6, 2) := by decide +kernel
theorem dX8_alike_98 : decode mX8_alike.2.1 98 = .ok (.invokevirtual 387, 3) := by decide +kernel
theorem dX8_alike_101 : decode mX8_alike.2.1 101 = .ok (.aload_n 0, 1) := by decide +kernel
theorem dX8_alike_102 : decode mX8_alike.2.1 102 = .ok (.getfield 40, 3) := by decide +kernel
theorem dX8_alike_105 : decode mX8_alike.2.1 105 = .ok (.bipush 12, 2) := by decide +kernel
theorem dX8_alike_107 : decode mX8_alike.2.1 107 = .ok (.iload_n 2, 1) := by decide +kernel
theorem dX8_alike_108 : decode mX8_alike.2.1 108 = .ok (.imul, 1) := by decide +kernel
theorem dX8_alike_109 : decode mX8_alike.2.1 109 = .ok (.iconst 0, 1) := by decide +kernel
theorem dX8_alike_110 : decode mX8_alike.2.1 110 = .ok (.iadd, 1) := by decide +kernel
theorem dX8_alike_111 : decode mX8_alike.2.1 111 = .ok (.iaload, 1) := by decide +kernel
theorem dX8_alike_112 : decode mX8_alike.2.1 112 = .ok (.istore 7, 2) := by decide +kernel
theorem dX8_alike_114 : decode mX8_alike.2.1 114 = .ok (.aload_n 0, 1) := by decide +kernel
theorem dX8_alike_115 : decode mX8_alike.2.1 115 = .ok (.getfield 40, 3) := by decide +kernel
theorem dX8_alike_118 : decode mX8_alike.2.1 118 = .ok (.bipush 12, 2) := by decide +kernel
theorem dX8_alike_120 : decode mX8_alike.2.1 120 = .ok (.iload_n 3, 1) := by decide +kernel
theorem dX8_alike_121 : decode mX8_alike.2.1 121 = .ok (.imul, 1) := by decide +kernel
theorem dX8_alike_122 : decode mX8_alike.2.1 122 = .ok (.iconst 0, 1) := by decide +kernel
theorem dX8_alike_123 : decode mX8_alike.2.1 123 = .ok (.iadd, 1) := by decide +kernel
theorem dX8_alike_124 : decode mX8_alike.2.1 124 = .ok (.iaload, 1) := by decide +kernel
theorem dX8_alike_125 : decode mX8_alike.2.1 125 = .ok (.istore 8, 2) := by decide +kernel
theorem dX8_alike_127 : decode mX8_alike.2.1 127 = .ok (.iconst 0, 1) := by decide +kernel
theorem dX8_alike_128 : decode mX8_alike.2.1 128 = .ok (.istore 9, 2) := by decide +kernel
theorem dX8_alike_130 : decode mX8_alike.2.1 130 = .ok (.iconst 0, 1) := by decide +kernel
theorem dX8_alike_131 : decode mX8_alike.2.1 131 = .ok (.istore 10, 2) := by decide +kernel
theorem dX8_alike_133 : decode mX8_alike.2.1 133 = .ok (.iload 10, 2) := by decide +kernel
theorem dX8_alike_135 : decode mX8_alike.2.1 135 = .ok (.aload_n 0, 1) := by decide +kernel
theorem dX8_alike_136 : decode mX8_alike.2.1 136 = .ok (.getfield 40, 3) := by decide +kernel
theorem dX8_alike_139 : decode mX8_alike.2.1 139 = .ok (.bipush 12, 2) := by decide +kernel
theorem dX8_alike_141 : decode mX8_alike.2.1 141 = .ok (.iload_n 2, 1) := by decide +kernel
theorem dX8_alike_142 : decode mX8_alike.2.1 142 = .ok (.imul, 1) := by decide +kernel
theorem dX8_alike_143 : decode mX8_alike.2.1 143 = .ok (.iconst 1, 1) := by decide +kernel
theorem dX8_alike_144 : decode mX8_alike.2.1 144 = .ok (.iadd, 1) := by decide +kernel
theorem dX8_alike_145 : decode mX8_alike.2.1 145 = .ok (.iaload, 1) := by decide +kernel
theorem dX8_alike_146 : decode mX8_alike.2.1 146 = .ok (.aload_n 0, 1) := by decide +kernel
theorem dX8_alike_147 : decode mX8_alike.2.1 147 = .ok (.getfield 40, 3) := by decide +kernel
theorem dX8_alike_150 : decode mX8_alike.2.1 150 = .ok (.bipush 12, 2) := by decide +kernel
theorem dX8_alike_152 : decode mX8_alike.2.1 152 = .ok (.iload_n 3, 1) := by decide +kernel
theorem dX8_alike_153 : decode mX8_alike.2.1 153 = .ok (.imul, 1) := by decide +kernel
theorem dX8_alike_154 : decode mX8_alike.2.1 154 = .ok (.iconst 1, 1) := by decide +kernel
theorem dX8_alike_155 : decode mX8_alike.2.1 155 = .ok (.iadd, 1) := by decide +kernel
theorem dX8_alike_156 : decode mX8_alike.2.1 156 = .ok (.iaload, 1) := by decide +kernel
theorem dX8_alike_157 : decode mX8_alike.2.1 157 = .ok (.invokestatic 300, 3) := by decide +kernel
theorem dX8_alike_160 : decode mX8_alike.2.1 160 = .ok (.if_icmp .ge 59, 3) := by decide +kernel
theorem dX8_alike_163 : decode mX8_alike.2.1 163 = .ok (.iload 7, 2) := by decide +kernel
theorem dX8_alike_165 : decode mX8_alike.2.1 165 = .ok (.iload 10, 2) := by decide +kernel
theorem dX8_alike_167 : decode mX8_alike.2.1 167 = .ok (.iadd, 1) := by decide +kernel
theorem dX8_alike_168 : decode mX8_alike.2.1 168 = .ok (.bipush 24, 2) := by decide +kernel
theorem dX8_alike_170 : decode mX8_alike.2.1 170 = .ok (.if_icmp .ge 16, 3) := by decide +kernel
theorem dX8_alike_173 : decode mX8_alike.2.1 173 = .ok (.aload_n 0, 1) := by decide +kernel
theorem dX8_alike_174 : decode mX8_alike.2.1 174 = .ok (.getfield 77, 3) := by decide +kernel
theorem dX8_alike_177 : decode mX8_alike.2.1 177 = .ok (.iload 7, 2) := by decide +kernel
theorem dX8_alike_179 : decode mX8_alike.2.1 179 = .ok (.iload 10, 2) := by decide +kernel
theorem dX8_alike_181 : decode mX8_alike.2.1 181 = .ok (.iadd, 1) := by decide +kernel
theorem dX8_alike_182 : decode mX8_alike.2.1 182 = .ok (.iaload, 1) := by decide +kernel
theorem dX8_alike_183 : decode mX8_alike.2.1 183 = .ok (.goto 4, 3) := by decide +kernel
theorem dX8_alike_186 : decode mX8_alike.2.1 186 = .ok (.iconst 0, 1) := by decide +kernel
theorem dX8_alike_187 : decode mX8_alike.2.1 187 = .ok (.istore 11, 2) := by decide +kernel
theorem dX8_alike_189 : decode mX8_alike.2.1 189 = .ok (.iload 9, 2) := by decide +kernel
theorem dX8_alike_191 : decode mX8_alike.2.1 191 = .ok (.iload 11, 2) := by decide +kernel
theorem dX8_alike_193 : decode mX8_alike.2.1 193 = .ok (.aload_n 0, 1) := by decide +kernel
theorem dX8_alike_194 : decode mX8_alike.2.1 194 = .ok (.iload 8, 2) := by decide +kernel
theorem dX8_alike_196 : decode mX8_alike.2.1 196 = .ok (.iload 10, 2) := by decide +kernel
theorem dX8_alike_198 : decode mX8_alike.2.1 198 = .ok (.iadd, 1) := by decide +kernel
theorem dX8_alike_199 : decode mX8_alike.2.1 199 = .ok (.invokevirtual 357, 3) := by decide +kernel
theorem dX8_alike_202 : decode mX8_alike.2.1 202 = .ok (.if_icmp .ne 7, 3) := by decide +kernel
theorem dX8_alike_205 : decode mX8_alike.2.1 205 = .ok (.iconst 1, 1) := by decide +kernel
theorem dX8_alike_206 : decode mX8_alike.2.1 206 = .ok (.goto 4, 3) := by decide +kernel
theorem dX8_alike_209 : decode mX8_alike.2.1 209 = .ok (.iconst 0, 1) := by decide +kernel
theorem dX8_alike_210 : decode mX8_alike.2.1 210 = .ok (.iadd, 1) := by decide +kernel
theorem dX8_alike_211 : decode mX8_alike.2.1 211 = .ok (.istore 9, 2) := by decide +kernel
theorem dX8_alike_213 : decode mX8_alike.2.1 213 = .ok (.iinc 10 1, 3) := by decide +kernel
theorem dX8_alike_216 : decode mX8_alike.2.1 216 = .ok (.goto (-83), 3) := by decide +kernel
theorem dX8_alike_219 : decode mX8_alike.2.1 219 = .ok (.aload_n 0, 1) := by decide +kernel
theorem dX8_alike_220 : decode mX8_alike.2.1 220 = .ok (.invokevirtual 391, 3) := by decide +kernel
theorem dX8_alike_223 : decode mX8_alike.2.1 223 = .ok (.iload 9, 2) := by decide +kernel
theorem dX8_alike_225 : decode mX8_alike.2.1 225 = .ok (.ireturn, 1) := by decide +kernel
theorem dX8_turned_0 : decode mX8_turned.2.1 0 = .ok (.aload_n 0, 1) := by decide +kernel
theorem dX8_turned_1 : decode mX8_turned.2.1 1 = .ok (.iload_n 1, 1) := by decide +kernel
theorem dX8_turned_2 : decode mX8_turned.2.1 2 = .ok (.invokevirtual 397, 3) := by decide +kernel
theorem dX8_turned_5 : decode mX8_turned.2.1 5 = .ok (.ifCond .eq 11, 3) := by decide +kernel
theorem dX8_turned_8 : decode mX8_turned.2.1 8 = .ok (.aload_n 0, 1) := by decide +kernel
theorem dX8_turned_9 : decode mX8_turned.2.1 9 = .ok (.iload_n 2, 1) := by decide +kernel
theorem dX8_turned_10 : decode mX8_turned.2.1 10 = .ok (.invokevirtual 397, 3) := by decide +kernel
theorem dX8_turned_13 : decode mX8_turned.2.1 13 = .ok (.ifCond .ne 5, 3) := by decide +kernel
theorem dX8_turned_16 : decode mX8_turned.2.1 16 = .ok (.iconst (-1), 1) := by decide +kernel
theorem dX8_turned_17 : decode mX8_turned.2.1 17 = .ok (.ireturn, 1) := by decide +kernel
theorem dX8_turned_18 : decode mX8_turned.2.1 18 = .ok (.iconst 0, 1) := by decide +kernel
theorem dX8_turned_19 : decode mX8_turned.2.1 19 = .ok (.istore_n 3, 1) := by decide +kernel
theorem dX8_turned_20 : decode mX8_turned.2.1 20 = .ok (.iconst 0, 1) := by decide +kernel
theorem dX8_turned_21 : decode mX8_turned.2.1 21 = .ok (.istore 4, 2) := by decide +kernel
theorem dX8_turned_23 : decode mX8_turned.2.1 23 = .ok (.iload 4, 2) := by decide +kernel
theorem dX8_turned_25 : decode mX8_turned.2.1 25 = .ok (.bipush 24, 2) := by decide +kernel
theorem dX8_turned_27 : decode mX8_turned.2.1 27 = .ok (.if_icmp .ge 49, 3) := by decide +kernel
theorem dX8_turned_30 : decode mX8_turned.2.1 30 = .ok (.iload_n 3, 1) := by decide +kernel
theorem dX8_turned_31 : decode mX8_turned.2.1 31 = .ok (.aload_n 0, 1) := by decide +kernel
theorem dX8_turned_32 : decode mX8_turned.2.1 32 = .ok (.getfield 74, 3) := by decide +kernel
theorem dX8_turned_35 : decode mX8_turned.2.1 35 = .ok (.bipush 24, 2) := by decide +kernel
theorem dX8_turned_37 : decode mX8_turned.2.1 37 = .ok (.iload_n 1, 1) := by decide +kernel
theorem dX8_turned_38 : decode mX8_turned.2.1 38 = .ok (.imul, 1) := by decide +kernel
theorem dX8_turned_39 : decode mX8_turned.2.1 39 = .ok (.iload 4, 2) := by decide +kernel
theorem dX8_turned_41 : decode mX8_turned.2.1 41 = .ok (.iadd, 1) := by decide +kernel
theorem dX8_turned_42 : decode mX8_turned.2.1 42 = .ok (.iaload, 1) := by decide +kernel
theorem dX8_turned_43 : decode mX8_turned.2.1 43 = .ok (.aload_n 0, 1) := by decide +kernel
theorem dX8_turned_44 : decode mX8_turned.2.1 44 = .ok (.getfield 74, 3) := by decide +kernel
theorem dX8_turned_47 : decode mX8_turned.2.1 47 = .ok (.bipush 24, 2) := by decide +kernel
theorem dX8_turned_49 : decode mX8_turned.2.1 49 = .ok (.iload_n 2, 1) := by decide +kernel
theorem dX8_turned_50 : decode mX8_turned.2.1 50 = .ok (.imul, 1) := by decide +kernel
theorem dX8_turned_51 : decode mX8_turned.2.1 51 = .ok (.bipush 24, 2) := by decide +kernel
theorem dX8_turned_53 : decode mX8_turned.2.1 53 = .ok (.iadd, 1) := by decide +kernel
theorem dX8_turned_54 : decode mX8_turned.2.1 54 = .ok (.iconst 1, 1) := by decide +kernel
theorem dX8_turned_55 : decode mX8_turned.2.1 55 = .ok (.isub, 1) := by decide +kernel
theorem dX8_turned_56 : decode mX8_turned.2.1 56 = .ok (.iload 4, 2) := by decide +kernel
theorem dX8_turned_58 : decode mX8_turned.2.1 58 = .ok (.isub, 1) := by decide +kernel
theorem dX8_turned_59 : decode mX8_turned.2.1 59 = .ok (.iaload, 1) := by decide +kernel
theorem dX8_turned_60 : decode mX8_turned.2.1 60 = .ok (.if_icmp .eq 7, 3) := by decide +kernel
theorem dX8_turned_63 : decode mX8_turned.2.1 63 = .ok (.iconst 1, 1) := by decide +kernel
theorem dX8_turned_64 : decode mX8_turned.2.1 64 = .ok (.goto 4, 3) := by decide +kernel
theorem dX8_turned_67 : decode mX8_turned.2.1 67 = .ok (.iconst 0, 1) := by decide +kernel
theorem dX8_turned_68 : decode mX8_turned.2.1 68 = .ok (.iadd, 1) := by decide +kernel
theorem dX8_turned_69 : decode mX8_turned.2.1 69 = .ok (.istore_n 3, 1) := by decide +kernel
theorem dX8_turned_70 : decode mX8_turned.2.1 70 = .ok (.iinc 4 1, 3) := by decide +kernel
theorem dX8_turned_73 : decode mX8_turned.2.1 73 = .ok (.goto (-50), 3) := by decide +kernel
theorem dX8_turned_76 : decode mX8_turned.2.1 76 = .ok (.iload_n 3, 1) := by decide +kernel
theorem dX8_turned_77 : decode mX8_turned.2.1 77 = .ok (.ireturn, 1) := by decide +kernel
theorem dX8_join_0 : decode mX8_join.2.1 0 = .ok (.aload_n 0, 1) := by decide +kernel
theorem dX8_join_1 : decode mX8_join.2.1 1 = .ok (.iload_n 1, 1) := by decide +kernel
theorem dX8_join_2 : decode mX8_join.2.1 2 = .ok (.invokevirtual 397, 3) := by decide +kernel
theorem dX8_join_5 : decode mX8_join.2.1 5 = .ok (.ifCond .eq 16, 3) := by decide +kernel
theorem dX8_join_8 : decode mX8_join.2.1 8 = .ok (.aload_n 0, 1) := by decide +kernel
theorem dX8_join_9 : decode mX8_join.2.1 9 = .ok (.iload_n 2, 1) := by decide +kernel
theorem dX8_join_10 : decode mX8_join.2.1 10 = .ok (.invokevirtual 397, 3) := by decide +kernel
theorem dX8_join_13 : decode mX8_join.2.1 13 = .ok (.ifCond .eq 8, 3) := by decide +kernel
theorem dX8_join_16 : decode mX8_join.2.1 16 = .ok (.iload_n 1, 1) := by decide +kernel
theorem dX8_join_17 : decode mX8_join.2.1 17 = .ok (.iload_n 2, 1) := by decide +kernel
theorem dX8_join_18 : decode mX8_join.2.1 18 = .ok (.if_icmp .ne 5, 3) := by decide +kernel
theorem dX8_join_21 : decode mX8_join.2.1 21 = .ok (.iconst (-1), 1) := by decide +kernel
theorem dX8_join_22 : decode mX8_join.2.1 22 = .ok (.ireturn, 1) := by decide +kernel
theorem dX8_join_23 : decode mX8_join.2.1 23 = .ok (.iconst 0, 1) := by decide +kernel
theorem dX8_join_24 : decode mX8_join.2.1 24 = .ok (.istore_n 3, 1) := by decide +kernel
theorem dX8_join_25 : decode mX8_join.2.1 25 = .ok (.iconst 0, 1) := by decide +kernel
theorem dX8_join_26 : decode mX8_join.2.1 26 = .ok (.istore 4, 2) := by decide +kernel
theorem dX8_join_28 : decode mX8_join.2.1 28 = .ok (.iload 4, 2) := by decide +kernel
theorem dX8_join_30 : decode mX8_join.2.1 30 = .ok (.bipush 24, 2) := by decide +kernel
theorem dX8_join_32 : decode mX8_join.2.1 32 = .ok (.if_icmp .ge 61, 3) := by decide +kernel
theorem dX8_join_35 : decode mX8_join.2.1 35 = .ok (.bipush 24, 2) := by decide +kernel
theorem dX8_join_37 : decode mX8_join.2.1 37 = .ok (.iload_n 1, 1) := by decide +kernel
theorem dX8_join_38 : decode mX8_join.2.1 38 = .ok (.imul, 1) := by decide +kernel
theorem dX8_join_39 : decode mX8_join.2.1 39 = .ok (.iload 4, 2) := by decide +kernel
theorem dX8_join_41 : decode mX8_join.2.1 41 = .ok (.iadd, 1) := by decide +kernel
theorem dX8_join_42 : decode mX8_join.2.1 42 = .ok (.istore 5, 2) := by decide +kernel
theorem dX8_join_44 : decode mX8_join.2.1 44 = .ok (.aload_n 0, 1) := by decide +kernel
theorem dX8_join_45 : decode mX8_join.2.1 45 = .ok (.getfield 74, 3) := by decide +kernel
theorem dX8_join_48 : decode mX8_join.2.1 48 = .ok (.iload 5, 2) := by decide +kernel
theorem dX8_join_50 : decode mX8_join.2.1 50 = .ok (.sipush 9999, 3) := by decide +kernel
theorem dX8_join_53 : decode mX8_join.2.1 53 = .ok (.aload_n 0, 1) := by decide +kernel
theorem dX8_join_54 : decode mX8_join.2.1 54 = .ok (.getfield 74, 3) := by decide +kernel
theorem dX8_join_57 : decode mX8_join.2.1 57 = .ok (.iload 5, 2) := by decide +kernel
theorem dX8_join_59 : decode mX8_join.2.1 59 = .ok (.iaload, 1) := by decide +kernel
theorem dX8_join_60 : decode mX8_join.2.1 60 = .ok (.aload_n 0, 1) := by decide +kernel
theorem dX8_join_61 : decode mX8_join.2.1 61 = .ok (.getfield 74, 3) := by decide +kernel
theorem dX8_join_64 : decode mX8_join.2.1 64 = .ok (.bipush 24, 2) := by decide +kernel
theorem dX8_join_66 : decode mX8_join.2.1 66 = .ok (.iload_n 2, 1) := by decide +kernel
theorem dX8_join_67 : decode mX8_join.2.1 67 = .ok (.imul, 1) := by decide +kernel
theorem dX8_join_68 : decode mX8_join.2.1 68 = .ok (.iload 4, 2) := by decide +kernel
theorem dX8_join_70 : decode mX8_join.2.1 70 = .ok (.iadd, 1) := by decide +kernel
theorem dX8_join_71 : decode mX8_join.2.1 71 = .ok (.iaload, 1) := by decide +kernel
theorem dX8_join_72 : decode mX8_join.2.1 72 = .ok (.iadd, 1) := by decide +kernel
theorem dX8_join_73 : decode mX8_join.2.1 73 = .ok (.invokestatic 261, 3) := by decide +kernel
theorem dX8_join_76 : decode mX8_join.2.1 76 = .ok (.iastore, 1) := by decide +kernel
theorem dX8_join_77 : decode mX8_join.2.1 77 = .ok (.iload_n 3, 1) := by decide +kernel
theorem dX8_join_78 : decode mX8_join.2.1 78 = .ok (.aload_n 0, 1) := by decide +kernel
theorem dX8_join_79 : decode mX8_join.2.1 79 = .ok (.getfield 74, 3) := by decide +kernel
theorem dX8_join_82 : decode mX8_join.2.1 82 = .ok (.iload 5, 2) := by decide +kernel
theorem dX8_join_84 : decode mX8_join.2.1 84 = .ok (.iaload, 1) := by decide +kernel
theorem dX8_join_85 : decode mX8_join.2.1 85 = .ok (.iadd, 1) := by decide +kernel
theorem dX8_join_86 : decode mX8_join.2.1 86 = .ok (.istore_n 3, 1) := by decide +kernel
theorem dX8_join_87 : decode mX8_join.2.1 87 = .ok (.iinc 4 1, 3) := by decide +kernel
theorem dX8_join_90 : decode mX8_join.2.1 90 = .ok (.goto (-62), 3) := by decide +kernel
theorem dX8_join_93 : decode mX8_join.2.1 93 = .ok (.iload_n 3, 1) := by decide +kernel
theorem dX8_join_94 : decode mX8_join.2.1 94 = .ok (.ireturn, 1) := by decide +kernel
theorem dX8_blot_0 : decode mX8_blot.2.1 0 = .ok (.aload_n 0, 1) := by decide +kernel
theorem dX8_blot_1 : decode mX8_blot.2.1 1 = .ok (.iload_n 1, 1) := by decide +kernel
theorem dX8_blot_2 : decode mX8_blot.2.1 2 = .ok (.invokevirtual 397, 3) := by decide +kernel
theorem dX8_blot_5 : decode mX8_blot.2.1 5 = .ok (.ifCond .eq 12, 3) := by decide +kernel
theorem dX8_blot_8 : decode mX8_blot.2.1 8 = .ok (.iload_n 2, 1) := by decide +kernel
theorem dX8_blot_9 : decode mX8_blot.2.1 9 = .ok (.iconst 0, 1) := by decide +kernel
theorem dX8_blot_10 : decode mX8_blot.2.1 10 = .ok (.iconst 2, 1) := by decide +kernel
theorem dX8_blot_11 : decode mX8_blot.2.1 11 = .ok (.invokestatic 216, 3) := by decide +kernel
theorem dX8_blot_14 : decode mX8_blot.2.1 14 = .ok (.ifCond .ne 5, 3) := by decide +kernel
theorem dX8_blot_17 : decode mX8_blot.2.1 17 = .ok (.iconst (-1), 1) := by decide +kernel
theorem dX8_blot_18 : decode mX8_blot.2.1 18 = .ok (.ireturn, 1) := by decide +kernel
theorem dX8_blot_19 : decode mX8_blot.2.1 19 = .ok (.iconst 0, 1) := by decide +kernel
theorem dX8_blot_20 : decode mX8_blot.2.1 20 = .ok (.istore_n 3, 1) := by decide +kernel
theorem dX8_blot_21 : decode mX8_blot.2.1 21 = .ok (.iconst 0, 1) := by decide +kernel
theorem dX8_blot_22 : decode mX8_blot.2.1 22 = .ok (.istore 4, 2) := by decide +kernel
theorem dX8_blot_24 : decode mX8_blot.2.1 24 = .ok (.iconst 0, 1) := by decide +kernel
theorem dX8_blot_25 : decode mX8_blot.2.1 25 = .ok (.istore 5, 2) := by decide +kernel
theorem dX8_blot_27 : decode mX8_blot.2.1 27 = .ok (.iconst 0, 1) := by decide +kernel
theorem dX8_blot_28 : decode mX8_blot.2.1 28 = .ok (.istore 6, 2) := by decide +kernel
theorem dX8_blot_30 : decode mX8_blot.2.1 30 = .ok (.iconst 0, 1) := by decide +kernel
theorem dX8_blot_31 : decode mX8_blot.2.1 31 = .ok (.istore 7, 2) := by decide +kernel
theorem dX8_blot_33 : decode mX8_blot.2.1 33 = .ok (.iconst 0, 1) := by decide +kernel
theorem dX8_blot_34 : decode mX8_blot.2.1 34 = .ok (.istore 8, 2) := by decide +kernel
theorem dX8_blot_36 : decode mX8_blot.2.1 36 = .ok (.iload 8, 2) := by decide +kernel
theorem dX8_blot_38 : decode mX8_blot.2.1 38 = .ok (.bipush 24, 2) := by decide +kernel
theorem dX8_blot_40 : decode mX8_blot.2.1 40 = .ok (.if_icmp .ge 90, 3) := by decide +kernel
theorem dX8_blot_43 : decode mX8_blot.2.1 43 = .ok (.aload_n 0, 1) := by decide +kernel
theorem dX8_blot_44 : decode mX8_blot.2.1 44 = .ok (.getfield 74, 3) := by decide +kernel
theorem dX8_blot_47 : decode mX8_blot.2.1 47 = .ok (.bipush 24, 2) := by decide +kernel
theorem dX8_blot_49 : decode mX8_blot.2.1 49 = .ok (.iload_n 1, 1) := by decide +kernel
theorem dX8_blot_50 : decode mX8_blot.2.1 50 = .ok (.imul, 1) := by decide +kernel
theorem dX8_blot_51 : decode mX8_blot.2.1 51 = .ok (.iload 8, 2) := by decide +kernel
theorem dX8_blot_53 : decode mX8_blot.2.1 53 = .ok (.iadd, 1) := by decide +kernel
theorem dX8_blot_54 : decode mX8_blot.2.1 54 = .ok (.iaload, 1) := by decide +kernel
theorem dX8_blot_55 : decode mX8_blot.2.1 55 = .ok (.istore 9, 2) := by decide +kernel
theorem dX8_blot_57 : decode mX8_blot.2.1 57 = .ok (.iload_n 3, 1) := by decide +kernel
theorem dX8_blot_58 : decode mX8_blot.2.1 58 = .ok (.iload 9, 2) := by decide +kernel
theorem dX8_blot_60 : decode mX8_blot.2.1 60 = .ok (.ifCond .le 12, 3) := by decide +kernel
theorem dX8_blot_63 : decode mX8_blot.2.1 63 = .ok (.iload 6, 2) := by decide +kernel
theorem dX8_blot_65 : decode mX8_blot.2.1 65 = .ok (.ifCond .ne 7, 3) := by decide +kernel
theorem dX8_blot_68 : decode mX8_blot.2.1 68 = .ok (.iconst 1, 1) := by decide +kernel
theorem dX8_blot_69 : decode mX8_blot.2.1 69 = .ok (.goto 4, 3) := by decide +kernel
theorem dX8_blot_72 : decode mX8_blot.2.1 72 = .ok (.iconst 0, 1) := by decide +kernel
theorem dX8_blot_73 : decode mX8_blot.2.1 73 = .ok (.iadd, 1) := by decide +kernel
theorem dX8_blot_74 : decode mX8_blot.2.1 74 = .ok (.istore_n 3, 1) := by decide +kernel
theorem dX8_blot_75 : decode mX8_blot.2.1 75 = .ok (.iload 9, 2) := by decide +kernel
theorem dX8_blot_77 : decode mX8_blot.2.1 77 = .ok (.ifCond .le 10, 3) := by decide +kernel
theorem dX8_blot_80 : decode mX8_blot.2.1 80 = .ok (.iload 6, 2) := by decide +kernel
theorem dX8_blot_82 : decode mX8_blot.2.1 82 = .ok (.iconst 1, 1) := by decide +kernel
theorem dX8_blot_83 : decode mX8_blot.2.1 83 = .ok (.iadd, 1) := by decide +kernel
theorem dX8_blot_84 : decode mX8_blot.2.1 84 = .ok (.goto 4, 3) := by decide +kernel
theorem dX8_blot_87 : decode mX8_blot.2.1 87 = .ok (.iconst 0, 1) := by decide +kernel
theorem dX8_blot_88 : decode mX8_blot.2.1 88 = .ok (.istore 6, 2) := by decide +kernel
theorem dX8_blot_90 : decode mX8_blot.2.1 90 = .ok (.iload 9, 2) := by decide +kernel
theorem dX8_blot_92 : decode mX8_blot.2.1 92 = .ok (.ifCond .le 11, 3) := by decide +kernel
theorem dX8_blot_95 : decode mX8_blot.2.1 95 = .ok (.iload 7, 2) := by decide +kernel
theorem dX8_blot_97 : decode mX8_blot.2.1 97 = .ok (.iload 9, 2) := by decide +kernel
theorem dX8_blot_99 : decode mX8_blot.2.1 99 = .ok (.iadd, 1) := by decide +kernel
theorem dX8_blot_100 : decode mX8_blot.2.1 100 = .ok (.goto 4, 3) := by decide +kernel
theorem dX8_blot_103 : decode mX8_blot.2.1 103 = .ok (.iconst 0, 1) := by decide +kernel
theorem dX8_blot_104 : decode mX8_blot.2.1 104 = .ok (.istore 7, 2) := by decide +kernel
theorem dX8_blot_106 : decode mX8_blot.2.1 106 = .ok (.iload 4, 2) := by decide +kernel
theorem dX8_blot_108 : decode mX8_blot.2.1 108 = .ok (.iload 6, 2) := by decide +kernel
theorem dX8_blot_110 : decode mX8_blot.2.1 110 = .ok (.invokestatic 300, 3) := by decide +kernel
theorem dX8_blot_113 : decode mX8_blot.2.1 113 = .ok (.istore 4, 2) := by decide +kernel
theorem dX8_blot_115 : decode mX8_blot.2.1 115 = .ok (.iload 5, 2) := by decide +kernel
theorem dX8_blot_117 : decode mX8_blot.2.1 117 = .ok (.iload 7, 2) := by decide +kernel
theorem dX8_blot_119 : decode mX8_blot.2.1 119 = .ok (.invokestatic 300, 3) := by decide +kernel
theorem dX8_blot_122 : decode mX8_blot.2.1 122 = .ok (.istore 5, 2) := by decide +kernel
theorem dX8_blot_124 : decode mX8_blot.2.1 124 = .ok (.iinc 8 1, 3) := by decide +kernel
theorem dX8_blot_127 : decode mX8_blot.2.1 127 = .ok (.goto (-91), 3) := by decide +kernel
theorem dX8_blot_130 : decode mX8_blot.2.1 130 = .ok (.iload_n 2, 1) := by decide +kernel
theorem dX8_blot_131 : decode mX8_blot.2.1 131 = .ok (.ifCond .ne 7, 3) := by decide +kernel
theorem dX8_blot_134 : decode mX8_blot.2.1 134 = .ok (.iload_n 3, 1) := by decide +kernel
theorem dX8_blot_135 : decode mX8_blot.2.1 135 = .ok (.goto 15, 3) := by decide +kernel
theorem dX8_blot_138 : decode mX8_blot.2.1 138 = .ok (.iload_n 2, 1) := by decide +kernel
theorem dX8_blot_139 : decode mX8_blot.2.1 139 = .ok (.iconst 1, 1) := by decide +kernel
theorem dX8_blot_140 : decode mX8_blot.2.1 140 = .ok (.if_icmp .ne 8, 3) := by decide +kernel
theorem dX8_blot_143 : decode mX8_blot.2.1 143 = .ok (.iload 4, 2) := by decide +kernel
theorem dX8_blot_145 : decode mX8_blot.2.1 145 = .ok (.goto 5, 3) := by decide +kernel
theorem dX8_blot_148 : decode mX8_blot.2.1 148 = .ok (.iload 5, 2) := by decide +kernel
theorem dX8_blot_150 : decode mX8_blot.2.1 150 = .ok (.ireturn, 1) := by decide +kernel
theorem dX8_nearestTick_0 : decode mX8_nearestTick.2.1 0 = .ok (.aload_n 0, 1) := by decide +kernel
theorem dX8_nearestTick_1 : decode mX8_nearestTick.2.1 1 = .ok (.iconst 1, 1) := by decide +kernel
theorem dX8_nearestTick_2 : decode mX8_nearestTick.2.1 2 = .ok (.iload_n 3, 1) := by decide +kernel
theorem dX8_nearestTick_3 : decode mX8_nearestTick.2.1 3 = .ok (.ishl, 1) := by decide +kernel
theorem dX8_nearestTick_4 : decode mX8_nearestTick.2.1 4 = .ok (.invokevirtual 278, 3) := by decide +kernel
theorem dX8_nearestTick_7 : decode mX8_nearestTick.2.1 7 = .ok (.pop, 1) := by decide +kernel
theorem dX8_nearestTick_8 : decode mX8_nearestTick.2.1 8 = .ok (.aload_n 0, 1) := by decide +kernel
theorem dX8_nearestTick_9 : decode mX8_nearestTick.2.1 9 = .ok (.iload_n 2, 1) := by decide +kernel
theorem dX8_nearestTick_10 : decode mX8_nearestTick.2.1 10 = .ok (.lload 4, 2) := by decide +kernel
theorem dX8_nearestTick_12 : decode mX8_nearestTick.2.1 12 = .ok (.invokevirtual 281, 3) := by decide +kernel
theorem dX8_nearestTick_15 : decode mX8_nearestTick.2.1 15 = .ok (.iconst (-1), 1) := by decide +kernel
theorem dX8_nearestTick_16 : decode mX8_nearestTick.2.1 16 = .ok (.istore 6, 2) := by decide +kernel
theorem dX8_nearestTick_18 : decode mX8_nearestTick.2.1 18 = .ok (.iconst 1, 1) := by decide +kernel
theorem dX8_nearestTick_19 : decode mX8_nearestTick.2.1 19 = .ok (.istore 7, 2) := by decide +kernel
theorem dX8_nearestTick_21 : decode mX8_nearestTick.2.1 21 = .ok (.iload 7, 2) := by decide +kernel
theorem dX8_nearestTick_23 : decode mX8_nearestTick.2.1 23 = .ok (.bipush 60, 2) := by decide +kernel
theorem dX8_nearestTick_25 : decode mX8_nearestTick.2.1 25 = .ok (.if_icmp .gt 86, 3) := by decide +kernel
theorem dX8_nearestTick_28 : decode mX8_nearestTick.2.1 28 = .ok (.aload_n 0, 1) := by decide +kernel
theorem dX8_nearestTick_29 : decode mX8_nearestTick.2.1 29 = .ok (.iconst 1, 1) := by decide +kernel
theorem dX8_nearestTick_30 : decode mX8_nearestTick.2.1 30 = .ok (.invokevirtual 350, 3) := by decide +kernel
theorem dX8_nearestTick_33 : decode mX8_nearestTick.2.1 33 = .ok (.pop, 1) := by decide +kernel
theorem dX8_nearestTick_34 : decode mX8_nearestTick.2.1 34 = .ok (.iconst 0, 1) := by decide +kernel
theorem dX8_nearestTick_35 : decode mX8_nearestTick.2.1 35 = .ok (.istore 8, 2) := by decide +kernel
theorem dX8_nearestTick_37 : decode mX8_nearestTick.2.1 37 = .ok (.iconst 0, 1) := by decide +kernel
theorem dX8_nearestTick_38 : decode mX8_nearestTick.2.1 38 = .ok (.istore 9, 2) := by decide +kernel
theorem dX8_nearestTick_40 : decode mX8_nearestTick.2.1 40 = .ok (.iload 9, 2) := by decide +kernel
theorem dX8_nearestTick_42 : decode mX8_nearestTick.2.1 42 = .ok (.bipush 24, 2) := by decide +kernel
theorem dX8_nearestTick_44 : decode mX8_nearestTick.2.1 44 = .ok (.if_icmp .ge 36, 3) := by decide +kernel
theorem dX8_nearestTick_47 : decode mX8_nearestTick.2.1 47 = .ok (.iload 8, 2) := by decide +kernel
theorem dX8_nearestTick_49 : decode mX8_nearestTick.2.1 49 = .ok (.aload_n 0, 1) := by decide +kernel
theorem dX8_nearestTick_50 : decode mX8_nearestTick.2.1 50 = .ok (.iload 9, 2) := by decide +kernel
theorem dX8_nearestTick_52 : decode mX8_nearestTick.2.1 52 = .ok (.invokevirtual 357, 3) := by decide +kernel
theorem dX8_nearestTick_55 : decode mX8_nearestTick.2.1 55 = .ok (.aload_n 0, 1) := by decide +kernel
theorem dX8_nearestTick_56 : decode mX8_nearestTick.2.1 56 = .ok (.getfield 74, 3) := by decide +kernel
theorem dX8_nearestTick_59 : decode mX8_nearestTick.2.1 59 = .ok (.bipush 24, 2) := by decide +kernel
theorem dX8_nearestTick_61 : decode mX8_nearestTick.2.1 61 = .ok (.iload_n 1, 1) := by decide +kernel
theorem dX8_nearestTick_62 : decode mX8_nearestTick.2.1 62 = .ok (.imul, 1) := by decide +kernel
theorem dX8_nearestTick_63 : decode mX8_nearestTick.2.1 63 = .ok (.iload 9, 2) := by decide +kernel
theorem dX8_nearestTick_65 : decode mX8_nearestTick.2.1 65 = .ok (.iadd, 1) := by decide +kernel
theorem dX8_nearestTick_66 : decode mX8_nearestTick.2.1 66 = .ok (.iaload, 1) := by decide +kernel
theorem dX8_nearestTick_67 : decode mX8_nearestTick.2.1 67 = .ok (.isub, 1) := by decide +kernel
theorem dX8_nearestTick_68 : decode mX8_nearestTick.2.1 68 = .ok (.invokestatic 308, 3) := by decide +kernel
theorem dX8_nearestTick_71 : decode mX8_nearestTick.2.1 71 = .ok (.iadd, 1) := by decide +kernel
theorem dX8_nearestTick_72 : decode mX8_nearestTick.2.1 72 = .ok (.istore 8, 2) := by decide +kernel
theorem dX8_nearestTick_74 : decode mX8_nearestTick.2.1 74 = .ok (.iinc 9 1, 3) := by decide +kernel
theorem dX8_nearestTick_77 : decode mX8_nearestTick.2.1 77 = .ok (.goto (-37), 3) := by decide +kernel
theorem dX8_nearestTick_80 : decode mX8_nearestTick.2.1 80 = .ok (.iload 6, 2) := by decide +kernel
theorem dX8_nearestTick_82 : decode mX8_nearestTick.2.1 82 = .ok (.iconst (-1), 1) := by decide +kernel
theorem dX8_nearestTick_83 : decode mX8_nearestTick.2.1 83 = .ok (.if_icmp .eq 12, 3) := by decide +kernel
theorem dX8_nearestTick_86 : decode mX8_nearestTick.2.1 86 = .ok (.iload 8, 2) := by decide +kernel
theorem dX8_nearestTick_88 : decode mX8_nearestTick.2.1 88 = .ok (.aload_n 0, 1) := by decide +kernel
theorem dX8_nearestTick_89 : decode mX8_nearestTick.2.1 89 = .ok (.getfield 430, 3) := by decide +kernel
theorem dX8_nearestTick_92 : decode mX8_nearestTick.2.1 92 = .ok (.if_icmp .ge 13, 3) := by decide +kernel
theorem dX8_nearestTick_95 : decode mX8_nearestTick.2.1 95 = .ok (.iload 7, 2) := by decide +kernel
theorem dX8_nearestTick_97 : decode mX8_nearestTick.2.1 97 = .ok (.istore 6, 2) := by decide +kernel
theorem dX8_nearestTick_99 : decode mX8_nearestTick.2.1 99 = .ok (.aload_n 0, 1) := by decide +kernel
theorem dX8_nearestTick_100 : decode mX8_nearestTick.2.1 100 = .ok (.iload 8, 2) := by decide +kernel
theorem dX8_nearestTick_102 : decode mX8_nearestTick.2.1 102 = .ok (.putfield 430, 3) := by decide +kernel
theorem dX8_nearestTick_105 : decode mX8_nearestTick.2.1 105 = .ok (.iinc 7 1, 3) := by decide +kernel
theorem dX8_nearestTick_108 : decode mX8_nearestTick.2.1 108 = .ok (.goto (-87), 3) := by decide +kernel
theorem dX8_nearestTick_111 : decode mX8_nearestTick.2.1 111 = .ok (.iload 6, 2) := by decide +kernel
theorem dX8_nearestTick_113 : decode mX8_nearestTick.2.1 113 = .ok (.ireturn, 1) := by decide +kernel
theorem dX8_steps_0 : decode mX8_steps.2.1 0 = .ok (.aload_n 0, 1) := by decide +kernel
theorem dX8_steps_1 : decode mX8_steps.2.1 1 = .ok (.iload_n 1, 1) := by decide +kernel
theorem dX8_steps_2 : decode mX8_steps.2.1 2 = .ok (.invokevirtual 397, 3) := by decide +kernel
theorem dX8_steps_5 : decode mX8_steps.2.1 5 = .ok (.ifCond .eq 29, 3) := by decide +kernel
theorem dX8_steps_8 : decode mX8_steps.2.1 8 = .ok (.aload_n 0, 1) := by decide +kernel
theorem dX8_steps_9 : decode mX8_steps.2.1 9 = .ok (.iload_n 2, 1) := by decide +kernel
theorem dX8_steps_10 : decode mX8_steps.2.1 10 = .ok (.invokevirtual 272, 3) := by decide +kernel
theorem dX8_steps_13 : decode mX8_steps.2.1 13 = .ok (.ifCond .eq 21, 3) := by decide +kernel
theorem dX8_steps_16 : decode mX8_steps.2.1 16 = .ok (.aload_n 0, 1) := by decide +kernel
theorem dX8_steps_17 : decode mX8_steps.2.1 17 = .ok (.iload_n 3, 1) := by decide +kernel
theorem dX8_steps_18 : decode mX8_steps.2.1 18 = .ok (.invokevirtual 244, 3) := by decide +kernel
theorem dX8_steps_21 : decode mX8_steps.2.1 21 = .ok (.ifCond .eq 13, 3) := by decide +kernel
theorem dX8_steps_24 : decode mX8_steps.2.1 24 = .ok (.iload 6, 2) := by decide +kernel
theorem dX8_steps_26 : decode mX8_steps.2.1 26 = .ok (.iconst 0, 1) := by decide +kernel
theorem dX8_steps_27 : decode mX8_steps.2.1 27 = .ok (.iconst 1, 1) := by decide +kernel
theorem dX8_steps_28 : decode mX8_steps.2.1 28 = .ok (.invokestatic 216, 3) := by decide +kernel
theorem dX8_steps_31 : decode mX8_steps.2.1 31 = .ok (.ifCond .ne 5, 3) := by decide +kernel
theorem dX8_steps_34 : decode mX8_steps.2.1 34 = .ok (.iconst (-1), 1) := by decide +kernel
theorem dX8_steps_35 : decode mX8_steps.2.1 35 = .ok (.ireturn, 1) := by decide +kernel
theorem dX8_steps_36 : decode mX8_steps.2.1 36 = .ok (.aload_n 0, 1) := by decide +kernel
theorem dX8_steps_37 : decode mX8_steps.2.1 37 = .ok (.invokevirtual 384, 3) := by decide +kernel
theorem dX8_steps_40 : decode mX8_steps.2.1 40 = .ok (.aload_n 0, 1) := by decide +kernel
theorem dX8_steps_41 : decode mX8_steps.2.1 41 = .ok (.iload_n 1, 1) := by decide +kernel
theorem dX8_steps_42 : decode mX8_steps.2.1 42 = .ok (.iload_n 2, 1) := by decide +kernel
theorem dX8_steps_43 : decode mX8_steps.2.1 43 = .ok (.iload_n 3, 1) := by decide +kernel
theorem dX8_steps_44 : decode mX8_steps.2.1 44 = .ok (.lload 4, 2) := by decide +kernel
theorem dX8_steps_46 : decode mX8_steps.2.1 46 = .ok (.invokevirtual 433, 3) := by decide +kernel
theorem dX8_steps_49 : decode mX8_steps.2.1 49 = .ok (.istore 7, 2) := by decide +kernel
theorem dX8_steps_51 : decode mX8_steps.2.1 51 = .ok (.aload_n 0, 1) := by decide +kernel
theorem dX8_steps_52 : decode mX8_steps.2.1 52 = .ok (.invokevirtual 391, 3) := by decide +kernel
theorem dX8_steps_55 : decode mX8_steps.2.1 55 = .ok (.iload 6, 2) := by decide +kernel
theorem dX8_steps_57 : decode mX8_steps.2.1 57 = .ok (.ifCond .ne 8, 3) := by decide +kernel
theorem dX8_steps_60 : decode mX8_steps.2.1 60 = .ok (.iload 7, 2) := by decide +kernel
theorem dX8_steps_62 : decode mX8_steps.2.1 62 = .ok (.goto 7, 3) := by decide +kernel
theorem dX8_steps_65 : decode mX8_steps.2.1 65 = .ok (.aload_n 0, 1) := by decide +kernel
theorem dX8_steps_66 : decode mX8_steps.2.1 66 = .ok (.getfield 430, 3) := by decide +kernel
theorem dX8_steps_69 : decode mX8_steps.2.1 69 = .ok (.ireturn, 1) := by decide +kernel
theorem dX8_saved_0 : decode mX8_saved.2.1 0 = .ok (.aload_n 0, 1) := by decide +kernel
theorem dX8_saved_1 : decode mX8_saved.2.1 1 = .ok (.iload_n 1, 1) := by decide +kernel
theorem dX8_saved_2 : decode mX8_saved.2.1 2 = .ok (.invokevirtual 397, 3) := by decide +kernel
theorem dX8_saved_5 : decode mX8_saved.2.1 5 = .ok (.ifCond .eq 19, 3) := by decide +kernel
theorem dX8_saved_8 : decode mX8_saved.2.1 8 = .ok (.aload_n 0, 1) := by decide +kernel
theorem dX8_saved_9 : decode mX8_saved.2.1 9 = .ok (.iload_n 2, 1) := by decide +kernel
theorem dX8_saved_10 : decode mX8_saved.2.1 10 = .ok (.invokevirtual 272, 3) := by decide +kernel
theorem dX8_saved_13 : decode mX8_saved.2.1 13 = .ok (.ifCond .eq 11, 3) := by decide +kernel
theorem dX8_saved_16 : decode mX8_saved.2.1 16 = .ok (.aload_n 0, 1) := by decide +kernel
theorem dX8_saved_17 : decode mX8_saved.2.1 17 = .ok (.iload_n 3, 1) := by decide +kernel
theorem dX8_saved_18 : decode mX8_saved.2.1 18 = .ok (.invokevirtual 275, 3) := by decide +kernel
theorem dX8_saved_21 : decode mX8_saved.2.1 21 = .ok (.ifCond .ne 5, 3) := by decide +kernel
theorem dX8_saved_24 : decode mX8_saved.2.1 24 = .ok (.iconst (-1), 1) := by decide +kernel
theorem dX8_saved_25 : decode mX8_saved.2.1 25 = .ok (.ireturn, 1) := by decide +kernel
theorem dX8_saved_26 : decode mX8_saved.2.1 26 = .ok (.aload_n 0, 1) := by decide +kernel
theorem dX8_saved_27 : decode mX8_saved.2.1 27 = .ok (.invokevirtual 384, 3) := by decide +kernel
theorem dX8_saved_30 : decode mX8_saved.2.1 30 = .ok (.iconst (-1), 1) := by decide +kernel
theorem dX8_saved_31 : decode mX8_saved.2.1 31 = .ok (.istore 6, 2) := by decide +kernel
theorem dX8_saved_33 : decode mX8_saved.2.1 33 = .ok (.iconst 0, 1) := by decide +kernel
theorem dX8_saved_34 : decode mX8_saved.2.1 34 = .ok (.istore 7, 2) := by decide +kernel
theorem dX8_saved_36 : decode mX8_saved.2.1 36 = .ok (.iconst 0, 1) := by decide +kernel
theorem dX8_saved_37 : decode mX8_saved.2.1 37 = .ok (.istore 8, 2) := by decide +kernel
theorem dX8_saved_39 : decode mX8_saved.2.1 39 = .ok (.iload 8, 2) := by decide +kernel
theorem dX8_saved_41 : decode mX8_saved.2.1 41 = .ok (.aload_n 0, 1) := by decide +kernel
theorem dX8_saved_42 : decode mX8_saved.2.1 42 = .ok (.getfield 241, 3) := by decide +kernel
theorem dX8_saved_45 : decode mX8_saved.2.1 45 = .ok (.if_icmp .ge 54, 3) := by decide +kernel
theorem dX8_saved_48 : decode mX8_saved.2.1 48 = .ok (.iload_n 3, 1) := by decide +kernel
theorem dX8_saved_49 : decode mX8_saved.2.1 49 = .ok (.iload 8, 2) := by decide +kernel
theorem dX8_saved_51 : decode mX8_saved.2.1 51 = .ok (.invokestatic 206, 3) := by decide +kernel
theorem dX8_saved_54 : decode mX8_saved.2.1 54 = .ok (.ifCond .eq 39, 3) := by decide +kernel
theorem dX8_saved_57 : decode mX8_saved.2.1 57 = .ok (.aload_n 0, 1) := by decide +kernel
theorem dX8_saved_58 : decode mX8_saved.2.1 58 = .ok (.iload_n 1, 1) := by decide +kernel
theorem dX8_saved_59 : decode mX8_saved.2.1 59 = .ok (.iload_n 2, 1) := by decide +kernel
theorem dX8_saved_60 : decode mX8_saved.2.1 60 = .ok (.iload 8, 2) := by decide +kernel
theorem dX8_saved_62 : decode mX8_saved.2.1 62 = .ok (.lload 4, 2) := by decide +kernel
theorem dX8_saved_64 : decode mX8_saved.2.1 64 = .ok (.invokevirtual 433, 3) := by decide +kernel
theorem dX8_saved_67 : decode mX8_saved.2.1 67 = .ok (.pop, 1) := by decide +kernel
theorem dX8_saved_68 : decode mX8_saved.2.1 68 = .ok (.iload 6, 2) := by decide +kernel
theorem dX8_saved_70 : decode mX8_saved.2.1 70 = .ok (.iconst (-1), 1) := by decide +kernel
theorem dX8_saved_71 : decode mX8_saved.2.1 71 = .ok (.if_icmp .eq 12, 3) := by decide +kernel
theorem dX8_saved_74 : decode mX8_saved.2.1 74 = .ok (.aload_n 0, 1) := by decide +kernel
theorem dX8_saved_75 : decode mX8_saved.2.1 75 = .ok (.getfield 430, 3) := by decide +kernel
theorem dX8_saved_78 : decode mX8_saved.2.1 78 = .ok (.iload 7, 2) := by decide +kernel
theorem dX8_saved_80 : decode mX8_saved.2.1 80 = .ok (.if_icmp .ge 13, 3) := by decide +kernel
theorem dX8_saved_83 : decode mX8_saved.2.1 83 = .ok (.iload 8, 2) := by decide +kernel
theorem dX8_saved_85 : decode mX8_saved.2.1 85 = .ok (.istore 6, 2) := by decide +kernel
theorem dX8_saved_87 : decode mX8_saved.2.1 87 = .ok (.aload_n 0, 1) := by decide +kernel
theorem dX8_saved_88 : decode mX8_saved.2.1 88 = .ok (.getfield 430, 3) := by decide +kernel
theorem dX8_saved_91 : decode mX8_saved.2.1 91 = .ok (.istore 7, 2) := by decide +kernel
theorem dX8_saved_93 : decode mX8_saved.2.1 93 = .ok (.iinc 8 1, 3) := by decide +kernel
theorem dX8_saved_96 : decode mX8_saved.2.1 96 = .ok (.goto (-57), 3) := by decide +kernel
theorem dX8_saved_99 : decode mX8_saved.2.1 99 = .ok (.aload_n 0, 1) := by decide +kernel
theorem dX8_saved_100 : decode mX8_saved.2.1 100 = .ok (.invokevirtual 391, 3) := by decide +kernel
theorem dX8_saved_103 : decode mX8_saved.2.1 103 = .ok (.iload 6, 2) := by decide +kernel
theorem dX8_saved_105 : decode mX8_saved.2.1 105 = .ok (.ireturn, 1) := by decide +kernel
theorem dX8_count_0 : decode mX8_count.2.1 0 = .ok (.iload_n 1, 1) := by decide +kernel
theorem dX8_count_1 : decode mX8_count.2.1 1 = .ok (.tableswitch 69 0 5 #[39, 44, 49, 54, 59, 64], 39) := by decide +kernel
theorem dX8_count_40 : decode mX8_count.2.1 40 = .ok (.aload_n 0, 1) := by decide +kernel
theorem dX8_count_41 : decode mX8_count.2.1 41 = .ok (.getfield 235, 3) := by decide +kernel
theorem dX8_count_44 : decode mX8_count.2.1 44 = .ok (.ireturn, 1) := by decide +kernel
theorem dX8_count_45 : decode mX8_count.2.1 45 = .ok (.aload_n 0, 1) := by decide +kernel
theorem dX8_count_46 : decode mX8_count.2.1 46 = .ok (.getfield 238, 3) := by decide +kernel
theorem dX8_count_49 : decode mX8_count.2.1 49 = .ok (.ireturn, 1) := by decide +kernel
theorem dX8_count_50 : decode mX8_count.2.1 50 = .ok (.aload_n 0, 1) := by decide +kernel
theorem dX8_count_51 : decode mX8_count.2.1 51 = .ok (.getfield 241, 3) := by decide +kernel
theorem dX8_count_54 : decode mX8_count.2.1 54 = .ok (.ireturn, 1) := by decide +kernel
theorem dX8_count_55 : decode mX8_count.2.1 55 = .ok (.aload_n 0, 1) := by decide +kernel
theorem dX8_count_56 : decode mX8_count.2.1 56 = .ok (.getfield 394, 3) := by decide +kernel
theorem dX8_count_59 : decode mX8_count.2.1 59 = .ok (.ireturn, 1) := by decide +kernel
theorem dX8_count_60 : decode mX8_count.2.1 60 = .ok (.aload_n 0, 1) := by decide +kernel
theorem dX8_count_61 : decode mX8_count.2.1 61 = .ok (.getfield 87, 3) := by decide +kernel
theorem dX8_count_64 : decode mX8_count.2.1 64 = .ok (.ireturn, 1) := by decide +kernel
theorem dX8_count_65 : decode mX8_count.2.1 65 = .ok (.aload_n 0, 1) := by decide +kernel
theorem dX8_count_66 : decode mX8_count.2.1 66 = .ok (.getfield 46, 3) := by decide +kernel
theorem dX8_count_69 : decode mX8_count.2.1 69 = .ok (.ireturn, 1) := by decide +kernel
theorem dX8_count_70 : decode mX8_count.2.1 70 = .ok (.iconst (-1), 1) := by decide +kernel
theorem dX8_count_71 : decode mX8_count.2.1 71 = .ok (.ireturn, 1) := by decide +kernel
