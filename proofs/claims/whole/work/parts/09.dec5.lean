/-! decode rows -/
theorem dX5_init_0 : decode mX5_init.2.1 0 = .ok (.aload_n 0, 1) := by decide +kernel
theorem dX5_init_1 : decode mX5_init.2.1 1 = .ok (.invokespecial 3, 3) := by decide +kernel
theorem dX5_init_4 : decode mX5_init.2.1 4 = .ok (.aload_n 0, 1) := by decide +kernel
theorem dX5_init_5 : decode mX5_init.2.1 5 = .ok (.bipush 24, 2) := by decide +kernel
theorem dX5_init_7 : decode mX5_init.2.1 7 = .ok (.newarray .int, 2) := by decide +kernel
theorem dX5_init_9 : decode mX5_init.2.1 9 = .ok (.putfield 9, 3) := by decide +kernel
theorem dX5_init_12 : decode mX5_init.2.1 12 = .ok (.aload_n 0, 1) := by decide +kernel
theorem dX5_init_13 : decode mX5_init.2.1 13 = .ok (.bipush 24, 2) := by decide +kernel
theorem dX5_init_15 : decode mX5_init.2.1 15 = .ok (.newarray .int, 2) := by decide +kernel
theorem dX5_init_17 : decode mX5_init.2.1 17 = .ok (.putfield 15, 3) := by decide +kernel
theorem dX5_init_20 : decode mX5_init.2.1 20 = .ok (.aload_n 0, 1) := by decide +kernel
theorem dX5_init_21 : decode mX5_init.2.1 21 = .ok (.ldc 18, 2) := by decide +kernel
theorem dX5_init_23 : decode mX5_init.2.1 23 = .ok (.invokevirtual 20, 3) := by decide +kernel
theorem dX5_init_26 : decode mX5_init.2.1 26 = .ok (.newarray .int, 2) := by decide +kernel
theorem dX5_init_28 : decode mX5_init.2.1 28 = .ok (.putfield 26, 3) := by decide +kernel
theorem dX5_init_31 : decode mX5_init.2.1 31 = .ok (.aload_n 0, 1) := by decide +kernel
theorem dX5_init_32 : decode mX5_init.2.1 32 = .ok (.iconst 2, 1) := by decide +kernel
theorem dX5_init_33 : decode mX5_init.2.1 33 = .ok (.bipush 24, 2) := by decide +kernel
theorem dX5_init_35 : decode mX5_init.2.1 35 = .ok (.multianewarray 29 2, 4) := by decide +kernel
theorem dX5_init_39 : decode mX5_init.2.1 39 = .ok (.putfield 31, 3) := by decide +kernel
theorem dX5_init_42 : decode mX5_init.2.1 42 = .ok (.aload_n 0, 1) := by decide +kernel
theorem dX5_init_43 : decode mX5_init.2.1 43 = .ok (.iconst 2, 1) := by decide +kernel
theorem dX5_init_44 : decode mX5_init.2.1 44 = .ok (.bipush 24, 2) := by decide +kernel
theorem dX5_init_46 : decode mX5_init.2.1 46 = .ok (.multianewarray 29 2, 4) := by decide +kernel
theorem dX5_init_50 : decode mX5_init.2.1 50 = .ok (.putfield 34, 3) := by decide +kernel
theorem dX5_init_53 : decode mX5_init.2.1 53 = .ok (.aload_n 0, 1) := by decide +kernel
theorem dX5_init_54 : decode mX5_init.2.1 54 = .ok (.bipush 24, 2) := by decide +kernel
theorem dX5_init_56 : decode mX5_init.2.1 56 = .ok (.newarray .int, 2) := by decide +kernel
theorem dX5_init_58 : decode mX5_init.2.1 58 = .ok (.putfield 37, 3) := by decide +kernel
theorem dX5_init_61 : decode mX5_init.2.1 61 = .ok (.aload_n 0, 1) := by decide +kernel
theorem dX5_init_62 : decode mX5_init.2.1 62 = .ok (.bipush 24, 2) := by decide +kernel
theorem dX5_init_64 : decode mX5_init.2.1 64 = .ok (.newarray .int, 2) := by decide +kernel
theorem dX5_init_66 : decode mX5_init.2.1 66 = .ok (.putfield 40, 3) := by decide +kernel
theorem dX5_init_69 : decode mX5_init.2.1 69 = .ok (.aload_n 0, 1) := by decide +kernel
theorem dX5_init_70 : decode mX5_init.2.1 70 = .ok (.bipush 120, 2) := by decide +kernel
theorem dX5_init_72 : decode mX5_init.2.1 72 = .ok (.newarray .int, 2) := by decide +kernel
theorem dX5_init_74 : decode mX5_init.2.1 74 = .ok (.putfield 43, 3) := by decide +kernel
theorem dX5_init_77 : decode mX5_init.2.1 77 = .ok (.aload_n 0, 1) := by decide +kernel
theorem dX5_init_78 : decode mX5_init.2.1 78 = .ok (.bipush 12, 2) := by decide +kernel
theorem dX5_init_80 : decode mX5_init.2.1 80 = .ok (.anewarray 46, 3) := by decide +kernel
theorem dX5_init_83 : decode mX5_init.2.1 83 = .ok (.putfield 48, 3) := by decide +kernel
theorem dX5_init_86 : decode mX5_init.2.1 86 = .ok (.iconst 0, 1) := by decide +kernel
theorem dX5_init_87 : decode mX5_init.2.1 87 = .ok (.istore_n 1, 1) := by decide +kernel
theorem dX5_init_88 : decode mX5_init.2.1 88 = .ok (.iload_n 1, 1) := by decide +kernel
theorem dX5_init_89 : decode mX5_init.2.1 89 = .ok (.aload_n 0, 1) := by decide +kernel
theorem dX5_init_90 : decode mX5_init.2.1 90 = .ok (.getfield 48, 3) := by decide +kernel
theorem dX5_init_93 : decode mX5_init.2.1 93 = .ok (.arraylength, 1) := by decide +kernel
theorem dX5_init_94 : decode mX5_init.2.1 94 = .ok (.if_icmp .ge 22, 3) := by decide +kernel
theorem dX5_init_97 : decode mX5_init.2.1 97 = .ok (.aload_n 0, 1) := by decide +kernel
theorem dX5_init_98 : decode mX5_init.2.1 98 = .ok (.getfield 48, 3) := by decide +kernel
theorem dX5_init_101 : decode mX5_init.2.1 101 = .ok (.iload_n 1, 1) := by decide +kernel
theorem dX5_init_102 : decode mX5_init.2.1 102 = .ok (.new 46, 3) := by decide +kernel
theorem dX5_init_105 : decode mX5_init.2.1 105 = .ok (.dup, 1) := by decide +kernel
theorem dX5_init_106 : decode mX5_init.2.1 106 = .ok (.invokespecial 52, 3) := by decide +kernel
theorem dX5_init_109 : decode mX5_init.2.1 109 = .ok (.aastore, 1) := by decide +kernel
theorem dX5_init_110 : decode mX5_init.2.1 110 = .ok (.iinc 1 1, 3) := by decide +kernel
theorem dX5_init_113 : decode mX5_init.2.1 113 = .ok (.goto (-25), 3) := by decide +kernel
theorem dX5_init_116 : decode mX5_init.2.1 116 = .ok (.return_, 1) := by decide +kernel
theorem dX5_clear_0 : decode mX5_clear.2.1 0 = .ok (.iconst 0, 1) := by decide +kernel
theorem dX5_clear_1 : decode mX5_clear.2.1 1 = .ok (.istore 4, 2) := by decide +kernel
theorem dX5_clear_3 : decode mX5_clear.2.1 3 = .ok (.iload 4, 2) := by decide +kernel
theorem dX5_clear_5 : decode mX5_clear.2.1 5 = .ok (.bipush 24, 2) := by decide +kernel
theorem dX5_clear_7 : decode mX5_clear.2.1 7 = .ok (.if_icmp .ge 70, 3) := by decide +kernel
theorem dX5_clear_10 : decode mX5_clear.2.1 10 = .ok (.aload_n 0, 1) := by decide +kernel
theorem dX5_clear_11 : decode mX5_clear.2.1 11 = .ok (.getfield 9, 3) := by decide +kernel
theorem dX5_clear_14 : decode mX5_clear.2.1 14 = .ok (.iload 4, 2) := by decide +kernel
theorem dX5_clear_16 : decode mX5_clear.2.1 16 = .ok (.iconst 0, 1) := by decide +kernel
theorem dX5_clear_17 : decode mX5_clear.2.1 17 = .ok (.iastore, 1) := by decide +kernel
theorem dX5_clear_18 : decode mX5_clear.2.1 18 = .ok (.aload_n 0, 1) := by decide +kernel
theorem dX5_clear_19 : decode mX5_clear.2.1 19 = .ok (.getfield 37, 3) := by decide +kernel
theorem dX5_clear_22 : decode mX5_clear.2.1 22 = .ok (.iload 4, 2) := by decide +kernel
theorem dX5_clear_24 : decode mX5_clear.2.1 24 = .ok (.iconst 0, 1) := by decide +kernel
theorem dX5_clear_25 : decode mX5_clear.2.1 25 = .ok (.iastore, 1) := by decide +kernel
theorem dX5_clear_26 : decode mX5_clear.2.1 26 = .ok (.aload_n 0, 1) := by decide +kernel
theorem dX5_clear_27 : decode mX5_clear.2.1 27 = .ok (.getfield 40, 3) := by decide +kernel
theorem dX5_clear_30 : decode mX5_clear.2.1 30 = .ok (.iload 4, 2) := by decide +kernel
theorem dX5_clear_32 : decode mX5_clear.2.1 32 = .ok (.iconst 0, 1) := by decide +kernel
theorem dX5_clear_33 : decode mX5_clear.2.1 33 = .ok (.iastore, 1) := by decide +kernel
theorem dX5_clear_34 : decode mX5_clear.2.1 34 = .ok (.iconst 0, 1) := by decide +kernel
theorem dX5_clear_35 : decode mX5_clear.2.1 35 = .ok (.istore 5, 2) := by decide +kernel
theorem dX5_clear_37 : decode mX5_clear.2.1 37 = .ok (.iload 5, 2) := by decide +kernel
theorem dX5_clear_39 : decode mX5_clear.2.1 39 = .ok (.iconst 2, 1) := by decide +kernel
theorem dX5_clear_40 : decode mX5_clear.2.1 40 = .ok (.if_icmp .ge 31, 3) := by decide +kernel
theorem dX5_clear_43 : decode mX5_clear.2.1 43 = .ok (.aload_n 0, 1) := by decide +kernel
theorem dX5_clear_44 : decode mX5_clear.2.1 44 = .ok (.getfield 31, 3) := by decide +kernel
theorem dX5_clear_47 : decode mX5_clear.2.1 47 = .ok (.iload 5, 2) := by decide +kernel
theorem dX5_clear_49 : decode mX5_clear.2.1 49 = .ok (.aaload, 1) := by decide +kernel
theorem dX5_clear_50 : decode mX5_clear.2.1 50 = .ok (.iload 4, 2) := by decide +kernel
theorem dX5_clear_52 : decode mX5_clear.2.1 52 = .ok (.iconst 0, 1) := by decide +kernel
theorem dX5_clear_53 : decode mX5_clear.2.1 53 = .ok (.iastore, 1) := by decide +kernel
theorem dX5_clear_54 : decode mX5_clear.2.1 54 = .ok (.aload_n 0, 1) := by decide +kernel
theorem dX5_clear_55 : decode mX5_clear.2.1 55 = .ok (.getfield 34, 3) := by decide +kernel
theorem dX5_clear_58 : decode mX5_clear.2.1 58 = .ok (.iload 5, 2) := by decide +kernel
theorem dX5_clear_60 : decode mX5_clear.2.1 60 = .ok (.aaload, 1) := by decide +kernel
theorem dX5_clear_61 : decode mX5_clear.2.1 61 = .ok (.iload 4, 2) := by decide +kernel
theorem dX5_clear_63 : decode mX5_clear.2.1 63 = .ok (.iconst 0, 1) := by decide +kernel
theorem dX5_clear_64 : decode mX5_clear.2.1 64 = .ok (.iastore, 1) := by decide +kernel
theorem dX5_clear_65 : decode mX5_clear.2.1 65 = .ok (.iinc 5 1, 3) := by decide +kernel
theorem dX5_clear_68 : decode mX5_clear.2.1 68 = .ok (.goto (-31), 3) := by decide +kernel
theorem dX5_clear_71 : decode mX5_clear.2.1 71 = .ok (.iinc 4 1, 3) := by decide +kernel
theorem dX5_clear_74 : decode mX5_clear.2.1 74 = .ok (.goto (-71), 3) := by decide +kernel
theorem dX5_clear_77 : decode mX5_clear.2.1 77 = .ok (.aload_n 0, 1) := by decide +kernel
theorem dX5_clear_78 : decode mX5_clear.2.1 78 = .ok (.iconst 0, 1) := by decide +kernel
theorem dX5_clear_79 : decode mX5_clear.2.1 79 = .ok (.putfield 53, 3) := by decide +kernel
theorem dX5_clear_82 : decode mX5_clear.2.1 82 = .ok (.aload_n 0, 1) := by decide +kernel
theorem dX5_clear_83 : decode mX5_clear.2.1 83 = .ok (.iconst 0, 1) := by decide +kernel
theorem dX5_clear_84 : decode mX5_clear.2.1 84 = .ok (.putfield 57, 3) := by decide +kernel
theorem dX5_clear_87 : decode mX5_clear.2.1 87 = .ok (.aload_n 0, 1) := by decide +kernel
theorem dX5_clear_88 : decode mX5_clear.2.1 88 = .ok (.iconst 0, 1) := by decide +kernel
theorem dX5_clear_89 : decode mX5_clear.2.1 89 = .ok (.putfield 60, 3) := by decide +kernel
theorem dX5_clear_92 : decode mX5_clear.2.1 92 = .ok (.aload_n 0, 1) := by decide +kernel
theorem dX5_clear_93 : decode mX5_clear.2.1 93 = .ok (.aload_n 1, 1) := by decide +kernel
theorem dX5_clear_94 : decode mX5_clear.2.1 94 = .ok (.putfield 63, 3) := by decide +kernel
theorem dX5_clear_97 : decode mX5_clear.2.1 97 = .ok (.aload_n 0, 1) := by decide +kernel
theorem dX5_clear_98 : decode mX5_clear.2.1 98 = .ok (.lload_n 2, 1) := by decide +kernel
theorem dX5_clear_99 : decode mX5_clear.2.1 99 = .ok (.putfield 67, 3) := by decide +kernel
theorem dX5_clear_102 : decode mX5_clear.2.1 102 = .ok (.aload_n 0, 1) := by decide +kernel
theorem dX5_clear_103 : decode mX5_clear.2.1 103 = .ok (.iconst 0, 1) := by decide +kernel
theorem dX5_clear_104 : decode mX5_clear.2.1 104 = .ok (.putfield 71, 3) := by decide +kernel
theorem dX5_clear_107 : decode mX5_clear.2.1 107 = .ok (.aload_n 0, 1) := by decide +kernel
theorem dX5_clear_108 : decode mX5_clear.2.1 108 = .ok (.iconst 0, 1) := by decide +kernel
theorem dX5_clear_109 : decode mX5_clear.2.1 109 = .ok (.putfield 74, 3) := by decide +kernel
theorem dX5_clear_112 : decode mX5_clear.2.1 112 = .ok (.aload_n 0, 1) := by decide +kernel
theorem dX5_clear_113 : decode mX5_clear.2.1 113 = .ok (.iconst 0, 1) := by decide +kernel
theorem dX5_clear_114 : decode mX5_clear.2.1 114 = .ok (.putfield 77, 3) := by decide +kernel
theorem dX5_clear_117 : decode mX5_clear.2.1 117 = .ok (.aload_n 0, 1) := by decide +kernel
theorem dX5_clear_118 : decode mX5_clear.2.1 118 = .ok (.iconst 0, 1) := by decide +kernel
theorem dX5_clear_119 : decode mX5_clear.2.1 119 = .ok (.putfield 80, 3) := by decide +kernel
theorem dX5_clear_122 : decode mX5_clear.2.1 122 = .ok (.aload_n 0, 1) := by decide +kernel
theorem dX5_clear_123 : decode mX5_clear.2.1 123 = .ok (.iconst 0, 1) := by decide +kernel
theorem dX5_clear_124 : decode mX5_clear.2.1 124 = .ok (.putfield 83, 3) := by decide +kernel
theorem dX5_clear_127 : decode mX5_clear.2.1 127 = .ok (.return_, 1) := by decide +kernel
theorem dX5_put_0 : decode mX5_put.2.1 0 = .ok (.aload_n 0, 1) := by decide +kernel
theorem dX5_put_1 : decode mX5_put.2.1 1 = .ok (.getfield 53, 3) := by decide +kernel
theorem dX5_put_4 : decode mX5_put.2.1 4 = .ok (.ifCond .le 42, 3) := by decide +kernel
theorem dX5_put_7 : decode mX5_put.2.1 7 = .ok (.aload_n 0, 1) := by decide +kernel
theorem dX5_put_8 : decode mX5_put.2.1 8 = .ok (.getfield 48, 3) := by decide +kernel
theorem dX5_put_11 : decode mX5_put.2.1 11 = .ok (.aload_n 0, 1) := by decide +kernel
theorem dX5_put_12 : decode mX5_put.2.1 12 = .ok (.getfield 53, 3) := by decide +kernel
theorem dX5_put_15 : decode mX5_put.2.1 15 = .ok (.iconst 1, 1) := by decide +kernel
theorem dX5_put_16 : decode mX5_put.2.1 16 = .ok (.isub, 1) := by decide +kernel
theorem dX5_put_17 : decode mX5_put.2.1 17 = .ok (.aaload, 1) := by decide +kernel
theorem dX5_put_18 : decode mX5_put.2.1 18 = .ok (.getfield 86, 3) := by decide +kernel
theorem dX5_put_21 : decode mX5_put.2.1 21 = .ok (.iconst 1, 1) := by decide +kernel
theorem dX5_put_22 : decode mX5_put.2.1 22 = .ok (.iadd, 1) := by decide +kernel
theorem dX5_put_23 : decode mX5_put.2.1 23 = .ok (.iload_n 3, 1) := by decide +kernel
theorem dX5_put_24 : decode mX5_put.2.1 24 = .ok (.if_icmp .ne 22, 3) := by decide +kernel
theorem dX5_put_27 : decode mX5_put.2.1 27 = .ok (.aload_n 0, 1) := by decide +kernel
theorem dX5_put_28 : decode mX5_put.2.1 28 = .ok (.getfield 48, 3) := by decide +kernel
theorem dX5_put_31 : decode mX5_put.2.1 31 = .ok (.aload_n 0, 1) := by decide +kernel
theorem dX5_put_32 : decode mX5_put.2.1 32 = .ok (.getfield 53, 3) := by decide +kernel
theorem dX5_put_35 : decode mX5_put.2.1 35 = .ok (.iconst 1, 1) := by decide +kernel
theorem dX5_put_36 : decode mX5_put.2.1 36 = .ok (.isub, 1) := by decide +kernel
theorem dX5_put_37 : decode mX5_put.2.1 37 = .ok (.aaload, 1) := by decide +kernel
theorem dX5_put_38 : decode mX5_put.2.1 38 = .ok (.aload_n 1, 1) := by decide +kernel
theorem dX5_put_39 : decode mX5_put.2.1 39 = .ok (.iload_n 2, 1) := by decide +kernel
theorem dX5_put_40 : decode mX5_put.2.1 40 = .ok (.invokevirtual 89, 3) := by decide +kernel
theorem dX5_put_43 : decode mX5_put.2.1 43 = .ok (.goto 40, 3) := by decide +kernel
theorem dX5_put_46 : decode mX5_put.2.1 46 = .ok (.aload_n 0, 1) := by decide +kernel
theorem dX5_put_47 : decode mX5_put.2.1 47 = .ok (.getfield 53, 3) := by decide +kernel
theorem dX5_put_50 : decode mX5_put.2.1 50 = .ok (.aload_n 0, 1) := by decide +kernel
theorem dX5_put_51 : decode mX5_put.2.1 51 = .ok (.getfield 48, 3) := by decide +kernel
theorem dX5_put_54 : decode mX5_put.2.1 54 = .ok (.arraylength, 1) := by decide +kernel
theorem dX5_put_55 : decode mX5_put.2.1 55 = .ok (.if_icmp .ge 28, 3) := by decide +kernel
theorem dX5_put_58 : decode mX5_put.2.1 58 = .ok (.aload_n 0, 1) := by decide +kernel
theorem dX5_put_59 : decode mX5_put.2.1 59 = .ok (.getfield 48, 3) := by decide +kernel
theorem dX5_put_62 : decode mX5_put.2.1 62 = .ok (.aload_n 0, 1) := by decide +kernel
theorem dX5_put_63 : decode mX5_put.2.1 63 = .ok (.getfield 53, 3) := by decide +kernel
theorem dX5_put_66 : decode mX5_put.2.1 66 = .ok (.aaload, 1) := by decide +kernel
theorem dX5_put_67 : decode mX5_put.2.1 67 = .ok (.aload_n 1, 1) := by decide +kernel
theorem dX5_put_68 : decode mX5_put.2.1 68 = .ok (.iload_n 2, 1) := by decide +kernel
theorem dX5_put_69 : decode mX5_put.2.1 69 = .ok (.iload_n 3, 1) := by decide +kernel
theorem dX5_put_70 : decode mX5_put.2.1 70 = .ok (.invokevirtual 93, 3) := by decide +kernel
theorem dX5_put_73 : decode mX5_put.2.1 73 = .ok (.aload_n 0, 1) := by decide +kernel
theorem dX5_put_74 : decode mX5_put.2.1 74 = .ok (.dup, 1) := by decide +kernel
theorem dX5_put_75 : decode mX5_put.2.1 75 = .ok (.getfield 53, 3) := by decide +kernel
theorem dX5_put_78 : decode mX5_put.2.1 78 = .ok (.iconst 1, 1) := by decide +kernel
theorem dX5_put_79 : decode mX5_put.2.1 79 = .ok (.iadd, 1) := by decide +kernel
theorem dX5_put_80 : decode mX5_put.2.1 80 = .ok (.putfield 53, 3) := by decide +kernel
theorem dX5_put_83 : decode mX5_put.2.1 83 = .ok (.return_, 1) := by decide +kernel
theorem dX5_begin_0 : decode mX5_begin.2.1 0 = .ok (.iconst 0, 1) := by decide +kernel
theorem dX5_begin_1 : decode mX5_begin.2.1 1 = .ok (.istore_n 1, 1) := by decide +kernel
theorem dX5_begin_2 : decode mX5_begin.2.1 2 = .ok (.iload_n 1, 1) := by decide +kernel
theorem dX5_begin_3 : decode mX5_begin.2.1 3 = .ok (.aload_n 0, 1) := by decide +kernel
theorem dX5_begin_4 : decode mX5_begin.2.1 4 = .ok (.getfield 53, 3) := by decide +kernel
theorem dX5_begin_7 : decode mX5_begin.2.1 7 = .ok (.if_icmp .ge 104, 3) := by decide +kernel
theorem dX5_begin_10 : decode mX5_begin.2.1 10 = .ok (.aload_n 0, 1) := by decide +kernel
theorem dX5_begin_11 : decode mX5_begin.2.1 11 = .ok (.getfield 48, 3) := by decide +kernel
theorem dX5_begin_14 : decode mX5_begin.2.1 14 = .ok (.iload_n 1, 1) := by decide +kernel
theorem dX5_begin_15 : decode mX5_begin.2.1 15 = .ok (.aaload, 1) := by decide +kernel
theorem dX5_begin_16 : decode mX5_begin.2.1 16 = .ok (.astore_n 2, 1) := by decide +kernel
theorem dX5_begin_17 : decode mX5_begin.2.1 17 = .ok (.aload_n 2, 1) := by decide +kernel
theorem dX5_begin_18 : decode mX5_begin.2.1 18 = .ok (.getfield 97, 3) := by decide +kernel
theorem dX5_begin_21 : decode mX5_begin.2.1 21 = .ok (.istore_n 3, 1) := by decide +kernel
theorem dX5_begin_22 : decode mX5_begin.2.1 22 = .ok (.iload_n 3, 1) := by decide +kernel
theorem dX5_begin_23 : decode mX5_begin.2.1 23 = .ok (.aload_n 2, 1) := by decide +kernel
theorem dX5_begin_24 : decode mX5_begin.2.1 24 = .ok (.getfield 86, 3) := by decide +kernel
theorem dX5_begin_27 : decode mX5_begin.2.1 27 = .ok (.if_icmp .gt 21, 3) := by decide +kernel
theorem dX5_begin_30 : decode mX5_begin.2.1 30 = .ok (.aload_n 0, 1) := by decide +kernel
theorem dX5_begin_31 : decode mX5_begin.2.1 31 = .ok (.dup, 1) := by decide +kernel
theorem dX5_begin_32 : decode mX5_begin.2.1 32 = .ok (.getfield 57, 3) := by decide +kernel
theorem dX5_begin_35 : decode mX5_begin.2.1 35 = .ok (.iconst 1, 1) := by decide +kernel
theorem dX5_begin_36 : decode mX5_begin.2.1 36 = .ok (.iload_n 3, 1) := by decide +kernel
theorem dX5_begin_37 : decode mX5_begin.2.1 37 = .ok (.ishl, 1) := by decide +kernel
theorem dX5_begin_38 : decode mX5_begin.2.1 38 = .ok (.ior, 1) := by decide +kernel
theorem dX5_begin_39 : decode mX5_begin.2.1 39 = .ok (.putfield 57, 3) := by decide +kernel
theorem dX5_begin_42 : decode mX5_begin.2.1 42 = .ok (.iinc 3 1, 3) := by decide +kernel
theorem dX5_begin_45 : decode mX5_begin.2.1 45 = .ok (.goto (-23), 3) := by decide +kernel
theorem dX5_begin_48 : decode mX5_begin.2.1 48 = .ok (.aload_n 0, 1) := by decide +kernel
theorem dX5_begin_49 : decode mX5_begin.2.1 49 = .ok (.dup, 1) := by decide +kernel
theorem dX5_begin_50 : decode mX5_begin.2.1 50 = .ok (.getfield 60, 3) := by decide +kernel
theorem dX5_begin_53 : decode mX5_begin.2.1 53 = .ok (.iconst 1, 1) := by decide +kernel
theorem dX5_begin_54 : decode mX5_begin.2.1 54 = .ok (.aload_n 2, 1) := by decide +kernel
theorem dX5_begin_55 : decode mX5_begin.2.1 55 = .ok (.getfield 97, 3) := by decide +kernel
theorem dX5_begin_58 : decode mX5_begin.2.1 58 = .ok (.ishl, 1) := by decide +kernel
theorem dX5_begin_59 : decode mX5_begin.2.1 59 = .ok (.iconst 1, 1) := by decide +kernel
theorem dX5_begin_60 : decode mX5_begin.2.1 60 = .ok (.aload_n 2, 1) := by decide +kernel
theorem dX5_begin_61 : decode mX5_begin.2.1 61 = .ok (.getfield 86, 3) := by decide +kernel
theorem dX5_begin_64 : decode mX5_begin.2.1 64 = .ok (.ishl, 1) := by decide +kernel
theorem dX5_begin_65 : decode mX5_begin.2.1 65 = .ok (.ior, 1) := by decide +kernel
theorem dX5_begin_66 : decode mX5_begin.2.1 66 = .ok (.ior, 1) := by decide +kernel
theorem dX5_begin_67 : decode mX5_begin.2.1 67 = .ok (.putfield 60, 3) := by decide +kernel
theorem dX5_begin_70 : decode mX5_begin.2.1 70 = .ok (.aload_n 0, 1) := by decide +kernel
theorem dX5_begin_71 : decode mX5_begin.2.1 71 = .ok (.aload_n 2, 1) := by decide +kernel
theorem dX5_begin_72 : decode mX5_begin.2.1 72 = .ok (.aload_n 2, 1) := by decide +kernel
theorem dX5_begin_73 : decode mX5_begin.2.1 73 = .ok (.getfield 100, 3) := by decide +kernel
theorem dX5_begin_76 : decode mX5_begin.2.1 76 = .ok (.iconst 2, 1) := by decide +kernel
theorem dX5_begin_77 : decode mX5_begin.2.1 77 = .ok (.iaload, 1) := by decide +kernel
theorem dX5_begin_78 : decode mX5_begin.2.1 78 = .ok (.invokevirtual 103, 3) := by decide +kernel
theorem dX5_begin_81 : decode mX5_begin.2.1 81 = .ok (.aload_n 0, 1) := by decide +kernel
theorem dX5_begin_82 : decode mX5_begin.2.1 82 = .ok (.aload_n 2, 1) := by decide +kernel
theorem dX5_begin_83 : decode mX5_begin.2.1 83 = .ok (.iconst 0, 1) := by decide +kernel
theorem dX5_begin_84 : decode mX5_begin.2.1 84 = .ok (.aload_n 2, 1) := by decide +kernel
theorem dX5_begin_85 : decode mX5_begin.2.1 85 = .ok (.getfield 100, 3) := by decide +kernel
theorem dX5_begin_88 : decode mX5_begin.2.1 88 = .ok (.iconst 3, 1) := by decide +kernel
theorem dX5_begin_89 : decode mX5_begin.2.1 89 = .ok (.iaload, 1) := by decide +kernel
theorem dX5_begin_90 : decode mX5_begin.2.1 90 = .ok (.invokevirtual 107, 3) := by decide +kernel
theorem dX5_begin_93 : decode mX5_begin.2.1 93 = .ok (.aload_n 0, 1) := by decide +kernel
theorem dX5_begin_94 : decode mX5_begin.2.1 94 = .ok (.aload_n 2, 1) := by decide +kernel
theorem dX5_begin_95 : decode mX5_begin.2.1 95 = .ok (.iconst 1, 1) := by decide +kernel
theorem dX5_begin_96 : decode mX5_begin.2.1 96 = .ok (.aload_n 2, 1) := by decide +kernel
theorem dX5_begin_97 : decode mX5_begin.2.1 97 = .ok (.getfield 100, 3) := by decide +kernel
theorem dX5_begin_100 : decode mX5_begin.2.1 100 = .ok (.iconst 4, 1) := by decide +kernel
theorem dX5_begin_101 : decode mX5_begin.2.1 101 = .ok (.iaload, 1) := by decide +kernel
theorem dX5_begin_102 : decode mX5_begin.2.1 102 = .ok (.invokevirtual 107, 3) := by decide +kernel
theorem dX5_begin_105 : decode mX5_begin.2.1 105 = .ok (.iinc 1 1, 3) := by decide +kernel
theorem dX5_begin_108 : decode mX5_begin.2.1 108 = .ok (.goto (-106), 3) := by decide +kernel
theorem dX5_begin_111 : decode mX5_begin.2.1 111 = .ok (.return_, 1) := by decide +kernel
theorem dX5_layOut_0 : decode mX5_layOut.2.1 0 = .ok (.aload_n 1, 1) := by decide +kernel
theorem dX5_layOut_1 : decode mX5_layOut.2.1 1 = .ok (.invokevirtual 111, 3) := by decide +kernel
theorem dX5_layOut_4 : decode mX5_layOut.2.1 4 = .ok (.istore 4, 2) := by decide +kernel
theorem dX5_layOut_6 : decode mX5_layOut.2.1 6 = .ok (.iload 4, 2) := by decide +kernel
theorem dX5_layOut_8 : decode mX5_layOut.2.1 8 = .ok (.iconst 1, 1) := by decide +kernel
theorem dX5_layOut_9 : decode mX5_layOut.2.1 9 = .ok (.if_icmp .ge 4, 3) := by decide +kernel
theorem dX5_layOut_12 : decode mX5_layOut.2.1 12 = .ok (.return_, 1) := by decide +kernel
theorem dX5_layOut_13 : decode mX5_layOut.2.1 13 = .ok (.aload_n 1, 1) := by decide +kernel
theorem dX5_layOut_14 : decode mX5_layOut.2.1 14 = .ok (.getfield 97, 3) := by decide +kernel
theorem dX5_layOut_17 : decode mX5_layOut.2.1 17 = .ok (.istore 5, 2) := by decide +kernel
theorem dX5_layOut_19 : decode mX5_layOut.2.1 19 = .ok (.iload 5, 2) := by decide +kernel
theorem dX5_layOut_21 : decode mX5_layOut.2.1 21 = .ok (.aload_n 1, 1) := by decide +kernel
theorem dX5_layOut_22 : decode mX5_layOut.2.1 22 = .ok (.getfield 86, 3) := by decide +kernel
theorem dX5_layOut_25 : decode mX5_layOut.2.1 25 = .ok (.if_icmp .gt 46, 3) := by decide +kernel
theorem dX5_layOut_28 : decode mX5_layOut.2.1 28 = .ok (.iload 5, 2) := by decide +kernel
theorem dX5_layOut_30 : decode mX5_layOut.2.1 30 = .ok (.aload_n 1, 1) := by decide +kernel
theorem dX5_layOut_31 : decode mX5_layOut.2.1 31 = .ok (.getfield 97, 3) := by decide +kernel
theorem dX5_layOut_34 : decode mX5_layOut.2.1 34 = .ok (.isub, 1) := by decide +kernel
theorem dX5_layOut_35 : decode mX5_layOut.2.1 35 = .ok (.istore 6, 2) := by decide +kernel
theorem dX5_layOut_37 : decode mX5_layOut.2.1 37 = .ok (.aload_n 0, 1) := by decide +kernel
theorem dX5_layOut_38 : decode mX5_layOut.2.1 38 = .ok (.getfield 31, 3) := by decide +kernel
theorem dX5_layOut_41 : decode mX5_layOut.2.1 41 = .ok (.iload_n 2, 1) := by decide +kernel
theorem dX5_layOut_42 : decode mX5_layOut.2.1 42 = .ok (.aaload, 1) := by decide +kernel
theorem dX5_layOut_43 : decode mX5_layOut.2.1 43 = .ok (.iload 5, 2) := by decide +kernel
theorem dX5_layOut_45 : decode mX5_layOut.2.1 45 = .ok (.iload_n 3, 1) := by decide +kernel
theorem dX5_layOut_46 : decode mX5_layOut.2.1 46 = .ok (.iload 4, 2) := by decide +kernel
theorem dX5_layOut_48 : decode mX5_layOut.2.1 48 = .ok (.idiv, 1) := by decide +kernel
theorem dX5_layOut_49 : decode mX5_layOut.2.1 49 = .ok (.iload 6, 2) := by decide +kernel
theorem dX5_layOut_51 : decode mX5_layOut.2.1 51 = .ok (.iload_n 3, 1) := by decide +kernel
theorem dX5_layOut_52 : decode mX5_layOut.2.1 52 = .ok (.iload 4, 2) := by decide +kernel
theorem dX5_layOut_54 : decode mX5_layOut.2.1 54 = .ok (.irem, 1) := by decide +kernel
theorem dX5_layOut_55 : decode mX5_layOut.2.1 55 = .ok (.if_icmp .ge 7, 3) := by decide +kernel
theorem dX5_layOut_58 : decode mX5_layOut.2.1 58 = .ok (.iconst 1, 1) := by decide +kernel
theorem dX5_layOut_59 : decode mX5_layOut.2.1 59 = .ok (.goto 4, 3) := by decide +kernel
theorem dX5_layOut_62 : decode mX5_layOut.2.1 62 = .ok (.iconst 0, 1) := by decide +kernel
theorem dX5_layOut_63 : decode mX5_layOut.2.1 63 = .ok (.iadd, 1) := by decide +kernel
theorem dX5_layOut_64 : decode mX5_layOut.2.1 64 = .ok (.iastore, 1) := by decide +kernel
theorem dX5_layOut_65 : decode mX5_layOut.2.1 65 = .ok (.iinc 5 1, 3) := by decide +kernel
theorem dX5_layOut_68 : decode mX5_layOut.2.1 68 = .ok (.goto (-49), 3) := by decide +kernel
theorem dX5_layOut_71 : decode mX5_layOut.2.1 71 = .ok (.return_, 1) := by decide +kernel
theorem dX5_shape_0 : decode mX5_shape.2.1 0 = .ok (.iconst 0, 1) := by decide +kernel
theorem dX5_shape_1 : decode mX5_shape.2.1 1 = .ok (.istore_n 3, 1) := by decide +kernel
theorem dX5_shape_2 : decode mX5_shape.2.1 2 = .ok (.aload_n 1, 1) := by decide +kernel
theorem dX5_shape_3 : decode mX5_shape.2.1 3 = .ok (.getfield 97, 3) := by decide +kernel
theorem dX5_shape_6 : decode mX5_shape.2.1 6 = .ok (.istore 4, 2) := by decide +kernel
theorem dX5_shape_8 : decode mX5_shape.2.1 8 = .ok (.iload 4, 2) := by decide +kernel
theorem dX5_shape_10 : decode mX5_shape.2.1 10 = .ok (.aload_n 1, 1) := by decide +kernel
theorem dX5_shape_11 : decode mX5_shape.2.1 11 = .ok (.getfield 86, 3) := by decide +kernel
theorem dX5_shape_14 : decode mX5_shape.2.1 14 = .ok (.if_icmp .gt 18, 3) := by decide +kernel
theorem dX5_shape_17 : decode mX5_shape.2.1 17 = .ok (.iload_n 3, 1) := by decide +kernel
theorem dX5_shape_18 : decode mX5_shape.2.1 18 = .ok (.aload_n 1, 1) := by decide +kernel
theorem dX5_shape_19 : decode mX5_shape.2.1 19 = .ok (.iload 4, 2) := by decide +kernel
theorem dX5_shape_21 : decode mX5_shape.2.1 21 = .ok (.invokevirtual 114, 3) := by decide +kernel
theorem dX5_shape_24 : decode mX5_shape.2.1 24 = .ok (.iadd, 1) := by decide +kernel
theorem dX5_shape_25 : decode mX5_shape.2.1 25 = .ok (.istore_n 3, 1) := by decide +kernel
theorem dX5_shape_26 : decode mX5_shape.2.1 26 = .ok (.iinc 4 1, 3) := by decide +kernel
theorem dX5_shape_29 : decode mX5_shape.2.1 29 = .ok (.goto (-21), 3) := by decide +kernel
theorem dX5_shape_32 : decode mX5_shape.2.1 32 = .ok (.iload_n 3, 1) := by decide +kernel
theorem dX5_shape_33 : decode mX5_shape.2.1 33 = .ok (.iconst 1, 1) := by decide +kernel
theorem dX5_shape_34 : decode mX5_shape.2.1 34 = .ok (.if_icmp .ge 4, 3) := by decide +kernel
theorem dX5_shape_37 : decode mX5_shape.2.1 37 = .ok (.return_, 1) := by decide +kernel
theorem dX5_shape_38 : decode mX5_shape.2.1 38 = .ok (.iload_n 2, 1) := by decide +kernel
theorem dX5_shape_39 : decode mX5_shape.2.1 39 = .ok (.istore 4, 2) := by decide +kernel
theorem dX5_shape_41 : decode mX5_shape.2.1 41 = .ok (.aload_n 1, 1) := by decide +kernel
theorem dX5_shape_42 : decode mX5_shape.2.1 42 = .ok (.getfield 97, 3) := by decide +kernel
theorem dX5_shape_45 : decode mX5_shape.2.1 45 = .ok (.istore 5, 2) := by decide +kernel
theorem dX5_shape_47 : decode mX5_shape.2.1 47 = .ok (.iload 5, 2) := by decide +kernel
theorem dX5_shape_49 : decode mX5_shape.2.1 49 = .ok (.aload_n 1, 1) := by decide +kernel
theorem dX5_shape_50 : decode mX5_shape.2.1 50 = .ok (.getfield 86, 3) := by decide +kernel
theorem dX5_shape_53 : decode mX5_shape.2.1 53 = .ok (.if_icmp .gt 38, 3) := by decide +kernel
theorem dX5_shape_56 : decode mX5_shape.2.1 56 = .ok (.aload_n 0, 1) := by decide +kernel
theorem dX5_shape_57 : decode mX5_shape.2.1 57 = .ok (.getfield 9, 3) := by decide +kernel
theorem dX5_shape_60 : decode mX5_shape.2.1 60 = .ok (.iload 5, 2) := by decide +kernel
theorem dX5_shape_62 : decode mX5_shape.2.1 62 = .ok (.iload_n 2, 1) := by decide +kernel
theorem dX5_shape_63 : decode mX5_shape.2.1 63 = .ok (.aload_n 1, 1) := by decide +kernel
theorem dX5_shape_64 : decode mX5_shape.2.1 64 = .ok (.iload 5, 2) := by decide +kernel
theorem dX5_shape_66 : decode mX5_shape.2.1 66 = .ok (.invokevirtual 114, 3) := by decide +kernel
theorem dX5_shape_69 : decode mX5_shape.2.1 69 = .ok (.imul, 1) := by decide +kernel
theorem dX5_shape_70 : decode mX5_shape.2.1 70 = .ok (.iload_n 3, 1) := by decide +kernel
theorem dX5_shape_71 : decode mX5_shape.2.1 71 = .ok (.idiv, 1) := by decide +kernel
theorem dX5_shape_72 : decode mX5_shape.2.1 72 = .ok (.iastore, 1) := by decide +kernel
theorem dX5_shape_73 : decode mX5_shape.2.1 73 = .ok (.iload 4, 2) := by decide +kernel
theorem dX5_shape_75 : decode mX5_shape.2.1 75 = .ok (.aload_n 0, 1) := by decide +kernel
theorem dX5_shape_76 : decode mX5_shape.2.1 76 = .ok (.getfield 9, 3) := by decide +kernel
theorem dX5_shape_79 : decode mX5_shape.2.1 79 = .ok (.iload 5, 2) := by decide +kernel
theorem dX5_shape_81 : decode mX5_shape.2.1 81 = .ok (.iaload, 1) := by decide +kernel
theorem dX5_shape_82 : decode mX5_shape.2.1 82 = .ok (.isub, 1) := by decide +kernel
theorem dX5_shape_83 : decode mX5_shape.2.1 83 = .ok (.istore 4, 2) := by decide +kernel
theorem dX5_shape_85 : decode mX5_shape.2.1 85 = .ok (.iinc 5 1, 3) := by decide +kernel
theorem dX5_shape_88 : decode mX5_shape.2.1 88 = .ok (.goto (-41), 3) := by decide +kernel
theorem dX5_shape_91 : decode mX5_shape.2.1 91 = .ok (.aload_n 1, 1) := by decide +kernel
theorem dX5_shape_92 : decode mX5_shape.2.1 92 = .ok (.getfield 97, 3) := by decide +kernel
theorem dX5_shape_95 : decode mX5_shape.2.1 95 = .ok (.istore 5, 2) := by decide +kernel
theorem dX5_shape_97 : decode mX5_shape.2.1 97 = .ok (.iload 5, 2) := by decide +kernel
theorem dX5_shape_99 : decode mX5_shape.2.1 99 = .ok (.aload_n 1, 1) := by decide +kernel
theorem dX5_shape_100 : decode mX5_shape.2.1 100 = .ok (.getfield 86, 3) := by decide +kernel
theorem dX5_shape_103 : decode mX5_shape.2.1 103 = .ok (.if_icmp .gt 28, 3) := by decide +kernel
theorem dX5_shape_106 : decode mX5_shape.2.1 106 = .ok (.iload 4, 2) := by decide +kernel
theorem dX5_shape_108 : decode mX5_shape.2.1 108 = .ok (.ifCond .le 23, 3) := by decide +kernel
theorem dX5_shape_111 : decode mX5_shape.2.1 111 = .ok (.aload_n 0, 1) := by decide +kernel
theorem dX5_shape_112 : decode mX5_shape.2.1 112 = .ok (.getfield 9, 3) := by decide +kernel
theorem dX5_shape_115 : decode mX5_shape.2.1 115 = .ok (.iload 5, 2) := by decide +kernel
theorem dX5_shape_117 : decode mX5_shape.2.1 117 = .ok (.dup2, 1) := by decide +kernel
theorem dX5_shape_118 : decode mX5_shape.2.1 118 = .ok (.iaload, 1) := by decide +kernel
theorem dX5_shape_119 : decode mX5_shape.2.1 119 = .ok (.iconst 1, 1) := by decide +kernel
theorem dX5_shape_120 : decode mX5_shape.2.1 120 = .ok (.iadd, 1) := by decide +kernel
theorem dX5_shape_121 : decode mX5_shape.2.1 121 = .ok (.iastore, 1) := by decide +kernel
theorem dX5_shape_122 : decode mX5_shape.2.1 122 = .ok (.iinc 4 (-1), 3) := by decide +kernel
theorem dX5_shape_125 : decode mX5_shape.2.1 125 = .ok (.iinc 5 1, 3) := by decide +kernel
theorem dX5_shape_128 : decode mX5_shape.2.1 128 = .ok (.goto (-31), 3) := by decide +kernel
theorem dX5_shape_131 : decode mX5_shape.2.1 131 = .ok (.return_, 1) := by decide +kernel
theorem dX5_waterOf_0 : decode mX5_waterOf.2.1 0 = .ok (.iconst 0, 1) := by decide +kernel
theorem dX5_waterOf_1 : decode mX5_waterOf.2.1 1 = .ok (.istore_n 2, 1) := by decide +kernel
theorem dX5_waterOf_2 : decode mX5_waterOf.2.1 2 = .ok (.aload_n 1, 1) := by decide +kernel
theorem dX5_waterOf_3 : decode mX5_waterOf.2.1 3 = .ok (.getfield 97, 3) := by decide +kernel
theorem dX5_waterOf_6 : decode mX5_waterOf.2.1 6 = .ok (.istore_n 3, 1) := by decide +kernel
theorem dX5_waterOf_7 : decode mX5_waterOf.2.1 7 = .ok (.iload_n 3, 1) := by decide +kernel
theorem dX5_waterOf_8 : decode mX5_waterOf.2.1 8 = .ok (.aload_n 1, 1) := by decide +kernel
theorem dX5_waterOf_9 : decode mX5_waterOf.2.1 9 = .ok (.getfield 86, 3) := by decide +kernel
theorem dX5_waterOf_12 : decode mX5_waterOf.2.1 12 = .ok (.if_icmp .gt 18, 3) := by decide +kernel
theorem dX5_waterOf_15 : decode mX5_waterOf.2.1 15 = .ok (.iload_n 2, 1) := by decide +kernel
theorem dX5_waterOf_16 : decode mX5_waterOf.2.1 16 = .ok (.aload_n 0, 1) := by decide +kernel
theorem dX5_waterOf_17 : decode mX5_waterOf.2.1 17 = .ok (.getfield 9, 3) := by decide +kernel
theorem dX5_waterOf_20 : decode mX5_waterOf.2.1 20 = .ok (.iload_n 3, 1) := by decide +kernel
theorem dX5_waterOf_21 : decode mX5_waterOf.2.1 21 = .ok (.iaload, 1) := by decide +kernel
theorem dX5_waterOf_22 : decode mX5_waterOf.2.1 22 = .ok (.iadd, 1) := by decide +kernel
theorem dX5_waterOf_23 : decode mX5_waterOf.2.1 23 = .ok (.istore_n 2, 1) := by decide +kernel
theorem dX5_waterOf_24 : decode mX5_waterOf.2.1 24 = .ok (.iinc 3 1, 3) := by decide +kernel
theorem dX5_waterOf_27 : decode mX5_waterOf.2.1 27 = .ok (.goto (-20), 3) := by decide +kernel
theorem dX5_waterOf_30 : decode mX5_waterOf.2.1 30 = .ok (.iload_n 2, 1) := by decide +kernel
theorem dX5_waterOf_31 : decode mX5_waterOf.2.1 31 = .ok (.ireturn, 1) := by decide +kernel
theorem dX5_goOn_0 : decode mX5_goOn.2.1 0 = .ok (.iconst 0, 1) := by decide +kernel
theorem dX5_goOn_1 : decode mX5_goOn.2.1 1 = .ok (.istore_n 3, 1) := by decide +kernel
theorem dX5_goOn_2 : decode mX5_goOn.2.1 2 = .ok (.iload_n 3, 1) := by decide +kernel
theorem dX5_goOn_3 : decode mX5_goOn.2.1 3 = .ok (.iload_n 1, 1) := by decide +kernel
theorem dX5_goOn_4 : decode mX5_goOn.2.1 4 = .ok (.if_icmp .ge 21, 3) := by decide +kernel
theorem dX5_goOn_7 : decode mX5_goOn.2.1 7 = .ok (.aload_n 0, 1) := by decide +kernel
theorem dX5_goOn_8 : decode mX5_goOn.2.1 8 = .ok (.getfield 53, 3) := by decide +kernel
theorem dX5_goOn_11 : decode mX5_goOn.2.1 11 = .ok (.ifCond .le 14, 3) := by decide +kernel
theorem dX5_goOn_14 : decode mX5_goOn.2.1 14 = .ok (.aload_n 0, 1) := by decide +kernel
theorem dX5_goOn_15 : decode mX5_goOn.2.1 15 = .ok (.iload_n 2, 1) := by decide +kernel
theorem dX5_goOn_16 : decode mX5_goOn.2.1 16 = .ok (.invokevirtual 118, 3) := by decide +kernel
theorem dX5_goOn_19 : decode mX5_goOn.2.1 19 = .ok (.iinc 3 1, 3) := by decide +kernel
theorem dX5_goOn_22 : decode mX5_goOn.2.1 22 = .ok (.goto (-20), 3) := by decide +kernel
theorem dX5_goOn_25 : decode mX5_goOn.2.1 25 = .ok (.iload_n 3, 1) := by decide +kernel
theorem dX5_goOn_26 : decode mX5_goOn.2.1 26 = .ok (.ireturn, 1) := by decide +kernel
theorem dX5_oneTick_0 : decode mX5_oneTick.2.1 0 = .ok (.aload_n 0, 1) := by decide +kernel
theorem dX5_oneTick_1 : decode mX5_oneTick.2.1 1 = .ok (.iconst 0, 1) := by decide +kernel
theorem dX5_oneTick_2 : decode mX5_oneTick.2.1 2 = .ok (.putfield 122, 3) := by decide +kernel
theorem dX5_oneTick_5 : decode mX5_oneTick.2.1 5 = .ok (.aload_n 0, 1) := by decide +kernel
theorem dX5_oneTick_6 : decode mX5_oneTick.2.1 6 = .ok (.iconst 0, 1) := by decide +kernel
theorem dX5_oneTick_7 : decode mX5_oneTick.2.1 7 = .ok (.putfield 77, 3) := by decide +kernel
theorem dX5_oneTick_10 : decode mX5_oneTick.2.1 10 = .ok (.iconst 0, 1) := by decide +kernel
theorem dX5_oneTick_11 : decode mX5_oneTick.2.1 11 = .ok (.istore_n 2, 1) := by decide +kernel
theorem dX5_oneTick_12 : decode mX5_oneTick.2.1 12 = .ok (.iload_n 2, 1) := by decide +kernel
theorem dX5_oneTick_13 : decode mX5_oneTick.2.1 13 = .ok (.bipush 24, 2) := by decide +kernel
theorem dX5_oneTick_15 : decode mX5_oneTick.2.1 15 = .ok (.if_icmp .ge 16, 3) := by decide +kernel
theorem dX5_oneTick_18 : decode mX5_oneTick.2.1 18 = .ok (.aload_n 0, 1) := by decide +kernel
theorem dX5_oneTick_19 : decode mX5_oneTick.2.1 19 = .ok (.getfield 40, 3) := by decide +kernel
theorem dX5_oneTick_22 : decode mX5_oneTick.2.1 22 = .ok (.iload_n 2, 1) := by decide +kernel
theorem dX5_oneTick_23 : decode mX5_oneTick.2.1 23 = .ok (.iconst 0, 1) := by decide +kernel
theorem dX5_oneTick_24 : decode mX5_oneTick.2.1 24 = .ok (.iastore, 1) := by decide +kernel
theorem dX5_oneTick_25 : decode mX5_oneTick.2.1 25 = .ok (.iinc 2 1, 3) := by decide +kernel
theorem dX5_oneTick_28 : decode mX5_oneTick.2.1 28 = .ok (.goto (-16), 3) := by decide +kernel
theorem dX5_oneTick_31 : decode mX5_oneTick.2.1 31 = .ok (.iconst 0, 1) := by decide +kernel
theorem dX5_oneTick_32 : decode mX5_oneTick.2.1 32 = .ok (.istore_n 2, 1) := by decide +kernel
theorem dX5_oneTick_33 : decode mX5_oneTick.2.1 33 = .ok (.iload_n 2, 1) := by decide +kernel
theorem dX5_oneTick_34 : decode mX5_oneTick.2.1 34 = .ok (.aload_n 0, 1) := by decide +kernel
theorem dX5_oneTick_35 : decode mX5_oneTick.2.1 35 = .ok (.getfield 53, 3) := by decide +kernel
theorem dX5_oneTick_38 : decode mX5_oneTick.2.1 38 = .ok (.if_icmp .ge 53, 3) := by decide +kernel
theorem dX5_oneTick_41 : decode mX5_oneTick.2.1 41 = .ok (.aload_n 0, 1) := by decide +kernel
theorem dX5_oneTick_42 : decode mX5_oneTick.2.1 42 = .ok (.getfield 48, 3) := by decide +kernel
theorem dX5_oneTick_45 : decode mX5_oneTick.2.1 45 = .ok (.iload_n 2, 1) := by decide +kernel
theorem dX5_oneTick_46 : decode mX5_oneTick.2.1 46 = .ok (.aaload, 1) := by decide +kernel
theorem dX5_oneTick_47 : decode mX5_oneTick.2.1 47 = .ok (.astore_n 3, 1) := by decide +kernel
theorem dX5_oneTick_48 : decode mX5_oneTick.2.1 48 = .ok (.aload_n 0, 1) := by decide +kernel
theorem dX5_oneTick_49 : decode mX5_oneTick.2.1 49 = .ok (.aload_n 3, 1) := by decide +kernel
theorem dX5_oneTick_50 : decode mX5_oneTick.2.1 50 = .ok (.invokevirtual 125, 3) := by decide +kernel
theorem dX5_oneTick_53 : decode mX5_oneTick.2.1 53 = .ok (.aload_n 0, 1) := by decide +kernel
theorem dX5_oneTick_54 : decode mX5_oneTick.2.1 54 = .ok (.aload_n 3, 1) := by decide +kernel
theorem dX5_oneTick_55 : decode mX5_oneTick.2.1 55 = .ok (.iload_n 1, 1) := by decide +kernel
theorem dX5_oneTick_56 : decode mX5_oneTick.2.1 56 = .ok (.invokevirtual 129, 3) := by decide +kernel
theorem dX5_oneTick_59 : decode mX5_oneTick.2.1 59 = .ok (.aload_n 0, 1) := by decide +kernel
theorem dX5_oneTick_60 : decode mX5_oneTick.2.1 60 = .ok (.aload_n 3, 1) := by decide +kernel
theorem dX5_oneTick_61 : decode mX5_oneTick.2.1 61 = .ok (.invokevirtual 132, 3) := by decide +kernel
theorem dX5_oneTick_64 : decode mX5_oneTick.2.1 64 = .ok (.aload_n 0, 1) := by decide +kernel
theorem dX5_oneTick_65 : decode mX5_oneTick.2.1 65 = .ok (.aload_n 3, 1) := by decide +kernel
theorem dX5_oneTick_66 : decode mX5_oneTick.2.1 66 = .ok (.invokevirtual 135, 3) := by decide +kernel
theorem dX5_oneTick_69 : decode mX5_oneTick.2.1 69 = .ok (.aload_n 0, 1) := by decide +kernel
theorem dX5_oneTick_70 : decode mX5_oneTick.2.1 70 = .ok (.aload_n 3, 1) := by decide +kernel
theorem dX5_oneTick_71 : decode mX5_oneTick.2.1 71 = .ok (.invokevirtual 138, 3) := by decide +kernel
theorem dX5_oneTick_74 : decode mX5_oneTick.2.1 74 = .ok (.aload_n 0, 1) := by decide +kernel
theorem dX5_oneTick_75 : decode mX5_oneTick.2.1 75 = .ok (.aload_n 3, 1) := by decide +kernel
theorem dX5_oneTick_76 : decode mX5_oneTick.2.1 76 = .ok (.invokevirtual 141, 3) := by decide +kernel
theorem dX5_oneTick_79 : decode mX5_oneTick.2.1 79 = .ok (.aload_n 0, 1) := by decide +kernel
theorem dX5_oneTick_80 : decode mX5_oneTick.2.1 80 = .ok (.aload_n 3, 1) := by decide +kernel
theorem dX5_oneTick_81 : decode mX5_oneTick.2.1 81 = .ok (.iload_n 1, 1) := by decide +kernel
theorem dX5_oneTick_82 : decode mX5_oneTick.2.1 82 = .ok (.invokevirtual 144, 3) := by decide +kernel
theorem dX5_oneTick_85 : decode mX5_oneTick.2.1 85 = .ok (.iinc 2 1, 3) := by decide +kernel
theorem dX5_oneTick_88 : decode mX5_oneTick.2.1 88 = .ok (.goto (-55), 3) := by decide +kernel
theorem dX5_oneTick_91 : decode mX5_oneTick.2.1 91 = .ok (.aload_n 0, 1) := by decide +kernel
theorem dX5_oneTick_92 : decode mX5_oneTick.2.1 92 = .ok (.getfield 71, 3) := by decide +kernel
theorem dX5_oneTick_95 : decode mX5_oneTick.2.1 95 = .ok (.aload_n 0, 1) := by decide +kernel
theorem dX5_oneTick_96 : decode mX5_oneTick.2.1 96 = .ok (.getfield 43, 3) := by decide +kernel
theorem dX5_oneTick_99 : decode mX5_oneTick.2.1 99 = .ok (.arraylength, 1) := by decide +kernel
theorem dX5_oneTick_100 : decode mX5_oneTick.2.1 100 = .ok (.if_icmp .ge 16, 3) := by decide +kernel
theorem dX5_oneTick_103 : decode mX5_oneTick.2.1 103 = .ok (.aload_n 0, 1) := by decide +kernel
theorem dX5_oneTick_104 : decode mX5_oneTick.2.1 104 = .ok (.getfield 43, 3) := by decide +kernel
theorem dX5_oneTick_107 : decode mX5_oneTick.2.1 107 = .ok (.aload_n 0, 1) := by decide +kernel
theorem dX5_oneTick_108 : decode mX5_oneTick.2.1 108 = .ok (.getfield 71, 3) := by decide +kernel
theorem dX5_oneTick_111 : decode mX5_oneTick.2.1 111 = .ok (.aload_n 0, 1) := by decide +kernel
theorem dX5_oneTick_112 : decode mX5_oneTick.2.1 112 = .ok (.getfield 122, 3) := by decide +kernel
theorem dX5_oneTick_115 : decode mX5_oneTick.2.1 115 = .ok (.iastore, 1) := by decide +kernel
theorem dX5_oneTick_116 : decode mX5_oneTick.2.1 116 = .ok (.aload_n 0, 1) := by decide +kernel
theorem dX5_oneTick_117 : decode mX5_oneTick.2.1 117 = .ok (.dup, 1) := by decide +kernel
theorem dX5_oneTick_118 : decode mX5_oneTick.2.1 118 = .ok (.getfield 71, 3) := by decide +kernel
theorem dX5_oneTick_121 : decode mX5_oneTick.2.1 121 = .ok (.iconst 1, 1) := by decide +kernel
theorem dX5_oneTick_122 : decode mX5_oneTick.2.1 122 = .ok (.iadd, 1) := by decide +kernel
theorem dX5_oneTick_123 : decode mX5_oneTick.2.1 123 = .ok (.putfield 71, 3) := by decide +kernel
theorem dX5_oneTick_126 : decode mX5_oneTick.2.1 126 = .ok (.aload_n 0, 1) := by decide +kernel
theorem dX5_oneTick_127 : decode mX5_oneTick.2.1 127 = .ok (.getfield 122, 3) := by decide +kernel
theorem dX5_oneTick_130 : decode mX5_oneTick.2.1 130 = .ok (.aload_n 0, 1) := by decide +kernel
theorem dX5_oneTick_131 : decode mX5_oneTick.2.1 131 = .ok (.getfield 83, 3) := by decide +kernel
theorem dX5_oneTick_134 : decode mX5_oneTick.2.1 134 = .ok (.if_icmp .le 19, 3) := by decide +kernel
theorem dX5_oneTick_137 : decode mX5_oneTick.2.1 137 = .ok (.aload_n 0, 1) := by decide +kernel
theorem dX5_oneTick_138 : decode mX5_oneTick.2.1 138 = .ok (.aload_n 0, 1) := by decide +kernel
theorem dX5_oneTick_139 : decode mX5_oneTick.2.1 139 = .ok (.getfield 122, 3) := by decide +kernel
theorem dX5_oneTick_142 : decode mX5_oneTick.2.1 142 = .ok (.putfield 83, 3) := by decide +kernel
theorem dX5_oneTick_145 : decode mX5_oneTick.2.1 145 = .ok (.aload_n 0, 1) := by decide +kernel
theorem dX5_oneTick_146 : decode mX5_oneTick.2.1 146 = .ok (.aload_n 0, 1) := by decide +kernel
theorem dX5_oneTick_147 : decode mX5_oneTick.2.1 147 = .ok (.getfield 71, 3) := by decide +kernel
theorem dX5_oneTick_150 : decode mX5_oneTick.2.1 150 = .ok (.putfield 80, 3) := by decide +kernel
theorem dX5_oneTick_153 : decode mX5_oneTick.2.1 153 = .ok (.aload_n 0, 1) := by decide +kernel
theorem dX5_oneTick_154 : decode mX5_oneTick.2.1 154 = .ok (.invokevirtual 147, 3) := by decide +kernel
theorem dX5_oneTick_157 : decode mX5_oneTick.2.1 157 = .ok (.return_, 1) := by decide +kernel
theorem dX5_evaporate_0 : decode mX5_evaporate.2.1 0 = .ok (.aload_n 0, 1) := by decide +kernel
theorem dX5_evaporate_1 : decode mX5_evaporate.2.1 1 = .ok (.getfield 63, 3) := by decide +kernel
theorem dX5_evaporate_4 : decode mX5_evaporate.2.1 4 = .ok (.ifnonnull 4, 3) := by decide +kernel
theorem dX5_evaporate_7 : decode mX5_evaporate.2.1 7 = .ok (.return_, 1) := by decide +kernel
theorem dX5_evaporate_8 : decode mX5_evaporate.2.1 8 = .ok (.aload_n 0, 1) := by decide +kernel
theorem dX5_evaporate_9 : decode mX5_evaporate.2.1 9 = .ok (.getfield 26, 3) := by decide +kernel
theorem dX5_evaporate_12 : decode mX5_evaporate.2.1 12 = .ok (.iconst 3, 1) := by decide +kernel
theorem dX5_evaporate_13 : decode mX5_evaporate.2.1 13 = .ok (.aload_n 0, 1) := by decide +kernel
theorem dX5_evaporate_14 : decode mX5_evaporate.2.1 14 = .ok (.getfield 71, 3) := by decide +kernel
theorem dX5_evaporate_17 : decode mX5_evaporate.2.1 17 = .ok (.iastore, 1) := by decide +kernel
theorem dX5_evaporate_18 : decode mX5_evaporate.2.1 18 = .ok (.aload_n 0, 1) := by decide +kernel
theorem dX5_evaporate_19 : decode mX5_evaporate.2.1 19 = .ok (.getfield 26, 3) := by decide +kernel
theorem dX5_evaporate_22 : decode mX5_evaporate.2.1 22 = .ok (.iconst 4, 1) := by decide +kernel
theorem dX5_evaporate_23 : decode mX5_evaporate.2.1 23 = .ok (.aload_n 1, 1) := by decide +kernel
theorem dX5_evaporate_24 : decode mX5_evaporate.2.1 24 = .ok (.getfield 100, 3) := by decide +kernel
theorem dX5_evaporate_27 : decode mX5_evaporate.2.1 27 = .ok (.iconst 5, 1) := by decide +kernel
theorem dX5_evaporate_28 : decode mX5_evaporate.2.1 28 = .ok (.iaload, 1) := by decide +kernel
theorem dX5_evaporate_29 : decode mX5_evaporate.2.1 29 = .ok (.iastore, 1) := by decide +kernel
theorem dX5_evaporate_30 : decode mX5_evaporate.2.1 30 = .ok (.aload_n 0, 1) := by decide +kernel
theorem dX5_evaporate_31 : decode mX5_evaporate.2.1 31 = .ok (.getfield 26, 3) := by decide +kernel
theorem dX5_evaporate_34 : decode mX5_evaporate.2.1 34 = .ok (.iconst 5, 1) := by decide +kernel
theorem dX5_evaporate_35 : decode mX5_evaporate.2.1 35 = .ok (.aload_n 1, 1) := by decide +kernel
theorem dX5_evaporate_36 : decode mX5_evaporate.2.1 36 = .ok (.getfield 100, 3) := by decide +kernel
theorem dX5_evaporate_39 : decode mX5_evaporate.2.1 39 = .ok (.bipush 6, 2) := by decide +kernel
theorem dX5_evaporate_41 : decode mX5_evaporate.2.1 41 = .ok (.iaload, 1) := by decide +kernel
theorem dX5_evaporate_42 : decode mX5_evaporate.2.1 42 = .ok (.iastore, 1) := by decide +kernel
theorem dX5_evaporate_43 : decode mX5_evaporate.2.1 43 = .ok (.aload_n 0, 1) := by decide +kernel
theorem dX5_evaporate_44 : decode mX5_evaporate.2.1 44 = .ok (.getfield 26, 3) := by decide +kernel
theorem dX5_evaporate_47 : decode mX5_evaporate.2.1 47 = .ok (.bipush 6, 2) := by decide +kernel
theorem dX5_evaporate_49 : decode mX5_evaporate.2.1 49 = .ok (.aload_n 1, 1) := by decide +kernel
theorem dX5_evaporate_50 : decode mX5_evaporate.2.1 50 = .ok (.invokevirtual 111, 3) := by decide +kernel
theorem dX5_evaporate_53 : decode mX5_evaporate.2.1 53 = .ok (.iastore, 1) := by decide +kernel
theorem dX5_evaporate_54 : decode mX5_evaporate.2.1 54 = .ok (.aload_n 1, 1) := by decide +kernel
theorem dX5_evaporate_55 : decode mX5_evaporate.2.1 55 = .ok (.getfield 97, 3) := by decide +kernel
theorem dX5_evaporate_58 : decode mX5_evaporate.2.1 58 = .ok (.istore_n 2, 1) := by decide +kernel
theorem dX5_evaporate_59 : decode mX5_evaporate.2.1 59 = .ok (.iload_n 2, 1) := by decide +kernel
theorem dX5_evaporate_60 : decode mX5_evaporate.2.1 60 = .ok (.aload_n 1, 1) := by decide +kernel
theorem dX5_evaporate_61 : decode mX5_evaporate.2.1 61 = .ok (.getfield 86, 3) := by decide +kernel
theorem dX5_evaporate_64 : decode mX5_evaporate.2.1 64 = .ok (.if_icmp .gt 125, 3) := by decide +kernel
theorem dX5_evaporate_67 : decode mX5_evaporate.2.1 67 = .ok (.aload_n 0, 1) := by decide +kernel
theorem dX5_evaporate_68 : decode mX5_evaporate.2.1 68 = .ok (.getfield 26, 3) := by decide +kernel
theorem dX5_evaporate_71 : decode mX5_evaporate.2.1 71 = .ok (.iconst 0, 1) := by decide +kernel
theorem dX5_evaporate_72 : decode mX5_evaporate.2.1 72 = .ok (.iload_n 2, 1) := by decide +kernel
theorem dX5_evaporate_73 : decode mX5_evaporate.2.1 73 = .ok (.aload_n 1, 1) := by decide +kernel
theorem dX5_evaporate_74 : decode mX5_evaporate.2.1 74 = .ok (.getfield 97, 3) := by decide +kernel
theorem dX5_evaporate_77 : decode mX5_evaporate.2.1 77 = .ok (.isub, 1) := by decide +kernel
theorem dX5_evaporate_78 : decode mX5_evaporate.2.1 78 = .ok (.aload_n 1, 1) := by decide +kernel
theorem dX5_evaporate_79 : decode mX5_evaporate.2.1 79 = .ok (.getfield 86, 3) := by decide +kernel
theorem dX5_evaporate_82 : decode mX5_evaporate.2.1 82 = .ok (.iload_n 2, 1) := by decide +kernel
theorem dX5_evaporate_83 : decode mX5_evaporate.2.1 83 = .ok (.isub, 1) := by decide +kernel
theorem dX5_evaporate_84 : decode mX5_evaporate.2.1 84 = .ok (.invokestatic 150, 3) := by decide +kernel
theorem dX5_evaporate_87 : decode mX5_evaporate.2.1 87 = .ok (.iastore, 1) := by decide +kernel
theorem dX5_evaporate_88 : decode mX5_evaporate.2.1 88 = .ok (.aload_n 0, 1) := by decide +kernel
theorem dX5_evaporate_89 : decode mX5_evaporate.2.1 89 = .ok (.getfield 26, 3) := by decide +kernel
theorem dX5_evaporate_92 : decode mX5_evaporate.2.1 92 = .ok (.iconst 1, 1) := by decide +kernel
theorem dX5_evaporate_93 : decode mX5_evaporate.2.1 93 = .ok (.aload_n 0, 1) := by decide +kernel
theorem dX5_evaporate_94 : decode mX5_evaporate.2.1 94 = .ok (.getfield 9, 3) := by decide +kernel
theorem dX5_evaporate_97 : decode mX5_evaporate.2.1 97 = .ok (.iload_n 2, 1) := by decide +kernel
theorem dX5_evaporate_98 : decode mX5_evaporate.2.1 98 = .ok (.iaload, 1) := by decide +kernel
theorem dX5_evaporate_99 : decode mX5_evaporate.2.1 99 = .ok (.iastore, 1) := by decide +kernel
theorem dX5_evaporate_100 : decode mX5_evaporate.2.1 100 = .ok (.aload_n 0, 1) := by decide +kernel
theorem dX5_evaporate_101 : decode mX5_evaporate.2.1 101 = .ok (.getfield 26, 3) := by decide +kernel
theorem dX5_evaporate_104 : decode mX5_evaporate.2.1 104 = .ok (.iconst 2, 1) := by decide +kernel
theorem dX5_evaporate_105 : decode mX5_evaporate.2.1 105 = .ok (.aload_n 0, 1) := by decide +kernel
theorem dX5_evaporate_106 : decode mX5_evaporate.2.1 106 = .ok (.getfield 31, 3) := by decide +kernel
theorem dX5_evaporate_109 : decode mX5_evaporate.2.1 109 = .ok (.iconst 0, 1) := by decide +kernel
theorem dX5_evaporate_110 : decode mX5_evaporate.2.1 110 = .ok (.aaload, 1) := by decide +kernel
theorem dX5_evaporate_111 : decode mX5_evaporate.2.1 111 = .ok (.iload_n 2, 1) := by decide +kernel
theorem dX5_evaporate_112 : decode mX5_evaporate.2.1 112 = .ok (.iaload, 1) := by decide +kernel
theorem dX5_evaporate_113 : decode mX5_evaporate.2.1 113 = .ok (.aload_n 0, 1) := by decide +kernel
theorem dX5_evaporate_114 : decode mX5_evaporate.2.1 114 = .ok (.getfield 31, 3) := by decide +kernel
theorem dX5_evaporate_117 : decode mX5_evaporate.2.1 117 = .ok (.iconst 1, 1) := by decide +kernel
theorem dX5_evaporate_118 : decode mX5_evaporate.2.1 118 = .ok (.aaload, 1) := by decide +kernel
theorem dX5_evaporate_119 : decode mX5_evaporate.2.1 119 = .ok (.iload_n 2, 1) := by decide +kernel
theorem dX5_evaporate_120 : decode mX5_evaporate.2.1 120 = .ok (.iaload, 1) := by decide +kernel
theorem dX5_evaporate_121 : decode mX5_evaporate.2.1 121 = .ok (.iadd, 1) := by decide +kernel
theorem dX5_evaporate_122 : decode mX5_evaporate.2.1 122 = .ok (.iastore, 1) := by decide +kernel
theorem dX5_evaporate_123 : decode mX5_evaporate.2.1 123 = .ok (.iconst 0, 1) := by decide +kernel
theorem dX5_evaporate_124 : decode mX5_evaporate.2.1 124 = .ok (.aload_n 0, 1) := by decide +kernel
theorem dX5_evaporate_125 : decode mX5_evaporate.2.1 125 = .ok (.getfield 9, 3) := by decide +kernel
theorem dX5_evaporate_128 : decode mX5_evaporate.2.1 128 = .ok (.iload_n 2, 1) := by decide +kernel
theorem dX5_evaporate_129 : decode mX5_evaporate.2.1 129 = .ok (.iaload, 1) := by decide +kernel
theorem dX5_evaporate_130 : decode mX5_evaporate.2.1 130 = .ok (.aload_n 0, 1) := by decide +kernel
theorem dX5_evaporate_131 : decode mX5_evaporate.2.1 131 = .ok (.getfield 63, 3) := by decide +kernel
theorem dX5_evaporate_134 : decode mX5_evaporate.2.1 134 = .ok (.aload_n 0, 1) := by decide +kernel
theorem dX5_evaporate_135 : decode mX5_evaporate.2.1 135 = .ok (.getfield 26, 3) := by decide +kernel
theorem dX5_evaporate_138 : decode mX5_evaporate.2.1 138 = .ok (.invokevirtual 156, 3) := by decide +kernel
theorem dX5_evaporate_141 : decode mX5_evaporate.2.1 141 = .ok (.invokestatic 150, 3) := by decide +kernel
theorem dX5_evaporate_144 : decode mX5_evaporate.2.1 144 = .ok (.invokestatic 162, 3) := by decide +kernel
theorem dX5_evaporate_147 : decode mX5_evaporate.2.1 147 = .ok (.istore_n 3, 1) := by decide +kernel
theorem dX5_evaporate_148 : decode mX5_evaporate.2.1 148 = .ok (.iload_n 3, 1) := by decide +kernel
theorem dX5_evaporate_149 : decode mX5_evaporate.2.1 149 = .ok (.iload_n 3, 1) := by decide +kernel
theorem dX5_evaporate_150 : decode mX5_evaporate.2.1 150 = .ok (.aload_n 1, 1) := by decide +kernel
theorem dX5_evaporate_151 : decode mX5_evaporate.2.1 151 = .ok (.getfield 100, 3) := by decide +kernel
theorem dX5_evaporate_154 : decode mX5_evaporate.2.1 154 = .ok (.bipush 6, 2) := by decide +kernel
theorem dX5_evaporate_156 : decode mX5_evaporate.2.1 156 = .ok (.iaload, 1) := by decide +kernel
theorem dX5_evaporate_157 : decode mX5_evaporate.2.1 157 = .ok (.imul, 1) := by decide +kernel
theorem dX5_evaporate_158 : decode mX5_evaporate.2.1 158 = .ok (.bipush 100, 2) := by decide +kernel
theorem dX5_evaporate_160 : decode mX5_evaporate.2.1 160 = .ok (.idiv, 1) := by decide +kernel
theorem dX5_evaporate_161 : decode mX5_evaporate.2.1 161 = .ok (.isub, 1) := by decide +kernel
theorem dX5_evaporate_162 : decode mX5_evaporate.2.1 162 = .ok (.istore_n 3, 1) := by decide +kernel
theorem dX5_evaporate_163 : decode mX5_evaporate.2.1 163 = .ok (.aload_n 0, 1) := by decide +kernel
theorem dX5_evaporate_164 : decode mX5_evaporate.2.1 164 = .ok (.getfield 9, 3) := by decide +kernel
theorem dX5_evaporate_167 : decode mX5_evaporate.2.1 167 = .ok (.iload_n 2, 1) := by decide +kernel
theorem dX5_evaporate_168 : decode mX5_evaporate.2.1 168 = .ok (.dup2, 1) := by decide +kernel
theorem dX5_evaporate_169 : decode mX5_evaporate.2.1 169 = .ok (.iaload, 1) := by decide +kernel
theorem dX5_evaporate_170 : decode mX5_evaporate.2.1 170 = .ok (.iload_n 3, 1) := by decide +kernel
theorem dX5_evaporate_171 : decode mX5_evaporate.2.1 171 = .ok (.isub, 1) := by decide +kernel
theorem dX5_evaporate_172 : decode mX5_evaporate.2.1 172 = .ok (.iastore, 1) := by decide +kernel
theorem dX5_evaporate_173 : decode mX5_evaporate.2.1 173 = .ok (.aload_n 0, 1) := by decide +kernel
theorem dX5_evaporate_174 : decode mX5_evaporate.2.1 174 = .ok (.dup, 1) := by decide +kernel
theorem dX5_evaporate_175 : decode mX5_evaporate.2.1 175 = .ok (.getfield 74, 3) := by decide +kernel
theorem dX5_evaporate_178 : decode mX5_evaporate.2.1 178 = .ok (.iload_n 3, 1) := by decide +kernel
theorem dX5_evaporate_179 : decode mX5_evaporate.2.1 179 = .ok (.iadd, 1) := by decide +kernel
theorem dX5_evaporate_180 : decode mX5_evaporate.2.1 180 = .ok (.putfield 74, 3) := by decide +kernel
theorem dX5_evaporate_183 : decode mX5_evaporate.2.1 183 = .ok (.iinc 2 1, 3) := by decide +kernel
theorem dX5_evaporate_186 : decode mX5_evaporate.2.1 186 = .ok (.goto (-127), 3) := by decide +kernel
theorem dX5_evaporate_189 : decode mX5_evaporate.2.1 189 = .ok (.return_, 1) := by decide +kernel
theorem dX5_letGo_0 : decode mX5_letGo.2.1 0 = .ok (.aload_n 1, 1) := by decide +kernel
theorem dX5_letGo_1 : decode mX5_letGo.2.1 1 = .ok (.getfield 100, 3) := by decide +kernel
theorem dX5_letGo_4 : decode mX5_letGo.2.1 4 = .ok (.bipush 10, 2) := by decide +kernel
theorem dX5_letGo_6 : decode mX5_letGo.2.1 6 = .ok (.iaload, 1) := by decide +kernel
theorem dX5_letGo_7 : decode mX5_letGo.2.1 7 = .ok (.istore_n 3, 1) := by decide +kernel
theorem dX5_letGo_8 : decode mX5_letGo.2.1 8 = .ok (.aload_n 0, 1) := by decide +kernel
theorem dX5_letGo_9 : decode mX5_letGo.2.1 9 = .ok (.aload_n 1, 1) := by decide +kernel
theorem dX5_letGo_10 : decode mX5_letGo.2.1 10 = .ok (.invokevirtual 165, 3) := by decide +kernel
theorem dX5_letGo_13 : decode mX5_letGo.2.1 13 = .ok (.aload_n 1, 1) := by decide +kernel
theorem dX5_letGo_14 : decode mX5_letGo.2.1 14 = .ok (.getfield 100, 3) := by decide +kernel
theorem dX5_letGo_17 : decode mX5_letGo.2.1 17 = .ok (.bipush 9, 2) := by decide +kernel
theorem dX5_letGo_19 : decode mX5_letGo.2.1 19 = .ok (.iaload, 1) := by decide +kernel
theorem dX5_letGo_20 : decode mX5_letGo.2.1 20 = .ok (.aload_n 1, 1) := by decide +kernel
theorem dX5_letGo_21 : decode mX5_letGo.2.1 21 = .ok (.invokevirtual 111, 3) := by decide +kernel
theorem dX5_letGo_24 : decode mX5_letGo.2.1 24 = .ok (.imul, 1) := by decide +kernel
theorem dX5_letGo_25 : decode mX5_letGo.2.1 25 = .ok (.if_icmp .ge 15, 3) := by decide +kernel
theorem dX5_letGo_28 : decode mX5_letGo.2.1 28 = .ok (.aload_n 1, 1) := by decide +kernel
theorem dX5_letGo_29 : decode mX5_letGo.2.1 29 = .ok (.invokevirtual 111, 3) := by decide +kernel
theorem dX5_letGo_32 : decode mX5_letGo.2.1 32 = .ok (.iconst 2, 1) := by decide +kernel
theorem dX5_letGo_33 : decode mX5_letGo.2.1 33 = .ok (.iload_n 3, 1) := by decide +kernel
theorem dX5_letGo_34 : decode mX5_letGo.2.1 34 = .ok (.imul, 1) := by decide +kernel
theorem dX5_letGo_35 : decode mX5_letGo.2.1 35 = .ok (.iconst 1, 1) := by decide +kernel
theorem dX5_letGo_36 : decode mX5_letGo.2.1 36 = .ok (.iadd, 1) := by decide +kernel
theorem dX5_letGo_37 : decode mX5_letGo.2.1 37 = .ok (.if_icmp .gt 4, 3) := by decide +kernel
theorem dX5_letGo_40 : decode mX5_letGo.2.1 40 = .ok (.return_, 1) := by decide +kernel
theorem dX5_letGo_41 : decode mX5_letGo.2.1 41 = .ok (.iconst 0, 1) := by decide +kernel
theorem dX5_letGo_42 : decode mX5_letGo.2.1 42 = .ok (.istore 4, 2) := by decide +kernel
theorem dX5_letGo_44 : decode mX5_letGo.2.1 44 = .ok (.iload 4, 2) := by decide +kernel
theorem dX5_letGo_46 : decode mX5_letGo.2.1 46 = .ok (.iload_n 3, 1) := by decide +kernel
theorem dX5_letGo_47 : decode mX5_letGo.2.1 47 = .ok (.if_icmp .ge 157, 3) := by decide +kernel
theorem dX5_letGo_50 : decode mX5_letGo.2.1 50 = .ok (.aload_n 0, 1) := by decide +kernel
theorem dX5_letGo_51 : decode mX5_letGo.2.1 51 = .ok (.aload_n 1, 1) := by decide +kernel
theorem dX5_letGo_52 : decode mX5_letGo.2.1 52 = .ok (.getfield 97, 3) := by decide +kernel
theorem dX5_letGo_55 : decode mX5_letGo.2.1 55 = .ok (.aload_n 0, 1) := by decide +kernel
theorem dX5_letGo_56 : decode mX5_letGo.2.1 56 = .ok (.getfield 31, 3) := by decide +kernel
theorem dX5_letGo_59 : decode mX5_letGo.2.1 59 = .ok (.iconst 0, 1) := by decide +kernel
theorem dX5_letGo_60 : decode mX5_letGo.2.1 60 = .ok (.aaload, 1) := by decide +kernel
theorem dX5_letGo_61 : decode mX5_letGo.2.1 61 = .ok (.aload_n 1, 1) := by decide +kernel
theorem dX5_letGo_62 : decode mX5_letGo.2.1 62 = .ok (.getfield 97, 3) := by decide +kernel
theorem dX5_letGo_65 : decode mX5_letGo.2.1 65 = .ok (.iaload, 1) := by decide +kernel
theorem dX5_letGo_66 : decode mX5_letGo.2.1 66 = .ok (.aload_n 0, 1) := by decide +kernel
theorem dX5_letGo_67 : decode mX5_letGo.2.1 67 = .ok (.getfield 31, 3) := by decide +kernel
theorem dX5_letGo_70 : decode mX5_letGo.2.1 70 = .ok (.iconst 1, 1) := by decide +kernel
theorem dX5_letGo_71 : decode mX5_letGo.2.1 71 = .ok (.aaload, 1) := by decide +kernel
theorem dX5_letGo_72 : decode mX5_letGo.2.1 72 = .ok (.aload_n 1, 1) := by decide +kernel
theorem dX5_letGo_73 : decode mX5_letGo.2.1 73 = .ok (.getfield 97, 3) := by decide +kernel
theorem dX5_letGo_76 : decode mX5_letGo.2.1 76 = .ok (.iaload, 1) := by decide +kernel
theorem dX5_letGo_77 : decode mX5_letGo.2.1 77 = .ok (.iload_n 2, 1) := by decide +kernel
theorem dX5_letGo_78 : decode mX5_letGo.2.1 78 = .ok (.invokevirtual 169, 3) := by decide +kernel
theorem dX5_letGo_81 : decode mX5_letGo.2.1 81 = .ok (.aload_n 0, 1) := by decide +kernel
theorem dX5_letGo_82 : decode mX5_letGo.2.1 82 = .ok (.aload_n 1, 1) := by decide +kernel
theorem dX5_letGo_83 : decode mX5_letGo.2.1 83 = .ok (.getfield 86, 3) := by decide +kernel
theorem dX5_letGo_86 : decode mX5_letGo.2.1 86 = .ok (.aload_n 0, 1) := by decide +kernel
theorem dX5_letGo_87 : decode mX5_letGo.2.1 87 = .ok (.getfield 31, 3) := by decide +kernel
theorem dX5_letGo_90 : decode mX5_letGo.2.1 90 = .ok (.iconst 0, 1) := by decide +kernel
theorem dX5_letGo_91 : decode mX5_letGo.2.1 91 = .ok (.aaload, 1) := by decide +kernel
theorem dX5_letGo_92 : decode mX5_letGo.2.1 92 = .ok (.aload_n 1, 1) := by decide +kernel
theorem dX5_letGo_93 : decode mX5_letGo.2.1 93 = .ok (.getfield 86, 3) := by decide +kernel
theorem dX5_letGo_96 : decode mX5_letGo.2.1 96 = .ok (.iaload, 1) := by decide +kernel
theorem dX5_letGo_97 : decode mX5_letGo.2.1 97 = .ok (.aload_n 0, 1) := by decide +kernel
theorem dX5_letGo_98 : decode mX5_letGo.2.1 98 = .ok (.getfield 31, 3) := by decide +kernel
theorem dX5_letGo_101 : decode mX5_letGo.2.1 101 = .ok (.iconst 1, 1) := by decide +kernel
theorem dX5_letGo_102 : decode mX5_letGo.2.1 102 = .ok (.aaload, 1) := by decide +kernel
theorem dX5_letGo_103 : decode mX5_letGo.2.1 103 = .ok (.aload_n 1, 1) := by decide +kernel
theorem dX5_letGo_104 : decode mX5_letGo.2.1 104 = .ok (.getfield 86, 3) := by decide +kernel
theorem dX5_letGo_107 : decode mX5_letGo.2.1 107 = .ok (.iaload, 1) := by decide +kernel
theorem dX5_letGo_108 : decode mX5_letGo.2.1 108 = .ok (.iload_n 2, 1) := by decide +kernel
theorem dX5_letGo_109 : decode mX5_letGo.2.1 109 = .ok (.invokevirtual 169, 3) := by decide +kernel
theorem dX5_letGo_112 : decode mX5_letGo.2.1 112 = .ok (.aload_n 0, 1) := by decide +kernel
theorem dX5_letGo_113 : decode mX5_letGo.2.1 113 = .ok (.getfield 9, 3) := by decide +kernel
theorem dX5_letGo_116 : decode mX5_letGo.2.1 116 = .ok (.aload_n 1, 1) := by decide +kernel
theorem dX5_letGo_117 : decode mX5_letGo.2.1 117 = .ok (.getfield 97, 3) := by decide +kernel
theorem dX5_letGo_120 : decode mX5_letGo.2.1 120 = .ok (.iconst 1, 1) := by decide +kernel
theorem dX5_letGo_121 : decode mX5_letGo.2.1 121 = .ok (.iadd, 1) := by decide +kernel
theorem dX5_letGo_122 : decode mX5_letGo.2.1 122 = .ok (.dup2, 1) := by decide +kernel
theorem dX5_letGo_123 : decode mX5_letGo.2.1 123 = .ok (.iaload, 1) := by decide +kernel
theorem dX5_letGo_124 : decode mX5_letGo.2.1 124 = .ok (.aload_n 0, 1) := by decide +kernel
theorem dX5_letGo_125 : decode mX5_letGo.2.1 125 = .ok (.getfield 9, 3) := by decide +kernel
theorem dX5_letGo_128 : decode mX5_letGo.2.1 128 = .ok (.aload_n 1, 1) := by decide +kernel
theorem dX5_letGo_129 : decode mX5_letGo.2.1 129 = .ok (.getfield 97, 3) := by decide +kernel
theorem dX5_letGo_132 : decode mX5_letGo.2.1 132 = .ok (.iaload, 1) := by decide +kernel
theorem dX5_letGo_133 : decode mX5_letGo.2.1 133 = .ok (.iadd, 1) := by decide +kernel
theorem dX5_letGo_134 : decode mX5_letGo.2.1 134 = .ok (.iastore, 1) := by decide +kernel
theorem dX5_letGo_135 : decode mX5_letGo.2.1 135 = .ok (.aload_n 0, 1) := by decide +kernel
theorem dX5_letGo_136 : decode mX5_letGo.2.1 136 = .ok (.getfield 9, 3) := by decide +kernel
theorem dX5_letGo_139 : decode mX5_letGo.2.1 139 = .ok (.aload_n 1, 1) := by decide +kernel
theorem dX5_letGo_140 : decode mX5_letGo.2.1 140 = .ok (.getfield 86, 3) := by decide +kernel
theorem dX5_letGo_143 : decode mX5_letGo.2.1 143 = .ok (.iconst 1, 1) := by decide +kernel
theorem dX5_letGo_144 : decode mX5_letGo.2.1 144 = .ok (.isub, 1) := by decide +kernel
theorem dX5_letGo_145 : decode mX5_letGo.2.1 145 = .ok (.dup2, 1) := by decide +kernel
theorem dX5_letGo_146 : decode mX5_letGo.2.1 146 = .ok (.iaload, 1) := by decide +kernel
theorem dX5_letGo_147 : decode mX5_letGo.2.1 147 = .ok (.aload_n 0, 1) := by decide +kernel
theorem dX5_letGo_148 : decode mX5_letGo.2.1 148 = .ok (.getfield 9, 3) := by decide +kernel
theorem dX5_letGo_151 : decode mX5_letGo.2.1 151 = .ok (.aload_n 1, 1) := by decide +kernel
theorem dX5_letGo_152 : decode mX5_letGo.2.1 152 = .ok (.getfield 86, 3) := by decide +kernel
theorem dX5_letGo_155 : decode mX5_letGo.2.1 155 = .ok (.iaload, 1) := by decide +kernel
theorem dX5_letGo_156 : decode mX5_letGo.2.1 156 = .ok (.iadd, 1) := by decide +kernel
theorem dX5_letGo_157 : decode mX5_letGo.2.1 157 = .ok (.iastore, 1) := by decide +kernel
theorem dX5_letGo_158 : decode mX5_letGo.2.1 158 = .ok (.aload_n 0, 1) := by decide +kernel
theorem dX5_letGo_159 : decode mX5_letGo.2.1 159 = .ok (.getfield 9, 3) := by decide +kernel
theorem dX5_letGo_162 : decode mX5_letGo.2.1 162 = .ok (.aload_n 1, 1) := by decide +kernel
theorem dX5_letGo_163 : decode mX5_letGo.2.1 163 = .ok (.getfield 97, 3) := by decide +kernel
theorem dX5_letGo_166 : decode mX5_letGo.2.1 166 = .ok (.iconst 0, 1) := by decide +kernel
theorem dX5_letGo_167 : decode mX5_letGo.2.1 167 = .ok (.iastore, 1) := by decide +kernel
theorem dX5_letGo_168 : decode mX5_letGo.2.1 168 = .ok (.aload_n 0, 1) := by decide +kernel
theorem dX5_letGo_169 : decode mX5_letGo.2.1 169 = .ok (.getfield 9, 3) := by decide +kernel
theorem dX5_letGo_172 : decode mX5_letGo.2.1 172 = .ok (.aload_n 1, 1) := by decide +kernel
theorem dX5_letGo_173 : decode mX5_letGo.2.1 173 = .ok (.getfield 86, 3) := by decide +kernel
theorem dX5_letGo_176 : decode mX5_letGo.2.1 176 = .ok (.iconst 0, 1) := by decide +kernel
theorem dX5_letGo_177 : decode mX5_letGo.2.1 177 = .ok (.iastore, 1) := by decide +kernel
theorem dX5_letGo_178 : decode mX5_letGo.2.1 178 = .ok (.aload_n 1, 1) := by decide +kernel
theorem dX5_letGo_179 : decode mX5_letGo.2.1 179 = .ok (.dup, 1) := by decide +kernel
theorem dX5_letGo_180 : decode mX5_letGo.2.1 180 = .ok (.getfield 97, 3) := by decide +kernel
theorem dX5_letGo_183 : decode mX5_letGo.2.1 183 = .ok (.iconst 1, 1) := by decide +kernel
theorem dX5_letGo_184 : decode mX5_letGo.2.1 184 = .ok (.iadd, 1) := by decide +kernel
theorem dX5_letGo_185 : decode mX5_letGo.2.1 185 = .ok (.putfield 97, 3) := by decide +kernel
theorem dX5_letGo_188 : decode mX5_letGo.2.1 188 = .ok (.aload_n 1, 1) := by decide +kernel
theorem dX5_letGo_189 : decode mX5_letGo.2.1 189 = .ok (.dup, 1) := by decide +kernel
theorem dX5_letGo_190 : decode mX5_letGo.2.1 190 = .ok (.getfield 86, 3) := by decide +kernel
theorem dX5_letGo_193 : decode mX5_letGo.2.1 193 = .ok (.iconst 1, 1) := by decide +kernel
theorem dX5_letGo_194 : decode mX5_letGo.2.1 194 = .ok (.isub, 1) := by decide +kernel
theorem dX5_letGo_195 : decode mX5_letGo.2.1 195 = .ok (.putfield 86, 3) := by decide +kernel
theorem dX5_letGo_198 : decode mX5_letGo.2.1 198 = .ok (.iinc 4 1, 3) := by decide +kernel
theorem dX5_letGo_201 : decode mX5_letGo.2.1 201 = .ok (.goto (-157), 3) := by decide +kernel
theorem dX5_letGo_204 : decode mX5_letGo.2.1 204 = .ok (.aload_n 1, 1) := by decide +kernel
theorem dX5_letGo_205 : decode mX5_letGo.2.1 205 = .ok (.dup, 1) := by decide +kernel
theorem dX5_letGo_206 : decode mX5_letGo.2.1 206 = .ok (.getfield 173, 3) := by decide +kernel
theorem dX5_letGo_209 : decode mX5_letGo.2.1 209 = .ok (.iconst 1, 1) := by decide +kernel
theorem dX5_letGo_210 : decode mX5_letGo.2.1 210 = .ok (.iadd, 1) := by decide +kernel
theorem dX5_letGo_211 : decode mX5_letGo.2.1 211 = .ok (.putfield 173, 3) := by decide +kernel
theorem dX5_letGo_214 : decode mX5_letGo.2.1 214 = .ok (.return_, 1) := by decide +kernel
theorem dX5_lieDown_0 : decode mX5_lieDown.2.1 0 = .ok (.aload_n 0, 1) := by decide +kernel
theorem dX5_lieDown_1 : decode mX5_lieDown.2.1 1 = .ok (.getfield 31, 3) := by decide +kernel
theorem dX5_lieDown_4 : decode mX5_lieDown.2.1 4 = .ok (.iconst 0, 1) := by decide +kernel
theorem dX5_lieDown_5 : decode mX5_lieDown.2.1 5 = .ok (.aaload, 1) := by decide +kernel
theorem dX5_lieDown_6 : decode mX5_lieDown.2.1 6 = .ok (.iload_n 1, 1) := by decide +kernel
theorem dX5_lieDown_7 : decode mX5_lieDown.2.1 7 = .ok (.dup2, 1) := by decide +kernel
theorem dX5_lieDown_8 : decode mX5_lieDown.2.1 8 = .ok (.iaload, 1) := by decide +kernel
theorem dX5_lieDown_9 : decode mX5_lieDown.2.1 9 = .ok (.iload_n 2, 1) := by decide +kernel
theorem dX5_lieDown_10 : decode mX5_lieDown.2.1 10 = .ok (.isub, 1) := by decide +kernel
theorem dX5_lieDown_11 : decode mX5_lieDown.2.1 11 = .ok (.iastore, 1) := by decide +kernel
theorem dX5_lieDown_12 : decode mX5_lieDown.2.1 12 = .ok (.aload_n 0, 1) := by decide +kernel
theorem dX5_lieDown_13 : decode mX5_lieDown.2.1 13 = .ok (.getfield 31, 3) := by decide +kernel
theorem dX5_lieDown_16 : decode mX5_lieDown.2.1 16 = .ok (.iconst 1, 1) := by decide +kernel
theorem dX5_lieDown_17 : decode mX5_lieDown.2.1 17 = .ok (.aaload, 1) := by decide +kernel
theorem dX5_lieDown_18 : decode mX5_lieDown.2.1 18 = .ok (.iload_n 1, 1) := by decide +kernel
theorem dX5_lieDown_19 : decode mX5_lieDown.2.1 19 = .ok (.dup2, 1) := by decide +kernel
theorem dX5_lieDown_20 : decode mX5_lieDown.2.1 20 = .ok (.iaload, 1) := by decide +kernel
theorem dX5_lieDown_21 : decode mX5_lieDown.2.1 21 = .ok (.iload_n 3, 1) := by decide +kernel
theorem dX5_lieDown_22 : decode mX5_lieDown.2.1 22 = .ok (.isub, 1) := by decide +kernel
theorem dX5_lieDown_23 : decode mX5_lieDown.2.1 23 = .ok (.iastore, 1) := by decide +kernel
theorem dX5_lieDown_24 : decode mX5_lieDown.2.1 24 = .ok (.aload_n 0, 1) := by decide +kernel
theorem dX5_lieDown_25 : decode mX5_lieDown.2.1 25 = .ok (.getfield 34, 3) := by decide +kernel
theorem dX5_lieDown_28 : decode mX5_lieDown.2.1 28 = .ok (.iconst 0, 1) := by decide +kernel
theorem dX5_lieDown_29 : decode mX5_lieDown.2.1 29 = .ok (.aaload, 1) := by decide +kernel
theorem dX5_lieDown_30 : decode mX5_lieDown.2.1 30 = .ok (.iload_n 1, 1) := by decide +kernel
theorem dX5_lieDown_31 : decode mX5_lieDown.2.1 31 = .ok (.dup2, 1) := by decide +kernel
theorem dX5_lieDown_32 : decode mX5_lieDown.2.1 32 = .ok (.iaload, 1) := by decide +kernel
theorem dX5_lieDown_33 : decode mX5_lieDown.2.1 33 = .ok (.iload_n 2, 1) := by decide +kernel
theorem dX5_lieDown_34 : decode mX5_lieDown.2.1 34 = .ok (.iadd, 1) := by decide +kernel
theorem dX5_lieDown_35 : decode mX5_lieDown.2.1 35 = .ok (.iastore, 1) := by decide +kernel
theorem dX5_lieDown_36 : decode mX5_lieDown.2.1 36 = .ok (.aload_n 0, 1) := by decide +kernel
theorem dX5_lieDown_37 : decode mX5_lieDown.2.1 37 = .ok (.getfield 34, 3) := by decide +kernel
theorem dX5_lieDown_40 : decode mX5_lieDown.2.1 40 = .ok (.iconst 1, 1) := by decide +kernel
theorem dX5_lieDown_41 : decode mX5_lieDown.2.1 41 = .ok (.aaload, 1) := by decide +kernel
theorem dX5_lieDown_42 : decode mX5_lieDown.2.1 42 = .ok (.iload_n 1, 1) := by decide +kernel
theorem dX5_lieDown_43 : decode mX5_lieDown.2.1 43 = .ok (.dup2, 1) := by decide +kernel
theorem dX5_lieDown_44 : decode mX5_lieDown.2.1 44 = .ok (.iaload, 1) := by decide +kernel
theorem dX5_lieDown_45 : decode mX5_lieDown.2.1 45 = .ok (.iload_n 3, 1) := by decide +kernel
theorem dX5_lieDown_46 : decode mX5_lieDown.2.1 46 = .ok (.iadd, 1) := by decide +kernel
theorem dX5_lieDown_47 : decode mX5_lieDown.2.1 47 = .ok (.iastore, 1) := by decide +kernel
theorem dX5_lieDown_48 : decode mX5_lieDown.2.1 48 = .ok (.iload_n 2, 1) := by decide +kernel
theorem dX5_lieDown_49 : decode mX5_lieDown.2.1 49 = .ok (.iload_n 3, 1) := by decide +kernel
theorem dX5_lieDown_50 : decode mX5_lieDown.2.1 50 = .ok (.iadd, 1) := by decide +kernel
theorem dX5_lieDown_51 : decode mX5_lieDown.2.1 51 = .ok (.istore 5, 2) := by decide +kernel
theorem dX5_lieDown_53 : decode mX5_lieDown.2.1 53 = .ok (.iload 5, 2) := by decide +kernel
theorem dX5_lieDown_55 : decode mX5_lieDown.2.1 55 = .ok (.iload 4, 2) := by decide +kernel
theorem dX5_lieDown_57 : decode mX5_lieDown.2.1 57 = .ok (.if_icmp .le 14, 3) := by decide +kernel
theorem dX5_lieDown_60 : decode mX5_lieDown.2.1 60 = .ok (.aload_n 0, 1) := by decide +kernel
theorem dX5_lieDown_61 : decode mX5_lieDown.2.1 61 = .ok (.getfield 37, 3) := by decide +kernel
theorem dX5_lieDown_64 : decode mX5_lieDown.2.1 64 = .ok (.iload_n 1, 1) := by decide +kernel
theorem dX5_lieDown_65 : decode mX5_lieDown.2.1 65 = .ok (.dup2, 1) := by decide +kernel
theorem dX5_lieDown_66 : decode mX5_lieDown.2.1 66 = .ok (.iaload, 1) := by decide +kernel
theorem dX5_lieDown_67 : decode mX5_lieDown.2.1 67 = .ok (.iload 5, 2) := by decide +kernel
theorem dX5_lieDown_69 : decode mX5_lieDown.2.1 69 = .ok (.iadd, 1) := by decide +kernel
theorem dX5_lieDown_70 : decode mX5_lieDown.2.1 70 = .ok (.iastore, 1) := by decide +kernel
theorem dX5_lieDown_71 : decode mX5_lieDown.2.1 71 = .ok (.aload_n 0, 1) := by decide +kernel
theorem dX5_lieDown_72 : decode mX5_lieDown.2.1 72 = .ok (.dup, 1) := by decide +kernel
theorem dX5_lieDown_73 : decode mX5_lieDown.2.1 73 = .ok (.getfield 122, 3) := by decide +kernel
theorem dX5_lieDown_76 : decode mX5_lieDown.2.1 76 = .ok (.iload 5, 2) := by decide +kernel
theorem dX5_lieDown_78 : decode mX5_lieDown.2.1 78 = .ok (.iadd, 1) := by decide +kernel
theorem dX5_lieDown_79 : decode mX5_lieDown.2.1 79 = .ok (.putfield 122, 3) := by decide +kernel
theorem dX5_lieDown_82 : decode mX5_lieDown.2.1 82 = .ok (.return_, 1) := by decide +kernel
theorem dX5_reshape_0 : decode mX5_reshape.2.1 0 = .ok (.aload_n 1, 1) := by decide +kernel
theorem dX5_reshape_1 : decode mX5_reshape.2.1 1 = .ok (.getfield 97, 3) := by decide +kernel
theorem dX5_reshape_4 : decode mX5_reshape.2.1 4 = .ok (.istore_n 2, 1) := by decide +kernel
theorem dX5_reshape_5 : decode mX5_reshape.2.1 5 = .ok (.iload_n 2, 1) := by decide +kernel
theorem dX5_reshape_6 : decode mX5_reshape.2.1 6 = .ok (.aload_n 1, 1) := by decide +kernel
theorem dX5_reshape_7 : decode mX5_reshape.2.1 7 = .ok (.getfield 86, 3) := by decide +kernel
theorem dX5_reshape_10 : decode mX5_reshape.2.1 10 = .ok (.if_icmp .gt 21, 3) := by decide +kernel
theorem dX5_reshape_13 : decode mX5_reshape.2.1 13 = .ok (.aload_n 0, 1) := by decide +kernel
theorem dX5_reshape_14 : decode mX5_reshape.2.1 14 = .ok (.getfield 15, 3) := by decide +kernel
theorem dX5_reshape_17 : decode mX5_reshape.2.1 17 = .ok (.iload_n 2, 1) := by decide +kernel
theorem dX5_reshape_18 : decode mX5_reshape.2.1 18 = .ok (.aload_n 0, 1) := by decide +kernel
theorem dX5_reshape_19 : decode mX5_reshape.2.1 19 = .ok (.getfield 9, 3) := by decide +kernel
theorem dX5_reshape_22 : decode mX5_reshape.2.1 22 = .ok (.iload_n 2, 1) := by decide +kernel
theorem dX5_reshape_23 : decode mX5_reshape.2.1 23 = .ok (.iaload, 1) := by decide +kernel
theorem dX5_reshape_24 : decode mX5_reshape.2.1 24 = .ok (.iastore, 1) := by decide +kernel
theorem dX5_reshape_25 : decode mX5_reshape.2.1 25 = .ok (.iinc 2 1, 3) := by decide +kernel
theorem dX5_reshape_28 : decode mX5_reshape.2.1 28 = .ok (.goto (-23), 3) := by decide +kernel
theorem dX5_reshape_31 : decode mX5_reshape.2.1 31 = .ok (.aload_n 0, 1) := by decide +kernel
theorem dX5_reshape_32 : decode mX5_reshape.2.1 32 = .ok (.aload_n 1, 1) := by decide +kernel
theorem dX5_reshape_33 : decode mX5_reshape.2.1 33 = .ok (.aload_n 0, 1) := by decide +kernel
theorem dX5_reshape_34 : decode mX5_reshape.2.1 34 = .ok (.aload_n 1, 1) := by decide +kernel
theorem dX5_reshape_35 : decode mX5_reshape.2.1 35 = .ok (.invokevirtual 165, 3) := by decide +kernel
theorem dX5_reshape_38 : decode mX5_reshape.2.1 38 = .ok (.invokevirtual 103, 3) := by decide +kernel
theorem dX5_reshape_41 : decode mX5_reshape.2.1 41 = .ok (.iconst 0, 1) := by decide +kernel
theorem dX5_reshape_42 : decode mX5_reshape.2.1 42 = .ok (.istore_n 2, 1) := by decide +kernel
theorem dX5_reshape_43 : decode mX5_reshape.2.1 43 = .ok (.aload_n 1, 1) := by decide +kernel
theorem dX5_reshape_44 : decode mX5_reshape.2.1 44 = .ok (.getfield 97, 3) := by decide +kernel
theorem dX5_reshape_47 : decode mX5_reshape.2.1 47 = .ok (.istore_n 3, 1) := by decide +kernel
theorem dX5_reshape_48 : decode mX5_reshape.2.1 48 = .ok (.iload_n 3, 1) := by decide +kernel
theorem dX5_reshape_49 : decode mX5_reshape.2.1 49 = .ok (.aload_n 1, 1) := by decide +kernel
theorem dX5_reshape_50 : decode mX5_reshape.2.1 50 = .ok (.getfield 86, 3) := by decide +kernel
theorem dX5_reshape_53 : decode mX5_reshape.2.1 53 = .ok (.if_icmp .ge 95, 3) := by decide +kernel
theorem dX5_reshape_56 : decode mX5_reshape.2.1 56 = .ok (.iload_n 2, 1) := by decide +kernel
theorem dX5_reshape_57 : decode mX5_reshape.2.1 57 = .ok (.aload_n 0, 1) := by decide +kernel
theorem dX5_reshape_58 : decode mX5_reshape.2.1 58 = .ok (.getfield 15, 3) := by decide +kernel
theorem dX5_reshape_61 : decode mX5_reshape.2.1 61 = .ok (.iload_n 3, 1) := by decide +kernel
theorem dX5_reshape_62 : decode mX5_reshape.2.1 62 = .ok (.iaload, 1) := by decide +kernel
theorem dX5_reshape_63 : decode mX5_reshape.2.1 63 = .ok (.aload_n 0, 1) := by decide +kernel
theorem dX5_reshape_64 : decode mX5_reshape.2.1 64 = .ok (.getfield 9, 3) := by decide +kernel
theorem dX5_reshape_67 : decode mX5_reshape.2.1 67 = .ok (.iload_n 3, 1) := by decide +kernel
theorem dX5_reshape_68 : decode mX5_reshape.2.1 68 = .ok (.iaload, 1) := by decide +kernel
theorem dX5_reshape_69 : decode mX5_reshape.2.1 69 = .ok (.isub, 1) := by decide +kernel
theorem dX5_reshape_70 : decode mX5_reshape.2.1 70 = .ok (.iadd, 1) := by decide +kernel
theorem dX5_reshape_71 : decode mX5_reshape.2.1 71 = .ok (.istore_n 2, 1) := by decide +kernel
theorem dX5_reshape_72 : decode mX5_reshape.2.1 72 = .ok (.aload_n 0, 1) := by decide +kernel
theorem dX5_reshape_73 : decode mX5_reshape.2.1 73 = .ok (.getfield 40, 3) := by decide +kernel
theorem dX5_reshape_76 : decode mX5_reshape.2.1 76 = .ok (.iload_n 3, 1) := by decide +kernel
theorem dX5_reshape_77 : decode mX5_reshape.2.1 77 = .ok (.iload_n 2, 1) := by decide +kernel
theorem dX5_reshape_78 : decode mX5_reshape.2.1 78 = .ok (.iastore, 1) := by decide +kernel
theorem dX5_reshape_79 : decode mX5_reshape.2.1 79 = .ok (.iload_n 2, 1) := by decide +kernel
theorem dX5_reshape_80 : decode mX5_reshape.2.1 80 = .ok (.ifCond .le 31, 3) := by decide +kernel
theorem dX5_reshape_83 : decode mX5_reshape.2.1 83 = .ok (.iconst 2, 1) := by decide +kernel
theorem dX5_reshape_84 : decode mX5_reshape.2.1 84 = .ok (.iload_n 3, 1) := by decide +kernel
theorem dX5_reshape_85 : decode mX5_reshape.2.1 85 = .ok (.imul, 1) := by decide +kernel
theorem dX5_reshape_86 : decode mX5_reshape.2.1 86 = .ok (.aload_n 1, 1) := by decide +kernel
theorem dX5_reshape_87 : decode mX5_reshape.2.1 87 = .ok (.getfield 97, 3) := by decide +kernel
theorem dX5_reshape_90 : decode mX5_reshape.2.1 90 = .ok (.aload_n 1, 1) := by decide +kernel
theorem dX5_reshape_91 : decode mX5_reshape.2.1 91 = .ok (.getfield 86, 3) := by decide +kernel
theorem dX5_reshape_94 : decode mX5_reshape.2.1 94 = .ok (.iadd, 1) := by decide +kernel
theorem dX5_reshape_95 : decode mX5_reshape.2.1 95 = .ok (.if_icmp .lt 16, 3) := by decide +kernel
theorem dX5_reshape_98 : decode mX5_reshape.2.1 98 = .ok (.aload_n 0, 1) := by decide +kernel
theorem dX5_reshape_99 : decode mX5_reshape.2.1 99 = .ok (.dup, 1) := by decide +kernel
theorem dX5_reshape_100 : decode mX5_reshape.2.1 100 = .ok (.getfield 77, 3) := by decide +kernel
theorem dX5_reshape_103 : decode mX5_reshape.2.1 103 = .ok (.iload_n 2, 1) := by decide +kernel
theorem dX5_reshape_104 : decode mX5_reshape.2.1 104 = .ok (.iadd, 1) := by decide +kernel
theorem dX5_reshape_105 : decode mX5_reshape.2.1 105 = .ok (.putfield 77, 3) := by decide +kernel
theorem dX5_reshape_108 : decode mX5_reshape.2.1 108 = .ok (.goto 34, 3) := by decide +kernel
theorem dX5_reshape_111 : decode mX5_reshape.2.1 111 = .ok (.iload_n 2, 1) := by decide +kernel
theorem dX5_reshape_112 : decode mX5_reshape.2.1 112 = .ok (.ifCond .ge 30, 3) := by decide +kernel
theorem dX5_reshape_115 : decode mX5_reshape.2.1 115 = .ok (.iconst 2, 1) := by decide +kernel
theorem dX5_reshape_116 : decode mX5_reshape.2.1 116 = .ok (.iload_n 3, 1) := by decide +kernel
theorem dX5_reshape_117 : decode mX5_reshape.2.1 117 = .ok (.iconst 1, 1) := by decide +kernel
theorem dX5_reshape_118 : decode mX5_reshape.2.1 118 = .ok (.iadd, 1) := by decide +kernel
theorem dX5_reshape_119 : decode mX5_reshape.2.1 119 = .ok (.imul, 1) := by decide +kernel
theorem dX5_reshape_120 : decode mX5_reshape.2.1 120 = .ok (.aload_n 1, 1) := by decide +kernel
theorem dX5_reshape_121 : decode mX5_reshape.2.1 121 = .ok (.getfield 97, 3) := by decide +kernel
theorem dX5_reshape_124 : decode mX5_reshape.2.1 124 = .ok (.aload_n 1, 1) := by decide +kernel
theorem dX5_reshape_125 : decode mX5_reshape.2.1 125 = .ok (.getfield 86, 3) := by decide +kernel
theorem dX5_reshape_128 : decode mX5_reshape.2.1 128 = .ok (.iadd, 1) := by decide +kernel
theorem dX5_reshape_129 : decode mX5_reshape.2.1 129 = .ok (.if_icmp .gt 13, 3) := by decide +kernel
theorem dX5_reshape_132 : decode mX5_reshape.2.1 132 = .ok (.aload_n 0, 1) := by decide +kernel
theorem dX5_reshape_133 : decode mX5_reshape.2.1 133 = .ok (.dup, 1) := by decide +kernel
theorem dX5_reshape_134 : decode mX5_reshape.2.1 134 = .ok (.getfield 77, 3) := by decide +kernel
theorem dX5_reshape_137 : decode mX5_reshape.2.1 137 = .ok (.iload_n 2, 1) := by decide +kernel
theorem dX5_reshape_138 : decode mX5_reshape.2.1 138 = .ok (.isub, 1) := by decide +kernel
theorem dX5_reshape_139 : decode mX5_reshape.2.1 139 = .ok (.putfield 77, 3) := by decide +kernel
theorem dX5_reshape_142 : decode mX5_reshape.2.1 142 = .ok (.iinc 3 1, 3) := by decide +kernel
theorem dX5_reshape_145 : decode mX5_reshape.2.1 145 = .ok (.goto (-97), 3) := by decide +kernel
theorem dX5_reshape_148 : decode mX5_reshape.2.1 148 = .ok (.return_, 1) := by decide +kernel
theorem dX5_carryAll_0 : decode mX5_carryAll.2.1 0 = .ok (.bipush 100, 2) := by decide +kernel
theorem dX5_carryAll_2 : decode mX5_carryAll.2.1 2 = .ok (.aload_n 1, 1) := by decide +kernel
theorem dX5_carryAll_3 : decode mX5_carryAll.2.1 3 = .ok (.getfield 100, 3) := by decide +kernel
theorem dX5_carryAll_6 : decode mX5_carryAll.2.1 6 = .ok (.bipush 7, 2) := by decide +kernel
theorem dX5_carryAll_8 : decode mX5_carryAll.2.1 8 = .ok (.iaload, 1) := by decide +kernel
theorem dX5_carryAll_9 : decode mX5_carryAll.2.1 9 = .ok (.isub, 1) := by decide +kernel
theorem dX5_carryAll_10 : decode mX5_carryAll.2.1 10 = .ok (.istore_n 2, 1) := by decide +kernel
theorem dX5_carryAll_11 : decode mX5_carryAll.2.1 11 = .ok (.aload_n 1, 1) := by decide +kernel
theorem dX5_carryAll_12 : decode mX5_carryAll.2.1 12 = .ok (.getfield 97, 3) := by decide +kernel
theorem dX5_carryAll_15 : decode mX5_carryAll.2.1 15 = .ok (.istore_n 3, 1) := by decide +kernel
theorem dX5_carryAll_16 : decode mX5_carryAll.2.1 16 = .ok (.iload_n 3, 1) := by decide +kernel
theorem dX5_carryAll_17 : decode mX5_carryAll.2.1 17 = .ok (.aload_n 1, 1) := by decide +kernel
theorem dX5_carryAll_18 : decode mX5_carryAll.2.1 18 = .ok (.getfield 86, 3) := by decide +kernel
theorem dX5_carryAll_21 : decode mX5_carryAll.2.1 21 = .ok (.if_icmp .ge 61, 3) := by decide +kernel
theorem dX5_carryAll_24 : decode mX5_carryAll.2.1 24 = .ok (.aload_n 0, 1) := by decide +kernel
theorem dX5_carryAll_25 : decode mX5_carryAll.2.1 25 = .ok (.getfield 40, 3) := by decide +kernel
theorem dX5_carryAll_28 : decode mX5_carryAll.2.1 28 = .ok (.iload_n 3, 1) := by decide +kernel
theorem dX5_carryAll_29 : decode mX5_carryAll.2.1 29 = .ok (.iaload, 1) := by decide +kernel
theorem dX5_carryAll_30 : decode mX5_carryAll.2.1 30 = .ok (.ifCond .le 21, 3) := by decide +kernel
theorem dX5_carryAll_33 : decode mX5_carryAll.2.1 33 = .ok (.aload_n 0, 1) := by decide +kernel
theorem dX5_carryAll_34 : decode mX5_carryAll.2.1 34 = .ok (.iload_n 3, 1) := by decide +kernel
theorem dX5_carryAll_35 : decode mX5_carryAll.2.1 35 = .ok (.iload_n 3, 1) := by decide +kernel
theorem dX5_carryAll_36 : decode mX5_carryAll.2.1 36 = .ok (.iconst 1, 1) := by decide +kernel
theorem dX5_carryAll_37 : decode mX5_carryAll.2.1 37 = .ok (.iadd, 1) := by decide +kernel
theorem dX5_carryAll_38 : decode mX5_carryAll.2.1 38 = .ok (.aload_n 0, 1) := by decide +kernel
theorem dX5_carryAll_39 : decode mX5_carryAll.2.1 39 = .ok (.getfield 40, 3) := by decide +kernel
theorem dX5_carryAll_42 : decode mX5_carryAll.2.1 42 = .ok (.iload_n 3, 1) := by decide +kernel
theorem dX5_carryAll_43 : decode mX5_carryAll.2.1 43 = .ok (.iaload, 1) := by decide +kernel
theorem dX5_carryAll_44 : decode mX5_carryAll.2.1 44 = .ok (.iload_n 2, 1) := by decide +kernel
theorem dX5_carryAll_45 : decode mX5_carryAll.2.1 45 = .ok (.invokevirtual 176, 3) := by decide +kernel
theorem dX5_carryAll_48 : decode mX5_carryAll.2.1 48 = .ok (.goto 28, 3) := by decide +kernel
theorem dX5_carryAll_51 : decode mX5_carryAll.2.1 51 = .ok (.aload_n 0, 1) := by decide +kernel
theorem dX5_carryAll_52 : decode mX5_carryAll.2.1 52 = .ok (.getfield 40, 3) := by decide +kernel
theorem dX5_carryAll_55 : decode mX5_carryAll.2.1 55 = .ok (.iload_n 3, 1) := by decide +kernel
theorem dX5_carryAll_56 : decode mX5_carryAll.2.1 56 = .ok (.iaload, 1) := by decide +kernel
theorem dX5_carryAll_57 : decode mX5_carryAll.2.1 57 = .ok (.ifCond .ge 19, 3) := by decide +kernel
theorem dX5_carryAll_60 : decode mX5_carryAll.2.1 60 = .ok (.aload_n 0, 1) := by decide +kernel
theorem dX5_carryAll_61 : decode mX5_carryAll.2.1 61 = .ok (.iload_n 3, 1) := by decide +kernel
theorem dX5_carryAll_62 : decode mX5_carryAll.2.1 62 = .ok (.iconst 1, 1) := by decide +kernel
theorem dX5_carryAll_63 : decode mX5_carryAll.2.1 63 = .ok (.iadd, 1) := by decide +kernel
theorem dX5_carryAll_64 : decode mX5_carryAll.2.1 64 = .ok (.iload_n 3, 1) := by decide +kernel
theorem dX5_carryAll_65 : decode mX5_carryAll.2.1 65 = .ok (.aload_n 0, 1) := by decide +kernel
theorem dX5_carryAll_66 : decode mX5_carryAll.2.1 66 = .ok (.getfield 40, 3) := by decide +kernel
theorem dX5_carryAll_69 : decode mX5_carryAll.2.1 69 = .ok (.iload_n 3, 1) := by decide +kernel
theorem dX5_carryAll_70 : decode mX5_carryAll.2.1 70 = .ok (.iaload, 1) := by decide +kernel
theorem dX5_carryAll_71 : decode mX5_carryAll.2.1 71 = .ok (.ineg, 1) := by decide +kernel
theorem dX5_carryAll_72 : decode mX5_carryAll.2.1 72 = .ok (.iload_n 2, 1) := by decide +kernel
theorem dX5_carryAll_73 : decode mX5_carryAll.2.1 73 = .ok (.invokevirtual 176, 3) := by decide +kernel
theorem dX5_carryAll_76 : decode mX5_carryAll.2.1 76 = .ok (.iinc 3 1, 3) := by decide +kernel
theorem dX5_carryAll_79 : decode mX5_carryAll.2.1 79 = .ok (.goto (-63), 3) := by decide +kernel
theorem dX5_carryAll_82 : decode mX5_carryAll.2.1 82 = .ok (.return_, 1) := by decide +kernel
theorem dX5_carry_0 : decode mX5_carry.2.1 0 = .ok (.aload_n 0, 1) := by decide +kernel
theorem dX5_carry_1 : decode mX5_carry.2.1 1 = .ok (.getfield 31, 3) := by decide +kernel
theorem dX5_carry_4 : decode mX5_carry.2.1 4 = .ok (.iconst 1, 1) := by decide +kernel
theorem dX5_carry_5 : decode mX5_carry.2.1 5 = .ok (.aaload, 1) := by decide +kernel
theorem dX5_carry_6 : decode mX5_carry.2.1 6 = .ok (.iload_n 1, 1) := by decide +kernel
theorem dX5_carry_7 : decode mX5_carry.2.1 7 = .ok (.iaload, 1) := by decide +kernel
theorem dX5_carry_8 : decode mX5_carry.2.1 8 = .ok (.istore 5, 2) := by decide +kernel
theorem dX5_carry_10 : decode mX5_carry.2.1 10 = .ok (.iload 5, 2) := by decide +kernel
theorem dX5_carry_12 : decode mX5_carry.2.1 12 = .ok (.ifCond .le 26, 3) := by decide +kernel
theorem dX5_carry_15 : decode mX5_carry.2.1 15 = .ok (.bipush 10, 2) := by decide +kernel
theorem dX5_carry_17 : decode mX5_carry.2.1 17 = .ok (.iload 5, 2) := by decide +kernel
theorem dX5_carry_19 : decode mX5_carry.2.1 19 = .ok (.imul, 1) := by decide +kernel
theorem dX5_carry_20 : decode mX5_carry.2.1 20 = .ok (.aload_n 0, 1) := by decide +kernel
theorem dX5_carry_21 : decode mX5_carry.2.1 21 = .ok (.getfield 31, 3) := by decide +kernel
theorem dX5_carry_24 : decode mX5_carry.2.1 24 = .ok (.iconst 0, 1) := by decide +kernel
theorem dX5_carry_25 : decode mX5_carry.2.1 25 = .ok (.aaload, 1) := by decide +kernel
theorem dX5_carry_26 : decode mX5_carry.2.1 26 = .ok (.iload_n 1, 1) := by decide +kernel
theorem dX5_carry_27 : decode mX5_carry.2.1 27 = .ok (.iaload, 1) := by decide +kernel
theorem dX5_carry_28 : decode mX5_carry.2.1 28 = .ok (.iload 5, 2) := by decide +kernel
theorem dX5_carry_30 : decode mX5_carry.2.1 30 = .ok (.iadd, 1) := by decide +kernel
theorem dX5_carry_31 : decode mX5_carry.2.1 31 = .ok (.if_icmp .lt 7, 3) := by decide +kernel
theorem dX5_carry_34 : decode mX5_carry.2.1 34 = .ok (.iconst 1, 1) := by decide +kernel
theorem dX5_carry_35 : decode mX5_carry.2.1 35 = .ok (.goto 4, 3) := by decide +kernel
theorem dX5_carry_38 : decode mX5_carry.2.1 38 = .ok (.iconst 0, 1) := by decide +kernel
theorem dX5_carry_39 : decode mX5_carry.2.1 39 = .ok (.istore 6, 2) := by decide +kernel
theorem dX5_carry_41 : decode mX5_carry.2.1 41 = .ok (.aload_n 0, 1) := by decide +kernel
theorem dX5_carry_42 : decode mX5_carry.2.1 42 = .ok (.getfield 15, 3) := by decide +kernel
theorem dX5_carry_45 : decode mX5_carry.2.1 45 = .ok (.iload_n 1, 1) := by decide +kernel
theorem dX5_carry_46 : decode mX5_carry.2.1 46 = .ok (.iaload, 1) := by decide +kernel
theorem dX5_carry_47 : decode mX5_carry.2.1 47 = .ok (.iconst 1, 1) := by decide +kernel
theorem dX5_carry_48 : decode mX5_carry.2.1 48 = .ok (.if_icmp .lt 8, 3) := by decide +kernel
theorem dX5_carry_51 : decode mX5_carry.2.1 51 = .ok (.iload 6, 2) := by decide +kernel
theorem dX5_carry_53 : decode mX5_carry.2.1 53 = .ok (.ifCond .eq 4, 3) := by decide +kernel
theorem dX5_carry_56 : decode mX5_carry.2.1 56 = .ok (.return_, 1) := by decide +kernel
theorem dX5_carry_57 : decode mX5_carry.2.1 57 = .ok (.iconst 0, 1) := by decide +kernel
theorem dX5_carry_58 : decode mX5_carry.2.1 58 = .ok (.istore 7, 2) := by decide +kernel
theorem dX5_carry_60 : decode mX5_carry.2.1 60 = .ok (.iload 7, 2) := by decide +kernel
theorem dX5_carry_62 : decode mX5_carry.2.1 62 = .ok (.iconst 2, 1) := by decide +kernel
theorem dX5_carry_63 : decode mX5_carry.2.1 63 = .ok (.if_icmp .ge 72, 3) := by decide +kernel
theorem dX5_carry_66 : decode mX5_carry.2.1 66 = .ok (.aload_n 0, 1) := by decide +kernel
theorem dX5_carry_67 : decode mX5_carry.2.1 67 = .ok (.getfield 31, 3) := by decide +kernel
theorem dX5_carry_70 : decode mX5_carry.2.1 70 = .ok (.iload 7, 2) := by decide +kernel
theorem dX5_carry_72 : decode mX5_carry.2.1 72 = .ok (.aaload, 1) := by decide +kernel
theorem dX5_carry_73 : decode mX5_carry.2.1 73 = .ok (.iload_n 1, 1) := by decide +kernel
theorem dX5_carry_74 : decode mX5_carry.2.1 74 = .ok (.iaload, 1) := by decide +kernel
theorem dX5_carry_75 : decode mX5_carry.2.1 75 = .ok (.istore 8, 2) := by decide +kernel
theorem dX5_carry_77 : decode mX5_carry.2.1 77 = .ok (.iload 8, 2) := by decide +kernel
theorem dX5_carry_79 : decode mX5_carry.2.1 79 = .ok (.iload 8, 2) := by decide +kernel
theorem dX5_carry_81 : decode mX5_carry.2.1 81 = .ok (.iload_n 3, 1) := by decide +kernel
theorem dX5_carry_82 : decode mX5_carry.2.1 82 = .ok (.imul, 1) := by decide +kernel
theorem dX5_carry_83 : decode mX5_carry.2.1 83 = .ok (.aload_n 0, 1) := by decide +kernel
theorem dX5_carry_84 : decode mX5_carry.2.1 84 = .ok (.getfield 15, 3) := by decide +kernel
theorem dX5_carry_87 : decode mX5_carry.2.1 87 = .ok (.iload_n 1, 1) := by decide +kernel
theorem dX5_carry_88 : decode mX5_carry.2.1 88 = .ok (.iaload, 1) := by decide +kernel
theorem dX5_carry_89 : decode mX5_carry.2.1 89 = .ok (.idiv, 1) := by decide +kernel
theorem dX5_carry_90 : decode mX5_carry.2.1 90 = .ok (.invokestatic 150, 3) := by decide +kernel
theorem dX5_carry_93 : decode mX5_carry.2.1 93 = .ok (.iload 4, 2) := by decide +kernel
theorem dX5_carry_95 : decode mX5_carry.2.1 95 = .ok (.imul, 1) := by decide +kernel
theorem dX5_carry_96 : decode mX5_carry.2.1 96 = .ok (.bipush 100, 2) := by decide +kernel
theorem dX5_carry_98 : decode mX5_carry.2.1 98 = .ok (.idiv, 1) := by decide +kernel
theorem dX5_carry_99 : decode mX5_carry.2.1 99 = .ok (.istore 9, 2) := by decide +kernel
theorem dX5_carry_101 : decode mX5_carry.2.1 101 = .ok (.aload_n 0, 1) := by decide +kernel
theorem dX5_carry_102 : decode mX5_carry.2.1 102 = .ok (.getfield 31, 3) := by decide +kernel
theorem dX5_carry_105 : decode mX5_carry.2.1 105 = .ok (.iload 7, 2) := by decide +kernel
theorem dX5_carry_107 : decode mX5_carry.2.1 107 = .ok (.aaload, 1) := by decide +kernel
theorem dX5_carry_108 : decode mX5_carry.2.1 108 = .ok (.iload_n 1, 1) := by decide +kernel
theorem dX5_carry_109 : decode mX5_carry.2.1 109 = .ok (.dup2, 1) := by decide +kernel
theorem dX5_carry_110 : decode mX5_carry.2.1 110 = .ok (.iaload, 1) := by decide +kernel
theorem dX5_carry_111 : decode mX5_carry.2.1 111 = .ok (.iload 9, 2) := by decide +kernel
theorem dX5_carry_113 : decode mX5_carry.2.1 113 = .ok (.isub, 1) := by decide +kernel
theorem dX5_carry_114 : decode mX5_carry.2.1 114 = .ok (.iastore, 1) := by decide +kernel
theorem dX5_carry_115 : decode mX5_carry.2.1 115 = .ok (.aload_n 0, 1) := by decide +kernel
theorem dX5_carry_116 : decode mX5_carry.2.1 116 = .ok (.getfield 31, 3) := by decide +kernel
theorem dX5_carry_119 : decode mX5_carry.2.1 119 = .ok (.iload 7, 2) := by decide +kernel
theorem dX5_carry_121 : decode mX5_carry.2.1 121 = .ok (.aaload, 1) := by decide +kernel
theorem dX5_carry_122 : decode mX5_carry.2.1 122 = .ok (.iload_n 2, 1) := by decide +kernel
theorem dX5_carry_123 : decode mX5_carry.2.1 123 = .ok (.dup2, 1) := by decide +kernel
theorem dX5_carry_124 : decode mX5_carry.2.1 124 = .ok (.iaload, 1) := by decide +kernel
theorem dX5_carry_125 : decode mX5_carry.2.1 125 = .ok (.iload 9, 2) := by decide +kernel
theorem dX5_carry_127 : decode mX5_carry.2.1 127 = .ok (.iadd, 1) := by decide +kernel
theorem dX5_carry_128 : decode mX5_carry.2.1 128 = .ok (.iastore, 1) := by decide +kernel
theorem dX5_carry_129 : decode mX5_carry.2.1 129 = .ok (.iinc 7 1, 3) := by decide +kernel
theorem dX5_carry_132 : decode mX5_carry.2.1 132 = .ok (.goto (-72), 3) := by decide +kernel
theorem dX5_carry_135 : decode mX5_carry.2.1 135 = .ok (.return_, 1) := by decide +kernel
theorem dX5_stir_0 : decode mX5_stir.2.1 0 = .ok (.aload_n 1, 1) := by decide +kernel
theorem dX5_stir_1 : decode mX5_stir.2.1 1 = .ok (.getfield 100, 3) := by decide +kernel
theorem dX5_stir_4 : decode mX5_stir.2.1 4 = .ok (.iconst 5, 1) := by decide +kernel
theorem dX5_stir_5 : decode mX5_stir.2.1 5 = .ok (.iaload, 1) := by decide +kernel
theorem dX5_stir_6 : decode mX5_stir.2.1 6 = .ok (.bipush 50, 2) := by decide +kernel
theorem dX5_stir_8 : decode mX5_stir.2.1 8 = .ok (.if_icmp .ge 4, 3) := by decide +kernel
theorem dX5_stir_11 : decode mX5_stir.2.1 11 = .ok (.return_, 1) := by decide +kernel
theorem dX5_stir_12 : decode mX5_stir.2.1 12 = .ok (.aload_n 1, 1) := by decide +kernel
theorem dX5_stir_13 : decode mX5_stir.2.1 13 = .ok (.getfield 97, 3) := by decide +kernel
theorem dX5_stir_16 : decode mX5_stir.2.1 16 = .ok (.istore_n 2, 1) := by decide +kernel
theorem dX5_stir_17 : decode mX5_stir.2.1 17 = .ok (.iload_n 2, 1) := by decide +kernel
theorem dX5_stir_18 : decode mX5_stir.2.1 18 = .ok (.aload_n 1, 1) := by decide +kernel
theorem dX5_stir_19 : decode mX5_stir.2.1 19 = .ok (.getfield 86, 3) := by decide +kernel
theorem dX5_stir_22 : decode mX5_stir.2.1 22 = .ok (.if_icmp .ge 73, 3) := by decide +kernel
theorem dX5_stir_25 : decode mX5_stir.2.1 25 = .ok (.iconst 0, 1) := by decide +kernel
theorem dX5_stir_26 : decode mX5_stir.2.1 26 = .ok (.istore_n 3, 1) := by decide +kernel
theorem dX5_stir_27 : decode mX5_stir.2.1 27 = .ok (.iload_n 3, 1) := by decide +kernel
theorem dX5_stir_28 : decode mX5_stir.2.1 28 = .ok (.iconst 2, 1) := by decide +kernel
theorem dX5_stir_29 : decode mX5_stir.2.1 29 = .ok (.if_icmp .ge 60, 3) := by decide +kernel
theorem dX5_stir_32 : decode mX5_stir.2.1 32 = .ok (.aload_n 0, 1) := by decide +kernel
theorem dX5_stir_33 : decode mX5_stir.2.1 33 = .ok (.getfield 31, 3) := by decide +kernel
theorem dX5_stir_36 : decode mX5_stir.2.1 36 = .ok (.iload_n 3, 1) := by decide +kernel
theorem dX5_stir_37 : decode mX5_stir.2.1 37 = .ok (.aaload, 1) := by decide +kernel
theorem dX5_stir_38 : decode mX5_stir.2.1 38 = .ok (.iload_n 2, 1) := by decide +kernel
theorem dX5_stir_39 : decode mX5_stir.2.1 39 = .ok (.iaload, 1) := by decide +kernel
theorem dX5_stir_40 : decode mX5_stir.2.1 40 = .ok (.aload_n 0, 1) := by decide +kernel
theorem dX5_stir_41 : decode mX5_stir.2.1 41 = .ok (.getfield 31, 3) := by decide +kernel
theorem dX5_stir_44 : decode mX5_stir.2.1 44 = .ok (.iload_n 3, 1) := by decide +kernel
theorem dX5_stir_45 : decode mX5_stir.2.1 45 = .ok (.aaload, 1) := by decide +kernel
theorem dX5_stir_46 : decode mX5_stir.2.1 46 = .ok (.iload_n 2, 1) := by decide +kernel
theorem dX5_stir_47 : decode mX5_stir.2.1 47 = .ok (.iconst 1, 1) := by decide +kernel
theorem dX5_stir_48 : decode mX5_stir.2.1 48 = .ok (.iadd, 1) := by decide +kernel
theorem dX5_stir_49 : decode mX5_stir.2.1 49 = .ok (.iaload, 1) := by decide +kernel
theorem dX5_stir_50 : decode mX5_stir.2.1 50 = .ok (.isub, 1) := by decide +kernel
theorem dX5_stir_51 : decode mX5_stir.2.1 51 = .ok (.iconst 2, 1) := by decide +kernel
theorem dX5_stir_52 : decode mX5_stir.2.1 52 = .ok (.idiv, 1) := by decide +kernel
theorem dX5_stir_53 : decode mX5_stir.2.1 53 = .ok (.istore 4, 2) := by decide +kernel
theorem dX5_stir_55 : decode mX5_stir.2.1 55 = .ok (.aload_n 0, 1) := by decide +kernel
theorem dX5_stir_56 : decode mX5_stir.2.1 56 = .ok (.getfield 31, 3) := by decide +kernel
theorem dX5_stir_59 : decode mX5_stir.2.1 59 = .ok (.iload_n 3, 1) := by decide +kernel
theorem dX5_stir_60 : decode mX5_stir.2.1 60 = .ok (.aaload, 1) := by decide +kernel
theorem dX5_stir_61 : decode mX5_stir.2.1 61 = .ok (.iload_n 2, 1) := by decide +kernel
theorem dX5_stir_62 : decode mX5_stir.2.1 62 = .ok (.dup2, 1) := by decide +kernel
theorem dX5_stir_63 : decode mX5_stir.2.1 63 = .ok (.iaload, 1) := by decide +kernel
theorem dX5_stir_64 : decode mX5_stir.2.1 64 = .ok (.iload 4, 2) := by decide +kernel
theorem dX5_stir_66 : decode mX5_stir.2.1 66 = .ok (.isub, 1) := by decide +kernel
theorem dX5_stir_67 : decode mX5_stir.2.1 67 = .ok (.iastore, 1) := by decide +kernel
theorem dX5_stir_68 : decode mX5_stir.2.1 68 = .ok (.aload_n 0, 1) := by decide +kernel
theorem dX5_stir_69 : decode mX5_stir.2.1 69 = .ok (.getfield 31, 3) := by decide +kernel
theorem dX5_stir_72 : decode mX5_stir.2.1 72 = .ok (.iload_n 3, 1) := by decide +kernel
theorem dX5_stir_73 : decode mX5_stir.2.1 73 = .ok (.aaload, 1) := by decide +kernel
theorem dX5_stir_74 : decode mX5_stir.2.1 74 = .ok (.iload_n 2, 1) := by decide +kernel
theorem dX5_stir_75 : decode mX5_stir.2.1 75 = .ok (.iconst 1, 1) := by decide +kernel
theorem dX5_stir_76 : decode mX5_stir.2.1 76 = .ok (.iadd, 1) := by decide +kernel
theorem dX5_stir_77 : decode mX5_stir.2.1 77 = .ok (.dup2, 1) := by decide +kernel
theorem dX5_stir_78 : decode mX5_stir.2.1 78 = .ok (.iaload, 1) := by decide +kernel
theorem dX5_stir_79 : decode mX5_stir.2.1 79 = .ok (.iload 4, 2) := by decide +kernel
theorem dX5_stir_81 : decode mX5_stir.2.1 81 = .ok (.iadd, 1) := by decide +kernel
theorem dX5_stir_82 : decode mX5_stir.2.1 82 = .ok (.iastore, 1) := by decide +kernel
theorem dX5_stir_83 : decode mX5_stir.2.1 83 = .ok (.iinc 3 1, 3) := by decide +kernel
theorem dX5_stir_86 : decode mX5_stir.2.1 86 = .ok (.goto (-59), 3) := by decide +kernel
theorem dX5_stir_89 : decode mX5_stir.2.1 89 = .ok (.iinc 2 1, 3) := by decide +kernel
theorem dX5_stir_92 : decode mX5_stir.2.1 92 = .ok (.goto (-75), 3) := by decide +kernel
theorem dX5_stir_95 : decode mX5_stir.2.1 95 = .ok (.return_, 1) := by decide +kernel
theorem dX5_wander_0 : decode mX5_wander.2.1 0 = .ok (.aload_n 1, 1) := by decide +kernel
theorem dX5_wander_1 : decode mX5_wander.2.1 1 = .ok (.getfield 97, 3) := by decide +kernel
theorem dX5_wander_4 : decode mX5_wander.2.1 4 = .ok (.istore_n 2, 1) := by decide +kernel
theorem dX5_wander_5 : decode mX5_wander.2.1 5 = .ok (.iload_n 2, 1) := by decide +kernel
theorem dX5_wander_6 : decode mX5_wander.2.1 6 = .ok (.aload_n 1, 1) := by decide +kernel
theorem dX5_wander_7 : decode mX5_wander.2.1 7 = .ok (.getfield 86, 3) := by decide +kernel
theorem dX5_wander_10 : decode mX5_wander.2.1 10 = .ok (.if_icmp .gt 117, 3) := by decide +kernel
theorem dX5_wander_13 : decode mX5_wander.2.1 13 = .ok (.aload_n 0, 1) := by decide +kernel
theorem dX5_wander_14 : decode mX5_wander.2.1 14 = .ok (.aload_n 0, 1) := by decide +kernel
theorem dX5_wander_15 : decode mX5_wander.2.1 15 = .ok (.getfield 67, 3) := by decide +kernel
theorem dX5_wander_18 : decode mX5_wander.2.1 18 = .ok (.ldc2_w 179, 3) := by decide +kernel
theorem dX5_wander_21 : decode mX5_wander.2.1 21 = .ok (.lmul, 1) := by decide +kernel
theorem dX5_wander_22 : decode mX5_wander.2.1 22 = .ok (.ldc2_w 181, 3) := by decide +kernel
theorem dX5_wander_25 : decode mX5_wander.2.1 25 = .ok (.ladd, 1) := by decide +kernel
theorem dX5_wander_26 : decode mX5_wander.2.1 26 = .ok (.putfield 67, 3) := by decide +kernel
theorem dX5_wander_29 : decode mX5_wander.2.1 29 = .ok (.aload_n 0, 1) := by decide +kernel
theorem dX5_wander_30 : decode mX5_wander.2.1 30 = .ok (.getfield 67, 3) := by decide +kernel
theorem dX5_wander_33 : decode mX5_wander.2.1 33 = .ok (.bipush 33, 2) := by decide +kernel
theorem dX5_wander_35 : decode mX5_wander.2.1 35 = .ok (.lushr, 1) := by decide +kernel
theorem dX5_wander_36 : decode mX5_wander.2.1 36 = .ok (.ldc2_w 183, 3) := by decide +kernel
theorem dX5_wander_39 : decode mX5_wander.2.1 39 = .ok (.lrem, 1) := by decide +kernel
theorem dX5_wander_40 : decode mX5_wander.2.1 40 = .ok (.l2i, 1) := by decide +kernel
theorem dX5_wander_41 : decode mX5_wander.2.1 41 = .ok (.istore_n 3, 1) := by decide +kernel
theorem dX5_wander_42 : decode mX5_wander.2.1 42 = .ok (.iload_n 3, 1) := by decide +kernel
theorem dX5_wander_43 : decode mX5_wander.2.1 43 = .ok (.iconst 1, 1) := by decide +kernel
theorem dX5_wander_44 : decode mX5_wander.2.1 44 = .ok (.if_icmp .ne 9, 3) := by decide +kernel
theorem dX5_wander_47 : decode mX5_wander.2.1 47 = .ok (.iload_n 2, 1) := by decide +kernel
theorem dX5_wander_48 : decode mX5_wander.2.1 48 = .ok (.iconst 1, 1) := by decide +kernel
theorem dX5_wander_49 : decode mX5_wander.2.1 49 = .ok (.isub, 1) := by decide +kernel
theorem dX5_wander_50 : decode mX5_wander.2.1 50 = .ok (.goto 15, 3) := by decide +kernel
theorem dX5_wander_53 : decode mX5_wander.2.1 53 = .ok (.iload_n 3, 1) := by decide +kernel
theorem dX5_wander_54 : decode mX5_wander.2.1 54 = .ok (.iconst 2, 1) := by decide +kernel
theorem dX5_wander_55 : decode mX5_wander.2.1 55 = .ok (.if_icmp .ne 9, 3) := by decide +kernel
theorem dX5_wander_58 : decode mX5_wander.2.1 58 = .ok (.iload_n 2, 1) := by decide +kernel
theorem dX5_wander_59 : decode mX5_wander.2.1 59 = .ok (.iconst 1, 1) := by decide +kernel
theorem dX5_wander_60 : decode mX5_wander.2.1 60 = .ok (.iadd, 1) := by decide +kernel
theorem dX5_wander_61 : decode mX5_wander.2.1 61 = .ok (.goto 4, 3) := by decide +kernel
theorem dX5_wander_64 : decode mX5_wander.2.1 64 = .ok (.iload_n 2, 1) := by decide +kernel
theorem dX5_wander_65 : decode mX5_wander.2.1 65 = .ok (.istore 4, 2) := by decide +kernel
theorem dX5_wander_67 : decode mX5_wander.2.1 67 = .ok (.aload_n 0, 1) := by decide +kernel
theorem dX5_wander_68 : decode mX5_wander.2.1 68 = .ok (.getfield 31, 3) := by decide +kernel
theorem dX5_wander_71 : decode mX5_wander.2.1 71 = .ok (.iconst 0, 1) := by decide +kernel
theorem dX5_wander_72 : decode mX5_wander.2.1 72 = .ok (.aaload, 1) := by decide +kernel
theorem dX5_wander_73 : decode mX5_wander.2.1 73 = .ok (.iload_n 2, 1) := by decide +kernel
theorem dX5_wander_74 : decode mX5_wander.2.1 74 = .ok (.iaload, 1) := by decide +kernel
theorem dX5_wander_75 : decode mX5_wander.2.1 75 = .ok (.ifCond .le 46, 3) := by decide +kernel
theorem dX5_wander_78 : decode mX5_wander.2.1 78 = .ok (.iload 4, 2) := by decide +kernel
theorem dX5_wander_80 : decode mX5_wander.2.1 80 = .ok (.aload_n 1, 1) := by decide +kernel
theorem dX5_wander_81 : decode mX5_wander.2.1 81 = .ok (.getfield 97, 3) := by decide +kernel
theorem dX5_wander_84 : decode mX5_wander.2.1 84 = .ok (.if_icmp .lt 37, 3) := by decide +kernel
theorem dX5_wander_87 : decode mX5_wander.2.1 87 = .ok (.iload 4, 2) := by decide +kernel
theorem dX5_wander_89 : decode mX5_wander.2.1 89 = .ok (.aload_n 1, 1) := by decide +kernel
theorem dX5_wander_90 : decode mX5_wander.2.1 90 = .ok (.getfield 86, 3) := by decide +kernel
theorem dX5_wander_93 : decode mX5_wander.2.1 93 = .ok (.if_icmp .gt 28, 3) := by decide +kernel
theorem dX5_wander_96 : decode mX5_wander.2.1 96 = .ok (.aload_n 0, 1) := by decide +kernel
theorem dX5_wander_97 : decode mX5_wander.2.1 97 = .ok (.getfield 31, 3) := by decide +kernel
theorem dX5_wander_100 : decode mX5_wander.2.1 100 = .ok (.iconst 0, 1) := by decide +kernel
theorem dX5_wander_101 : decode mX5_wander.2.1 101 = .ok (.aaload, 1) := by decide +kernel
theorem dX5_wander_102 : decode mX5_wander.2.1 102 = .ok (.iload_n 2, 1) := by decide +kernel
theorem dX5_wander_103 : decode mX5_wander.2.1 103 = .ok (.dup2, 1) := by decide +kernel
theorem dX5_wander_104 : decode mX5_wander.2.1 104 = .ok (.iaload, 1) := by decide +kernel
theorem dX5_wander_105 : decode mX5_wander.2.1 105 = .ok (.iconst 1, 1) := by decide +kernel
theorem dX5_wander_106 : decode mX5_wander.2.1 106 = .ok (.isub, 1) := by decide +kernel
theorem dX5_wander_107 : decode mX5_wander.2.1 107 = .ok (.iastore, 1) := by decide +kernel
theorem dX5_wander_108 : decode mX5_wander.2.1 108 = .ok (.aload_n 0, 1) := by decide +kernel
theorem dX5_wander_109 : decode mX5_wander.2.1 109 = .ok (.getfield 31, 3) := by decide +kernel
theorem dX5_wander_112 : decode mX5_wander.2.1 112 = .ok (.iconst 0, 1) := by decide +kernel
theorem dX5_wander_113 : decode mX5_wander.2.1 113 = .ok (.aaload, 1) := by decide +kernel
theorem dX5_wander_114 : decode mX5_wander.2.1 114 = .ok (.iload 4, 2) := by decide +kernel
theorem dX5_wander_116 : decode mX5_wander.2.1 116 = .ok (.dup2, 1) := by decide +kernel
theorem dX5_wander_117 : decode mX5_wander.2.1 117 = .ok (.iaload, 1) := by decide +kernel
theorem dX5_wander_118 : decode mX5_wander.2.1 118 = .ok (.iconst 1, 1) := by decide +kernel
theorem dX5_wander_119 : decode mX5_wander.2.1 119 = .ok (.iadd, 1) := by decide +kernel
theorem dX5_wander_120 : decode mX5_wander.2.1 120 = .ok (.iastore, 1) := by decide +kernel
theorem dX5_wander_121 : decode mX5_wander.2.1 121 = .ok (.iinc 2 1, 3) := by decide +kernel
theorem dX5_wander_124 : decode mX5_wander.2.1 124 = .ok (.goto (-119), 3) := by decide +kernel
theorem dX5_wander_127 : decode mX5_wander.2.1 127 = .ok (.return_, 1) := by decide +kernel
theorem dX5_layDown_0 : decode mX5_layDown.2.1 0 = .ok (.aload_n 1, 1) := by decide +kernel
theorem dX5_layDown_1 : decode mX5_layDown.2.1 1 = .ok (.getfield 97, 3) := by decide +kernel
theorem dX5_layDown_4 : decode mX5_layDown.2.1 4 = .ok (.istore_n 3, 1) := by decide +kernel
theorem dX5_layDown_5 : decode mX5_layDown.2.1 5 = .ok (.iload_n 3, 1) := by decide +kernel
theorem dX5_layDown_6 : decode mX5_layDown.2.1 6 = .ok (.aload_n 1, 1) := by decide +kernel
theorem dX5_layDown_7 : decode mX5_layDown.2.1 7 = .ok (.getfield 86, 3) := by decide +kernel
theorem dX5_layDown_10 : decode mX5_layDown.2.1 10 = .ok (.if_icmp .gt 79, 3) := by decide +kernel
theorem dX5_layDown_13 : decode mX5_layDown.2.1 13 = .ok (.aload_n 0, 1) := by decide +kernel
theorem dX5_layDown_14 : decode mX5_layDown.2.1 14 = .ok (.getfield 31, 3) := by decide +kernel
theorem dX5_layDown_17 : decode mX5_layDown.2.1 17 = .ok (.iconst 0, 1) := by decide +kernel
theorem dX5_layDown_18 : decode mX5_layDown.2.1 18 = .ok (.aaload, 1) := by decide +kernel
theorem dX5_layDown_19 : decode mX5_layDown.2.1 19 = .ok (.iload_n 3, 1) := by decide +kernel
theorem dX5_layDown_20 : decode mX5_layDown.2.1 20 = .ok (.iaload, 1) := by decide +kernel
theorem dX5_layDown_21 : decode mX5_layDown.2.1 21 = .ok (.aload_n 0, 1) := by decide +kernel
theorem dX5_layDown_22 : decode mX5_layDown.2.1 22 = .ok (.getfield 31, 3) := by decide +kernel
theorem dX5_layDown_25 : decode mX5_layDown.2.1 25 = .ok (.iconst 1, 1) := by decide +kernel
theorem dX5_layDown_26 : decode mX5_layDown.2.1 26 = .ok (.aaload, 1) := by decide +kernel
theorem dX5_layDown_27 : decode mX5_layDown.2.1 27 = .ok (.iload_n 3, 1) := by decide +kernel
theorem dX5_layDown_28 : decode mX5_layDown.2.1 28 = .ok (.iaload, 1) := by decide +kernel
theorem dX5_layDown_29 : decode mX5_layDown.2.1 29 = .ok (.iadd, 1) := by decide +kernel
theorem dX5_layDown_30 : decode mX5_layDown.2.1 30 = .ok (.aload_n 0, 1) := by decide +kernel
theorem dX5_layDown_31 : decode mX5_layDown.2.1 31 = .ok (.getfield 9, 3) := by decide +kernel
theorem dX5_layDown_34 : decode mX5_layDown.2.1 34 = .ok (.iload_n 3, 1) := by decide +kernel
theorem dX5_layDown_35 : decode mX5_layDown.2.1 35 = .ok (.iaload, 1) := by decide +kernel
theorem dX5_layDown_36 : decode mX5_layDown.2.1 36 = .ok (.aload_n 1, 1) := by decide +kernel
theorem dX5_layDown_37 : decode mX5_layDown.2.1 37 = .ok (.getfield 100, 3) := by decide +kernel
theorem dX5_layDown_40 : decode mX5_layDown.2.1 40 = .ok (.bipush 8, 2) := by decide +kernel
theorem dX5_layDown_42 : decode mX5_layDown.2.1 42 = .ok (.iaload, 1) := by decide +kernel
theorem dX5_layDown_43 : decode mX5_layDown.2.1 43 = .ok (.imul, 1) := by decide +kernel
theorem dX5_layDown_44 : decode mX5_layDown.2.1 44 = .ok (.bipush 10, 2) := by decide +kernel
theorem dX5_layDown_46 : decode mX5_layDown.2.1 46 = .ok (.idiv, 1) := by decide +kernel
theorem dX5_layDown_47 : decode mX5_layDown.2.1 47 = .ok (.isub, 1) := by decide +kernel
theorem dX5_layDown_48 : decode mX5_layDown.2.1 48 = .ok (.istore 4, 2) := by decide +kernel
theorem dX5_layDown_50 : decode mX5_layDown.2.1 50 = .ok (.iload 4, 2) := by decide +kernel
theorem dX5_layDown_52 : decode mX5_layDown.2.1 52 = .ok (.ifCond .le 31, 3) := by decide +kernel
theorem dX5_layDown_55 : decode mX5_layDown.2.1 55 = .ok (.iload 4, 2) := by decide +kernel
theorem dX5_layDown_57 : decode mX5_layDown.2.1 57 = .ok (.aload_n 0, 1) := by decide +kernel
theorem dX5_layDown_58 : decode mX5_layDown.2.1 58 = .ok (.getfield 31, 3) := by decide +kernel
theorem dX5_layDown_61 : decode mX5_layDown.2.1 61 = .ok (.iconst 0, 1) := by decide +kernel
theorem dX5_layDown_62 : decode mX5_layDown.2.1 62 = .ok (.aaload, 1) := by decide +kernel
theorem dX5_layDown_63 : decode mX5_layDown.2.1 63 = .ok (.iload_n 3, 1) := by decide +kernel
theorem dX5_layDown_64 : decode mX5_layDown.2.1 64 = .ok (.iaload, 1) := by decide +kernel
theorem dX5_layDown_65 : decode mX5_layDown.2.1 65 = .ok (.invokestatic 150, 3) := by decide +kernel
theorem dX5_layDown_68 : decode mX5_layDown.2.1 68 = .ok (.istore 5, 2) := by decide +kernel
theorem dX5_layDown_70 : decode mX5_layDown.2.1 70 = .ok (.aload_n 0, 1) := by decide +kernel
theorem dX5_layDown_71 : decode mX5_layDown.2.1 71 = .ok (.iload_n 3, 1) := by decide +kernel
theorem dX5_layDown_72 : decode mX5_layDown.2.1 72 = .ok (.iload 5, 2) := by decide +kernel
theorem dX5_layDown_74 : decode mX5_layDown.2.1 74 = .ok (.iload 4, 2) := by decide +kernel
theorem dX5_layDown_76 : decode mX5_layDown.2.1 76 = .ok (.iload 5, 2) := by decide +kernel
theorem dX5_layDown_78 : decode mX5_layDown.2.1 78 = .ok (.isub, 1) := by decide +kernel
theorem dX5_layDown_79 : decode mX5_layDown.2.1 79 = .ok (.iload_n 2, 1) := by decide +kernel
theorem dX5_layDown_80 : decode mX5_layDown.2.1 80 = .ok (.invokevirtual 169, 3) := by decide +kernel
theorem dX5_layDown_83 : decode mX5_layDown.2.1 83 = .ok (.iinc 3 1, 3) := by decide +kernel
theorem dX5_layDown_86 : decode mX5_layDown.2.1 86 = .ok (.goto (-81), 3) := by decide +kernel
theorem dX5_layDown_89 : decode mX5_layDown.2.1 89 = .ok (.return_, 1) := by decide +kernel
theorem dX5_dropTheDry_0 : decode mX5_dropTheDry.2.1 0 = .ok (.iconst 0, 1) := by decide +kernel
theorem dX5_dropTheDry_1 : decode mX5_dropTheDry.2.1 1 = .ok (.istore_n 1, 1) := by decide +kernel
theorem dX5_dropTheDry_2 : decode mX5_dropTheDry.2.1 2 = .ok (.iconst 0, 1) := by decide +kernel
theorem dX5_dropTheDry_3 : decode mX5_dropTheDry.2.1 3 = .ok (.istore_n 2, 1) := by decide +kernel
theorem dX5_dropTheDry_4 : decode mX5_dropTheDry.2.1 4 = .ok (.iload_n 2, 1) := by decide +kernel
theorem dX5_dropTheDry_5 : decode mX5_dropTheDry.2.1 5 = .ok (.aload_n 0, 1) := by decide +kernel
theorem dX5_dropTheDry_6 : decode mX5_dropTheDry.2.1 6 = .ok (.getfield 53, 3) := by decide +kernel
theorem dX5_dropTheDry_9 : decode mX5_dropTheDry.2.1 9 = .ok (.if_icmp .ge 46, 3) := by decide +kernel
theorem dX5_dropTheDry_12 : decode mX5_dropTheDry.2.1 12 = .ok (.aload_n 0, 1) := by decide +kernel
theorem dX5_dropTheDry_13 : decode mX5_dropTheDry.2.1 13 = .ok (.getfield 48, 3) := by decide +kernel
theorem dX5_dropTheDry_16 : decode mX5_dropTheDry.2.1 16 = .ok (.iload_n 2, 1) := by decide +kernel
theorem dX5_dropTheDry_17 : decode mX5_dropTheDry.2.1 17 = .ok (.aaload, 1) := by decide +kernel
theorem dX5_dropTheDry_18 : decode mX5_dropTheDry.2.1 18 = .ok (.astore_n 3, 1) := by decide +kernel
theorem dX5_dropTheDry_19 : decode mX5_dropTheDry.2.1 19 = .ok (.aload_n 0, 1) := by decide +kernel
theorem dX5_dropTheDry_20 : decode mX5_dropTheDry.2.1 20 = .ok (.aload_n 3, 1) := by decide +kernel
theorem dX5_dropTheDry_21 : decode mX5_dropTheDry.2.1 21 = .ok (.invokevirtual 165, 3) := by decide +kernel
theorem dX5_dropTheDry_24 : decode mX5_dropTheDry.2.1 24 = .ok (.ifCond .le 25, 3) := by decide +kernel
theorem dX5_dropTheDry_27 : decode mX5_dropTheDry.2.1 27 = .ok (.aload_n 0, 1) := by decide +kernel
theorem dX5_dropTheDry_28 : decode mX5_dropTheDry.2.1 28 = .ok (.getfield 48, 3) := by decide +kernel
theorem dX5_dropTheDry_31 : decode mX5_dropTheDry.2.1 31 = .ok (.iload_n 2, 1) := by decide +kernel
theorem dX5_dropTheDry_32 : decode mX5_dropTheDry.2.1 32 = .ok (.aload_n 0, 1) := by decide +kernel
theorem dX5_dropTheDry_33 : decode mX5_dropTheDry.2.1 33 = .ok (.getfield 48, 3) := by decide +kernel
theorem dX5_dropTheDry_36 : decode mX5_dropTheDry.2.1 36 = .ok (.iload_n 1, 1) := by decide +kernel
theorem dX5_dropTheDry_37 : decode mX5_dropTheDry.2.1 37 = .ok (.aaload, 1) := by decide +kernel
theorem dX5_dropTheDry_38 : decode mX5_dropTheDry.2.1 38 = .ok (.aastore, 1) := by decide +kernel
theorem dX5_dropTheDry_39 : decode mX5_dropTheDry.2.1 39 = .ok (.aload_n 0, 1) := by decide +kernel
theorem dX5_dropTheDry_40 : decode mX5_dropTheDry.2.1 40 = .ok (.getfield 48, 3) := by decide +kernel
theorem dX5_dropTheDry_43 : decode mX5_dropTheDry.2.1 43 = .ok (.iload_n 1, 1) := by decide +kernel
theorem dX5_dropTheDry_44 : decode mX5_dropTheDry.2.1 44 = .ok (.aload_n 3, 1) := by decide +kernel
theorem dX5_dropTheDry_45 : decode mX5_dropTheDry.2.1 45 = .ok (.aastore, 1) := by decide +kernel
theorem dX5_dropTheDry_46 : decode mX5_dropTheDry.2.1 46 = .ok (.iinc 1 1, 3) := by decide +kernel
theorem dX5_dropTheDry_49 : decode mX5_dropTheDry.2.1 49 = .ok (.iinc 2 1, 3) := by decide +kernel
theorem dX5_dropTheDry_52 : decode mX5_dropTheDry.2.1 52 = .ok (.goto (-48), 3) := by decide +kernel
theorem dX5_dropTheDry_55 : decode mX5_dropTheDry.2.1 55 = .ok (.aload_n 0, 1) := by decide +kernel
theorem dX5_dropTheDry_56 : decode mX5_dropTheDry.2.1 56 = .ok (.iload_n 1, 1) := by decide +kernel
theorem dX5_dropTheDry_57 : decode mX5_dropTheDry.2.1 57 = .ok (.putfield 53, 3) := by decide +kernel
theorem dX5_dropTheDry_60 : decode mX5_dropTheDry.2.1 60 = .ok (.return_, 1) := by decide +kernel
theorem dX5_ofBody_0 : decode mX5_ofBody.2.1 0 = .ok (.iload_n 1, 1) := by decide +kernel
theorem dX5_ofBody_1 : decode mX5_ofBody.2.1 1 = .ok (.ifCond .lt 20, 3) := by decide +kernel
theorem dX5_ofBody_4 : decode mX5_ofBody.2.1 4 = .ok (.iload_n 1, 1) := by decide +kernel
theorem dX5_ofBody_5 : decode mX5_ofBody.2.1 5 = .ok (.aload_n 0, 1) := by decide +kernel
theorem dX5_ofBody_6 : decode mX5_ofBody.2.1 6 = .ok (.getfield 53, 3) := by decide +kernel
theorem dX5_ofBody_9 : decode mX5_ofBody.2.1 9 = .ok (.if_icmp .ge 12, 3) := by decide +kernel
theorem dX5_ofBody_12 : decode mX5_ofBody.2.1 12 = .ok (.iload_n 1, 1) := by decide +kernel
theorem dX5_ofBody_13 : decode mX5_ofBody.2.1 13 = .ok (.aload_n 0, 1) := by decide +kernel
theorem dX5_ofBody_14 : decode mX5_ofBody.2.1 14 = .ok (.getfield 48, 3) := by decide +kernel
theorem dX5_ofBody_17 : decode mX5_ofBody.2.1 17 = .ok (.arraylength, 1) := by decide +kernel
theorem dX5_ofBody_18 : decode mX5_ofBody.2.1 18 = .ok (.if_icmp .lt 5, 3) := by decide +kernel
theorem dX5_ofBody_21 : decode mX5_ofBody.2.1 21 = .ok (.iconst (-1), 1) := by decide +kernel
theorem dX5_ofBody_22 : decode mX5_ofBody.2.1 22 = .ok (.ireturn, 1) := by decide +kernel
theorem dX5_ofBody_23 : decode mX5_ofBody.2.1 23 = .ok (.aload_n 0, 1) := by decide +kernel
theorem dX5_ofBody_24 : decode mX5_ofBody.2.1 24 = .ok (.getfield 48, 3) := by decide +kernel
theorem dX5_ofBody_27 : decode mX5_ofBody.2.1 27 = .ok (.iload_n 1, 1) := by decide +kernel
theorem dX5_ofBody_28 : decode mX5_ofBody.2.1 28 = .ok (.aaload, 1) := by decide +kernel
theorem dX5_ofBody_29 : decode mX5_ofBody.2.1 29 = .ok (.astore_n 3, 1) := by decide +kernel
theorem dX5_ofBody_30 : decode mX5_ofBody.2.1 30 = .ok (.iload_n 2, 1) := by decide +kernel
theorem dX5_ofBody_31 : decode mX5_ofBody.2.1 31 = .ok (.tableswitch 50 0 3 #[29, 34, 39, 45], 29) := by decide +kernel
theorem dX5_ofBody_60 : decode mX5_ofBody.2.1 60 = .ok (.aload_n 3, 1) := by decide +kernel
theorem dX5_ofBody_61 : decode mX5_ofBody.2.1 61 = .ok (.getfield 97, 3) := by decide +kernel
theorem dX5_ofBody_64 : decode mX5_ofBody.2.1 64 = .ok (.ireturn, 1) := by decide +kernel
theorem dX5_ofBody_65 : decode mX5_ofBody.2.1 65 = .ok (.aload_n 3, 1) := by decide +kernel
theorem dX5_ofBody_66 : decode mX5_ofBody.2.1 66 = .ok (.getfield 86, 3) := by decide +kernel
theorem dX5_ofBody_69 : decode mX5_ofBody.2.1 69 = .ok (.ireturn, 1) := by decide +kernel
theorem dX5_ofBody_70 : decode mX5_ofBody.2.1 70 = .ok (.aload_n 0, 1) := by decide +kernel
theorem dX5_ofBody_71 : decode mX5_ofBody.2.1 71 = .ok (.aload_n 3, 1) := by decide +kernel
theorem dX5_ofBody_72 : decode mX5_ofBody.2.1 72 = .ok (.invokevirtual 165, 3) := by decide +kernel
theorem dX5_ofBody_75 : decode mX5_ofBody.2.1 75 = .ok (.ireturn, 1) := by decide +kernel
theorem dX5_ofBody_76 : decode mX5_ofBody.2.1 76 = .ok (.aload_n 3, 1) := by decide +kernel
theorem dX5_ofBody_77 : decode mX5_ofBody.2.1 77 = .ok (.getfield 173, 3) := by decide +kernel
theorem dX5_ofBody_80 : decode mX5_ofBody.2.1 80 = .ok (.ireturn, 1) := by decide +kernel
theorem dX5_ofBody_81 : decode mX5_ofBody.2.1 81 = .ok (.iconst (-1), 1) := by decide +kernel
theorem dX5_ofBody_82 : decode mX5_ofBody.2.1 82 = .ok (.ireturn, 1) := by decide +kernel
theorem dX5_tell_0 : decode mX5_tell.2.1 0 = .ok (.iload_n 1, 1) := by decide +kernel
theorem dX5_tell_1 : decode mX5_tell.2.1 1 = .ok (.tableswitch 96 0 8 #[51, 56, 61, 66, 71, 76, 81, 86, 91], 51) := by decide +kernel
theorem dX5_tell_52 : decode mX5_tell.2.1 52 = .ok (.aload_n 0, 1) := by decide +kernel
theorem dX5_tell_53 : decode mX5_tell.2.1 53 = .ok (.invokevirtual 185, 3) := by decide +kernel
theorem dX5_tell_56 : decode mX5_tell.2.1 56 = .ok (.ireturn, 1) := by decide +kernel
theorem dX5_tell_57 : decode mX5_tell.2.1 57 = .ok (.aload_n 0, 1) := by decide +kernel
theorem dX5_tell_58 : decode mX5_tell.2.1 58 = .ok (.invokevirtual 188, 3) := by decide +kernel
theorem dX5_tell_61 : decode mX5_tell.2.1 61 = .ok (.ireturn, 1) := by decide +kernel
theorem dX5_tell_62 : decode mX5_tell.2.1 62 = .ok (.aload_n 0, 1) := by decide +kernel
theorem dX5_tell_63 : decode mX5_tell.2.1 63 = .ok (.invokevirtual 191, 3) := by decide +kernel
theorem dX5_tell_66 : decode mX5_tell.2.1 66 = .ok (.ireturn, 1) := by decide +kernel
theorem dX5_tell_67 : decode mX5_tell.2.1 67 = .ok (.aload_n 0, 1) := by decide +kernel
theorem dX5_tell_68 : decode mX5_tell.2.1 68 = .ok (.invokevirtual 194, 3) := by decide +kernel
theorem dX5_tell_71 : decode mX5_tell.2.1 71 = .ok (.ireturn, 1) := by decide +kernel
theorem dX5_tell_72 : decode mX5_tell.2.1 72 = .ok (.aload_n 0, 1) := by decide +kernel
theorem dX5_tell_73 : decode mX5_tell.2.1 73 = .ok (.invokevirtual 197, 3) := by decide +kernel
theorem dX5_tell_76 : decode mX5_tell.2.1 76 = .ok (.ireturn, 1) := by decide +kernel
theorem dX5_tell_77 : decode mX5_tell.2.1 77 = .ok (.aload_n 0, 1) := by decide +kernel
theorem dX5_tell_78 : decode mX5_tell.2.1 78 = .ok (.getfield 71, 3) := by decide +kernel
theorem dX5_tell_81 : decode mX5_tell.2.1 81 = .ok (.ireturn, 1) := by decide +kernel
theorem dX5_tell_82 : decode mX5_tell.2.1 82 = .ok (.aload_n 0, 1) := by decide +kernel
theorem dX5_tell_83 : decode mX5_tell.2.1 83 = .ok (.getfield 74, 3) := by decide +kernel
theorem dX5_tell_86 : decode mX5_tell.2.1 86 = .ok (.ireturn, 1) := by decide +kernel
theorem dX5_tell_87 : decode mX5_tell.2.1 87 = .ok (.aload_n 0, 1) := by decide +kernel
theorem dX5_tell_88 : decode mX5_tell.2.1 88 = .ok (.getfield 53, 3) := by decide +kernel
theorem dX5_tell_91 : decode mX5_tell.2.1 91 = .ok (.ireturn, 1) := by decide +kernel
theorem dX5_tell_92 : decode mX5_tell.2.1 92 = .ok (.aload_n 0, 1) := by decide +kernel
theorem dX5_tell_93 : decode mX5_tell.2.1 93 = .ok (.invokevirtual 200, 3) := by decide +kernel
theorem dX5_tell_96 : decode mX5_tell.2.1 96 = .ok (.ireturn, 1) := by decide +kernel
theorem dX5_tell_97 : decode mX5_tell.2.1 97 = .ok (.iconst (-1), 1) := by decide +kernel
theorem dX5_tell_98 : decode mX5_tell.2.1 98 = .ok (.ireturn, 1) := by decide +kernel
theorem dX5_tellWants_0 : decode mX5_tellWants.2.1 0 = .ok (.iconst 0, 1) := by decide +kernel
theorem dX5_tellWants_1 : decode mX5_tellWants.2.1 1 = .ok (.istore_n 1, 1) := by decide +kernel
theorem dX5_tellWants_2 : decode mX5_tellWants.2.1 2 = .ok (.iload_n 1, 1) := by decide +kernel
theorem dX5_tellWants_3 : decode mX5_tellWants.2.1 3 = .ok (.ldc 203, 2) := by decide +kernel
theorem dX5_tellWants_5 : decode mX5_tellWants.2.1 5 = .ok (.invokevirtual 20, 3) := by decide +kernel
theorem dX5_tellWants_8 : decode mX5_tellWants.2.1 8 = .ok (.if_icmp .ge 29, 3) := by decide +kernel
theorem dX5_tellWants_11 : decode mX5_tellWants.2.1 11 = .ok (.iload_n 1, 1) := by decide +kernel
theorem dX5_tellWants_12 : decode mX5_tellWants.2.1 12 = .ok (.aload_n 0, 1) := by decide +kernel
theorem dX5_tellWants_13 : decode mX5_tellWants.2.1 13 = .ok (.getfield 26, 3) := by decide +kernel
theorem dX5_tellWants_16 : decode mX5_tellWants.2.1 16 = .ok (.arraylength, 1) := by decide +kernel
theorem dX5_tellWants_17 : decode mX5_tellWants.2.1 17 = .ok (.if_icmp .ge 20, 3) := by decide +kernel
theorem dX5_tellWants_20 : decode mX5_tellWants.2.1 20 = .ok (.aload_n 0, 1) := by decide +kernel
theorem dX5_tellWants_21 : decode mX5_tellWants.2.1 21 = .ok (.getfield 26, 3) := by decide +kernel
theorem dX5_tellWants_24 : decode mX5_tellWants.2.1 24 = .ok (.iload_n 1, 1) := by decide +kernel
theorem dX5_tellWants_25 : decode mX5_tellWants.2.1 25 = .ok (.aload_n 0, 1) := by decide +kernel
theorem dX5_tellWants_26 : decode mX5_tellWants.2.1 26 = .ok (.iload_n 1, 1) := by decide +kernel
theorem dX5_tellWants_27 : decode mX5_tellWants.2.1 27 = .ok (.invokevirtual 205, 3) := by decide +kernel
theorem dX5_tellWants_30 : decode mX5_tellWants.2.1 30 = .ok (.iastore, 1) := by decide +kernel
theorem dX5_tellWants_31 : decode mX5_tellWants.2.1 31 = .ok (.iinc 1 1, 3) := by decide +kernel
theorem dX5_tellWants_34 : decode mX5_tellWants.2.1 34 = .ok (.goto (-32), 3) := by decide +kernel
theorem dX5_tellWants_37 : decode mX5_tellWants.2.1 37 = .ok (.return_, 1) := by decide +kernel
theorem dX5_lyingAt_0 : decode mX5_lyingAt.2.1 0 = .ok (.iload_n 1, 1) := by decide +kernel
theorem dX5_lyingAt_1 : decode mX5_lyingAt.2.1 1 = .ok (.ifCond .lt 29, 3) := by decide +kernel
theorem dX5_lyingAt_4 : decode mX5_lyingAt.2.1 4 = .ok (.iload_n 1, 1) := by decide +kernel
theorem dX5_lyingAt_5 : decode mX5_lyingAt.2.1 5 = .ok (.bipush 24, 2) := by decide +kernel
theorem dX5_lyingAt_7 : decode mX5_lyingAt.2.1 7 = .ok (.if_icmp .ge 23, 3) := by decide +kernel
theorem dX5_lyingAt_10 : decode mX5_lyingAt.2.1 10 = .ok (.aload_n 0, 1) := by decide +kernel
theorem dX5_lyingAt_11 : decode mX5_lyingAt.2.1 11 = .ok (.getfield 34, 3) := by decide +kernel
theorem dX5_lyingAt_14 : decode mX5_lyingAt.2.1 14 = .ok (.iconst 0, 1) := by decide +kernel
theorem dX5_lyingAt_15 : decode mX5_lyingAt.2.1 15 = .ok (.aaload, 1) := by decide +kernel
theorem dX5_lyingAt_16 : decode mX5_lyingAt.2.1 16 = .ok (.iload_n 1, 1) := by decide +kernel
theorem dX5_lyingAt_17 : decode mX5_lyingAt.2.1 17 = .ok (.iaload, 1) := by decide +kernel
theorem dX5_lyingAt_18 : decode mX5_lyingAt.2.1 18 = .ok (.aload_n 0, 1) := by decide +kernel
theorem dX5_lyingAt_19 : decode mX5_lyingAt.2.1 19 = .ok (.getfield 34, 3) := by decide +kernel
theorem dX5_lyingAt_22 : decode mX5_lyingAt.2.1 22 = .ok (.iconst 1, 1) := by decide +kernel
theorem dX5_lyingAt_23 : decode mX5_lyingAt.2.1 23 = .ok (.aaload, 1) := by decide +kernel
theorem dX5_lyingAt_24 : decode mX5_lyingAt.2.1 24 = .ok (.iload_n 1, 1) := by decide +kernel
theorem dX5_lyingAt_25 : decode mX5_lyingAt.2.1 25 = .ok (.iaload, 1) := by decide +kernel
theorem dX5_lyingAt_26 : decode mX5_lyingAt.2.1 26 = .ok (.iadd, 1) := by decide +kernel
theorem dX5_lyingAt_27 : decode mX5_lyingAt.2.1 27 = .ok (.goto 4, 3) := by decide +kernel
theorem dX5_lyingAt_30 : decode mX5_lyingAt.2.1 30 = .ok (.iconst 0, 1) := by decide +kernel
theorem dX5_lyingAt_31 : decode mX5_lyingAt.2.1 31 = .ok (.ireturn, 1) := by decide +kernel
theorem dX5_lyingAll_0 : decode mX5_lyingAll.2.1 0 = .ok (.iconst 0, 1) := by decide +kernel
theorem dX5_lyingAll_1 : decode mX5_lyingAll.2.1 1 = .ok (.istore_n 1, 1) := by decide +kernel
theorem dX5_lyingAll_2 : decode mX5_lyingAll.2.1 2 = .ok (.iconst 0, 1) := by decide +kernel
theorem dX5_lyingAll_3 : decode mX5_lyingAll.2.1 3 = .ok (.istore_n 2, 1) := by decide +kernel
theorem dX5_lyingAll_4 : decode mX5_lyingAll.2.1 4 = .ok (.iload_n 2, 1) := by decide +kernel
theorem dX5_lyingAll_5 : decode mX5_lyingAll.2.1 5 = .ok (.bipush 24, 2) := by decide +kernel
theorem dX5_lyingAll_7 : decode mX5_lyingAll.2.1 7 = .ok (.if_icmp .ge 17, 3) := by decide +kernel
theorem dX5_lyingAll_10 : decode mX5_lyingAll.2.1 10 = .ok (.iload_n 1, 1) := by decide +kernel
theorem dX5_lyingAll_11 : decode mX5_lyingAll.2.1 11 = .ok (.aload_n 0, 1) := by decide +kernel
theorem dX5_lyingAll_12 : decode mX5_lyingAll.2.1 12 = .ok (.iload_n 2, 1) := by decide +kernel
theorem dX5_lyingAll_13 : decode mX5_lyingAll.2.1 13 = .ok (.invokevirtual 208, 3) := by decide +kernel
theorem dX5_lyingAll_16 : decode mX5_lyingAll.2.1 16 = .ok (.iadd, 1) := by decide +kernel
theorem dX5_lyingAll_17 : decode mX5_lyingAll.2.1 17 = .ok (.istore_n 1, 1) := by decide +kernel
theorem dX5_lyingAll_18 : decode mX5_lyingAll.2.1 18 = .ok (.iinc 2 1, 3) := by decide +kernel
theorem dX5_lyingAll_21 : decode mX5_lyingAll.2.1 21 = .ok (.goto (-17), 3) := by decide +kernel
theorem dX5_lyingAll_24 : decode mX5_lyingAll.2.1 24 = .ok (.iload_n 1, 1) := by decide +kernel
theorem dX5_lyingAll_25 : decode mX5_lyingAll.2.1 25 = .ok (.ireturn, 1) := by decide +kernel
theorem dX5_heapedAll_0 : decode mX5_heapedAll.2.1 0 = .ok (.iconst 0, 1) := by decide +kernel
theorem dX5_heapedAll_1 : decode mX5_heapedAll.2.1 1 = .ok (.istore_n 1, 1) := by decide +kernel
theorem dX5_heapedAll_2 : decode mX5_heapedAll.2.1 2 = .ok (.iconst 0, 1) := by decide +kernel
theorem dX5_heapedAll_3 : decode mX5_heapedAll.2.1 3 = .ok (.istore_n 2, 1) := by decide +kernel
theorem dX5_heapedAll_4 : decode mX5_heapedAll.2.1 4 = .ok (.iload_n 2, 1) := by decide +kernel
theorem dX5_heapedAll_5 : decode mX5_heapedAll.2.1 5 = .ok (.bipush 24, 2) := by decide +kernel
theorem dX5_heapedAll_7 : decode mX5_heapedAll.2.1 7 = .ok (.if_icmp .ge 18, 3) := by decide +kernel
theorem dX5_heapedAll_10 : decode mX5_heapedAll.2.1 10 = .ok (.iload_n 1, 1) := by decide +kernel
theorem dX5_heapedAll_11 : decode mX5_heapedAll.2.1 11 = .ok (.aload_n 0, 1) := by decide +kernel
theorem dX5_heapedAll_12 : decode mX5_heapedAll.2.1 12 = .ok (.getfield 37, 3) := by decide +kernel
theorem dX5_heapedAll_15 : decode mX5_heapedAll.2.1 15 = .ok (.iload_n 2, 1) := by decide +kernel
theorem dX5_heapedAll_16 : decode mX5_heapedAll.2.1 16 = .ok (.iaload, 1) := by decide +kernel
theorem dX5_heapedAll_17 : decode mX5_heapedAll.2.1 17 = .ok (.iadd, 1) := by decide +kernel
theorem dX5_heapedAll_18 : decode mX5_heapedAll.2.1 18 = .ok (.istore_n 1, 1) := by decide +kernel
theorem dX5_heapedAll_19 : decode mX5_heapedAll.2.1 19 = .ok (.iinc 2 1, 3) := by decide +kernel
theorem dX5_heapedAll_22 : decode mX5_heapedAll.2.1 22 = .ok (.goto (-18), 3) := by decide +kernel
theorem dX5_heapedAll_25 : decode mX5_heapedAll.2.1 25 = .ok (.iload_n 1, 1) := by decide +kernel
theorem dX5_heapedAll_26 : decode mX5_heapedAll.2.1 26 = .ok (.ireturn, 1) := by decide +kernel
theorem dX5_freeAll_0 : decode mX5_freeAll.2.1 0 = .ok (.iconst 0, 1) := by decide +kernel
theorem dX5_freeAll_1 : decode mX5_freeAll.2.1 1 = .ok (.istore_n 1, 1) := by decide +kernel
theorem dX5_freeAll_2 : decode mX5_freeAll.2.1 2 = .ok (.iconst 0, 1) := by decide +kernel
theorem dX5_freeAll_3 : decode mX5_freeAll.2.1 3 = .ok (.istore_n 2, 1) := by decide +kernel
theorem dX5_freeAll_4 : decode mX5_freeAll.2.1 4 = .ok (.iload_n 2, 1) := by decide +kernel
theorem dX5_freeAll_5 : decode mX5_freeAll.2.1 5 = .ok (.bipush 24, 2) := by decide +kernel
theorem dX5_freeAll_7 : decode mX5_freeAll.2.1 7 = .ok (.if_icmp .ge 29, 3) := by decide +kernel
theorem dX5_freeAll_10 : decode mX5_freeAll.2.1 10 = .ok (.iload_n 1, 1) := by decide +kernel
theorem dX5_freeAll_11 : decode mX5_freeAll.2.1 11 = .ok (.aload_n 0, 1) := by decide +kernel
theorem dX5_freeAll_12 : decode mX5_freeAll.2.1 12 = .ok (.getfield 31, 3) := by decide +kernel
theorem dX5_freeAll_15 : decode mX5_freeAll.2.1 15 = .ok (.iconst 0, 1) := by decide +kernel
theorem dX5_freeAll_16 : decode mX5_freeAll.2.1 16 = .ok (.aaload, 1) := by decide +kernel
theorem dX5_freeAll_17 : decode mX5_freeAll.2.1 17 = .ok (.iload_n 2, 1) := by decide +kernel
theorem dX5_freeAll_18 : decode mX5_freeAll.2.1 18 = .ok (.iaload, 1) := by decide +kernel
theorem dX5_freeAll_19 : decode mX5_freeAll.2.1 19 = .ok (.aload_n 0, 1) := by decide +kernel
theorem dX5_freeAll_20 : decode mX5_freeAll.2.1 20 = .ok (.getfield 31, 3) := by decide +kernel
theorem dX5_freeAll_23 : decode mX5_freeAll.2.1 23 = .ok (.iconst 1, 1) := by decide +kernel
theorem dX5_freeAll_24 : decode mX5_freeAll.2.1 24 = .ok (.aaload, 1) := by decide +kernel
theorem dX5_freeAll_25 : decode mX5_freeAll.2.1 25 = .ok (.iload_n 2, 1) := by decide +kernel
theorem dX5_freeAll_26 : decode mX5_freeAll.2.1 26 = .ok (.iaload, 1) := by decide +kernel
theorem dX5_freeAll_27 : decode mX5_freeAll.2.1 27 = .ok (.iadd, 1) := by decide +kernel
theorem dX5_freeAll_28 : decode mX5_freeAll.2.1 28 = .ok (.iadd, 1) := by decide +kernel
theorem dX5_freeAll_29 : decode mX5_freeAll.2.1 29 = .ok (.istore_n 1, 1) := by decide +kernel
theorem dX5_freeAll_30 : decode mX5_freeAll.2.1 30 = .ok (.iinc 2 1, 3) := by decide +kernel
theorem dX5_freeAll_33 : decode mX5_freeAll.2.1 33 = .ok (.goto (-29), 3) := by decide +kernel
theorem dX5_freeAll_36 : decode mX5_freeAll.2.1 36 = .ok (.iload_n 1, 1) := by decide +kernel
theorem dX5_freeAll_37 : decode mX5_freeAll.2.1 37 = .ok (.ireturn, 1) := by decide +kernel
theorem dX5_ring_0 : decode mX5_ring.2.1 0 = .ok (.iconst 0, 1) := by decide +kernel
theorem dX5_ring_1 : decode mX5_ring.2.1 1 = .ok (.istore_n 1, 1) := by decide +kernel
theorem dX5_ring_2 : decode mX5_ring.2.1 2 = .ok (.iconst 0, 1) := by decide +kernel
theorem dX5_ring_3 : decode mX5_ring.2.1 3 = .ok (.istore_n 2, 1) := by decide +kernel
theorem dX5_ring_4 : decode mX5_ring.2.1 4 = .ok (.iconst 0, 1) := by decide +kernel
theorem dX5_ring_5 : decode mX5_ring.2.1 5 = .ok (.istore_n 3, 1) := by decide +kernel
theorem dX5_ring_6 : decode mX5_ring.2.1 6 = .ok (.iload_n 3, 1) := by decide +kernel
theorem dX5_ring_7 : decode mX5_ring.2.1 7 = .ok (.bipush 24, 2) := by decide +kernel
theorem dX5_ring_9 : decode mX5_ring.2.1 9 = .ok (.if_icmp .ge 40, 3) := by decide +kernel
theorem dX5_ring_12 : decode mX5_ring.2.1 12 = .ok (.iload_n 1, 1) := by decide +kernel
theorem dX5_ring_13 : decode mX5_ring.2.1 13 = .ok (.aload_n 0, 1) := by decide +kernel
theorem dX5_ring_14 : decode mX5_ring.2.1 14 = .ok (.iload_n 3, 1) := by decide +kernel
theorem dX5_ring_15 : decode mX5_ring.2.1 15 = .ok (.invokevirtual 208, 3) := by decide +kernel
theorem dX5_ring_18 : decode mX5_ring.2.1 18 = .ok (.iadd, 1) := by decide +kernel
theorem dX5_ring_19 : decode mX5_ring.2.1 19 = .ok (.istore_n 1, 1) := by decide +kernel
theorem dX5_ring_20 : decode mX5_ring.2.1 20 = .ok (.iload_n 2, 1) := by decide +kernel
theorem dX5_ring_21 : decode mX5_ring.2.1 21 = .ok (.aload_n 0, 1) := by decide +kernel
theorem dX5_ring_22 : decode mX5_ring.2.1 22 = .ok (.getfield 60, 3) := by decide +kernel
theorem dX5_ring_25 : decode mX5_ring.2.1 25 = .ok (.iload_n 3, 1) := by decide +kernel
theorem dX5_ring_26 : decode mX5_ring.2.1 26 = .ok (.invokestatic 211, 3) := by decide +kernel
theorem dX5_ring_29 : decode mX5_ring.2.1 29 = .ok (.ifCond .eq 11, 3) := by decide +kernel
theorem dX5_ring_32 : decode mX5_ring.2.1 32 = .ok (.aload_n 0, 1) := by decide +kernel
theorem dX5_ring_33 : decode mX5_ring.2.1 33 = .ok (.iload_n 3, 1) := by decide +kernel
theorem dX5_ring_34 : decode mX5_ring.2.1 34 = .ok (.invokevirtual 208, 3) := by decide +kernel
theorem dX5_ring_37 : decode mX5_ring.2.1 37 = .ok (.goto 4, 3) := by decide +kernel
theorem dX5_ring_40 : decode mX5_ring.2.1 40 = .ok (.iconst 0, 1) := by decide +kernel
theorem dX5_ring_41 : decode mX5_ring.2.1 41 = .ok (.iadd, 1) := by decide +kernel
theorem dX5_ring_42 : decode mX5_ring.2.1 42 = .ok (.istore_n 2, 1) := by decide +kernel
theorem dX5_ring_43 : decode mX5_ring.2.1 43 = .ok (.iinc 3 1, 3) := by decide +kernel
theorem dX5_ring_46 : decode mX5_ring.2.1 46 = .ok (.goto (-40), 3) := by decide +kernel
theorem dX5_ring_49 : decode mX5_ring.2.1 49 = .ok (.iload_n 1, 1) := by decide +kernel
theorem dX5_ring_50 : decode mX5_ring.2.1 50 = .ok (.ifCond .ne 7, 3) := by decide +kernel
theorem dX5_ring_53 : decode mX5_ring.2.1 53 = .ok (.iconst 0, 1) := by decide +kernel
theorem dX5_ring_54 : decode mX5_ring.2.1 54 = .ok (.goto 9, 3) := by decide +kernel
theorem dX5_ring_57 : decode mX5_ring.2.1 57 = .ok (.iload_n 2, 1) := by decide +kernel
theorem dX5_ring_58 : decode mX5_ring.2.1 58 = .ok (.bipush 100, 2) := by decide +kernel
theorem dX5_ring_60 : decode mX5_ring.2.1 60 = .ok (.imul, 1) := by decide +kernel
theorem dX5_ring_61 : decode mX5_ring.2.1 61 = .ok (.iload_n 1, 1) := by decide +kernel
theorem dX5_ring_62 : decode mX5_ring.2.1 62 = .ok (.idiv, 1) := by decide +kernel
theorem dX5_ring_63 : decode mX5_ring.2.1 63 = .ok (.ireturn, 1) := by decide +kernel
theorem dX5_rings_0 : decode mX5_rings.2.1 0 = .ok (.iconst 0, 1) := by decide +kernel
theorem dX5_rings_1 : decode mX5_rings.2.1 1 = .ok (.istore_n 1, 1) := by decide +kernel
theorem dX5_rings_2 : decode mX5_rings.2.1 2 = .ok (.iconst 0, 1) := by decide +kernel
theorem dX5_rings_3 : decode mX5_rings.2.1 3 = .ok (.istore_n 2, 1) := by decide +kernel
theorem dX5_rings_4 : decode mX5_rings.2.1 4 = .ok (.iload_n 2, 1) := by decide +kernel
theorem dX5_rings_5 : decode mX5_rings.2.1 5 = .ok (.bipush 24, 2) := by decide +kernel
theorem dX5_rings_7 : decode mX5_rings.2.1 7 = .ok (.if_icmp .ge 40, 3) := by decide +kernel
theorem dX5_rings_10 : decode mX5_rings.2.1 10 = .ok (.aload_n 0, 1) := by decide +kernel
theorem dX5_rings_11 : decode mX5_rings.2.1 11 = .ok (.iload_n 2, 1) := by decide +kernel
theorem dX5_rings_12 : decode mX5_rings.2.1 12 = .ok (.invokevirtual 208, 3) := by decide +kernel
theorem dX5_rings_15 : decode mX5_rings.2.1 15 = .ok (.istore_n 3, 1) := by decide +kernel
theorem dX5_rings_16 : decode mX5_rings.2.1 16 = .ok (.iload_n 3, 1) := by decide +kernel
theorem dX5_rings_17 : decode mX5_rings.2.1 17 = .ok (.aload_n 0, 1) := by decide +kernel
theorem dX5_rings_18 : decode mX5_rings.2.1 18 = .ok (.iload_n 2, 1) := by decide +kernel
theorem dX5_rings_19 : decode mX5_rings.2.1 19 = .ok (.iconst 1, 1) := by decide +kernel
theorem dX5_rings_20 : decode mX5_rings.2.1 20 = .ok (.isub, 1) := by decide +kernel
theorem dX5_rings_21 : decode mX5_rings.2.1 21 = .ok (.invokevirtual 208, 3) := by decide +kernel
theorem dX5_rings_24 : decode mX5_rings.2.1 24 = .ok (.if_icmp .le 17, 3) := by decide +kernel
theorem dX5_rings_27 : decode mX5_rings.2.1 27 = .ok (.iload_n 3, 1) := by decide +kernel
theorem dX5_rings_28 : decode mX5_rings.2.1 28 = .ok (.aload_n 0, 1) := by decide +kernel
theorem dX5_rings_29 : decode mX5_rings.2.1 29 = .ok (.iload_n 2, 1) := by decide +kernel
theorem dX5_rings_30 : decode mX5_rings.2.1 30 = .ok (.iconst 1, 1) := by decide +kernel
theorem dX5_rings_31 : decode mX5_rings.2.1 31 = .ok (.iadd, 1) := by decide +kernel
theorem dX5_rings_32 : decode mX5_rings.2.1 32 = .ok (.invokevirtual 208, 3) := by decide +kernel
theorem dX5_rings_35 : decode mX5_rings.2.1 35 = .ok (.if_icmp .le 6, 3) := by decide +kernel
theorem dX5_rings_38 : decode mX5_rings.2.1 38 = .ok (.iinc 1 1, 3) := by decide +kernel
theorem dX5_rings_41 : decode mX5_rings.2.1 41 = .ok (.iinc 2 1, 3) := by decide +kernel
theorem dX5_rings_44 : decode mX5_rings.2.1 44 = .ok (.goto (-40), 3) := by decide +kernel
theorem dX5_rings_47 : decode mX5_rings.2.1 47 = .ok (.iload_n 1, 1) := by decide +kernel
theorem dX5_rings_48 : decode mX5_rings.2.1 48 = .ok (.ireturn, 1) := by decide +kernel
theorem dX5_even_0 : decode mX5_even.2.1 0 = .ok (.iconst (-1), 1) := by decide +kernel
theorem dX5_even_1 : decode mX5_even.2.1 1 = .ok (.istore_n 1, 1) := by decide +kernel
theorem dX5_even_2 : decode mX5_even.2.1 2 = .ok (.iconst 0, 1) := by decide +kernel
theorem dX5_even_3 : decode mX5_even.2.1 3 = .ok (.istore_n 2, 1) := by decide +kernel
theorem dX5_even_4 : decode mX5_even.2.1 4 = .ok (.iconst 0, 1) := by decide +kernel
theorem dX5_even_5 : decode mX5_even.2.1 5 = .ok (.istore_n 3, 1) := by decide +kernel
theorem dX5_even_6 : decode mX5_even.2.1 6 = .ok (.iload_n 3, 1) := by decide +kernel
theorem dX5_even_7 : decode mX5_even.2.1 7 = .ok (.bipush 24, 2) := by decide +kernel
theorem dX5_even_9 : decode mX5_even.2.1 9 = .ok (.if_icmp .ge 51, 3) := by decide +kernel
theorem dX5_even_12 : decode mX5_even.2.1 12 = .ok (.aload_n 0, 1) := by decide +kernel
theorem dX5_even_13 : decode mX5_even.2.1 13 = .ok (.getfield 57, 3) := by decide +kernel
theorem dX5_even_16 : decode mX5_even.2.1 16 = .ok (.iload_n 3, 1) := by decide +kernel
theorem dX5_even_17 : decode mX5_even.2.1 17 = .ok (.invokestatic 211, 3) := by decide +kernel
theorem dX5_even_20 : decode mX5_even.2.1 20 = .ok (.ifCond .eq 34, 3) := by decide +kernel
theorem dX5_even_23 : decode mX5_even.2.1 23 = .ok (.aload_n 0, 1) := by decide +kernel
theorem dX5_even_24 : decode mX5_even.2.1 24 = .ok (.iload_n 3, 1) := by decide +kernel
theorem dX5_even_25 : decode mX5_even.2.1 25 = .ok (.invokevirtual 208, 3) := by decide +kernel
theorem dX5_even_28 : decode mX5_even.2.1 28 = .ok (.istore 4, 2) := by decide +kernel
theorem dX5_even_30 : decode mX5_even.2.1 30 = .ok (.iload_n 1, 1) := by decide +kernel
theorem dX5_even_31 : decode mX5_even.2.1 31 = .ok (.iconst (-1), 1) := by decide +kernel
theorem dX5_even_32 : decode mX5_even.2.1 32 = .ok (.if_icmp .ne 8, 3) := by decide +kernel
theorem dX5_even_35 : decode mX5_even.2.1 35 = .ok (.iload 4, 2) := by decide +kernel
theorem dX5_even_37 : decode mX5_even.2.1 37 = .ok (.goto 9, 3) := by decide +kernel
theorem dX5_even_40 : decode mX5_even.2.1 40 = .ok (.iload_n 2, 1) := by decide +kernel
theorem dX5_even_41 : decode mX5_even.2.1 41 = .ok (.iload 4, 2) := by decide +kernel
theorem dX5_even_43 : decode mX5_even.2.1 43 = .ok (.invokestatic 150, 3) := by decide +kernel
theorem dX5_even_46 : decode mX5_even.2.1 46 = .ok (.istore_n 2, 1) := by decide +kernel
theorem dX5_even_47 : decode mX5_even.2.1 47 = .ok (.iload_n 1, 1) := by decide +kernel
theorem dX5_even_48 : decode mX5_even.2.1 48 = .ok (.iload 4, 2) := by decide +kernel
theorem dX5_even_50 : decode mX5_even.2.1 50 = .ok (.invokestatic 162, 3) := by decide +kernel
theorem dX5_even_53 : decode mX5_even.2.1 53 = .ok (.istore_n 1, 1) := by decide +kernel
theorem dX5_even_54 : decode mX5_even.2.1 54 = .ok (.iinc 3 1, 3) := by decide +kernel
theorem dX5_even_57 : decode mX5_even.2.1 57 = .ok (.goto (-51), 3) := by decide +kernel
theorem dX5_even_60 : decode mX5_even.2.1 60 = .ok (.iload_n 1, 1) := by decide +kernel
theorem dX5_even_61 : decode mX5_even.2.1 61 = .ok (.iconst (-1), 1) := by decide +kernel
theorem dX5_even_62 : decode mX5_even.2.1 62 = .ok (.if_icmp .ne 7, 3) := by decide +kernel
theorem dX5_even_65 : decode mX5_even.2.1 65 = .ok (.iconst 0, 1) := by decide +kernel
theorem dX5_even_66 : decode mX5_even.2.1 66 = .ok (.goto 6, 3) := by decide +kernel
theorem dX5_even_69 : decode mX5_even.2.1 69 = .ok (.iload_n 1, 1) := by decide +kernel
theorem dX5_even_70 : decode mX5_even.2.1 70 = .ok (.iload_n 2, 1) := by decide +kernel
theorem dX5_even_71 : decode mX5_even.2.1 71 = .ok (.isub, 1) := by decide +kernel
theorem dX5_even_72 : decode mX5_even.2.1 72 = .ok (.ireturn, 1) := by decide +kernel
theorem dX5_center_0 : decode mX5_center.2.1 0 = .ok (.aload_n 0, 1) := by decide +kernel
theorem dX5_center_1 : decode mX5_center.2.1 1 = .ok (.invokevirtual 194, 3) := by decide +kernel
theorem dX5_center_4 : decode mX5_center.2.1 4 = .ok (.istore_n 1, 1) := by decide +kernel
theorem dX5_center_5 : decode mX5_center.2.1 5 = .ok (.iconst 0, 1) := by decide +kernel
theorem dX5_center_6 : decode mX5_center.2.1 6 = .ok (.istore_n 2, 1) := by decide +kernel
theorem dX5_center_7 : decode mX5_center.2.1 7 = .ok (.iconst 0, 1) := by decide +kernel
theorem dX5_center_8 : decode mX5_center.2.1 8 = .ok (.istore_n 3, 1) := by decide +kernel
theorem dX5_center_9 : decode mX5_center.2.1 9 = .ok (.iload_n 3, 1) := by decide +kernel
theorem dX5_center_10 : decode mX5_center.2.1 10 = .ok (.bipush 24, 2) := by decide +kernel
theorem dX5_center_12 : decode mX5_center.2.1 12 = .ok (.if_icmp .ge 22, 3) := by decide +kernel
theorem dX5_center_15 : decode mX5_center.2.1 15 = .ok (.iload_n 2, 1) := by decide +kernel
theorem dX5_center_16 : decode mX5_center.2.1 16 = .ok (.bipush 10, 2) := by decide +kernel
theorem dX5_center_18 : decode mX5_center.2.1 18 = .ok (.iload_n 3, 1) := by decide +kernel
theorem dX5_center_19 : decode mX5_center.2.1 19 = .ok (.imul, 1) := by decide +kernel
theorem dX5_center_20 : decode mX5_center.2.1 20 = .ok (.aload_n 0, 1) := by decide +kernel
theorem dX5_center_21 : decode mX5_center.2.1 21 = .ok (.iload_n 3, 1) := by decide +kernel
theorem dX5_center_22 : decode mX5_center.2.1 22 = .ok (.invokevirtual 208, 3) := by decide +kernel
theorem dX5_center_25 : decode mX5_center.2.1 25 = .ok (.imul, 1) := by decide +kernel
theorem dX5_center_26 : decode mX5_center.2.1 26 = .ok (.iadd, 1) := by decide +kernel
theorem dX5_center_27 : decode mX5_center.2.1 27 = .ok (.istore_n 2, 1) := by decide +kernel
theorem dX5_center_28 : decode mX5_center.2.1 28 = .ok (.iinc 3 1, 3) := by decide +kernel
theorem dX5_center_31 : decode mX5_center.2.1 31 = .ok (.goto (-22), 3) := by decide +kernel
theorem dX5_center_34 : decode mX5_center.2.1 34 = .ok (.iload_n 1, 1) := by decide +kernel
theorem dX5_center_35 : decode mX5_center.2.1 35 = .ok (.ifCond .ne 7, 3) := by decide +kernel
theorem dX5_center_38 : decode mX5_center.2.1 38 = .ok (.iconst (-1), 1) := by decide +kernel
theorem dX5_center_39 : decode mX5_center.2.1 39 = .ok (.goto 6, 3) := by decide +kernel
theorem dX5_center_42 : decode mX5_center.2.1 42 = .ok (.iload_n 2, 1) := by decide +kernel
theorem dX5_center_43 : decode mX5_center.2.1 43 = .ok (.iload_n 1, 1) := by decide +kernel
theorem dX5_center_44 : decode mX5_center.2.1 44 = .ok (.idiv, 1) := by decide +kernel
theorem dX5_center_45 : decode mX5_center.2.1 45 = .ok (.ireturn, 1) := by decide +kernel
theorem dX5_spread_0 : decode mX5_spread.2.1 0 = .ok (.aload_n 0, 1) := by decide +kernel
theorem dX5_spread_1 : decode mX5_spread.2.1 1 = .ok (.invokevirtual 215, 3) := by decide +kernel
theorem dX5_spread_4 : decode mX5_spread.2.1 4 = .ok (.bipush 10, 2) := by decide +kernel
theorem dX5_spread_6 : decode mX5_spread.2.1 6 = .ok (.idiv, 1) := by decide +kernel
theorem dX5_spread_7 : decode mX5_spread.2.1 7 = .ok (.istore_n 1, 1) := by decide +kernel
theorem dX5_spread_8 : decode mX5_spread.2.1 8 = .ok (.iconst 0, 1) := by decide +kernel
theorem dX5_spread_9 : decode mX5_spread.2.1 9 = .ok (.istore_n 2, 1) := by decide +kernel
theorem dX5_spread_10 : decode mX5_spread.2.1 10 = .ok (.iconst 0, 1) := by decide +kernel
theorem dX5_spread_11 : decode mX5_spread.2.1 11 = .ok (.istore_n 3, 1) := by decide +kernel
theorem dX5_spread_12 : decode mX5_spread.2.1 12 = .ok (.iload_n 3, 1) := by decide +kernel
theorem dX5_spread_13 : decode mX5_spread.2.1 13 = .ok (.bipush 24, 2) := by decide +kernel
theorem dX5_spread_15 : decode mX5_spread.2.1 15 = .ok (.if_icmp .ge 24, 3) := by decide +kernel
theorem dX5_spread_18 : decode mX5_spread.2.1 18 = .ok (.iload_n 2, 1) := by decide +kernel
theorem dX5_spread_19 : decode mX5_spread.2.1 19 = .ok (.iload_n 3, 1) := by decide +kernel
theorem dX5_spread_20 : decode mX5_spread.2.1 20 = .ok (.iload_n 1, 1) := by decide +kernel
theorem dX5_spread_21 : decode mX5_spread.2.1 21 = .ok (.isub, 1) := by decide +kernel
theorem dX5_spread_22 : decode mX5_spread.2.1 22 = .ok (.invokestatic 218, 3) := by decide +kernel
theorem dX5_spread_25 : decode mX5_spread.2.1 25 = .ok (.aload_n 0, 1) := by decide +kernel
theorem dX5_spread_26 : decode mX5_spread.2.1 26 = .ok (.iload_n 3, 1) := by decide +kernel
theorem dX5_spread_27 : decode mX5_spread.2.1 27 = .ok (.invokevirtual 208, 3) := by decide +kernel
theorem dX5_spread_30 : decode mX5_spread.2.1 30 = .ok (.imul, 1) := by decide +kernel
theorem dX5_spread_31 : decode mX5_spread.2.1 31 = .ok (.iadd, 1) := by decide +kernel
theorem dX5_spread_32 : decode mX5_spread.2.1 32 = .ok (.istore_n 2, 1) := by decide +kernel
theorem dX5_spread_33 : decode mX5_spread.2.1 33 = .ok (.iinc 3 1, 3) := by decide +kernel
theorem dX5_spread_36 : decode mX5_spread.2.1 36 = .ok (.goto (-24), 3) := by decide +kernel
theorem dX5_spread_39 : decode mX5_spread.2.1 39 = .ok (.iload_n 2, 1) := by decide +kernel
theorem dX5_spread_40 : decode mX5_spread.2.1 40 = .ok (.ireturn, 1) := by decide +kernel
theorem dX5_writeLying_0 : decode mX5_writeLying.2.1 0 = .ok (.iconst 0, 1) := by decide +kernel
theorem dX5_writeLying_1 : decode mX5_writeLying.2.1 1 = .ok (.istore_n 2, 1) := by decide +kernel
theorem dX5_writeLying_2 : decode mX5_writeLying.2.1 2 = .ok (.iload_n 2, 1) := by decide +kernel
theorem dX5_writeLying_3 : decode mX5_writeLying.2.1 3 = .ok (.bipush 24, 2) := by decide +kernel
theorem dX5_writeLying_5 : decode mX5_writeLying.2.1 5 = .ok (.if_icmp .ge 23, 3) := by decide +kernel
theorem dX5_writeLying_8 : decode mX5_writeLying.2.1 8 = .ok (.iload_n 2, 1) := by decide +kernel
theorem dX5_writeLying_9 : decode mX5_writeLying.2.1 9 = .ok (.aload_n 1, 1) := by decide +kernel
theorem dX5_writeLying_10 : decode mX5_writeLying.2.1 10 = .ok (.arraylength, 1) := by decide +kernel
theorem dX5_writeLying_11 : decode mX5_writeLying.2.1 11 = .ok (.if_icmp .ge 17, 3) := by decide +kernel
theorem dX5_writeLying_14 : decode mX5_writeLying.2.1 14 = .ok (.aload_n 1, 1) := by decide +kernel
theorem dX5_writeLying_15 : decode mX5_writeLying.2.1 15 = .ok (.iload_n 2, 1) := by decide +kernel
theorem dX5_writeLying_16 : decode mX5_writeLying.2.1 16 = .ok (.aload_n 0, 1) := by decide +kernel
theorem dX5_writeLying_17 : decode mX5_writeLying.2.1 17 = .ok (.iload_n 2, 1) := by decide +kernel
theorem dX5_writeLying_18 : decode mX5_writeLying.2.1 18 = .ok (.invokevirtual 208, 3) := by decide +kernel
theorem dX5_writeLying_21 : decode mX5_writeLying.2.1 21 = .ok (.iastore, 1) := by decide +kernel
theorem dX5_writeLying_22 : decode mX5_writeLying.2.1 22 = .ok (.iinc 2 1, 3) := by decide +kernel
theorem dX5_writeLying_25 : decode mX5_writeLying.2.1 25 = .ok (.goto (-23), 3) := by decide +kernel
theorem dX5_writeLying_28 : decode mX5_writeLying.2.1 28 = .ok (.return_, 1) := by decide +kernel
theorem dX5_offFrom_0 : decode mX5_offFrom.2.1 0 = .ok (.iconst 0, 1) := by decide +kernel
theorem dX5_offFrom_1 : decode mX5_offFrom.2.1 1 = .ok (.istore_n 2, 1) := by decide +kernel
theorem dX5_offFrom_2 : decode mX5_offFrom.2.1 2 = .ok (.iconst 0, 1) := by decide +kernel
theorem dX5_offFrom_3 : decode mX5_offFrom.2.1 3 = .ok (.istore_n 3, 1) := by decide +kernel
theorem dX5_offFrom_4 : decode mX5_offFrom.2.1 4 = .ok (.iload_n 3, 1) := by decide +kernel
theorem dX5_offFrom_5 : decode mX5_offFrom.2.1 5 = .ok (.bipush 24, 2) := by decide +kernel
theorem dX5_offFrom_7 : decode mX5_offFrom.2.1 7 = .ok (.if_icmp .ge 30, 3) := by decide +kernel
theorem dX5_offFrom_10 : decode mX5_offFrom.2.1 10 = .ok (.iload_n 3, 1) := by decide +kernel
theorem dX5_offFrom_11 : decode mX5_offFrom.2.1 11 = .ok (.aload_n 1, 1) := by decide +kernel
theorem dX5_offFrom_12 : decode mX5_offFrom.2.1 12 = .ok (.arraylength, 1) := by decide +kernel
theorem dX5_offFrom_13 : decode mX5_offFrom.2.1 13 = .ok (.if_icmp .ge 24, 3) := by decide +kernel
theorem dX5_offFrom_16 : decode mX5_offFrom.2.1 16 = .ok (.iload_n 2, 1) := by decide +kernel
theorem dX5_offFrom_17 : decode mX5_offFrom.2.1 17 = .ok (.aload_n 0, 1) := by decide +kernel
theorem dX5_offFrom_18 : decode mX5_offFrom.2.1 18 = .ok (.iload_n 3, 1) := by decide +kernel
theorem dX5_offFrom_19 : decode mX5_offFrom.2.1 19 = .ok (.invokevirtual 208, 3) := by decide +kernel
theorem dX5_offFrom_22 : decode mX5_offFrom.2.1 22 = .ok (.aload_n 1, 1) := by decide +kernel
theorem dX5_offFrom_23 : decode mX5_offFrom.2.1 23 = .ok (.iload_n 3, 1) := by decide +kernel
theorem dX5_offFrom_24 : decode mX5_offFrom.2.1 24 = .ok (.iaload, 1) := by decide +kernel
theorem dX5_offFrom_25 : decode mX5_offFrom.2.1 25 = .ok (.isub, 1) := by decide +kernel
theorem dX5_offFrom_26 : decode mX5_offFrom.2.1 26 = .ok (.invokestatic 218, 3) := by decide +kernel
theorem dX5_offFrom_29 : decode mX5_offFrom.2.1 29 = .ok (.iadd, 1) := by decide +kernel
theorem dX5_offFrom_30 : decode mX5_offFrom.2.1 30 = .ok (.istore_n 2, 1) := by decide +kernel
theorem dX5_offFrom_31 : decode mX5_offFrom.2.1 31 = .ok (.iinc 3 1, 3) := by decide +kernel
theorem dX5_offFrom_34 : decode mX5_offFrom.2.1 34 = .ok (.goto (-30), 3) := by decide +kernel
theorem dX5_offFrom_37 : decode mX5_offFrom.2.1 37 = .ok (.iload_n 2, 1) := by decide +kernel
theorem dX5_offFrom_38 : decode mX5_offFrom.2.1 38 = .ok (.ireturn, 1) := by decide +kernel
theorem dX5_farthestFrom_0 : decode mX5_farthestFrom.2.1 0 = .ok (.iconst 0, 1) := by decide +kernel
theorem dX5_farthestFrom_1 : decode mX5_farthestFrom.2.1 1 = .ok (.istore_n 2, 1) := by decide +kernel
theorem dX5_farthestFrom_2 : decode mX5_farthestFrom.2.1 2 = .ok (.iconst 0, 1) := by decide +kernel
theorem dX5_farthestFrom_3 : decode mX5_farthestFrom.2.1 3 = .ok (.istore_n 3, 1) := by decide +kernel
theorem dX5_farthestFrom_4 : decode mX5_farthestFrom.2.1 4 = .ok (.iload_n 3, 1) := by decide +kernel
theorem dX5_farthestFrom_5 : decode mX5_farthestFrom.2.1 5 = .ok (.bipush 24, 2) := by decide +kernel
theorem dX5_farthestFrom_7 : decode mX5_farthestFrom.2.1 7 = .ok (.if_icmp .ge 32, 3) := by decide +kernel
theorem dX5_farthestFrom_10 : decode mX5_farthestFrom.2.1 10 = .ok (.iload_n 3, 1) := by decide +kernel
theorem dX5_farthestFrom_11 : decode mX5_farthestFrom.2.1 11 = .ok (.aload_n 1, 1) := by decide +kernel
theorem dX5_farthestFrom_12 : decode mX5_farthestFrom.2.1 12 = .ok (.arraylength, 1) := by decide +kernel
theorem dX5_farthestFrom_13 : decode mX5_farthestFrom.2.1 13 = .ok (.if_icmp .ge 26, 3) := by decide +kernel
theorem dX5_farthestFrom_16 : decode mX5_farthestFrom.2.1 16 = .ok (.iload_n 2, 1) := by decide +kernel
theorem dX5_farthestFrom_17 : decode mX5_farthestFrom.2.1 17 = .ok (.aload_n 0, 1) := by decide +kernel
theorem dX5_farthestFrom_18 : decode mX5_farthestFrom.2.1 18 = .ok (.iload_n 3, 1) := by decide +kernel
theorem dX5_farthestFrom_19 : decode mX5_farthestFrom.2.1 19 = .ok (.invokevirtual 208, 3) := by decide +kernel
theorem dX5_farthestFrom_22 : decode mX5_farthestFrom.2.1 22 = .ok (.aload_n 1, 1) := by decide +kernel
theorem dX5_farthestFrom_23 : decode mX5_farthestFrom.2.1 23 = .ok (.iload_n 3, 1) := by decide +kernel
theorem dX5_farthestFrom_24 : decode mX5_farthestFrom.2.1 24 = .ok (.iaload, 1) := by decide +kernel
theorem dX5_farthestFrom_25 : decode mX5_farthestFrom.2.1 25 = .ok (.isub, 1) := by decide +kernel
theorem dX5_farthestFrom_26 : decode mX5_farthestFrom.2.1 26 = .ok (.invokestatic 218, 3) := by decide +kernel
theorem dX5_farthestFrom_29 : decode mX5_farthestFrom.2.1 29 = .ok (.invokestatic 162, 3) := by decide +kernel
theorem dX5_farthestFrom_32 : decode mX5_farthestFrom.2.1 32 = .ok (.istore_n 2, 1) := by decide +kernel
theorem dX5_farthestFrom_33 : decode mX5_farthestFrom.2.1 33 = .ok (.iinc 3 1, 3) := by decide +kernel
theorem dX5_farthestFrom_36 : decode mX5_farthestFrom.2.1 36 = .ok (.goto (-32), 3) := by decide +kernel
theorem dX5_farthestFrom_39 : decode mX5_farthestFrom.2.1 39 = .ok (.iload_n 2, 1) := by decide +kernel
theorem dX5_farthestFrom_40 : decode mX5_farthestFrom.2.1 40 = .ok (.ireturn, 1) := by decide +kernel
theorem dX5_copy_0 : decode mX5_copy.2.1 0 = .ok (.aload_n 1, 1) := by decide +kernel
theorem dX5_copy_1 : decode mX5_copy.2.1 1 = .ok (.getfield 9, 3) := by decide +kernel
theorem dX5_copy_4 : decode mX5_copy.2.1 4 = .ok (.iconst 0, 1) := by decide +kernel
theorem dX5_copy_5 : decode mX5_copy.2.1 5 = .ok (.aload_n 0, 1) := by decide +kernel
theorem dX5_copy_6 : decode mX5_copy.2.1 6 = .ok (.getfield 9, 3) := by decide +kernel
theorem dX5_copy_9 : decode mX5_copy.2.1 9 = .ok (.iconst 0, 1) := by decide +kernel
theorem dX5_copy_10 : decode mX5_copy.2.1 10 = .ok (.bipush 24, 2) := by decide +kernel
theorem dX5_copy_12 : decode mX5_copy.2.1 12 = .ok (.invokestatic 221, 3) := by decide +kernel
theorem dX5_copy_15 : decode mX5_copy.2.1 15 = .ok (.aload_n 1, 1) := by decide +kernel
theorem dX5_copy_16 : decode mX5_copy.2.1 16 = .ok (.getfield 37, 3) := by decide +kernel
theorem dX5_copy_19 : decode mX5_copy.2.1 19 = .ok (.iconst 0, 1) := by decide +kernel
theorem dX5_copy_20 : decode mX5_copy.2.1 20 = .ok (.aload_n 0, 1) := by decide +kernel
theorem dX5_copy_21 : decode mX5_copy.2.1 21 = .ok (.getfield 37, 3) := by decide +kernel
theorem dX5_copy_24 : decode mX5_copy.2.1 24 = .ok (.iconst 0, 1) := by decide +kernel
theorem dX5_copy_25 : decode mX5_copy.2.1 25 = .ok (.bipush 24, 2) := by decide +kernel
theorem dX5_copy_27 : decode mX5_copy.2.1 27 = .ok (.invokestatic 221, 3) := by decide +kernel
theorem dX5_copy_30 : decode mX5_copy.2.1 30 = .ok (.aload_n 1, 1) := by decide +kernel
theorem dX5_copy_31 : decode mX5_copy.2.1 31 = .ok (.getfield 40, 3) := by decide +kernel
theorem dX5_copy_34 : decode mX5_copy.2.1 34 = .ok (.iconst 0, 1) := by decide +kernel
theorem dX5_copy_35 : decode mX5_copy.2.1 35 = .ok (.aload_n 0, 1) := by decide +kernel
theorem dX5_copy_36 : decode mX5_copy.2.1 36 = .ok (.getfield 40, 3) := by decide +kernel
theorem dX5_copy_39 : decode mX5_copy.2.1 39 = .ok (.iconst 0, 1) := by decide +kernel
theorem dX5_copy_40 : decode mX5_copy.2.1 40 = .ok (.bipush 24, 2) := by decide +kernel
theorem dX5_copy_42 : decode mX5_copy.2.1 42 = .ok (.invokestatic 221, 3) := by decide +kernel
theorem dX5_copy_45 : decode mX5_copy.2.1 45 = .ok (.aload_n 1, 1) := by decide +kernel
theorem dX5_copy_46 : decode mX5_copy.2.1 46 = .ok (.getfield 43, 3) := by decide +kernel
theorem dX5_copy_49 : decode mX5_copy.2.1 49 = .ok (.iconst 0, 1) := by decide +kernel
theorem dX5_copy_50 : decode mX5_copy.2.1 50 = .ok (.aload_n 0, 1) := by decide +kernel
theorem dX5_copy_51 : decode mX5_copy.2.1 51 = .ok (.getfield 43, 3) := by decide +kernel
theorem dX5_copy_54 : decode mX5_copy.2.1 54 = .ok (.iconst 0, 1) := by decide +kernel
theorem dX5_copy_55 : decode mX5_copy.2.1 55 = .ok (.bipush 120, 2) := by decide +kernel
theorem dX5_copy_57 : decode mX5_copy.2.1 57 = .ok (.invokestatic 221, 3) := by decide +kernel
theorem dX5_copy_60 : decode mX5_copy.2.1 60 = .ok (.iconst 0, 1) := by decide +kernel
theorem dX5_copy_61 : decode mX5_copy.2.1 61 = .ok (.istore_n 2, 1) := by decide +kernel
theorem dX5_copy_62 : decode mX5_copy.2.1 62 = .ok (.iload_n 2, 1) := by decide +kernel
theorem dX5_copy_63 : decode mX5_copy.2.1 63 = .ok (.iconst 2, 1) := by decide +kernel
theorem dX5_copy_64 : decode mX5_copy.2.1 64 = .ok (.if_icmp .ge 47, 3) := by decide +kernel
theorem dX5_copy_67 : decode mX5_copy.2.1 67 = .ok (.aload_n 1, 1) := by decide +kernel
theorem dX5_copy_68 : decode mX5_copy.2.1 68 = .ok (.getfield 31, 3) := by decide +kernel
theorem dX5_copy_71 : decode mX5_copy.2.1 71 = .ok (.iload_n 2, 1) := by decide +kernel
theorem dX5_copy_72 : decode mX5_copy.2.1 72 = .ok (.aaload, 1) := by decide +kernel
theorem dX5_copy_73 : decode mX5_copy.2.1 73 = .ok (.iconst 0, 1) := by decide +kernel
theorem dX5_copy_74 : decode mX5_copy.2.1 74 = .ok (.aload_n 0, 1) := by decide +kernel
theorem dX5_copy_75 : decode mX5_copy.2.1 75 = .ok (.getfield 31, 3) := by decide +kernel
theorem dX5_copy_78 : decode mX5_copy.2.1 78 = .ok (.iload_n 2, 1) := by decide +kernel
theorem dX5_copy_79 : decode mX5_copy.2.1 79 = .ok (.aaload, 1) := by decide +kernel
theorem dX5_copy_80 : decode mX5_copy.2.1 80 = .ok (.iconst 0, 1) := by decide +kernel
theorem dX5_copy_81 : decode mX5_copy.2.1 81 = .ok (.bipush 24, 2) := by decide +kernel
theorem dX5_copy_83 : decode mX5_copy.2.1 83 = .ok (.invokestatic 221, 3) := by decide +kernel
theorem dX5_copy_86 : decode mX5_copy.2.1 86 = .ok (.aload_n 1, 1) := by decide +kernel
theorem dX5_copy_87 : decode mX5_copy.2.1 87 = .ok (.getfield 34, 3) := by decide +kernel
theorem dX5_copy_90 : decode mX5_copy.2.1 90 = .ok (.iload_n 2, 1) := by decide +kernel
theorem dX5_copy_91 : decode mX5_copy.2.1 91 = .ok (.aaload, 1) := by decide +kernel
theorem dX5_copy_92 : decode mX5_copy.2.1 92 = .ok (.iconst 0, 1) := by decide +kernel
theorem dX5_copy_93 : decode mX5_copy.2.1 93 = .ok (.aload_n 0, 1) := by decide +kernel
theorem dX5_copy_94 : decode mX5_copy.2.1 94 = .ok (.getfield 34, 3) := by decide +kernel
theorem dX5_copy_97 : decode mX5_copy.2.1 97 = .ok (.iload_n 2, 1) := by decide +kernel
theorem dX5_copy_98 : decode mX5_copy.2.1 98 = .ok (.aaload, 1) := by decide +kernel
theorem dX5_copy_99 : decode mX5_copy.2.1 99 = .ok (.iconst 0, 1) := by decide +kernel
theorem dX5_copy_100 : decode mX5_copy.2.1 100 = .ok (.bipush 24, 2) := by decide +kernel
theorem dX5_copy_102 : decode mX5_copy.2.1 102 = .ok (.invokestatic 221, 3) := by decide +kernel
theorem dX5_copy_105 : decode mX5_copy.2.1 105 = .ok (.iinc 2 1, 3) := by decide +kernel
theorem dX5_copy_108 : decode mX5_copy.2.1 108 = .ok (.goto (-46), 3) := by decide +kernel
theorem dX5_copy_111 : decode mX5_copy.2.1 111 = .ok (.iconst 0, 1) := by decide +kernel
theorem dX5_copy_112 : decode mX5_copy.2.1 112 = .ok (.istore_n 2, 1) := by decide +kernel
theorem dX5_copy_113 : decode mX5_copy.2.1 113 = .ok (.iload_n 2, 1) := by decide +kernel
theorem dX5_copy_114 : decode mX5_copy.2.1 114 = .ok (.aload_n 1, 1) := by decide +kernel
theorem dX5_copy_115 : decode mX5_copy.2.1 115 = .ok (.getfield 53, 3) := by decide +kernel
theorem dX5_copy_118 : decode mX5_copy.2.1 118 = .ok (.if_icmp .ge 33, 3) := by decide +kernel
theorem dX5_copy_121 : decode mX5_copy.2.1 121 = .ok (.iload_n 2, 1) := by decide +kernel
theorem dX5_copy_122 : decode mX5_copy.2.1 122 = .ok (.aload_n 0, 1) := by decide +kernel
theorem dX5_copy_123 : decode mX5_copy.2.1 123 = .ok (.getfield 48, 3) := by decide +kernel
theorem dX5_copy_126 : decode mX5_copy.2.1 126 = .ok (.arraylength, 1) := by decide +kernel
theorem dX5_copy_127 : decode mX5_copy.2.1 127 = .ok (.if_icmp .ge 24, 3) := by decide +kernel
theorem dX5_copy_130 : decode mX5_copy.2.1 130 = .ok (.aload_n 0, 1) := by decide +kernel
theorem dX5_copy_131 : decode mX5_copy.2.1 131 = .ok (.getfield 48, 3) := by decide +kernel
theorem dX5_copy_134 : decode mX5_copy.2.1 134 = .ok (.iload_n 2, 1) := by decide +kernel
theorem dX5_copy_135 : decode mX5_copy.2.1 135 = .ok (.aaload, 1) := by decide +kernel
theorem dX5_copy_136 : decode mX5_copy.2.1 136 = .ok (.aload_n 1, 1) := by decide +kernel
theorem dX5_copy_137 : decode mX5_copy.2.1 137 = .ok (.getfield 48, 3) := by decide +kernel
theorem dX5_copy_140 : decode mX5_copy.2.1 140 = .ok (.iload_n 2, 1) := by decide +kernel
theorem dX5_copy_141 : decode mX5_copy.2.1 141 = .ok (.aaload, 1) := by decide +kernel
theorem dX5_copy_142 : decode mX5_copy.2.1 142 = .ok (.invokevirtual 227, 3) := by decide +kernel
theorem dX5_copy_145 : decode mX5_copy.2.1 145 = .ok (.iinc 2 1, 3) := by decide +kernel
theorem dX5_copy_148 : decode mX5_copy.2.1 148 = .ok (.goto (-35), 3) := by decide +kernel
theorem dX5_copy_151 : decode mX5_copy.2.1 151 = .ok (.aload_n 0, 1) := by decide +kernel
theorem dX5_copy_152 : decode mX5_copy.2.1 152 = .ok (.aload_n 1, 1) := by decide +kernel
theorem dX5_copy_153 : decode mX5_copy.2.1 153 = .ok (.getfield 53, 3) := by decide +kernel
theorem dX5_copy_156 : decode mX5_copy.2.1 156 = .ok (.putfield 53, 3) := by decide +kernel
theorem dX5_copy_159 : decode mX5_copy.2.1 159 = .ok (.aload_n 0, 1) := by decide +kernel
theorem dX5_copy_160 : decode mX5_copy.2.1 160 = .ok (.aload_n 1, 1) := by decide +kernel
theorem dX5_copy_161 : decode mX5_copy.2.1 161 = .ok (.getfield 57, 3) := by decide +kernel
theorem dX5_copy_164 : decode mX5_copy.2.1 164 = .ok (.putfield 57, 3) := by decide +kernel
theorem dX5_copy_167 : decode mX5_copy.2.1 167 = .ok (.aload_n 0, 1) := by decide +kernel
theorem dX5_copy_168 : decode mX5_copy.2.1 168 = .ok (.aload_n 1, 1) := by decide +kernel
theorem dX5_copy_169 : decode mX5_copy.2.1 169 = .ok (.getfield 60, 3) := by decide +kernel
theorem dX5_copy_172 : decode mX5_copy.2.1 172 = .ok (.putfield 60, 3) := by decide +kernel
theorem dX5_copy_175 : decode mX5_copy.2.1 175 = .ok (.aload_n 0, 1) := by decide +kernel
theorem dX5_copy_176 : decode mX5_copy.2.1 176 = .ok (.aload_n 1, 1) := by decide +kernel
theorem dX5_copy_177 : decode mX5_copy.2.1 177 = .ok (.getfield 63, 3) := by decide +kernel
theorem dX5_copy_180 : decode mX5_copy.2.1 180 = .ok (.putfield 63, 3) := by decide +kernel
theorem dX5_copy_183 : decode mX5_copy.2.1 183 = .ok (.aload_n 0, 1) := by decide +kernel
theorem dX5_copy_184 : decode mX5_copy.2.1 184 = .ok (.aload_n 1, 1) := by decide +kernel
theorem dX5_copy_185 : decode mX5_copy.2.1 185 = .ok (.getfield 67, 3) := by decide +kernel
theorem dX5_copy_188 : decode mX5_copy.2.1 188 = .ok (.putfield 67, 3) := by decide +kernel
theorem dX5_copy_191 : decode mX5_copy.2.1 191 = .ok (.aload_n 0, 1) := by decide +kernel
theorem dX5_copy_192 : decode mX5_copy.2.1 192 = .ok (.aload_n 1, 1) := by decide +kernel
theorem dX5_copy_193 : decode mX5_copy.2.1 193 = .ok (.getfield 71, 3) := by decide +kernel
theorem dX5_copy_196 : decode mX5_copy.2.1 196 = .ok (.putfield 71, 3) := by decide +kernel
theorem dX5_copy_199 : decode mX5_copy.2.1 199 = .ok (.aload_n 0, 1) := by decide +kernel
theorem dX5_copy_200 : decode mX5_copy.2.1 200 = .ok (.aload_n 1, 1) := by decide +kernel
theorem dX5_copy_201 : decode mX5_copy.2.1 201 = .ok (.getfield 74, 3) := by decide +kernel
theorem dX5_copy_204 : decode mX5_copy.2.1 204 = .ok (.putfield 74, 3) := by decide +kernel
theorem dX5_copy_207 : decode mX5_copy.2.1 207 = .ok (.aload_n 0, 1) := by decide +kernel
theorem dX5_copy_208 : decode mX5_copy.2.1 208 = .ok (.aload_n 1, 1) := by decide +kernel
theorem dX5_copy_209 : decode mX5_copy.2.1 209 = .ok (.getfield 77, 3) := by decide +kernel
theorem dX5_copy_212 : decode mX5_copy.2.1 212 = .ok (.putfield 77, 3) := by decide +kernel
theorem dX5_copy_215 : decode mX5_copy.2.1 215 = .ok (.aload_n 0, 1) := by decide +kernel
theorem dX5_copy_216 : decode mX5_copy.2.1 216 = .ok (.aload_n 1, 1) := by decide +kernel
theorem dX5_copy_217 : decode mX5_copy.2.1 217 = .ok (.getfield 80, 3) := by decide +kernel
theorem dX5_copy_220 : decode mX5_copy.2.1 220 = .ok (.putfield 80, 3) := by decide +kernel
theorem dX5_copy_223 : decode mX5_copy.2.1 223 = .ok (.aload_n 0, 1) := by decide +kernel
theorem dX5_copy_224 : decode mX5_copy.2.1 224 = .ok (.aload_n 1, 1) := by decide +kernel
theorem dX5_copy_225 : decode mX5_copy.2.1 225 = .ok (.getfield 83, 3) := by decide +kernel
theorem dX5_copy_228 : decode mX5_copy.2.1 228 = .ok (.putfield 83, 3) := by decide +kernel
theorem dX5_copy_231 : decode mX5_copy.2.1 231 = .ok (.return_, 1) := by decide +kernel
