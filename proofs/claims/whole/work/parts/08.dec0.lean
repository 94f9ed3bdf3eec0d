/-! decode rows -/
theorem dX0_init_0 : decode mX0_init.2.1 0 = .ok (.aload_n 0, 1) := by decide +kernel
theorem dX0_init_1 : decode mX0_init.2.1 1 = .ok (.invokespecial 3, 3) := by decide +kernel
theorem dX0_init_4 : decode mX0_init.2.1 4 = .ok (.aload_n 0, 1) := by decide +kernel
theorem dX0_init_5 : decode mX0_init.2.1 5 = .ok (.bipush 12, 2) := by decide +kernel
theorem dX0_init_7 : decode mX0_init.2.1 7 = .ok (.newarray .int, 2) := by decide +kernel
theorem dX0_init_9 : decode mX0_init.2.1 9 = .ok (.putfield 9, 3) := by decide +kernel
theorem dX0_init_12 : decode mX0_init.2.1 12 = .ok (.return_, 1) := by decide +kernel
theorem dX0_become_0 : decode mX0_become.2.1 0 = .ok (.aload_n 1, 1) := by decide +kernel
theorem dX0_become_1 : decode mX0_become.2.1 1 = .ok (.iconst 0, 1) := by decide +kernel
theorem dX0_become_2 : decode mX0_become.2.1 2 = .ok (.aload_n 0, 1) := by decide +kernel
theorem dX0_become_3 : decode mX0_become.2.1 3 = .ok (.getfield 9, 3) := by decide +kernel
theorem dX0_become_6 : decode mX0_become.2.1 6 = .ok (.iconst 0, 1) := by decide +kernel
theorem dX0_become_7 : decode mX0_become.2.1 7 = .ok (.bipush 12, 2) := by decide +kernel
theorem dX0_become_9 : decode mX0_become.2.1 9 = .ok (.invokestatic 15, 3) := by decide +kernel
theorem dX0_become_12 : decode mX0_become.2.1 12 = .ok (.aload_n 0, 1) := by decide +kernel
theorem dX0_become_13 : decode mX0_become.2.1 13 = .ok (.iload_n 2, 1) := by decide +kernel
theorem dX0_become_14 : decode mX0_become.2.1 14 = .ok (.putfield 21, 3) := by decide +kernel
theorem dX0_become_17 : decode mX0_become.2.1 17 = .ok (.aload_n 0, 1) := by decide +kernel
theorem dX0_become_18 : decode mX0_become.2.1 18 = .ok (.iload_n 3, 1) := by decide +kernel
theorem dX0_become_19 : decode mX0_become.2.1 19 = .ok (.putfield 25, 3) := by decide +kernel
theorem dX0_become_22 : decode mX0_become.2.1 22 = .ok (.aload_n 0, 1) := by decide +kernel
theorem dX0_become_23 : decode mX0_become.2.1 23 = .ok (.iload_n 3, 1) := by decide +kernel
theorem dX0_become_24 : decode mX0_become.2.1 24 = .ok (.aload_n 1, 1) := by decide +kernel
theorem dX0_become_25 : decode mX0_become.2.1 25 = .ok (.iconst 1, 1) := by decide +kernel
theorem dX0_become_26 : decode mX0_become.2.1 26 = .ok (.iaload, 1) := by decide +kernel
theorem dX0_become_27 : decode mX0_become.2.1 27 = .ok (.iadd, 1) := by decide +kernel
theorem dX0_become_28 : decode mX0_become.2.1 28 = .ok (.iconst 1, 1) := by decide +kernel
theorem dX0_become_29 : decode mX0_become.2.1 29 = .ok (.isub, 1) := by decide +kernel
theorem dX0_become_30 : decode mX0_become.2.1 30 = .ok (.putfield 28, 3) := by decide +kernel
theorem dX0_become_33 : decode mX0_become.2.1 33 = .ok (.aload_n 0, 1) := by decide +kernel
theorem dX0_become_34 : decode mX0_become.2.1 34 = .ok (.iconst 0, 1) := by decide +kernel
theorem dX0_become_35 : decode mX0_become.2.1 35 = .ok (.putfield 31, 3) := by decide +kernel
theorem dX0_become_38 : decode mX0_become.2.1 38 = .ok (.return_, 1) := by decide +kernel
theorem dX0_takeIn_0 : decode mX0_takeIn.2.1 0 = .ok (.aload_n 0, 1) := by decide +kernel
theorem dX0_takeIn_1 : decode mX0_takeIn.2.1 1 = .ok (.getfield 9, 3) := by decide +kernel
theorem dX0_takeIn_4 : decode mX0_takeIn.2.1 4 = .ok (.iconst 2, 1) := by decide +kernel
theorem dX0_takeIn_5 : decode mX0_takeIn.2.1 5 = .ok (.iaload, 1) := by decide +kernel
theorem dX0_takeIn_6 : decode mX0_takeIn.2.1 6 = .ok (.aload_n 1, 1) := by decide +kernel
theorem dX0_takeIn_7 : decode mX0_takeIn.2.1 7 = .ok (.iconst 2, 1) := by decide +kernel
theorem dX0_takeIn_8 : decode mX0_takeIn.2.1 8 = .ok (.iaload, 1) := by decide +kernel
theorem dX0_takeIn_9 : decode mX0_takeIn.2.1 9 = .ok (.iadd, 1) := by decide +kernel
theorem dX0_takeIn_10 : decode mX0_takeIn.2.1 10 = .ok (.istore_n 3, 1) := by decide +kernel
theorem dX0_takeIn_11 : decode mX0_takeIn.2.1 11 = .ok (.aload_n 0, 1) := by decide +kernel
theorem dX0_takeIn_12 : decode mX0_takeIn.2.1 12 = .ok (.getfield 9, 3) := by decide +kernel
theorem dX0_takeIn_15 : decode mX0_takeIn.2.1 15 = .ok (.iconst 3, 1) := by decide +kernel
theorem dX0_takeIn_16 : decode mX0_takeIn.2.1 16 = .ok (.iaload, 1) := by decide +kernel
theorem dX0_takeIn_17 : decode mX0_takeIn.2.1 17 = .ok (.aload_n 1, 1) := by decide +kernel
theorem dX0_takeIn_18 : decode mX0_takeIn.2.1 18 = .ok (.iconst 3, 1) := by decide +kernel
theorem dX0_takeIn_19 : decode mX0_takeIn.2.1 19 = .ok (.iaload, 1) := by decide +kernel
theorem dX0_takeIn_20 : decode mX0_takeIn.2.1 20 = .ok (.iadd, 1) := by decide +kernel
theorem dX0_takeIn_21 : decode mX0_takeIn.2.1 21 = .ok (.istore 4, 2) := by decide +kernel
theorem dX0_takeIn_23 : decode mX0_takeIn.2.1 23 = .ok (.aload_n 0, 1) := by decide +kernel
theorem dX0_takeIn_24 : decode mX0_takeIn.2.1 24 = .ok (.getfield 9, 3) := by decide +kernel
theorem dX0_takeIn_27 : decode mX0_takeIn.2.1 27 = .ok (.iconst 4, 1) := by decide +kernel
theorem dX0_takeIn_28 : decode mX0_takeIn.2.1 28 = .ok (.iaload, 1) := by decide +kernel
theorem dX0_takeIn_29 : decode mX0_takeIn.2.1 29 = .ok (.aload_n 1, 1) := by decide +kernel
theorem dX0_takeIn_30 : decode mX0_takeIn.2.1 30 = .ok (.iconst 4, 1) := by decide +kernel
theorem dX0_takeIn_31 : decode mX0_takeIn.2.1 31 = .ok (.iaload, 1) := by decide +kernel
theorem dX0_takeIn_32 : decode mX0_takeIn.2.1 32 = .ok (.iadd, 1) := by decide +kernel
theorem dX0_takeIn_33 : decode mX0_takeIn.2.1 33 = .ok (.istore 5, 2) := by decide +kernel
theorem dX0_takeIn_35 : decode mX0_takeIn.2.1 35 = .ok (.iload_n 2, 1) := by decide +kernel
theorem dX0_takeIn_36 : decode mX0_takeIn.2.1 36 = .ok (.aload_n 0, 1) := by decide +kernel
theorem dX0_takeIn_37 : decode mX0_takeIn.2.1 37 = .ok (.getfield 21, 3) := by decide +kernel
theorem dX0_takeIn_40 : decode mX0_takeIn.2.1 40 = .ok (.if_icmp .ge 20, 3) := by decide +kernel
theorem dX0_takeIn_43 : decode mX0_takeIn.2.1 43 = .ok (.aload_n 1, 1) := by decide +kernel
theorem dX0_takeIn_44 : decode mX0_takeIn.2.1 44 = .ok (.iconst 0, 1) := by decide +kernel
theorem dX0_takeIn_45 : decode mX0_takeIn.2.1 45 = .ok (.aload_n 0, 1) := by decide +kernel
theorem dX0_takeIn_46 : decode mX0_takeIn.2.1 46 = .ok (.getfield 9, 3) := by decide +kernel
theorem dX0_takeIn_49 : decode mX0_takeIn.2.1 49 = .ok (.iconst 0, 1) := by decide +kernel
theorem dX0_takeIn_50 : decode mX0_takeIn.2.1 50 = .ok (.bipush 12, 2) := by decide +kernel
theorem dX0_takeIn_52 : decode mX0_takeIn.2.1 52 = .ok (.invokestatic 15, 3) := by decide +kernel
theorem dX0_takeIn_55 : decode mX0_takeIn.2.1 55 = .ok (.aload_n 0, 1) := by decide +kernel
theorem dX0_takeIn_56 : decode mX0_takeIn.2.1 56 = .ok (.iload_n 2, 1) := by decide +kernel
theorem dX0_takeIn_57 : decode mX0_takeIn.2.1 57 = .ok (.putfield 21, 3) := by decide +kernel
theorem dX0_takeIn_60 : decode mX0_takeIn.2.1 60 = .ok (.aload_n 0, 1) := by decide +kernel
theorem dX0_takeIn_61 : decode mX0_takeIn.2.1 61 = .ok (.getfield 9, 3) := by decide +kernel
theorem dX0_takeIn_64 : decode mX0_takeIn.2.1 64 = .ok (.iconst 2, 1) := by decide +kernel
theorem dX0_takeIn_65 : decode mX0_takeIn.2.1 65 = .ok (.iload_n 3, 1) := by decide +kernel
theorem dX0_takeIn_66 : decode mX0_takeIn.2.1 66 = .ok (.iastore, 1) := by decide +kernel
theorem dX0_takeIn_67 : decode mX0_takeIn.2.1 67 = .ok (.aload_n 0, 1) := by decide +kernel
theorem dX0_takeIn_68 : decode mX0_takeIn.2.1 68 = .ok (.getfield 9, 3) := by decide +kernel
theorem dX0_takeIn_71 : decode mX0_takeIn.2.1 71 = .ok (.iconst 3, 1) := by decide +kernel
theorem dX0_takeIn_72 : decode mX0_takeIn.2.1 72 = .ok (.iload 4, 2) := by decide +kernel
theorem dX0_takeIn_74 : decode mX0_takeIn.2.1 74 = .ok (.iastore, 1) := by decide +kernel
theorem dX0_takeIn_75 : decode mX0_takeIn.2.1 75 = .ok (.aload_n 0, 1) := by decide +kernel
theorem dX0_takeIn_76 : decode mX0_takeIn.2.1 76 = .ok (.getfield 9, 3) := by decide +kernel
theorem dX0_takeIn_79 : decode mX0_takeIn.2.1 79 = .ok (.iconst 4, 1) := by decide +kernel
theorem dX0_takeIn_80 : decode mX0_takeIn.2.1 80 = .ok (.iload 5, 2) := by decide +kernel
theorem dX0_takeIn_82 : decode mX0_takeIn.2.1 82 = .ok (.iastore, 1) := by decide +kernel
theorem dX0_takeIn_83 : decode mX0_takeIn.2.1 83 = .ok (.aload_n 0, 1) := by decide +kernel
theorem dX0_takeIn_84 : decode mX0_takeIn.2.1 84 = .ok (.dup, 1) := by decide +kernel
theorem dX0_takeIn_85 : decode mX0_takeIn.2.1 85 = .ok (.getfield 28, 3) := by decide +kernel
theorem dX0_takeIn_88 : decode mX0_takeIn.2.1 88 = .ok (.aload_n 1, 1) := by decide +kernel
theorem dX0_takeIn_89 : decode mX0_takeIn.2.1 89 = .ok (.iconst 1, 1) := by decide +kernel
theorem dX0_takeIn_90 : decode mX0_takeIn.2.1 90 = .ok (.iaload, 1) := by decide +kernel
theorem dX0_takeIn_91 : decode mX0_takeIn.2.1 91 = .ok (.iadd, 1) := by decide +kernel
theorem dX0_takeIn_92 : decode mX0_takeIn.2.1 92 = .ok (.putfield 28, 3) := by decide +kernel
theorem dX0_takeIn_95 : decode mX0_takeIn.2.1 95 = .ok (.return_, 1) := by decide +kernel
theorem dX0_copy_0 : decode mX0_copy.2.1 0 = .ok (.aload_n 1, 1) := by decide +kernel
theorem dX0_copy_1 : decode mX0_copy.2.1 1 = .ok (.getfield 9, 3) := by decide +kernel
theorem dX0_copy_4 : decode mX0_copy.2.1 4 = .ok (.iconst 0, 1) := by decide +kernel
theorem dX0_copy_5 : decode mX0_copy.2.1 5 = .ok (.aload_n 0, 1) := by decide +kernel
theorem dX0_copy_6 : decode mX0_copy.2.1 6 = .ok (.getfield 9, 3) := by decide +kernel
theorem dX0_copy_9 : decode mX0_copy.2.1 9 = .ok (.iconst 0, 1) := by decide +kernel
theorem dX0_copy_10 : decode mX0_copy.2.1 10 = .ok (.bipush 12, 2) := by decide +kernel
theorem dX0_copy_12 : decode mX0_copy.2.1 12 = .ok (.invokestatic 15, 3) := by decide +kernel
theorem dX0_copy_15 : decode mX0_copy.2.1 15 = .ok (.aload_n 0, 1) := by decide +kernel
theorem dX0_copy_16 : decode mX0_copy.2.1 16 = .ok (.aload_n 1, 1) := by decide +kernel
theorem dX0_copy_17 : decode mX0_copy.2.1 17 = .ok (.getfield 21, 3) := by decide +kernel
theorem dX0_copy_20 : decode mX0_copy.2.1 20 = .ok (.putfield 21, 3) := by decide +kernel
theorem dX0_copy_23 : decode mX0_copy.2.1 23 = .ok (.aload_n 0, 1) := by decide +kernel
theorem dX0_copy_24 : decode mX0_copy.2.1 24 = .ok (.aload_n 1, 1) := by decide +kernel
theorem dX0_copy_25 : decode mX0_copy.2.1 25 = .ok (.getfield 25, 3) := by decide +kernel
theorem dX0_copy_28 : decode mX0_copy.2.1 28 = .ok (.putfield 25, 3) := by decide +kernel
theorem dX0_copy_31 : decode mX0_copy.2.1 31 = .ok (.aload_n 0, 1) := by decide +kernel
theorem dX0_copy_32 : decode mX0_copy.2.1 32 = .ok (.aload_n 1, 1) := by decide +kernel
theorem dX0_copy_33 : decode mX0_copy.2.1 33 = .ok (.getfield 28, 3) := by decide +kernel
theorem dX0_copy_36 : decode mX0_copy.2.1 36 = .ok (.putfield 28, 3) := by decide +kernel
theorem dX0_copy_39 : decode mX0_copy.2.1 39 = .ok (.aload_n 0, 1) := by decide +kernel
theorem dX0_copy_40 : decode mX0_copy.2.1 40 = .ok (.aload_n 1, 1) := by decide +kernel
theorem dX0_copy_41 : decode mX0_copy.2.1 41 = .ok (.getfield 31, 3) := by decide +kernel
theorem dX0_copy_44 : decode mX0_copy.2.1 44 = .ok (.putfield 31, 3) := by decide +kernel
theorem dX0_copy_47 : decode mX0_copy.2.1 47 = .ok (.return_, 1) := by decide +kernel
theorem dX0_width_0 : decode mX0_width.2.1 0 = .ok (.aload_n 0, 1) := by decide +kernel
theorem dX0_width_1 : decode mX0_width.2.1 1 = .ok (.getfield 28, 3) := by decide +kernel
theorem dX0_width_4 : decode mX0_width.2.1 4 = .ok (.aload_n 0, 1) := by decide +kernel
theorem dX0_width_5 : decode mX0_width.2.1 5 = .ok (.getfield 25, 3) := by decide +kernel
theorem dX0_width_8 : decode mX0_width.2.1 8 = .ok (.isub, 1) := by decide +kernel
theorem dX0_width_9 : decode mX0_width.2.1 9 = .ok (.iconst 1, 1) := by decide +kernel
theorem dX0_width_10 : decode mX0_width.2.1 10 = .ok (.iadd, 1) := by decide +kernel
theorem dX0_width_11 : decode mX0_width.2.1 11 = .ok (.ireturn, 1) := by decide +kernel
theorem dX0_weightOf_0 : decode mX0_weightOf.2.1 0 = .ok (.iload_n 1, 1) := by decide +kernel
theorem dX0_weightOf_1 : decode mX0_weightOf.2.1 1 = .ok (.aload_n 0, 1) := by decide +kernel
theorem dX0_weightOf_2 : decode mX0_weightOf.2.1 2 = .ok (.getfield 25, 3) := by decide +kernel
theorem dX0_weightOf_5 : decode mX0_weightOf.2.1 5 = .ok (.isub, 1) := by decide +kernel
theorem dX0_weightOf_6 : decode mX0_weightOf.2.1 6 = .ok (.istore_n 2, 1) := by decide +kernel
theorem dX0_weightOf_7 : decode mX0_weightOf.2.1 7 = .ok (.iload_n 2, 1) := by decide +kernel
theorem dX0_weightOf_8 : decode mX0_weightOf.2.1 8 = .ok (.iconst 1, 1) := by decide +kernel
theorem dX0_weightOf_9 : decode mX0_weightOf.2.1 9 = .ok (.iadd, 1) := by decide +kernel
theorem dX0_weightOf_10 : decode mX0_weightOf.2.1 10 = .ok (.aload_n 0, 1) := by decide +kernel
theorem dX0_weightOf_11 : decode mX0_weightOf.2.1 11 = .ok (.getfield 28, 3) := by decide +kernel
theorem dX0_weightOf_14 : decode mX0_weightOf.2.1 14 = .ok (.iload_n 1, 1) := by decide +kernel
theorem dX0_weightOf_15 : decode mX0_weightOf.2.1 15 = .ok (.isub, 1) := by decide +kernel
theorem dX0_weightOf_16 : decode mX0_weightOf.2.1 16 = .ok (.iconst 1, 1) := by decide +kernel
theorem dX0_weightOf_17 : decode mX0_weightOf.2.1 17 = .ok (.iadd, 1) := by decide +kernel
theorem dX0_weightOf_18 : decode mX0_weightOf.2.1 18 = .ok (.imul, 1) := by decide +kernel
theorem dX0_weightOf_19 : decode mX0_weightOf.2.1 19 = .ok (.bipush 10, 2) := by decide +kernel
theorem dX0_weightOf_21 : decode mX0_weightOf.2.1 21 = .ok (.aload_n 0, 1) := by decide +kernel
theorem dX0_weightOf_22 : decode mX0_weightOf.2.1 22 = .ok (.getfield 9, 3) := by decide +kernel
theorem dX0_weightOf_25 : decode mX0_weightOf.2.1 25 = .ok (.bipush 11, 2) := by decide +kernel
theorem dX0_weightOf_27 : decode mX0_weightOf.2.1 27 = .ok (.iaload, 1) := by decide +kernel
theorem dX0_weightOf_28 : decode mX0_weightOf.2.1 28 = .ok (.iload_n 2, 1) := by decide +kernel
theorem dX0_weightOf_29 : decode mX0_weightOf.2.1 29 = .ok (.imul, 1) := by decide +kernel
theorem dX0_weightOf_30 : decode mX0_weightOf.2.1 30 = .ok (.iadd, 1) := by decide +kernel
theorem dX0_weightOf_31 : decode mX0_weightOf.2.1 31 = .ok (.imul, 1) := by decide +kernel
theorem dX0_weightOf_32 : decode mX0_weightOf.2.1 32 = .ok (.ireturn, 1) := by decide +kernel
theorem dX1_init_0 : decode mX1_init.2.1 0 = .ok (.aload_n 0, 1) := by decide +kernel
theorem dX1_init_1 : decode mX1_init.2.1 1 = .ok (.invokespecial 3, 3) := by decide +kernel
theorem dX1_init_4 : decode mX1_init.2.1 4 = .ok (.aload_n 0, 1) := by decide +kernel
theorem dX1_init_5 : decode mX1_init.2.1 5 = .ok (.bipush 12, 2) := by decide +kernel
theorem dX1_init_7 : decode mX1_init.2.1 7 = .ok (.newarray .int, 2) := by decide +kernel
theorem dX1_init_9 : decode mX1_init.2.1 9 = .ok (.putfield 9, 3) := by decide +kernel
theorem dX1_init_12 : decode mX1_init.2.1 12 = .ok (.aload_n 0, 1) := by decide +kernel
theorem dX1_init_13 : decode mX1_init.2.1 13 = .ok (.aload_n 1, 1) := by decide +kernel
theorem dX1_init_14 : decode mX1_init.2.1 14 = .ok (.putfield 15, 3) := by decide +kernel
theorem dX1_init_17 : decode mX1_init.2.1 17 = .ok (.return_, 1) := by decide +kernel
theorem dX1_faultOfDrop_0 : decode mX1_faultOfDrop.2.1 0 = .ok (.aload_n 0, 1) := by decide +kernel
theorem dX1_faultOfDrop_1 : decode mX1_faultOfDrop.2.1 1 = .ok (.iconst 0, 1) := by decide +kernel
theorem dX1_faultOfDrop_2 : decode mX1_faultOfDrop.2.1 2 = .ok (.putfield 19, 3) := by decide +kernel
theorem dX1_faultOfDrop_5 : decode mX1_faultOfDrop.2.1 5 = .ok (.aload_n 0, 1) := by decide +kernel
theorem dX1_faultOfDrop_6 : decode mX1_faultOfDrop.2.1 6 = .ok (.iconst 0, 1) := by decide +kernel
theorem dX1_faultOfDrop_7 : decode mX1_faultOfDrop.2.1 7 = .ok (.putfield 23, 3) := by decide +kernel
theorem dX1_faultOfDrop_10 : decode mX1_faultOfDrop.2.1 10 = .ok (.getstatic 26, 3) := by decide +kernel
theorem dX1_faultOfDrop_13 : decode mX1_faultOfDrop.2.1 13 = .ok (.iconst 0, 1) := by decide +kernel
theorem dX1_faultOfDrop_14 : decode mX1_faultOfDrop.2.1 14 = .ok (.aload_n 0, 1) := by decide +kernel
theorem dX1_faultOfDrop_15 : decode mX1_faultOfDrop.2.1 15 = .ok (.getfield 9, 3) := by decide +kernel
theorem dX1_faultOfDrop_18 : decode mX1_faultOfDrop.2.1 18 = .ok (.iconst 0, 1) := by decide +kernel
theorem dX1_faultOfDrop_19 : decode mX1_faultOfDrop.2.1 19 = .ok (.bipush 12, 2) := by decide +kernel
theorem dX1_faultOfDrop_21 : decode mX1_faultOfDrop.2.1 21 = .ok (.invokestatic 29, 3) := by decide +kernel
theorem dX1_faultOfDrop_24 : decode mX1_faultOfDrop.2.1 24 = .ok (.aload_n 0, 1) := by decide +kernel
theorem dX1_faultOfDrop_25 : decode mX1_faultOfDrop.2.1 25 = .ok (.invokevirtual 35, 3) := by decide +kernel
theorem dX1_faultOfDrop_28 : decode mX1_faultOfDrop.2.1 28 = .ok (.istore_n 1, 1) := by decide +kernel
theorem dX1_faultOfDrop_29 : decode mX1_faultOfDrop.2.1 29 = .ok (.iconst 0, 1) := by decide +kernel
theorem dX1_faultOfDrop_30 : decode mX1_faultOfDrop.2.1 30 = .ok (.istore_n 2, 1) := by decide +kernel
theorem dX1_faultOfDrop_31 : decode mX1_faultOfDrop.2.1 31 = .ok (.iload_n 2, 1) := by decide +kernel
theorem dX1_faultOfDrop_32 : decode mX1_faultOfDrop.2.1 32 = .ok (.bipush 12, 2) := by decide +kernel
theorem dX1_faultOfDrop_34 : decode mX1_faultOfDrop.2.1 34 = .ok (.if_icmp .ge 37, 3) := by decide +kernel
theorem dX1_faultOfDrop_37 : decode mX1_faultOfDrop.2.1 37 = .ok (.iload_n 1, 1) := by decide +kernel
theorem dX1_faultOfDrop_38 : decode mX1_faultOfDrop.2.1 38 = .ok (.ifCond .eq 33, 3) := by decide +kernel
theorem dX1_faultOfDrop_41 : decode mX1_faultOfDrop.2.1 41 = .ok (.aload_n 0, 1) := by decide +kernel
theorem dX1_faultOfDrop_42 : decode mX1_faultOfDrop.2.1 42 = .ok (.invokevirtual 39, 3) := by decide +kernel
theorem dX1_faultOfDrop_45 : decode mX1_faultOfDrop.2.1 45 = .ok (.bipush 44, 2) := by decide +kernel
theorem dX1_faultOfDrop_47 : decode mX1_faultOfDrop.2.1 47 = .ok (.if_icmp .ne 24, 3) := by decide +kernel
theorem dX1_faultOfDrop_50 : decode mX1_faultOfDrop.2.1 50 = .ok (.aload_n 0, 1) := by decide +kernel
theorem dX1_faultOfDrop_51 : decode mX1_faultOfDrop.2.1 51 = .ok (.dup, 1) := by decide +kernel
theorem dX1_faultOfDrop_52 : decode mX1_faultOfDrop.2.1 52 = .ok (.getfield 19, 3) := by decide +kernel
theorem dX1_faultOfDrop_55 : decode mX1_faultOfDrop.2.1 55 = .ok (.iconst 1, 1) := by decide +kernel
theorem dX1_faultOfDrop_56 : decode mX1_faultOfDrop.2.1 56 = .ok (.iadd, 1) := by decide +kernel
theorem dX1_faultOfDrop_57 : decode mX1_faultOfDrop.2.1 57 = .ok (.putfield 19, 3) := by decide +kernel
theorem dX1_faultOfDrop_60 : decode mX1_faultOfDrop.2.1 60 = .ok (.aload_n 0, 1) := by decide +kernel
theorem dX1_faultOfDrop_61 : decode mX1_faultOfDrop.2.1 61 = .ok (.invokevirtual 35, 3) := by decide +kernel
theorem dX1_faultOfDrop_64 : decode mX1_faultOfDrop.2.1 64 = .ok (.istore_n 1, 1) := by decide +kernel
theorem dX1_faultOfDrop_65 : decode mX1_faultOfDrop.2.1 65 = .ok (.iinc 2 1, 3) := by decide +kernel
theorem dX1_faultOfDrop_68 : decode mX1_faultOfDrop.2.1 68 = .ok (.goto (-37), 3) := by decide +kernel
theorem dX1_faultOfDrop_71 : decode mX1_faultOfDrop.2.1 71 = .ok (.iload_n 1, 1) := by decide +kernel
theorem dX1_faultOfDrop_72 : decode mX1_faultOfDrop.2.1 72 = .ok (.ifCond .eq 11, 3) := by decide +kernel
theorem dX1_faultOfDrop_75 : decode mX1_faultOfDrop.2.1 75 = .ok (.aload_n 0, 1) := by decide +kernel
theorem dX1_faultOfDrop_76 : decode mX1_faultOfDrop.2.1 76 = .ok (.invokevirtual 39, 3) := by decide +kernel
theorem dX1_faultOfDrop_79 : decode mX1_faultOfDrop.2.1 79 = .ok (.iconst (-1), 1) := by decide +kernel
theorem dX1_faultOfDrop_80 : decode mX1_faultOfDrop.2.1 80 = .ok (.if_icmp .eq 8, 3) := by decide +kernel
theorem dX1_faultOfDrop_83 : decode mX1_faultOfDrop.2.1 83 = .ok (.aload_n 0, 1) := by decide +kernel
theorem dX1_faultOfDrop_84 : decode mX1_faultOfDrop.2.1 84 = .ok (.getfield 19, 3) := by decide +kernel
theorem dX1_faultOfDrop_87 : decode mX1_faultOfDrop.2.1 87 = .ok (.ireturn, 1) := by decide +kernel
theorem dX1_faultOfDrop_88 : decode mX1_faultOfDrop.2.1 88 = .ok (.aload_n 0, 1) := by decide +kernel
theorem dX1_faultOfDrop_89 : decode mX1_faultOfDrop.2.1 89 = .ok (.getfield 9, 3) := by decide +kernel
theorem dX1_faultOfDrop_92 : decode mX1_faultOfDrop.2.1 92 = .ok (.iconst 0, 1) := by decide +kernel
theorem dX1_faultOfDrop_93 : decode mX1_faultOfDrop.2.1 93 = .ok (.iaload, 1) := by decide +kernel
theorem dX1_faultOfDrop_94 : decode mX1_faultOfDrop.2.1 94 = .ok (.aload_n 0, 1) := by decide +kernel
theorem dX1_faultOfDrop_95 : decode mX1_faultOfDrop.2.1 95 = .ok (.getfield 9, 3) := by decide +kernel
theorem dX1_faultOfDrop_98 : decode mX1_faultOfDrop.2.1 98 = .ok (.iconst 1, 1) := by decide +kernel
theorem dX1_faultOfDrop_99 : decode mX1_faultOfDrop.2.1 99 = .ok (.iaload, 1) := by decide +kernel
theorem dX1_faultOfDrop_100 : decode mX1_faultOfDrop.2.1 100 = .ok (.iadd, 1) := by decide +kernel
theorem dX1_faultOfDrop_101 : decode mX1_faultOfDrop.2.1 101 = .ok (.bipush 24, 2) := by decide +kernel
theorem dX1_faultOfDrop_103 : decode mX1_faultOfDrop.2.1 103 = .ok (.if_icmp .le 13, 3) := by decide +kernel
theorem dX1_faultOfDrop_106 : decode mX1_faultOfDrop.2.1 106 = .ok (.aload_n 0, 1) := by decide +kernel
theorem dX1_faultOfDrop_107 : decode mX1_faultOfDrop.2.1 107 = .ok (.getfield 15, 3) := by decide +kernel
theorem dX1_faultOfDrop_110 : decode mX1_faultOfDrop.2.1 110 = .ok (.getfield 43, 3) := by decide +kernel
theorem dX1_faultOfDrop_113 : decode mX1_faultOfDrop.2.1 113 = .ok (.goto 4, 3) := by decide +kernel
theorem dX1_faultOfDrop_116 : decode mX1_faultOfDrop.2.1 116 = .ok (.iconst (-1), 1) := by decide +kernel
theorem dX1_faultOfDrop_117 : decode mX1_faultOfDrop.2.1 117 = .ok (.ireturn, 1) := by decide +kernel
theorem dX1_nextByte_0 : decode mX1_nextByte.2.1 0 = .ok (.aload_n 0, 1) := by decide +kernel
theorem dX1_nextByte_1 : decode mX1_nextByte.2.1 1 = .ok (.getfield 19, 3) := by decide +kernel
theorem dX1_nextByte_4 : decode mX1_nextByte.2.1 4 = .ok (.aload_n 0, 1) := by decide +kernel
theorem dX1_nextByte_5 : decode mX1_nextByte.2.1 5 = .ok (.getfield 15, 3) := by decide +kernel
theorem dX1_nextByte_8 : decode mX1_nextByte.2.1 8 = .ok (.getfield 43, 3) := by decide +kernel
theorem dX1_nextByte_11 : decode mX1_nextByte.2.1 11 = .ok (.if_icmp .ge 32, 3) := by decide +kernel
theorem dX1_nextByte_14 : decode mX1_nextByte.2.1 14 = .ok (.aload_n 0, 1) := by decide +kernel
theorem dX1_nextByte_15 : decode mX1_nextByte.2.1 15 = .ok (.getfield 15, 3) := by decide +kernel
theorem dX1_nextByte_18 : decode mX1_nextByte.2.1 18 = .ok (.aload_n 0, 1) := by decide +kernel
theorem dX1_nextByte_19 : decode mX1_nextByte.2.1 19 = .ok (.getfield 19, 3) := by decide +kernel
theorem dX1_nextByte_22 : decode mX1_nextByte.2.1 22 = .ok (.invokevirtual 48, 3) := by decide +kernel
theorem dX1_nextByte_25 : decode mX1_nextByte.2.1 25 = .ok (.bipush 32, 2) := by decide +kernel
theorem dX1_nextByte_27 : decode mX1_nextByte.2.1 27 = .ok (.if_icmp .ne 16, 3) := by decide +kernel
theorem dX1_nextByte_30 : decode mX1_nextByte.2.1 30 = .ok (.aload_n 0, 1) := by decide +kernel
theorem dX1_nextByte_31 : decode mX1_nextByte.2.1 31 = .ok (.dup, 1) := by decide +kernel
theorem dX1_nextByte_32 : decode mX1_nextByte.2.1 32 = .ok (.getfield 19, 3) := by decide +kernel
theorem dX1_nextByte_35 : decode mX1_nextByte.2.1 35 = .ok (.iconst 1, 1) := by decide +kernel
theorem dX1_nextByte_36 : decode mX1_nextByte.2.1 36 = .ok (.iadd, 1) := by decide +kernel
theorem dX1_nextByte_37 : decode mX1_nextByte.2.1 37 = .ok (.putfield 19, 3) := by decide +kernel
theorem dX1_nextByte_40 : decode mX1_nextByte.2.1 40 = .ok (.goto (-40), 3) := by decide +kernel
theorem dX1_nextByte_43 : decode mX1_nextByte.2.1 43 = .ok (.aload_n 0, 1) := by decide +kernel
theorem dX1_nextByte_44 : decode mX1_nextByte.2.1 44 = .ok (.getfield 15, 3) := by decide +kernel
theorem dX1_nextByte_47 : decode mX1_nextByte.2.1 47 = .ok (.aload_n 0, 1) := by decide +kernel
theorem dX1_nextByte_48 : decode mX1_nextByte.2.1 48 = .ok (.getfield 19, 3) := by decide +kernel
theorem dX1_nextByte_51 : decode mX1_nextByte.2.1 51 = .ok (.invokevirtual 48, 3) := by decide +kernel
theorem dX1_nextByte_54 : decode mX1_nextByte.2.1 54 = .ok (.ireturn, 1) := by decide +kernel
theorem dX1_readItem_0 : decode mX1_readItem.2.1 0 = .ok (.aload_n 0, 1) := by decide +kernel
theorem dX1_readItem_1 : decode mX1_readItem.2.1 1 = .ok (.invokevirtual 39, 3) := by decide +kernel
theorem dX1_readItem_4 : decode mX1_readItem.2.1 4 = .ok (.istore_n 1, 1) := by decide +kernel
theorem dX1_readItem_5 : decode mX1_readItem.2.1 5 = .ok (.iload_n 1, 1) := by decide +kernel
theorem dX1_readItem_6 : decode mX1_readItem.2.1 6 = .ok (.iconst (-1), 1) := by decide +kernel
theorem dX1_readItem_7 : decode mX1_readItem.2.1 7 = .ok (.if_icmp .ne 7, 3) := by decide +kernel
theorem dX1_readItem_10 : decode mX1_readItem.2.1 10 = .ok (.iconst (-1), 1) := by decide +kernel
theorem dX1_readItem_11 : decode mX1_readItem.2.1 11 = .ok (.goto 10, 3) := by decide +kernel
theorem dX1_readItem_14 : decode mX1_readItem.2.1 14 = .ok (.ldc 52, 2) := by decide +kernel
theorem dX1_readItem_16 : decode mX1_readItem.2.1 16 = .ok (.iload_n 1, 1) := by decide +kernel
theorem dX1_readItem_17 : decode mX1_readItem.2.1 17 = .ok (.i2c, 1) := by decide +kernel
theorem dX1_readItem_18 : decode mX1_readItem.2.1 18 = .ok (.invokevirtual 54, 3) := by decide +kernel
theorem dX1_readItem_21 : decode mX1_readItem.2.1 21 = .ok (.istore_n 2, 1) := by decide +kernel
theorem dX1_readItem_22 : decode mX1_readItem.2.1 22 = .ok (.iload_n 2, 1) := by decide +kernel
theorem dX1_readItem_23 : decode mX1_readItem.2.1 23 = .ok (.ifCond .lt 20, 3) := by decide +kernel
theorem dX1_readItem_26 : decode mX1_readItem.2.1 26 = .ok (.iload_n 2, 1) := by decide +kernel
theorem dX1_readItem_27 : decode mX1_readItem.2.1 27 = .ok (.bipush 12, 2) := by decide +kernel
theorem dX1_readItem_29 : decode mX1_readItem.2.1 29 = .ok (.if_icmp .ge 14, 3) := by decide +kernel
theorem dX1_readItem_32 : decode mX1_readItem.2.1 32 = .ok (.aload_n 0, 1) := by decide +kernel
theorem dX1_readItem_33 : decode mX1_readItem.2.1 33 = .ok (.getfield 23, 3) := by decide +kernel
theorem dX1_readItem_36 : decode mX1_readItem.2.1 36 = .ok (.iload_n 2, 1) := by decide +kernel
theorem dX1_readItem_37 : decode mX1_readItem.2.1 37 = .ok (.invokestatic 59, 3) := by decide +kernel
theorem dX1_readItem_40 : decode mX1_readItem.2.1 40 = .ok (.ifCond .eq 5, 3) := by decide +kernel
theorem dX1_readItem_43 : decode mX1_readItem.2.1 43 = .ok (.iconst 0, 1) := by decide +kernel
theorem dX1_readItem_44 : decode mX1_readItem.2.1 44 = .ok (.ireturn, 1) := by decide +kernel
theorem dX1_readItem_45 : decode mX1_readItem.2.1 45 = .ok (.aload_n 0, 1) := by decide +kernel
theorem dX1_readItem_46 : decode mX1_readItem.2.1 46 = .ok (.dup, 1) := by decide +kernel
theorem dX1_readItem_47 : decode mX1_readItem.2.1 47 = .ok (.getfield 23, 3) := by decide +kernel
theorem dX1_readItem_50 : decode mX1_readItem.2.1 50 = .ok (.iconst 1, 1) := by decide +kernel
theorem dX1_readItem_51 : decode mX1_readItem.2.1 51 = .ok (.iload_n 2, 1) := by decide +kernel
theorem dX1_readItem_52 : decode mX1_readItem.2.1 52 = .ok (.ishl, 1) := by decide +kernel
theorem dX1_readItem_53 : decode mX1_readItem.2.1 53 = .ok (.ior, 1) := by decide +kernel
theorem dX1_readItem_54 : decode mX1_readItem.2.1 54 = .ok (.putfield 23, 3) := by decide +kernel
theorem dX1_readItem_57 : decode mX1_readItem.2.1 57 = .ok (.aload_n 0, 1) := by decide +kernel
theorem dX1_readItem_58 : decode mX1_readItem.2.1 58 = .ok (.dup, 1) := by decide +kernel
theorem dX1_readItem_59 : decode mX1_readItem.2.1 59 = .ok (.getfield 19, 3) := by decide +kernel
theorem dX1_readItem_62 : decode mX1_readItem.2.1 62 = .ok (.iconst 1, 1) := by decide +kernel
theorem dX1_readItem_63 : decode mX1_readItem.2.1 63 = .ok (.iadd, 1) := by decide +kernel
theorem dX1_readItem_64 : decode mX1_readItem.2.1 64 = .ok (.putfield 19, 3) := by decide +kernel
theorem dX1_readItem_67 : decode mX1_readItem.2.1 67 = .ok (.aload_n 0, 1) := by decide +kernel
theorem dX1_readItem_68 : decode mX1_readItem.2.1 68 = .ok (.iload_n 2, 1) := by decide +kernel
theorem dX1_readItem_69 : decode mX1_readItem.2.1 69 = .ok (.invokevirtual 63, 3) := by decide +kernel
theorem dX1_readItem_72 : decode mX1_readItem.2.1 72 = .ok (.ireturn, 1) := by decide +kernel
theorem dX1_readNumber_0 : decode mX1_readNumber.2.1 0 = .ok (.iconst 0, 1) := by decide +kernel
theorem dX1_readNumber_1 : decode mX1_readNumber.2.1 1 = .ok (.istore_n 2, 1) := by decide +kernel
theorem dX1_readNumber_2 : decode mX1_readNumber.2.1 2 = .ok (.iconst 0, 1) := by decide +kernel
theorem dX1_readNumber_3 : decode mX1_readNumber.2.1 3 = .ok (.istore_n 3, 1) := by decide +kernel
theorem dX1_readNumber_4 : decode mX1_readNumber.2.1 4 = .ok (.aload_n 0, 1) := by decide +kernel
theorem dX1_readNumber_5 : decode mX1_readNumber.2.1 5 = .ok (.invokevirtual 39, 3) := by decide +kernel
theorem dX1_readNumber_8 : decode mX1_readNumber.2.1 8 = .ok (.istore 4, 2) := by decide +kernel
theorem dX1_readNumber_10 : decode mX1_readNumber.2.1 10 = .ok (.iload_n 3, 1) := by decide +kernel
theorem dX1_readNumber_11 : decode mX1_readNumber.2.1 11 = .ok (.iconst 4, 1) := by decide +kernel
theorem dX1_readNumber_12 : decode mX1_readNumber.2.1 12 = .ok (.if_icmp .ge 57, 3) := by decide +kernel
theorem dX1_readNumber_15 : decode mX1_readNumber.2.1 15 = .ok (.iload 4, 2) := by decide +kernel
theorem dX1_readNumber_17 : decode mX1_readNumber.2.1 17 = .ok (.bipush 48, 2) := by decide +kernel
theorem dX1_readNumber_19 : decode mX1_readNumber.2.1 19 = .ok (.if_icmp .lt 50, 3) := by decide +kernel
theorem dX1_readNumber_22 : decode mX1_readNumber.2.1 22 = .ok (.iload 4, 2) := by decide +kernel
theorem dX1_readNumber_24 : decode mX1_readNumber.2.1 24 = .ok (.bipush 57, 2) := by decide +kernel
theorem dX1_readNumber_26 : decode mX1_readNumber.2.1 26 = .ok (.if_icmp .gt 43, 3) := by decide +kernel
theorem dX1_readNumber_29 : decode mX1_readNumber.2.1 29 = .ok (.iload_n 2, 1) := by decide +kernel
theorem dX1_readNumber_30 : decode mX1_readNumber.2.1 30 = .ok (.bipush 10, 2) := by decide +kernel
theorem dX1_readNumber_32 : decode mX1_readNumber.2.1 32 = .ok (.imul, 1) := by decide +kernel
theorem dX1_readNumber_33 : decode mX1_readNumber.2.1 33 = .ok (.iload 4, 2) := by decide +kernel
theorem dX1_readNumber_35 : decode mX1_readNumber.2.1 35 = .ok (.iadd, 1) := by decide +kernel
theorem dX1_readNumber_36 : decode mX1_readNumber.2.1 36 = .ok (.bipush 48, 2) := by decide +kernel
theorem dX1_readNumber_38 : decode mX1_readNumber.2.1 38 = .ok (.isub, 1) := by decide +kernel
theorem dX1_readNumber_39 : decode mX1_readNumber.2.1 39 = .ok (.istore_n 2, 1) := by decide +kernel
theorem dX1_readNumber_40 : decode mX1_readNumber.2.1 40 = .ok (.iinc 3 1, 3) := by decide +kernel
theorem dX1_readNumber_43 : decode mX1_readNumber.2.1 43 = .ok (.aload_n 0, 1) := by decide +kernel
theorem dX1_readNumber_44 : decode mX1_readNumber.2.1 44 = .ok (.dup, 1) := by decide +kernel
theorem dX1_readNumber_45 : decode mX1_readNumber.2.1 45 = .ok (.getfield 19, 3) := by decide +kernel
theorem dX1_readNumber_48 : decode mX1_readNumber.2.1 48 = .ok (.iconst 1, 1) := by decide +kernel
theorem dX1_readNumber_49 : decode mX1_readNumber.2.1 49 = .ok (.iadd, 1) := by decide +kernel
theorem dX1_readNumber_50 : decode mX1_readNumber.2.1 50 = .ok (.putfield 19, 3) := by decide +kernel
theorem dX1_readNumber_53 : decode mX1_readNumber.2.1 53 = .ok (.aload_n 0, 1) := by decide +kernel
theorem dX1_readNumber_54 : decode mX1_readNumber.2.1 54 = .ok (.getfield 15, 3) := by decide +kernel
theorem dX1_readNumber_57 : decode mX1_readNumber.2.1 57 = .ok (.aload_n 0, 1) := by decide +kernel
theorem dX1_readNumber_58 : decode mX1_readNumber.2.1 58 = .ok (.getfield 19, 3) := by decide +kernel
theorem dX1_readNumber_61 : decode mX1_readNumber.2.1 61 = .ok (.invokevirtual 48, 3) := by decide +kernel
theorem dX1_readNumber_64 : decode mX1_readNumber.2.1 64 = .ok (.istore 4, 2) := by decide +kernel
theorem dX1_readNumber_66 : decode mX1_readNumber.2.1 66 = .ok (.goto (-56), 3) := by decide +kernel
theorem dX1_readNumber_69 : decode mX1_readNumber.2.1 69 = .ok (.iload_n 3, 1) := by decide +kernel
theorem dX1_readNumber_70 : decode mX1_readNumber.2.1 70 = .ok (.ifCond .eq 17, 3) := by decide +kernel
theorem dX1_readNumber_73 : decode mX1_readNumber.2.1 73 = .ok (.iload 4, 2) := by decide +kernel
theorem dX1_readNumber_75 : decode mX1_readNumber.2.1 75 = .ok (.bipush 48, 2) := by decide +kernel
theorem dX1_readNumber_77 : decode mX1_readNumber.2.1 77 = .ok (.if_icmp .lt 12, 3) := by decide +kernel
theorem dX1_readNumber_80 : decode mX1_readNumber.2.1 80 = .ok (.iload 4, 2) := by decide +kernel
theorem dX1_readNumber_82 : decode mX1_readNumber.2.1 82 = .ok (.bipush 57, 2) := by decide +kernel
theorem dX1_readNumber_84 : decode mX1_readNumber.2.1 84 = .ok (.if_icmp .gt 5, 3) := by decide +kernel
theorem dX1_readNumber_87 : decode mX1_readNumber.2.1 87 = .ok (.iconst 0, 1) := by decide +kernel
theorem dX1_readNumber_88 : decode mX1_readNumber.2.1 88 = .ok (.ireturn, 1) := by decide +kernel
theorem dX1_readNumber_89 : decode mX1_readNumber.2.1 89 = .ok (.iload_n 2, 1) := by decide +kernel
theorem dX1_readNumber_90 : decode mX1_readNumber.2.1 90 = .ok (.getstatic 67, 3) := by decide +kernel
theorem dX1_readNumber_93 : decode mX1_readNumber.2.1 93 = .ok (.iload_n 1, 1) := by decide +kernel
theorem dX1_readNumber_94 : decode mX1_readNumber.2.1 94 = .ok (.iaload, 1) := by decide +kernel
theorem dX1_readNumber_95 : decode mX1_readNumber.2.1 95 = .ok (.if_icmp .lt 12, 3) := by decide +kernel
theorem dX1_readNumber_98 : decode mX1_readNumber.2.1 98 = .ok (.iload_n 2, 1) := by decide +kernel
theorem dX1_readNumber_99 : decode mX1_readNumber.2.1 99 = .ok (.getstatic 70, 3) := by decide +kernel
theorem dX1_readNumber_102 : decode mX1_readNumber.2.1 102 = .ok (.iload_n 1, 1) := by decide +kernel
theorem dX1_readNumber_103 : decode mX1_readNumber.2.1 103 = .ok (.iaload, 1) := by decide +kernel
theorem dX1_readNumber_104 : decode mX1_readNumber.2.1 104 = .ok (.if_icmp .le 15, 3) := by decide +kernel
theorem dX1_readNumber_107 : decode mX1_readNumber.2.1 107 = .ok (.aload_n 0, 1) := by decide +kernel
theorem dX1_readNumber_108 : decode mX1_readNumber.2.1 108 = .ok (.dup, 1) := by decide +kernel
theorem dX1_readNumber_109 : decode mX1_readNumber.2.1 109 = .ok (.getfield 19, 3) := by decide +kernel
theorem dX1_readNumber_112 : decode mX1_readNumber.2.1 112 = .ok (.iconst 1, 1) := by decide +kernel
theorem dX1_readNumber_113 : decode mX1_readNumber.2.1 113 = .ok (.isub, 1) := by decide +kernel
theorem dX1_readNumber_114 : decode mX1_readNumber.2.1 114 = .ok (.putfield 19, 3) := by decide +kernel
theorem dX1_readNumber_117 : decode mX1_readNumber.2.1 117 = .ok (.iconst 0, 1) := by decide +kernel
theorem dX1_readNumber_118 : decode mX1_readNumber.2.1 118 = .ok (.ireturn, 1) := by decide +kernel
theorem dX1_readNumber_119 : decode mX1_readNumber.2.1 119 = .ok (.aload_n 0, 1) := by decide +kernel
theorem dX1_readNumber_120 : decode mX1_readNumber.2.1 120 = .ok (.getfield 9, 3) := by decide +kernel
theorem dX1_readNumber_123 : decode mX1_readNumber.2.1 123 = .ok (.iload_n 1, 1) := by decide +kernel
theorem dX1_readNumber_124 : decode mX1_readNumber.2.1 124 = .ok (.iload_n 2, 1) := by decide +kernel
theorem dX1_readNumber_125 : decode mX1_readNumber.2.1 125 = .ok (.iastore, 1) := by decide +kernel
theorem dX1_readNumber_126 : decode mX1_readNumber.2.1 126 = .ok (.iconst 1, 1) := by decide +kernel
theorem dX1_readNumber_127 : decode mX1_readNumber.2.1 127 = .ok (.ireturn, 1) := by decide +kernel
theorem dX2_init_0 : decode mX2_init.2.1 0 = .ok (.aload_n 0, 1) := by decide +kernel
theorem dX2_init_1 : decode mX2_init.2.1 1 = .ok (.invokespecial 3, 3) := by decide +kernel
theorem dX2_init_4 : decode mX2_init.2.1 4 = .ok (.aload_n 0, 1) := by decide +kernel
theorem dX2_init_5 : decode mX2_init.2.1 5 = .ok (.sipush 162, 3) := by decide +kernel
theorem dX2_init_8 : decode mX2_init.2.1 8 = .ok (.newarray .int, 2) := by decide +kernel
theorem dX2_init_10 : decode mX2_init.2.1 10 = .ok (.putfield 9, 3) := by decide +kernel
theorem dX2_init_13 : decode mX2_init.2.1 13 = .ok (.aload_n 0, 1) := by decide +kernel
theorem dX2_init_14 : decode mX2_init.2.1 14 = .ok (.bipush 32, 2) := by decide +kernel
theorem dX2_init_16 : decode mX2_init.2.1 16 = .ok (.newarray .int, 2) := by decide +kernel
theorem dX2_init_18 : decode mX2_init.2.1 18 = .ok (.putfield 15, 3) := by decide +kernel
theorem dX2_init_21 : decode mX2_init.2.1 21 = .ok (.return_, 1) := by decide +kernel
theorem dX2_add_0 : decode mX2_add.2.1 0 = .ok (.aload_n 0, 1) := by decide +kernel
theorem dX2_add_1 : decode mX2_add.2.1 1 = .ok (.getfield 18, 3) := by decide +kernel
theorem dX2_add_4 : decode mX2_add.2.1 4 = .ok (.aload_n 0, 1) := by decide +kernel
theorem dX2_add_5 : decode mX2_add.2.1 5 = .ok (.getfield 9, 3) := by decide +kernel
theorem dX2_add_8 : decode mX2_add.2.1 8 = .ok (.arraylength, 1) := by decide +kernel
theorem dX2_add_9 : decode mX2_add.2.1 9 = .ok (.if_icmp .ge 23, 3) := by decide +kernel
theorem dX2_add_12 : decode mX2_add.2.1 12 = .ok (.aload_n 0, 1) := by decide +kernel
theorem dX2_add_13 : decode mX2_add.2.1 13 = .ok (.getfield 9, 3) := by decide +kernel
theorem dX2_add_16 : decode mX2_add.2.1 16 = .ok (.aload_n 0, 1) := by decide +kernel
theorem dX2_add_17 : decode mX2_add.2.1 17 = .ok (.getfield 18, 3) := by decide +kernel
theorem dX2_add_20 : decode mX2_add.2.1 20 = .ok (.iload_n 1, 1) := by decide +kernel
theorem dX2_add_21 : decode mX2_add.2.1 21 = .ok (.iastore, 1) := by decide +kernel
theorem dX2_add_22 : decode mX2_add.2.1 22 = .ok (.aload_n 0, 1) := by decide +kernel
theorem dX2_add_23 : decode mX2_add.2.1 23 = .ok (.dup, 1) := by decide +kernel
theorem dX2_add_24 : decode mX2_add.2.1 24 = .ok (.getfield 18, 3) := by decide +kernel
theorem dX2_add_27 : decode mX2_add.2.1 27 = .ok (.iconst 1, 1) := by decide +kernel
theorem dX2_add_28 : decode mX2_add.2.1 28 = .ok (.iadd, 1) := by decide +kernel
theorem dX2_add_29 : decode mX2_add.2.1 29 = .ok (.putfield 18, 3) := by decide +kernel
theorem dX2_add_32 : decode mX2_add.2.1 32 = .ok (.return_, 1) := by decide +kernel
theorem dX2_endSkip_0 : decode mX2_endSkip.2.1 0 = .ok (.iload_n 1, 1) := by decide +kernel
theorem dX2_endSkip_1 : decode mX2_endSkip.2.1 1 = .ok (.ifCond .lt 25, 3) := by decide +kernel
theorem dX2_endSkip_4 : decode mX2_endSkip.2.1 4 = .ok (.iload_n 1, 1) := by decide +kernel
theorem dX2_endSkip_5 : decode mX2_endSkip.2.1 5 = .ok (.aload_n 0, 1) := by decide +kernel
theorem dX2_endSkip_6 : decode mX2_endSkip.2.1 6 = .ok (.getfield 18, 3) := by decide +kernel
theorem dX2_endSkip_9 : decode mX2_endSkip.2.1 9 = .ok (.if_icmp .ge 17, 3) := by decide +kernel
theorem dX2_endSkip_12 : decode mX2_endSkip.2.1 12 = .ok (.aload_n 0, 1) := by decide +kernel
theorem dX2_endSkip_13 : decode mX2_endSkip.2.1 13 = .ok (.getfield 9, 3) := by decide +kernel
theorem dX2_endSkip_16 : decode mX2_endSkip.2.1 16 = .ok (.iload_n 1, 1) := by decide +kernel
theorem dX2_endSkip_17 : decode mX2_endSkip.2.1 17 = .ok (.aload_n 0, 1) := by decide +kernel
theorem dX2_endSkip_18 : decode mX2_endSkip.2.1 18 = .ok (.getfield 18, 3) := by decide +kernel
theorem dX2_endSkip_21 : decode mX2_endSkip.2.1 21 = .ok (.iload_n 1, 1) := by decide +kernel
theorem dX2_endSkip_22 : decode mX2_endSkip.2.1 22 = .ok (.isub, 1) := by decide +kernel
theorem dX2_endSkip_23 : decode mX2_endSkip.2.1 23 = .ok (.iconst 1, 1) := by decide +kernel
theorem dX2_endSkip_24 : decode mX2_endSkip.2.1 24 = .ok (.isub, 1) := by decide +kernel
theorem dX2_endSkip_25 : decode mX2_endSkip.2.1 25 = .ok (.iastore, 1) := by decide +kernel
theorem dX2_endSkip_26 : decode mX2_endSkip.2.1 26 = .ok (.return_, 1) := by decide +kernel
theorem dX2_copy_0 : decode mX2_copy.2.1 0 = .ok (.aload_n 1, 1) := by decide +kernel
theorem dX2_copy_1 : decode mX2_copy.2.1 1 = .ok (.getfield 9, 3) := by decide +kernel
theorem dX2_copy_4 : decode mX2_copy.2.1 4 = .ok (.iconst 0, 1) := by decide +kernel
theorem dX2_copy_5 : decode mX2_copy.2.1 5 = .ok (.aload_n 0, 1) := by decide +kernel
theorem dX2_copy_6 : decode mX2_copy.2.1 6 = .ok (.getfield 9, 3) := by decide +kernel
theorem dX2_copy_9 : decode mX2_copy.2.1 9 = .ok (.iconst 0, 1) := by decide +kernel
theorem dX2_copy_10 : decode mX2_copy.2.1 10 = .ok (.sipush 162, 3) := by decide +kernel
theorem dX2_copy_13 : decode mX2_copy.2.1 13 = .ok (.invokestatic 22, 3) := by decide +kernel
theorem dX2_copy_16 : decode mX2_copy.2.1 16 = .ok (.aload_n 0, 1) := by decide +kernel
theorem dX2_copy_17 : decode mX2_copy.2.1 17 = .ok (.aload_n 1, 1) := by decide +kernel
theorem dX2_copy_18 : decode mX2_copy.2.1 18 = .ok (.getfield 18, 3) := by decide +kernel
theorem dX2_copy_21 : decode mX2_copy.2.1 21 = .ok (.putfield 18, 3) := by decide +kernel
theorem dX2_copy_24 : decode mX2_copy.2.1 24 = .ok (.return_, 1) := by decide +kernel
theorem dX2_worth_0 : decode mX2_worth.2.1 0 = .ok (.iconst 0, 1) := by decide +kernel
theorem dX2_worth_1 : decode mX2_worth.2.1 1 = .ok (.istore_n 2, 1) := by decide +kernel
theorem dX2_worth_2 : decode mX2_worth.2.1 2 = .ok (.iconst 0, 1) := by decide +kernel
theorem dX2_worth_3 : decode mX2_worth.2.1 3 = .ok (.istore_n 3, 1) := by decide +kernel
theorem dX2_worth_4 : decode mX2_worth.2.1 4 = .ok (.iload_n 3, 1) := by decide +kernel
theorem dX2_worth_5 : decode mX2_worth.2.1 5 = .ok (.aload_n 0, 1) := by decide +kernel
theorem dX2_worth_6 : decode mX2_worth.2.1 6 = .ok (.getfield 18, 3) := by decide +kernel
theorem dX2_worth_9 : decode mX2_worth.2.1 9 = .ok (.if_icmp .ge 256, 3) := by decide +kernel
theorem dX2_worth_12 : decode mX2_worth.2.1 12 = .ok (.iload_n 3, 1) := by decide +kernel
theorem dX2_worth_13 : decode mX2_worth.2.1 13 = .ok (.aload_n 0, 1) := by decide +kernel
theorem dX2_worth_14 : decode mX2_worth.2.1 14 = .ok (.getfield 9, 3) := by decide +kernel
theorem dX2_worth_17 : decode mX2_worth.2.1 17 = .ok (.arraylength, 1) := by decide +kernel
theorem dX2_worth_18 : decode mX2_worth.2.1 18 = .ok (.if_icmp .ge 247, 3) := by decide +kernel
theorem dX2_worth_21 : decode mX2_worth.2.1 21 = .ok (.aload_n 0, 1) := by decide +kernel
theorem dX2_worth_22 : decode mX2_worth.2.1 22 = .ok (.getfield 9, 3) := by decide +kernel
theorem dX2_worth_25 : decode mX2_worth.2.1 25 = .ok (.iload_n 3, 1) := by decide +kernel
theorem dX2_worth_26 : decode mX2_worth.2.1 26 = .ok (.iaload, 1) := by decide +kernel
theorem dX2_worth_27 : decode mX2_worth.2.1 27 = .ok (.istore 4, 2) := by decide +kernel
theorem dX2_worth_29 : decode mX2_worth.2.1 29 = .ok (.iload 4, 2) := by decide +kernel
theorem dX2_worth_31 : decode mX2_worth.2.1 31 = .ok (.ifCond .ge 10, 3) := by decide +kernel
theorem dX2_worth_34 : decode mX2_worth.2.1 34 = .ok (.iload 4, 2) := by decide +kernel
theorem dX2_worth_36 : decode mX2_worth.2.1 36 = .ok (.bipush (-20), 2) := by decide +kernel
theorem dX2_worth_38 : decode mX2_worth.2.1 38 = .ok (.if_icmp .gt 58, 3) := by decide +kernel
theorem dX2_worth_41 : decode mX2_worth.2.1 41 = .ok (.iload_n 2, 1) := by decide +kernel
theorem dX2_worth_42 : decode mX2_worth.2.1 42 = .ok (.aload_n 0, 1) := by decide +kernel
theorem dX2_worth_43 : decode mX2_worth.2.1 43 = .ok (.getfield 15, 3) := by decide +kernel
theorem dX2_worth_46 : decode mX2_worth.2.1 46 = .ok (.arraylength, 1) := by decide +kernel
theorem dX2_worth_47 : decode mX2_worth.2.1 47 = .ok (.if_icmp .lt 5, 3) := by decide +kernel
theorem dX2_worth_50 : decode mX2_worth.2.1 50 = .ok (.iconst 0, 1) := by decide +kernel
theorem dX2_worth_51 : decode mX2_worth.2.1 51 = .ok (.ireturn, 1) := by decide +kernel
theorem dX2_worth_52 : decode mX2_worth.2.1 52 = .ok (.bipush (-20), 2) := by decide +kernel
theorem dX2_worth_54 : decode mX2_worth.2.1 54 = .ok (.iload 4, 2) := by decide +kernel
theorem dX2_worth_56 : decode mX2_worth.2.1 56 = .ok (.isub, 1) := by decide +kernel
theorem dX2_worth_57 : decode mX2_worth.2.1 57 = .ok (.istore 5, 2) := by decide +kernel
theorem dX2_worth_59 : decode mX2_worth.2.1 59 = .ok (.aload_n 0, 1) := by decide +kernel
theorem dX2_worth_60 : decode mX2_worth.2.1 60 = .ok (.getfield 15, 3) := by decide +kernel
theorem dX2_worth_63 : decode mX2_worth.2.1 63 = .ok (.iload_n 2, 1) := by decide +kernel
theorem dX2_worth_64 : decode mX2_worth.2.1 64 = .ok (.iload 4, 2) := by decide +kernel
theorem dX2_worth_66 : decode mX2_worth.2.1 66 = .ok (.ifCond .lt 8, 3) := by decide +kernel
theorem dX2_worth_69 : decode mX2_worth.2.1 69 = .ok (.iload 4, 2) := by decide +kernel
theorem dX2_worth_71 : decode mX2_worth.2.1 71 = .ok (.goto 18, 3) := by decide +kernel
theorem dX2_worth_74 : decode mX2_worth.2.1 74 = .ok (.iload 5, 2) := by decide +kernel
theorem dX2_worth_76 : decode mX2_worth.2.1 76 = .ok (.aload_n 1, 1) := by decide +kernel
theorem dX2_worth_77 : decode mX2_worth.2.1 77 = .ok (.arraylength, 1) := by decide +kernel
theorem dX2_worth_78 : decode mX2_worth.2.1 78 = .ok (.if_icmp .ge 10, 3) := by decide +kernel
theorem dX2_worth_81 : decode mX2_worth.2.1 81 = .ok (.aload_n 1, 1) := by decide +kernel
theorem dX2_worth_82 : decode mX2_worth.2.1 82 = .ok (.iload 5, 2) := by decide +kernel
theorem dX2_worth_84 : decode mX2_worth.2.1 84 = .ok (.iaload, 1) := by decide +kernel
theorem dX2_worth_85 : decode mX2_worth.2.1 85 = .ok (.goto 4, 3) := by decide +kernel
theorem dX2_worth_88 : decode mX2_worth.2.1 88 = .ok (.iconst 0, 1) := by decide +kernel
theorem dX2_worth_89 : decode mX2_worth.2.1 89 = .ok (.iastore, 1) := by decide +kernel
theorem dX2_worth_90 : decode mX2_worth.2.1 90 = .ok (.iinc 2 1, 3) := by decide +kernel
theorem dX2_worth_93 : decode mX2_worth.2.1 93 = .ok (.goto 166, 3) := by decide +kernel
theorem dX2_worth_96 : decode mX2_worth.2.1 96 = .ok (.iload_n 2, 1) := by decide +kernel
theorem dX2_worth_97 : decode mX2_worth.2.1 97 = .ok (.iconst 1, 1) := by decide +kernel
theorem dX2_worth_98 : decode mX2_worth.2.1 98 = .ok (.if_icmp .lt 12, 3) := by decide +kernel
theorem dX2_worth_101 : decode mX2_worth.2.1 101 = .ok (.iload_n 2, 1) := by decide +kernel
theorem dX2_worth_102 : decode mX2_worth.2.1 102 = .ok (.aload_n 0, 1) := by decide +kernel
theorem dX2_worth_103 : decode mX2_worth.2.1 103 = .ok (.getfield 15, 3) := by decide +kernel
theorem dX2_worth_106 : decode mX2_worth.2.1 106 = .ok (.arraylength, 1) := by decide +kernel
theorem dX2_worth_107 : decode mX2_worth.2.1 107 = .ok (.if_icmp .le 5, 3) := by decide +kernel
theorem dX2_worth_110 : decode mX2_worth.2.1 110 = .ok (.iconst 0, 1) := by decide +kernel
theorem dX2_worth_111 : decode mX2_worth.2.1 111 = .ok (.ireturn, 1) := by decide +kernel
theorem dX2_worth_112 : decode mX2_worth.2.1 112 = .ok (.aload_n 0, 1) := by decide +kernel
theorem dX2_worth_113 : decode mX2_worth.2.1 113 = .ok (.getfield 15, 3) := by decide +kernel
theorem dX2_worth_116 : decode mX2_worth.2.1 116 = .ok (.iload_n 2, 1) := by decide +kernel
theorem dX2_worth_117 : decode mX2_worth.2.1 117 = .ok (.iconst 1, 1) := by decide +kernel
theorem dX2_worth_118 : decode mX2_worth.2.1 118 = .ok (.isub, 1) := by decide +kernel
theorem dX2_worth_119 : decode mX2_worth.2.1 119 = .ok (.iaload, 1) := by decide +kernel
theorem dX2_worth_120 : decode mX2_worth.2.1 120 = .ok (.istore 5, 2) := by decide +kernel
theorem dX2_worth_122 : decode mX2_worth.2.1 122 = .ok (.iload 4, 2) := by decide +kernel
theorem dX2_worth_124 : decode mX2_worth.2.1 124 = .ok (.bipush (-12), 2) := by decide +kernel
theorem dX2_worth_126 : decode mX2_worth.2.1 126 = .ok (.if_icmp .ne 6, 3) := by decide +kernel
theorem dX2_worth_129 : decode mX2_worth.2.1 129 = .ok (.iload 5, 2) := by decide +kernel
theorem dX2_worth_131 : decode mX2_worth.2.1 131 = .ok (.ireturn, 1) := by decide +kernel
theorem dX2_worth_132 : decode mX2_worth.2.1 132 = .ok (.iload 4, 2) := by decide +kernel
theorem dX2_worth_134 : decode mX2_worth.2.1 134 = .ok (.bipush (-10), 2) := by decide +kernel
theorem dX2_worth_136 : decode mX2_worth.2.1 136 = .ok (.if_icmp .ne 24, 3) := by decide +kernel
theorem dX2_worth_139 : decode mX2_worth.2.1 139 = .ok (.aload_n 0, 1) := by decide +kernel
theorem dX2_worth_140 : decode mX2_worth.2.1 140 = .ok (.getfield 15, 3) := by decide +kernel
theorem dX2_worth_143 : decode mX2_worth.2.1 143 = .ok (.iload_n 2, 1) := by decide +kernel
theorem dX2_worth_144 : decode mX2_worth.2.1 144 = .ok (.iconst 1, 1) := by decide +kernel
theorem dX2_worth_145 : decode mX2_worth.2.1 145 = .ok (.isub, 1) := by decide +kernel
theorem dX2_worth_146 : decode mX2_worth.2.1 146 = .ok (.iload 5, 2) := by decide +kernel
theorem dX2_worth_148 : decode mX2_worth.2.1 148 = .ok (.ifCond .ne 7, 3) := by decide +kernel
theorem dX2_worth_151 : decode mX2_worth.2.1 151 = .ok (.iconst 1, 1) := by decide +kernel
theorem dX2_worth_152 : decode mX2_worth.2.1 152 = .ok (.goto 4, 3) := by decide +kernel
theorem dX2_worth_155 : decode mX2_worth.2.1 155 = .ok (.iconst 0, 1) := by decide +kernel
theorem dX2_worth_156 : decode mX2_worth.2.1 156 = .ok (.iastore, 1) := by decide +kernel
theorem dX2_worth_157 : decode mX2_worth.2.1 157 = .ok (.goto 102, 3) := by decide +kernel
theorem dX2_worth_160 : decode mX2_worth.2.1 160 = .ok (.iload 4, 2) := by decide +kernel
theorem dX2_worth_162 : decode mX2_worth.2.1 162 = .ok (.bipush (-11), 2) := by decide +kernel
theorem dX2_worth_164 : decode mX2_worth.2.1 164 = .ok (.if_icmp .ne 43, 3) := by decide +kernel
theorem dX2_worth_167 : decode mX2_worth.2.1 167 = .ok (.iinc 2 (-1), 3) := by decide +kernel
theorem dX2_worth_170 : decode mX2_worth.2.1 170 = .ok (.iinc 3 1, 3) := by decide +kernel
theorem dX2_worth_173 : decode mX2_worth.2.1 173 = .ok (.iload_n 3, 1) := by decide +kernel
theorem dX2_worth_174 : decode mX2_worth.2.1 174 = .ok (.iload 5, 2) := by decide +kernel
theorem dX2_worth_176 : decode mX2_worth.2.1 176 = .ok (.ifCond .ne 25, 3) := by decide +kernel
theorem dX2_worth_179 : decode mX2_worth.2.1 179 = .ok (.iload_n 3, 1) := by decide +kernel
theorem dX2_worth_180 : decode mX2_worth.2.1 180 = .ok (.aload_n 0, 1) := by decide +kernel
theorem dX2_worth_181 : decode mX2_worth.2.1 181 = .ok (.getfield 9, 3) := by decide +kernel
theorem dX2_worth_184 : decode mX2_worth.2.1 184 = .ok (.arraylength, 1) := by decide +kernel
theorem dX2_worth_185 : decode mX2_worth.2.1 185 = .ok (.if_icmp .ge 16, 3) := by decide +kernel
theorem dX2_worth_188 : decode mX2_worth.2.1 188 = .ok (.iconst 0, 1) := by decide +kernel
theorem dX2_worth_189 : decode mX2_worth.2.1 189 = .ok (.aload_n 0, 1) := by decide +kernel
theorem dX2_worth_190 : decode mX2_worth.2.1 190 = .ok (.getfield 9, 3) := by decide +kernel
theorem dX2_worth_193 : decode mX2_worth.2.1 193 = .ok (.iload_n 3, 1) := by decide +kernel
theorem dX2_worth_194 : decode mX2_worth.2.1 194 = .ok (.iaload, 1) := by decide +kernel
theorem dX2_worth_195 : decode mX2_worth.2.1 195 = .ok (.invokestatic 28, 3) := by decide +kernel
theorem dX2_worth_198 : decode mX2_worth.2.1 198 = .ok (.goto 4, 3) := by decide +kernel
theorem dX2_worth_201 : decode mX2_worth.2.1 201 = .ok (.iconst 0, 1) := by decide +kernel
theorem dX2_worth_202 : decode mX2_worth.2.1 202 = .ok (.iadd, 1) := by decide +kernel
theorem dX2_worth_203 : decode mX2_worth.2.1 203 = .ok (.istore_n 3, 1) := by decide +kernel
theorem dX2_worth_204 : decode mX2_worth.2.1 204 = .ok (.goto 55, 3) := by decide +kernel
theorem dX2_worth_207 : decode mX2_worth.2.1 207 = .ok (.iload_n 2, 1) := by decide +kernel
theorem dX2_worth_208 : decode mX2_worth.2.1 208 = .ok (.iconst 2, 1) := by decide +kernel
theorem dX2_worth_209 : decode mX2_worth.2.1 209 = .ok (.if_icmp .ge 5, 3) := by decide +kernel
theorem dX2_worth_212 : decode mX2_worth.2.1 212 = .ok (.iconst 0, 1) := by decide +kernel
theorem dX2_worth_213 : decode mX2_worth.2.1 213 = .ok (.ireturn, 1) := by decide +kernel
theorem dX2_worth_214 : decode mX2_worth.2.1 214 = .ok (.iinc 2 (-1), 3) := by decide +kernel
theorem dX2_worth_217 : decode mX2_worth.2.1 217 = .ok (.iload 4, 2) := by decide +kernel
theorem dX2_worth_219 : decode mX2_worth.2.1 219 = .ok (.aload_n 0, 1) := by decide +kernel
theorem dX2_worth_220 : decode mX2_worth.2.1 220 = .ok (.getfield 15, 3) := by decide +kernel
theorem dX2_worth_223 : decode mX2_worth.2.1 223 = .ok (.iload_n 2, 1) := by decide +kernel
theorem dX2_worth_224 : decode mX2_worth.2.1 224 = .ok (.iconst 1, 1) := by decide +kernel
theorem dX2_worth_225 : decode mX2_worth.2.1 225 = .ok (.isub, 1) := by decide +kernel
theorem dX2_worth_226 : decode mX2_worth.2.1 226 = .ok (.iaload, 1) := by decide +kernel
theorem dX2_worth_227 : decode mX2_worth.2.1 227 = .ok (.i2l, 1) := by decide +kernel
theorem dX2_worth_228 : decode mX2_worth.2.1 228 = .ok (.iload 5, 2) := by decide +kernel
theorem dX2_worth_230 : decode mX2_worth.2.1 230 = .ok (.i2l, 1) := by decide +kernel
theorem dX2_worth_231 : decode mX2_worth.2.1 231 = .ok (.invokestatic 34, 3) := by decide +kernel
theorem dX2_worth_234 : decode mX2_worth.2.1 234 = .ok (.lstore 6, 2) := by decide +kernel
theorem dX2_worth_236 : decode mX2_worth.2.1 236 = .ok (.aload_n 0, 1) := by decide +kernel
theorem dX2_worth_237 : decode mX2_worth.2.1 237 = .ok (.getfield 15, 3) := by decide +kernel
theorem dX2_worth_240 : decode mX2_worth.2.1 240 = .ok (.iload_n 2, 1) := by decide +kernel
theorem dX2_worth_241 : decode mX2_worth.2.1 241 = .ok (.iconst 1, 1) := by decide +kernel
theorem dX2_worth_242 : decode mX2_worth.2.1 242 = .ok (.isub, 1) := by decide +kernel
theorem dX2_worth_243 : decode mX2_worth.2.1 243 = .ok (.ldc2_w 38, 3) := by decide +kernel
theorem dX2_worth_246 : decode mX2_worth.2.1 246 = .ok (.ldc2_w 40, 3) := by decide +kernel
theorem dX2_worth_249 : decode mX2_worth.2.1 249 = .ok (.lload 6, 2) := by decide +kernel
theorem dX2_worth_251 : decode mX2_worth.2.1 251 = .ok (.invokestatic 42, 3) := by decide +kernel
theorem dX2_worth_254 : decode mX2_worth.2.1 254 = .ok (.invokestatic 46, 3) := by decide +kernel
theorem dX2_worth_257 : decode mX2_worth.2.1 257 = .ok (.l2i, 1) := by decide +kernel
theorem dX2_worth_258 : decode mX2_worth.2.1 258 = .ok (.iastore, 1) := by decide +kernel
theorem dX2_worth_259 : decode mX2_worth.2.1 259 = .ok (.iinc 3 1, 3) := by decide +kernel
theorem dX2_worth_262 : decode mX2_worth.2.1 262 = .ok (.goto (-258), 3) := by decide +kernel
theorem dX2_worth_265 : decode mX2_worth.2.1 265 = .ok (.iconst 0, 1) := by decide +kernel
theorem dX2_worth_266 : decode mX2_worth.2.1 266 = .ok (.ireturn, 1) := by decide +kernel
theorem dX2_joined_0 : decode mX2_joined.2.1 0 = .ok (.iload_n 0, 1) := by decide +kernel
theorem dX2_joined_1 : decode mX2_joined.2.1 1 = .ok (.tableswitch 121 (-9) (-1) #[117, 113, 101, 89, 77, 63, 59, 55, 51], 51) := by decide +kernel
theorem dX2_joined_52 : decode mX2_joined.2.1 52 = .ok (.lload_n 1, 1) := by decide +kernel
theorem dX2_joined_53 : decode mX2_joined.2.1 53 = .ok (.lload_n 3, 1) := by decide +kernel
theorem dX2_joined_54 : decode mX2_joined.2.1 54 = .ok (.ladd, 1) := by decide +kernel
theorem dX2_joined_55 : decode mX2_joined.2.1 55 = .ok (.lreturn, 1) := by decide +kernel
theorem dX2_joined_56 : decode mX2_joined.2.1 56 = .ok (.lload_n 1, 1) := by decide +kernel
theorem dX2_joined_57 : decode mX2_joined.2.1 57 = .ok (.lload_n 3, 1) := by decide +kernel
theorem dX2_joined_58 : decode mX2_joined.2.1 58 = .ok (.lsub, 1) := by decide +kernel
theorem dX2_joined_59 : decode mX2_joined.2.1 59 = .ok (.lreturn, 1) := by decide +kernel
theorem dX2_joined_60 : decode mX2_joined.2.1 60 = .ok (.lload_n 1, 1) := by decide +kernel
theorem dX2_joined_61 : decode mX2_joined.2.1 61 = .ok (.lload_n 3, 1) := by decide +kernel
theorem dX2_joined_62 : decode mX2_joined.2.1 62 = .ok (.lmul, 1) := by decide +kernel
theorem dX2_joined_63 : decode mX2_joined.2.1 63 = .ok (.lreturn, 1) := by decide +kernel
theorem dX2_joined_64 : decode mX2_joined.2.1 64 = .ok (.lload_n 3, 1) := by decide +kernel
theorem dX2_joined_65 : decode mX2_joined.2.1 65 = .ok (.lconst 0, 1) := by decide +kernel
theorem dX2_joined_66 : decode mX2_joined.2.1 66 = .ok (.lcmp, 1) := by decide +kernel
theorem dX2_joined_67 : decode mX2_joined.2.1 67 = .ok (.ifCond .ne 7, 3) := by decide +kernel
theorem dX2_joined_70 : decode mX2_joined.2.1 70 = .ok (.lconst 0, 1) := by decide +kernel
theorem dX2_joined_71 : decode mX2_joined.2.1 71 = .ok (.goto 6, 3) := by decide +kernel
theorem dX2_joined_74 : decode mX2_joined.2.1 74 = .ok (.lload_n 1, 1) := by decide +kernel
theorem dX2_joined_75 : decode mX2_joined.2.1 75 = .ok (.lload_n 3, 1) := by decide +kernel
theorem dX2_joined_76 : decode mX2_joined.2.1 76 = .ok (.ldiv, 1) := by decide +kernel
theorem dX2_joined_77 : decode mX2_joined.2.1 77 = .ok (.lreturn, 1) := by decide +kernel
theorem dX2_joined_78 : decode mX2_joined.2.1 78 = .ok (.lload_n 1, 1) := by decide +kernel
theorem dX2_joined_79 : decode mX2_joined.2.1 79 = .ok (.lload_n 3, 1) := by decide +kernel
theorem dX2_joined_80 : decode mX2_joined.2.1 80 = .ok (.lcmp, 1) := by decide +kernel
theorem dX2_joined_81 : decode mX2_joined.2.1 81 = .ok (.ifCond .ne 7, 3) := by decide +kernel
theorem dX2_joined_84 : decode mX2_joined.2.1 84 = .ok (.lconst 1, 1) := by decide +kernel
theorem dX2_joined_85 : decode mX2_joined.2.1 85 = .ok (.goto 4, 3) := by decide +kernel
theorem dX2_joined_88 : decode mX2_joined.2.1 88 = .ok (.lconst 0, 1) := by decide +kernel
theorem dX2_joined_89 : decode mX2_joined.2.1 89 = .ok (.lreturn, 1) := by decide +kernel
theorem dX2_joined_90 : decode mX2_joined.2.1 90 = .ok (.lload_n 1, 1) := by decide +kernel
theorem dX2_joined_91 : decode mX2_joined.2.1 91 = .ok (.lload_n 3, 1) := by decide +kernel
theorem dX2_joined_92 : decode mX2_joined.2.1 92 = .ok (.lcmp, 1) := by decide +kernel
theorem dX2_joined_93 : decode mX2_joined.2.1 93 = .ok (.ifCond .ge 7, 3) := by decide +kernel
theorem dX2_joined_96 : decode mX2_joined.2.1 96 = .ok (.lconst 1, 1) := by decide +kernel
theorem dX2_joined_97 : decode mX2_joined.2.1 97 = .ok (.goto 4, 3) := by decide +kernel
theorem dX2_joined_100 : decode mX2_joined.2.1 100 = .ok (.lconst 0, 1) := by decide +kernel
theorem dX2_joined_101 : decode mX2_joined.2.1 101 = .ok (.lreturn, 1) := by decide +kernel
theorem dX2_joined_102 : decode mX2_joined.2.1 102 = .ok (.lload_n 1, 1) := by decide +kernel
theorem dX2_joined_103 : decode mX2_joined.2.1 103 = .ok (.lload_n 3, 1) := by decide +kernel
theorem dX2_joined_104 : decode mX2_joined.2.1 104 = .ok (.lcmp, 1) := by decide +kernel
theorem dX2_joined_105 : decode mX2_joined.2.1 105 = .ok (.ifCond .le 7, 3) := by decide +kernel
theorem dX2_joined_108 : decode mX2_joined.2.1 108 = .ok (.lconst 1, 1) := by decide +kernel
theorem dX2_joined_109 : decode mX2_joined.2.1 109 = .ok (.goto 4, 3) := by decide +kernel
theorem dX2_joined_112 : decode mX2_joined.2.1 112 = .ok (.lconst 0, 1) := by decide +kernel
theorem dX2_joined_113 : decode mX2_joined.2.1 113 = .ok (.lreturn, 1) := by decide +kernel
theorem dX2_joined_114 : decode mX2_joined.2.1 114 = .ok (.lload_n 1, 1) := by decide +kernel
theorem dX2_joined_115 : decode mX2_joined.2.1 115 = .ok (.lload_n 3, 1) := by decide +kernel
theorem dX2_joined_116 : decode mX2_joined.2.1 116 = .ok (.land, 1) := by decide +kernel
theorem dX2_joined_117 : decode mX2_joined.2.1 117 = .ok (.lreturn, 1) := by decide +kernel
theorem dX2_joined_118 : decode mX2_joined.2.1 118 = .ok (.lload_n 1, 1) := by decide +kernel
theorem dX2_joined_119 : decode mX2_joined.2.1 119 = .ok (.lload_n 3, 1) := by decide +kernel
theorem dX2_joined_120 : decode mX2_joined.2.1 120 = .ok (.lor, 1) := by decide +kernel
theorem dX2_joined_121 : decode mX2_joined.2.1 121 = .ok (.lreturn, 1) := by decide +kernel
theorem dX2_joined_122 : decode mX2_joined.2.1 122 = .ok (.lconst 0, 1) := by decide +kernel
theorem dX2_joined_123 : decode mX2_joined.2.1 123 = .ok (.lreturn, 1) := by decide +kernel
theorem dX3_init_0 : decode mX3_init.2.1 0 = .ok (.aload_n 0, 1) := by decide +kernel
theorem dX3_init_1 : decode mX3_init.2.1 1 = .ok (.invokespecial 3, 3) := by decide +kernel
theorem dX3_init_4 : decode mX3_init.2.1 4 = .ok (.aload_n 0, 1) := by decide +kernel
theorem dX3_init_5 : decode mX3_init.2.1 5 = .ok (.new 9, 3) := by decide +kernel
theorem dX3_init_8 : decode mX3_init.2.1 8 = .ok (.dup, 1) := by decide +kernel
theorem dX3_init_9 : decode mX3_init.2.1 9 = .ok (.invokespecial 11, 3) := by decide +kernel
theorem dX3_init_12 : decode mX3_init.2.1 12 = .ok (.putfield 12, 3) := by decide +kernel
theorem dX3_init_15 : decode mX3_init.2.1 15 = .ok (.aload_n 0, 1) := by decide +kernel
theorem dX3_init_16 : decode mX3_init.2.1 16 = .ok (.ldc 18, 2) := by decide +kernel
theorem dX3_init_18 : decode mX3_init.2.1 18 = .ok (.putfield 20, 3) := by decide +kernel
theorem dX3_init_21 : decode mX3_init.2.1 21 = .ok (.aload_n 0, 1) := by decide +kernel
theorem dX3_init_22 : decode mX3_init.2.1 22 = .ok (.aload_n 1, 1) := by decide +kernel
theorem dX3_init_23 : decode mX3_init.2.1 23 = .ok (.putfield 24, 3) := by decide +kernel
theorem dX3_init_26 : decode mX3_init.2.1 26 = .ok (.return_, 1) := by decide +kernel
theorem dX3_faultOfLaw_0 : decode mX3_faultOfLaw.2.1 0 = .ok (.aload_n 0, 1) := by decide +kernel
theorem dX3_faultOfLaw_1 : decode mX3_faultOfLaw.2.1 1 = .ok (.ldc 18, 2) := by decide +kernel
theorem dX3_faultOfLaw_3 : decode mX3_faultOfLaw.2.1 3 = .ok (.invokevirtual 28, 3) := by decide +kernel
theorem dX3_faultOfLaw_6 : decode mX3_faultOfLaw.2.1 6 = .ok (.aload_n 0, 1) := by decide +kernel
theorem dX3_faultOfLaw_7 : decode mX3_faultOfLaw.2.1 7 = .ok (.invokevirtual 32, 3) := by decide +kernel
theorem dX3_faultOfLaw_10 : decode mX3_faultOfLaw.2.1 10 = .ok (.istore_n 1, 1) := by decide +kernel
theorem dX3_faultOfLaw_11 : decode mX3_faultOfLaw.2.1 11 = .ok (.iconst 0, 1) := by decide +kernel
theorem dX3_faultOfLaw_12 : decode mX3_faultOfLaw.2.1 12 = .ok (.istore_n 2, 1) := by decide +kernel
theorem dX3_faultOfLaw_13 : decode mX3_faultOfLaw.2.1 13 = .ok (.iload_n 2, 1) := by decide +kernel
theorem dX3_faultOfLaw_14 : decode mX3_faultOfLaw.2.1 14 = .ok (.sipush 160, 3) := by decide +kernel
theorem dX3_faultOfLaw_17 : decode mX3_faultOfLaw.2.1 17 = .ok (.if_icmp .ge 27, 3) := by decide +kernel
theorem dX3_faultOfLaw_20 : decode mX3_faultOfLaw.2.1 20 = .ok (.iload_n 1, 1) := by decide +kernel
theorem dX3_faultOfLaw_21 : decode mX3_faultOfLaw.2.1 21 = .ok (.ifCond .eq 23, 3) := by decide +kernel
theorem dX3_faultOfLaw_24 : decode mX3_faultOfLaw.2.1 24 = .ok (.aload_n 0, 1) := by decide +kernel
theorem dX3_faultOfLaw_25 : decode mX3_faultOfLaw.2.1 25 = .ok (.bipush 59, 2) := by decide +kernel
theorem dX3_faultOfLaw_27 : decode mX3_faultOfLaw.2.1 27 = .ok (.invokevirtual 36, 3) := by decide +kernel
theorem dX3_faultOfLaw_30 : decode mX3_faultOfLaw.2.1 30 = .ok (.ifCond .eq 14, 3) := by decide +kernel
theorem dX3_faultOfLaw_33 : decode mX3_faultOfLaw.2.1 33 = .ok (.aload_n 0, 1) := by decide +kernel
theorem dX3_faultOfLaw_34 : decode mX3_faultOfLaw.2.1 34 = .ok (.invokevirtual 32, 3) := by decide +kernel
theorem dX3_faultOfLaw_37 : decode mX3_faultOfLaw.2.1 37 = .ok (.istore_n 1, 1) := by decide +kernel
theorem dX3_faultOfLaw_38 : decode mX3_faultOfLaw.2.1 38 = .ok (.iinc 2 1, 3) := by decide +kernel
theorem dX3_faultOfLaw_41 : decode mX3_faultOfLaw.2.1 41 = .ok (.goto (-28), 3) := by decide +kernel
theorem dX3_faultOfLaw_44 : decode mX3_faultOfLaw.2.1 44 = .ok (.iload_n 1, 1) := by decide +kernel
theorem dX3_faultOfLaw_45 : decode mX3_faultOfLaw.2.1 45 = .ok (.ifCond .eq 15, 3) := by decide +kernel
theorem dX3_faultOfLaw_48 : decode mX3_faultOfLaw.2.1 48 = .ok (.aload_n 0, 1) := by decide +kernel
theorem dX3_faultOfLaw_49 : decode mX3_faultOfLaw.2.1 49 = .ok (.invokevirtual 40, 3) := by decide +kernel
theorem dX3_faultOfLaw_52 : decode mX3_faultOfLaw.2.1 52 = .ok (.iconst (-1), 1) := by decide +kernel
theorem dX3_faultOfLaw_53 : decode mX3_faultOfLaw.2.1 53 = .ok (.if_icmp .ne 7, 3) := by decide +kernel
theorem dX3_faultOfLaw_56 : decode mX3_faultOfLaw.2.1 56 = .ok (.iconst (-1), 1) := by decide +kernel
theorem dX3_faultOfLaw_57 : decode mX3_faultOfLaw.2.1 57 = .ok (.goto 7, 3) := by decide +kernel
theorem dX3_faultOfLaw_60 : decode mX3_faultOfLaw.2.1 60 = .ok (.aload_n 0, 1) := by decide +kernel
theorem dX3_faultOfLaw_61 : decode mX3_faultOfLaw.2.1 61 = .ok (.getfield 44, 3) := by decide +kernel
theorem dX3_faultOfLaw_64 : decode mX3_faultOfLaw.2.1 64 = .ok (.ireturn, 1) := by decide +kernel
theorem dX3_faultOfWant_0 : decode mX3_faultOfWant.2.1 0 = .ok (.aload_n 0, 1) := by decide +kernel
theorem dX3_faultOfWant_1 : decode mX3_faultOfWant.2.1 1 = .ok (.ldc 48, 2) := by decide +kernel
theorem dX3_faultOfWant_3 : decode mX3_faultOfWant.2.1 3 = .ok (.invokevirtual 28, 3) := by decide +kernel
theorem dX3_faultOfWant_6 : decode mX3_faultOfWant.2.1 6 = .ok (.aload_n 0, 1) := by decide +kernel
theorem dX3_faultOfWant_7 : decode mX3_faultOfWant.2.1 7 = .ok (.iconst 0, 1) := by decide +kernel
theorem dX3_faultOfWant_8 : decode mX3_faultOfWant.2.1 8 = .ok (.iconst 0, 1) := by decide +kernel
theorem dX3_faultOfWant_9 : decode mX3_faultOfWant.2.1 9 = .ok (.invokevirtual 50, 3) := by decide +kernel
theorem dX3_faultOfWant_12 : decode mX3_faultOfWant.2.1 12 = .ok (.ifCond .ne 8, 3) := by decide +kernel
theorem dX3_faultOfWant_15 : decode mX3_faultOfWant.2.1 15 = .ok (.aload_n 0, 1) := by decide +kernel
theorem dX3_faultOfWant_16 : decode mX3_faultOfWant.2.1 16 = .ok (.getfield 44, 3) := by decide +kernel
theorem dX3_faultOfWant_19 : decode mX3_faultOfWant.2.1 19 = .ok (.ireturn, 1) := by decide +kernel
theorem dX3_faultOfWant_20 : decode mX3_faultOfWant.2.1 20 = .ok (.aload_n 0, 1) := by decide +kernel
theorem dX3_faultOfWant_21 : decode mX3_faultOfWant.2.1 21 = .ok (.getfield 12, 3) := by decide +kernel
theorem dX3_faultOfWant_24 : decode mX3_faultOfWant.2.1 24 = .ok (.bipush (-12), 2) := by decide +kernel
theorem dX3_faultOfWant_26 : decode mX3_faultOfWant.2.1 26 = .ok (.invokevirtual 54, 3) := by decide +kernel
theorem dX3_faultOfWant_29 : decode mX3_faultOfWant.2.1 29 = .ok (.aload_n 0, 1) := by decide +kernel
theorem dX3_faultOfWant_30 : decode mX3_faultOfWant.2.1 30 = .ok (.invokevirtual 40, 3) := by decide +kernel
theorem dX3_faultOfWant_33 : decode mX3_faultOfWant.2.1 33 = .ok (.iconst (-1), 1) := by decide +kernel
theorem dX3_faultOfWant_34 : decode mX3_faultOfWant.2.1 34 = .ok (.if_icmp .ne 7, 3) := by decide +kernel
theorem dX3_faultOfWant_37 : decode mX3_faultOfWant.2.1 37 = .ok (.iconst (-1), 1) := by decide +kernel
theorem dX3_faultOfWant_38 : decode mX3_faultOfWant.2.1 38 = .ok (.goto 7, 3) := by decide +kernel
theorem dX3_faultOfWant_41 : decode mX3_faultOfWant.2.1 41 = .ok (.aload_n 0, 1) := by decide +kernel
theorem dX3_faultOfWant_42 : decode mX3_faultOfWant.2.1 42 = .ok (.getfield 44, 3) := by decide +kernel
theorem dX3_faultOfWant_45 : decode mX3_faultOfWant.2.1 45 = .ok (.ireturn, 1) := by decide +kernel
theorem dX3_open_0 : decode mX3_open.2.1 0 = .ok (.aload_n 0, 1) := by decide +kernel
theorem dX3_open_1 : decode mX3_open.2.1 1 = .ok (.aload_n 1, 1) := by decide +kernel
theorem dX3_open_2 : decode mX3_open.2.1 2 = .ok (.putfield 20, 3) := by decide +kernel
theorem dX3_open_5 : decode mX3_open.2.1 5 = .ok (.aload_n 0, 1) := by decide +kernel
theorem dX3_open_6 : decode mX3_open.2.1 6 = .ok (.iconst 0, 1) := by decide +kernel
theorem dX3_open_7 : decode mX3_open.2.1 7 = .ok (.putfield 44, 3) := by decide +kernel
theorem dX3_open_10 : decode mX3_open.2.1 10 = .ok (.aload_n 0, 1) := by decide +kernel
theorem dX3_open_11 : decode mX3_open.2.1 11 = .ok (.getfield 12, 3) := by decide +kernel
theorem dX3_open_14 : decode mX3_open.2.1 14 = .ok (.iconst 0, 1) := by decide +kernel
theorem dX3_open_15 : decode mX3_open.2.1 15 = .ok (.putfield 58, 3) := by decide +kernel
theorem dX3_open_18 : decode mX3_open.2.1 18 = .ok (.return_, 1) := by decide +kernel
theorem dX3_nextByte_0 : decode mX3_nextByte.2.1 0 = .ok (.aload_n 0, 1) := by decide +kernel
theorem dX3_nextByte_1 : decode mX3_nextByte.2.1 1 = .ok (.getfield 44, 3) := by decide +kernel
theorem dX3_nextByte_4 : decode mX3_nextByte.2.1 4 = .ok (.aload_n 0, 1) := by decide +kernel
theorem dX3_nextByte_5 : decode mX3_nextByte.2.1 5 = .ok (.getfield 24, 3) := by decide +kernel
theorem dX3_nextByte_8 : decode mX3_nextByte.2.1 8 = .ok (.getfield 61, 3) := by decide +kernel
theorem dX3_nextByte_11 : decode mX3_nextByte.2.1 11 = .ok (.if_icmp .ge 32, 3) := by decide +kernel
theorem dX3_nextByte_14 : decode mX3_nextByte.2.1 14 = .ok (.aload_n 0, 1) := by decide +kernel
theorem dX3_nextByte_15 : decode mX3_nextByte.2.1 15 = .ok (.getfield 24, 3) := by decide +kernel
theorem dX3_nextByte_18 : decode mX3_nextByte.2.1 18 = .ok (.aload_n 0, 1) := by decide +kernel
theorem dX3_nextByte_19 : decode mX3_nextByte.2.1 19 = .ok (.getfield 44, 3) := by decide +kernel
theorem dX3_nextByte_22 : decode mX3_nextByte.2.1 22 = .ok (.invokevirtual 64, 3) := by decide +kernel
theorem dX3_nextByte_25 : decode mX3_nextByte.2.1 25 = .ok (.bipush 32, 2) := by decide +kernel
theorem dX3_nextByte_27 : decode mX3_nextByte.2.1 27 = .ok (.if_icmp .ne 16, 3) := by decide +kernel
theorem dX3_nextByte_30 : decode mX3_nextByte.2.1 30 = .ok (.aload_n 0, 1) := by decide +kernel
theorem dX3_nextByte_31 : decode mX3_nextByte.2.1 31 = .ok (.dup, 1) := by decide +kernel
theorem dX3_nextByte_32 : decode mX3_nextByte.2.1 32 = .ok (.getfield 44, 3) := by decide +kernel
theorem dX3_nextByte_35 : decode mX3_nextByte.2.1 35 = .ok (.iconst 1, 1) := by decide +kernel
theorem dX3_nextByte_36 : decode mX3_nextByte.2.1 36 = .ok (.iadd, 1) := by decide +kernel
theorem dX3_nextByte_37 : decode mX3_nextByte.2.1 37 = .ok (.putfield 44, 3) := by decide +kernel
theorem dX3_nextByte_40 : decode mX3_nextByte.2.1 40 = .ok (.goto (-40), 3) := by decide +kernel
theorem dX3_nextByte_43 : decode mX3_nextByte.2.1 43 = .ok (.aload_n 0, 1) := by decide +kernel
theorem dX3_nextByte_44 : decode mX3_nextByte.2.1 44 = .ok (.getfield 24, 3) := by decide +kernel
theorem dX3_nextByte_47 : decode mX3_nextByte.2.1 47 = .ok (.aload_n 0, 1) := by decide +kernel
theorem dX3_nextByte_48 : decode mX3_nextByte.2.1 48 = .ok (.getfield 44, 3) := by decide +kernel
theorem dX3_nextByte_51 : decode mX3_nextByte.2.1 51 = .ok (.invokevirtual 64, 3) := by decide +kernel
theorem dX3_nextByte_54 : decode mX3_nextByte.2.1 54 = .ok (.ireturn, 1) := by decide +kernel
theorem dX3_goesOnWith_0 : decode mX3_goesOnWith.2.1 0 = .ok (.aload_n 0, 1) := by decide +kernel
theorem dX3_goesOnWith_1 : decode mX3_goesOnWith.2.1 1 = .ok (.invokevirtual 40, 3) := by decide +kernel
theorem dX3_goesOnWith_4 : decode mX3_goesOnWith.2.1 4 = .ok (.iload_n 1, 1) := by decide +kernel
theorem dX3_goesOnWith_5 : decode mX3_goesOnWith.2.1 5 = .ok (.if_icmp .eq 5, 3) := by decide +kernel
theorem dX3_goesOnWith_8 : decode mX3_goesOnWith.2.1 8 = .ok (.iconst 0, 1) := by decide +kernel
theorem dX3_goesOnWith_9 : decode mX3_goesOnWith.2.1 9 = .ok (.ireturn, 1) := by decide +kernel
theorem dX3_goesOnWith_10 : decode mX3_goesOnWith.2.1 10 = .ok (.aload_n 0, 1) := by decide +kernel
theorem dX3_goesOnWith_11 : decode mX3_goesOnWith.2.1 11 = .ok (.dup, 1) := by decide +kernel
theorem dX3_goesOnWith_12 : decode mX3_goesOnWith.2.1 12 = .ok (.getfield 44, 3) := by decide +kernel
theorem dX3_goesOnWith_15 : decode mX3_goesOnWith.2.1 15 = .ok (.iconst 1, 1) := by decide +kernel
theorem dX3_goesOnWith_16 : decode mX3_goesOnWith.2.1 16 = .ok (.iadd, 1) := by decide +kernel
theorem dX3_goesOnWith_17 : decode mX3_goesOnWith.2.1 17 = .ok (.putfield 44, 3) := by decide +kernel
theorem dX3_goesOnWith_20 : decode mX3_goesOnWith.2.1 20 = .ok (.iconst 1, 1) := by decide +kernel
theorem dX3_goesOnWith_21 : decode mX3_goesOnWith.2.1 21 = .ok (.ireturn, 1) := by decide +kernel
theorem dX3_readClause_0 : decode mX3_readClause.2.1 0 = .ok (.aload_n 0, 1) := by decide +kernel
theorem dX3_readClause_1 : decode mX3_readClause.2.1 1 = .ok (.bipush 121, 2) := by decide +kernel
theorem dX3_readClause_3 : decode mX3_readClause.2.1 3 = .ok (.invokevirtual 36, 3) := by decide +kernel
theorem dX3_readClause_6 : decode mX3_readClause.2.1 6 = .ok (.ifCond .eq 12, 3) := by decide +kernel
theorem dX3_readClause_9 : decode mX3_readClause.2.1 9 = .ok (.aload_n 0, 1) := by decide +kernel
theorem dX3_readClause_10 : decode mX3_readClause.2.1 10 = .ok (.bipush 58, 2) := by decide +kernel
theorem dX3_readClause_12 : decode mX3_readClause.2.1 12 = .ok (.invokevirtual 36, 3) := by decide +kernel
theorem dX3_readClause_15 : decode mX3_readClause.2.1 15 = .ok (.ifCond .ne 5, 3) := by decide +kernel
theorem dX3_readClause_18 : decode mX3_readClause.2.1 18 = .ok (.iconst 0, 1) := by decide +kernel
theorem dX3_readClause_19 : decode mX3_readClause.2.1 19 = .ok (.ireturn, 1) := by decide +kernel
theorem dX3_readClause_20 : decode mX3_readClause.2.1 20 = .ok (.aload_n 0, 1) := by decide +kernel
theorem dX3_readClause_21 : decode mX3_readClause.2.1 21 = .ok (.invokevirtual 40, 3) := by decide +kernel
theorem dX3_readClause_24 : decode mX3_readClause.2.1 24 = .ok (.istore_n 1, 1) := by decide +kernel
theorem dX3_readClause_25 : decode mX3_readClause.2.1 25 = .ok (.iload_n 1, 1) := by decide +kernel
theorem dX3_readClause_26 : decode mX3_readClause.2.1 26 = .ok (.bipush 33, 2) := by decide +kernel
theorem dX3_readClause_28 : decode mX3_readClause.2.1 28 = .ok (.if_icmp .eq 13, 3) := by decide +kernel
theorem dX3_readClause_31 : decode mX3_readClause.2.1 31 = .ok (.iload_n 1, 1) := by decide +kernel
theorem dX3_readClause_32 : decode mX3_readClause.2.1 32 = .ok (.bipush 40, 2) := by decide +kernel
theorem dX3_readClause_34 : decode mX3_readClause.2.1 34 = .ok (.if_icmp .eq 7, 3) := by decide +kernel
theorem dX3_readClause_37 : decode mX3_readClause.2.1 37 = .ok (.iconst 1, 1) := by decide +kernel
theorem dX3_readClause_38 : decode mX3_readClause.2.1 38 = .ok (.goto 4, 3) := by decide +kernel
theorem dX3_readClause_41 : decode mX3_readClause.2.1 41 = .ok (.iconst 0, 1) := by decide +kernel
theorem dX3_readClause_42 : decode mX3_readClause.2.1 42 = .ok (.istore_n 2, 1) := by decide +kernel
theorem dX3_readClause_43 : decode mX3_readClause.2.1 43 = .ok (.iload_n 2, 1) := by decide +kernel
theorem dX3_readClause_44 : decode mX3_readClause.2.1 44 = .ok (.ifCond .eq 13, 3) := by decide +kernel
theorem dX3_readClause_47 : decode mX3_readClause.2.1 47 = .ok (.aload_n 0, 1) := by decide +kernel
theorem dX3_readClause_48 : decode mX3_readClause.2.1 48 = .ok (.iconst 0, 1) := by decide +kernel
theorem dX3_readClause_49 : decode mX3_readClause.2.1 49 = .ok (.invokevirtual 68, 3) := by decide +kernel
theorem dX3_readClause_52 : decode mX3_readClause.2.1 52 = .ok (.ifCond .ne 5, 3) := by decide +kernel
theorem dX3_readClause_55 : decode mX3_readClause.2.1 55 = .ok (.iconst 0, 1) := by decide +kernel
theorem dX3_readClause_56 : decode mX3_readClause.2.1 56 = .ok (.ireturn, 1) := by decide +kernel
theorem dX3_readClause_57 : decode mX3_readClause.2.1 57 = .ok (.iload_n 2, 1) := by decide +kernel
theorem dX3_readClause_58 : decode mX3_readClause.2.1 58 = .ok (.ifCond .eq 24, 3) := by decide +kernel
theorem dX3_readClause_61 : decode mX3_readClause.2.1 61 = .ok (.aload_n 0, 1) := by decide +kernel
theorem dX3_readClause_62 : decode mX3_readClause.2.1 62 = .ok (.invokevirtual 40, 3) := by decide +kernel
theorem dX3_readClause_65 : decode mX3_readClause.2.1 65 = .ok (.invokestatic 71, 3) := by decide +kernel
theorem dX3_readClause_68 : decode mX3_readClause.2.1 68 = .ok (.ifCond .ne 14, 3) := by decide +kernel
theorem dX3_readClause_71 : decode mX3_readClause.2.1 71 = .ok (.aload_n 0, 1) := by decide +kernel
theorem dX3_readClause_72 : decode mX3_readClause.2.1 72 = .ok (.getfield 12, 3) := by decide +kernel
theorem dX3_readClause_75 : decode mX3_readClause.2.1 75 = .ok (.bipush (-12), 2) := by decide +kernel
theorem dX3_readClause_77 : decode mX3_readClause.2.1 77 = .ok (.invokevirtual 54, 3) := by decide +kernel
theorem dX3_readClause_80 : decode mX3_readClause.2.1 80 = .ok (.iconst 1, 1) := by decide +kernel
theorem dX3_readClause_81 : decode mX3_readClause.2.1 81 = .ok (.ireturn, 1) := by decide +kernel
theorem dX3_readClause_82 : decode mX3_readClause.2.1 82 = .ok (.aload_n 0, 1) := by decide +kernel
theorem dX3_readClause_83 : decode mX3_readClause.2.1 83 = .ok (.iconst 0, 1) := by decide +kernel
theorem dX3_readClause_84 : decode mX3_readClause.2.1 84 = .ok (.iload_n 2, 1) := by decide +kernel
theorem dX3_readClause_85 : decode mX3_readClause.2.1 85 = .ok (.invokevirtual 50, 3) := by decide +kernel
theorem dX3_readClause_88 : decode mX3_readClause.2.1 88 = .ok (.ifCond .eq 12, 3) := by decide +kernel
theorem dX3_readClause_91 : decode mX3_readClause.2.1 91 = .ok (.aload_n 0, 1) := by decide +kernel
theorem dX3_readClause_92 : decode mX3_readClause.2.1 92 = .ok (.bipush 63, 2) := by decide +kernel
theorem dX3_readClause_94 : decode mX3_readClause.2.1 94 = .ok (.invokevirtual 36, 3) := by decide +kernel
theorem dX3_readClause_97 : decode mX3_readClause.2.1 97 = .ok (.ifCond .ne 5, 3) := by decide +kernel
theorem dX3_readClause_100 : decode mX3_readClause.2.1 100 = .ok (.iconst 0, 1) := by decide +kernel
theorem dX3_readClause_101 : decode mX3_readClause.2.1 101 = .ok (.ireturn, 1) := by decide +kernel
theorem dX3_readClause_102 : decode mX3_readClause.2.1 102 = .ok (.aload_n 0, 1) := by decide +kernel
theorem dX3_readClause_103 : decode mX3_readClause.2.1 103 = .ok (.getfield 12, 3) := by decide +kernel
theorem dX3_readClause_106 : decode mX3_readClause.2.1 106 = .ok (.bipush (-11), 2) := by decide +kernel
theorem dX3_readClause_108 : decode mX3_readClause.2.1 108 = .ok (.invokevirtual 54, 3) := by decide +kernel
theorem dX3_readClause_111 : decode mX3_readClause.2.1 111 = .ok (.aload_n 0, 1) := by decide +kernel
theorem dX3_readClause_112 : decode mX3_readClause.2.1 112 = .ok (.getfield 12, 3) := by decide +kernel
theorem dX3_readClause_115 : decode mX3_readClause.2.1 115 = .ok (.getfield 58, 3) := by decide +kernel
theorem dX3_readClause_118 : decode mX3_readClause.2.1 118 = .ok (.istore_n 3, 1) := by decide +kernel
theorem dX3_readClause_119 : decode mX3_readClause.2.1 119 = .ok (.aload_n 0, 1) := by decide +kernel
theorem dX3_readClause_120 : decode mX3_readClause.2.1 120 = .ok (.getfield 12, 3) := by decide +kernel
theorem dX3_readClause_123 : decode mX3_readClause.2.1 123 = .ok (.iconst 0, 1) := by decide +kernel
theorem dX3_readClause_124 : decode mX3_readClause.2.1 124 = .ok (.invokevirtual 54, 3) := by decide +kernel
theorem dX3_readClause_127 : decode mX3_readClause.2.1 127 = .ok (.aload_n 0, 1) := by decide +kernel
theorem dX3_readClause_128 : decode mX3_readClause.2.1 128 = .ok (.iconst 0, 1) := by decide +kernel
theorem dX3_readClause_129 : decode mX3_readClause.2.1 129 = .ok (.invokevirtual 68, 3) := by decide +kernel
theorem dX3_readClause_132 : decode mX3_readClause.2.1 132 = .ok (.ifCond .ne 5, 3) := by decide +kernel
theorem dX3_readClause_135 : decode mX3_readClause.2.1 135 = .ok (.iconst 0, 1) := by decide +kernel
theorem dX3_readClause_136 : decode mX3_readClause.2.1 136 = .ok (.ireturn, 1) := by decide +kernel
theorem dX3_readClause_137 : decode mX3_readClause.2.1 137 = .ok (.aload_n 0, 1) := by decide +kernel
theorem dX3_readClause_138 : decode mX3_readClause.2.1 138 = .ok (.getfield 12, 3) := by decide +kernel
theorem dX3_readClause_141 : decode mX3_readClause.2.1 141 = .ok (.bipush (-12), 2) := by decide +kernel
theorem dX3_readClause_143 : decode mX3_readClause.2.1 143 = .ok (.invokevirtual 54, 3) := by decide +kernel
theorem dX3_readClause_146 : decode mX3_readClause.2.1 146 = .ok (.aload_n 0, 1) := by decide +kernel
theorem dX3_readClause_147 : decode mX3_readClause.2.1 147 = .ok (.getfield 12, 3) := by decide +kernel
theorem dX3_readClause_150 : decode mX3_readClause.2.1 150 = .ok (.iload_n 3, 1) := by decide +kernel
theorem dX3_readClause_151 : decode mX3_readClause.2.1 151 = .ok (.invokevirtual 74, 3) := by decide +kernel
theorem dX3_readClause_154 : decode mX3_readClause.2.1 154 = .ok (.iconst 1, 1) := by decide +kernel
theorem dX3_readClause_155 : decode mX3_readClause.2.1 155 = .ok (.ireturn, 1) := by decide +kernel
theorem dX3_readCondition_0 : decode mX3_readCondition.2.1 0 = .ok (.iconst 0, 1) := by decide +kernel
theorem dX3_readCondition_1 : decode mX3_readCondition.2.1 1 = .ok (.istore_n 3, 1) := by decide +kernel
theorem dX3_readCondition_2 : decode mX3_readCondition.2.1 2 = .ok (.iconst 0, 1) := by decide +kernel
theorem dX3_readCondition_3 : decode mX3_readCondition.2.1 3 = .ok (.istore 4, 2) := by decide +kernel
theorem dX3_readCondition_5 : decode mX3_readCondition.2.1 5 = .ok (.iload 4, 2) := by decide +kernel
theorem dX3_readCondition_7 : decode mX3_readCondition.2.1 7 = .ok (.sipush 160, 3) := by decide +kernel
theorem dX3_readCondition_10 : decode mX3_readCondition.2.1 10 = .ok (.if_icmp .ge 106, 3) := by decide +kernel
theorem dX3_readCondition_13 : decode mX3_readCondition.2.1 13 = .ok (.aload_n 0, 1) := by decide +kernel
theorem dX3_readCondition_14 : decode mX3_readCondition.2.1 14 = .ok (.iload_n 1, 1) := by decide +kernel
theorem dX3_readCondition_15 : decode mX3_readCondition.2.1 15 = .ok (.iload_n 2, 1) := by decide +kernel
theorem dX3_readCondition_16 : decode mX3_readCondition.2.1 16 = .ok (.ifCond .eq 12, 3) := by decide +kernel
theorem dX3_readCondition_19 : decode mX3_readCondition.2.1 19 = .ok (.iload 4, 2) := by decide +kernel
theorem dX3_readCondition_21 : decode mX3_readCondition.2.1 21 = .ok (.ifCond .ne 7, 3) := by decide +kernel
theorem dX3_readCondition_24 : decode mX3_readCondition.2.1 24 = .ok (.iconst 1, 1) := by decide +kernel
theorem dX3_readCondition_25 : decode mX3_readCondition.2.1 25 = .ok (.goto 4, 3) := by decide +kernel
theorem dX3_readCondition_28 : decode mX3_readCondition.2.1 28 = .ok (.iconst 0, 1) := by decide +kernel
theorem dX3_readCondition_29 : decode mX3_readCondition.2.1 29 = .ok (.invokevirtual 77, 3) := by decide +kernel
theorem dX3_readCondition_32 : decode mX3_readCondition.2.1 32 = .ok (.ifCond .ne 5, 3) := by decide +kernel
theorem dX3_readCondition_35 : decode mX3_readCondition.2.1 35 = .ok (.iconst 0, 1) := by decide +kernel
theorem dX3_readCondition_36 : decode mX3_readCondition.2.1 36 = .ok (.ireturn, 1) := by decide +kernel
theorem dX3_readCondition_37 : decode mX3_readCondition.2.1 37 = .ok (.iconst 0, 1) := by decide +kernel
theorem dX3_readCondition_38 : decode mX3_readCondition.2.1 38 = .ok (.istore 5, 2) := by decide +kernel
theorem dX3_readCondition_40 : decode mX3_readCondition.2.1 40 = .ok (.iload 5, 2) := by decide +kernel
theorem dX3_readCondition_42 : decode mX3_readCondition.2.1 42 = .ok (.sipush 160, 3) := by decide +kernel
theorem dX3_readCondition_45 : decode mX3_readCondition.2.1 45 = .ok (.if_icmp .ge 38, 3) := by decide +kernel
theorem dX3_readCondition_48 : decode mX3_readCondition.2.1 48 = .ok (.aload_n 0, 1) := by decide +kernel
theorem dX3_readCondition_49 : decode mX3_readCondition.2.1 49 = .ok (.bipush 38, 2) := by decide +kernel
theorem dX3_readCondition_51 : decode mX3_readCondition.2.1 51 = .ok (.invokevirtual 36, 3) := by decide +kernel
theorem dX3_readCondition_54 : decode mX3_readCondition.2.1 54 = .ok (.ifCond .eq 29, 3) := by decide +kernel
theorem dX3_readCondition_57 : decode mX3_readCondition.2.1 57 = .ok (.aload_n 0, 1) := by decide +kernel
theorem dX3_readCondition_58 : decode mX3_readCondition.2.1 58 = .ok (.iload_n 1, 1) := by decide +kernel
theorem dX3_readCondition_59 : decode mX3_readCondition.2.1 59 = .ok (.iconst 0, 1) := by decide +kernel
theorem dX3_readCondition_60 : decode mX3_readCondition.2.1 60 = .ok (.invokevirtual 77, 3) := by decide +kernel
theorem dX3_readCondition_63 : decode mX3_readCondition.2.1 63 = .ok (.ifCond .ne 5, 3) := by decide +kernel
theorem dX3_readCondition_66 : decode mX3_readCondition.2.1 66 = .ok (.iconst 0, 1) := by decide +kernel
theorem dX3_readCondition_67 : decode mX3_readCondition.2.1 67 = .ok (.ireturn, 1) := by decide +kernel
theorem dX3_readCondition_68 : decode mX3_readCondition.2.1 68 = .ok (.aload_n 0, 1) := by decide +kernel
theorem dX3_readCondition_69 : decode mX3_readCondition.2.1 69 = .ok (.getfield 12, 3) := by decide +kernel
theorem dX3_readCondition_72 : decode mX3_readCondition.2.1 72 = .ok (.bipush (-8), 2) := by decide +kernel
theorem dX3_readCondition_74 : decode mX3_readCondition.2.1 74 = .ok (.invokevirtual 54, 3) := by decide +kernel
theorem dX3_readCondition_77 : decode mX3_readCondition.2.1 77 = .ok (.iinc 5 1, 3) := by decide +kernel
theorem dX3_readCondition_80 : decode mX3_readCondition.2.1 80 = .ok (.goto (-40), 3) := by decide +kernel
theorem dX3_readCondition_83 : decode mX3_readCondition.2.1 83 = .ok (.iload_n 3, 1) := by decide +kernel
theorem dX3_readCondition_84 : decode mX3_readCondition.2.1 84 = .ok (.ifCond .le 12, 3) := by decide +kernel
theorem dX3_readCondition_87 : decode mX3_readCondition.2.1 87 = .ok (.aload_n 0, 1) := by decide +kernel
theorem dX3_readCondition_88 : decode mX3_readCondition.2.1 88 = .ok (.getfield 12, 3) := by decide +kernel
theorem dX3_readCondition_91 : decode mX3_readCondition.2.1 91 = .ok (.bipush (-9), 2) := by decide +kernel
theorem dX3_readCondition_93 : decode mX3_readCondition.2.1 93 = .ok (.invokevirtual 54, 3) := by decide +kernel
theorem dX3_readCondition_96 : decode mX3_readCondition.2.1 96 = .ok (.iinc 3 1, 3) := by decide +kernel
theorem dX3_readCondition_99 : decode mX3_readCondition.2.1 99 = .ok (.aload_n 0, 1) := by decide +kernel
theorem dX3_readCondition_100 : decode mX3_readCondition.2.1 100 = .ok (.bipush 124, 2) := by decide +kernel
theorem dX3_readCondition_102 : decode mX3_readCondition.2.1 102 = .ok (.invokevirtual 36, 3) := by decide +kernel
theorem dX3_readCondition_105 : decode mX3_readCondition.2.1 105 = .ok (.ifCond .ne 5, 3) := by decide +kernel
theorem dX3_readCondition_108 : decode mX3_readCondition.2.1 108 = .ok (.iconst 1, 1) := by decide +kernel
theorem dX3_readCondition_109 : decode mX3_readCondition.2.1 109 = .ok (.ireturn, 1) := by decide +kernel
theorem dX3_readCondition_110 : decode mX3_readCondition.2.1 110 = .ok (.iinc 4 1, 3) := by decide +kernel
theorem dX3_readCondition_113 : decode mX3_readCondition.2.1 113 = .ok (.goto (-108), 3) := by decide +kernel
theorem dX3_readCondition_116 : decode mX3_readCondition.2.1 116 = .ok (.iconst 1, 1) := by decide +kernel
theorem dX3_readCondition_117 : decode mX3_readCondition.2.1 117 = .ok (.ireturn, 1) := by decide +kernel
theorem dX3_readUnit_0 : decode mX3_readUnit.2.1 0 = .ok (.iconst 0, 1) := by decide +kernel
theorem dX3_readUnit_1 : decode mX3_readUnit.2.1 1 = .ok (.istore_n 3, 1) := by decide +kernel
theorem dX3_readUnit_2 : decode mX3_readUnit.2.1 2 = .ok (.iload_n 2, 1) := by decide +kernel
theorem dX3_readUnit_3 : decode mX3_readUnit.2.1 3 = .ok (.ifCond .ne 26, 3) := by decide +kernel
theorem dX3_readUnit_6 : decode mX3_readUnit.2.1 6 = .ok (.iload_n 3, 1) := by decide +kernel
theorem dX3_readUnit_7 : decode mX3_readUnit.2.1 7 = .ok (.iload_n 1, 1) := by decide +kernel
theorem dX3_readUnit_8 : decode mX3_readUnit.2.1 8 = .ok (.iadd, 1) := by decide +kernel
theorem dX3_readUnit_9 : decode mX3_readUnit.2.1 9 = .ok (.bipush 6, 2) := by decide +kernel
theorem dX3_readUnit_11 : decode mX3_readUnit.2.1 11 = .ok (.if_icmp .ge 18, 3) := by decide +kernel
theorem dX3_readUnit_14 : decode mX3_readUnit.2.1 14 = .ok (.aload_n 0, 1) := by decide +kernel
theorem dX3_readUnit_15 : decode mX3_readUnit.2.1 15 = .ok (.bipush 33, 2) := by decide +kernel
theorem dX3_readUnit_17 : decode mX3_readUnit.2.1 17 = .ok (.invokevirtual 36, 3) := by decide +kernel
theorem dX3_readUnit_20 : decode mX3_readUnit.2.1 20 = .ok (.ifCond .eq 9, 3) := by decide +kernel
theorem dX3_readUnit_23 : decode mX3_readUnit.2.1 23 = .ok (.iinc 3 1, 3) := by decide +kernel
theorem dX3_readUnit_26 : decode mX3_readUnit.2.1 26 = .ok (.goto (-24), 3) := by decide +kernel
theorem dX3_readUnit_29 : decode mX3_readUnit.2.1 29 = .ok (.iload_n 1, 1) := by decide +kernel
theorem dX3_readUnit_30 : decode mX3_readUnit.2.1 30 = .ok (.iload_n 3, 1) := by decide +kernel
theorem dX3_readUnit_31 : decode mX3_readUnit.2.1 31 = .ok (.iadd, 1) := by decide +kernel
theorem dX3_readUnit_32 : decode mX3_readUnit.2.1 32 = .ok (.istore 4, 2) := by decide +kernel
theorem dX3_readUnit_34 : decode mX3_readUnit.2.1 34 = .ok (.iload_n 2, 1) := by decide +kernel
theorem dX3_readUnit_35 : decode mX3_readUnit.2.1 35 = .ok (.ifCond .ne 50, 3) := by decide +kernel
theorem dX3_readUnit_38 : decode mX3_readUnit.2.1 38 = .ok (.iload 4, 2) := by decide +kernel
theorem dX3_readUnit_40 : decode mX3_readUnit.2.1 40 = .ok (.bipush 6, 2) := by decide +kernel
theorem dX3_readUnit_42 : decode mX3_readUnit.2.1 42 = .ok (.if_icmp .ge 43, 3) := by decide +kernel
theorem dX3_readUnit_45 : decode mX3_readUnit.2.1 45 = .ok (.aload_n 0, 1) := by decide +kernel
theorem dX3_readUnit_46 : decode mX3_readUnit.2.1 46 = .ok (.bipush 40, 2) := by decide +kernel
theorem dX3_readUnit_48 : decode mX3_readUnit.2.1 48 = .ok (.invokevirtual 36, 3) := by decide +kernel
theorem dX3_readUnit_51 : decode mX3_readUnit.2.1 51 = .ok (.ifCond .eq 34, 3) := by decide +kernel
theorem dX3_readUnit_54 : decode mX3_readUnit.2.1 54 = .ok (.aload_n 0, 1) := by decide +kernel
theorem dX3_readUnit_55 : decode mX3_readUnit.2.1 55 = .ok (.iload 4, 2) := by decide +kernel
theorem dX3_readUnit_57 : decode mX3_readUnit.2.1 57 = .ok (.iconst 1, 1) := by decide +kernel
theorem dX3_readUnit_58 : decode mX3_readUnit.2.1 58 = .ok (.iadd, 1) := by decide +kernel
theorem dX3_readUnit_59 : decode mX3_readUnit.2.1 59 = .ok (.iconst 0, 1) := by decide +kernel
theorem dX3_readUnit_60 : decode mX3_readUnit.2.1 60 = .ok (.invokevirtual 50, 3) := by decide +kernel
theorem dX3_readUnit_63 : decode mX3_readUnit.2.1 63 = .ok (.ifCond .eq 16, 3) := by decide +kernel
theorem dX3_readUnit_66 : decode mX3_readUnit.2.1 66 = .ok (.aload_n 0, 1) := by decide +kernel
theorem dX3_readUnit_67 : decode mX3_readUnit.2.1 67 = .ok (.bipush 41, 2) := by decide +kernel
theorem dX3_readUnit_69 : decode mX3_readUnit.2.1 69 = .ok (.invokevirtual 36, 3) := by decide +kernel
theorem dX3_readUnit_72 : decode mX3_readUnit.2.1 72 = .ok (.ifCond .eq 7, 3) := by decide +kernel
theorem dX3_readUnit_75 : decode mX3_readUnit.2.1 75 = .ok (.iconst 1, 1) := by decide +kernel
theorem dX3_readUnit_76 : decode mX3_readUnit.2.1 76 = .ok (.goto 4, 3) := by decide +kernel
theorem dX3_readUnit_79 : decode mX3_readUnit.2.1 79 = .ok (.iconst 0, 1) := by decide +kernel
theorem dX3_readUnit_80 : decode mX3_readUnit.2.1 80 = .ok (.istore 5, 2) := by decide +kernel
theorem dX3_readUnit_82 : decode mX3_readUnit.2.1 82 = .ok (.goto 32, 3) := by decide +kernel
theorem dX3_readUnit_85 : decode mX3_readUnit.2.1 85 = .ok (.iload_n 2, 1) := by decide +kernel
theorem dX3_readUnit_86 : decode mX3_readUnit.2.1 86 = .ok (.ifCond .ne 12, 3) := by decide +kernel
theorem dX3_readUnit_89 : decode mX3_readUnit.2.1 89 = .ok (.aload_n 0, 1) := by decide +kernel
theorem dX3_readUnit_90 : decode mX3_readUnit.2.1 90 = .ok (.iload 4, 2) := by decide +kernel
theorem dX3_readUnit_92 : decode mX3_readUnit.2.1 92 = .ok (.invokevirtual 68, 3) := by decide +kernel
theorem dX3_readUnit_95 : decode mX3_readUnit.2.1 95 = .ok (.ifCond .eq 16, 3) := by decide +kernel
theorem dX3_readUnit_98 : decode mX3_readUnit.2.1 98 = .ok (.aload_n 0, 1) := by decide +kernel
theorem dX3_readUnit_99 : decode mX3_readUnit.2.1 99 = .ok (.iload 4, 2) := by decide +kernel
theorem dX3_readUnit_101 : decode mX3_readUnit.2.1 101 = .ok (.invokevirtual 80, 3) := by decide +kernel
theorem dX3_readUnit_104 : decode mX3_readUnit.2.1 104 = .ok (.ifCond .eq 7, 3) := by decide +kernel
theorem dX3_readUnit_107 : decode mX3_readUnit.2.1 107 = .ok (.iconst 1, 1) := by decide +kernel
theorem dX3_readUnit_108 : decode mX3_readUnit.2.1 108 = .ok (.goto 4, 3) := by decide +kernel
theorem dX3_readUnit_111 : decode mX3_readUnit.2.1 111 = .ok (.iconst 0, 1) := by decide +kernel
theorem dX3_readUnit_112 : decode mX3_readUnit.2.1 112 = .ok (.istore 5, 2) := by decide +kernel
theorem dX3_readUnit_114 : decode mX3_readUnit.2.1 114 = .ok (.iconst 0, 1) := by decide +kernel
theorem dX3_readUnit_115 : decode mX3_readUnit.2.1 115 = .ok (.istore 6, 2) := by decide +kernel
theorem dX3_readUnit_117 : decode mX3_readUnit.2.1 117 = .ok (.iload 6, 2) := by decide +kernel
theorem dX3_readUnit_119 : decode mX3_readUnit.2.1 119 = .ok (.iload_n 3, 1) := by decide +kernel
theorem dX3_readUnit_120 : decode mX3_readUnit.2.1 120 = .ok (.if_icmp .ge 18, 3) := by decide +kernel
theorem dX3_readUnit_123 : decode mX3_readUnit.2.1 123 = .ok (.aload_n 0, 1) := by decide +kernel
theorem dX3_readUnit_124 : decode mX3_readUnit.2.1 124 = .ok (.getfield 12, 3) := by decide +kernel
theorem dX3_readUnit_127 : decode mX3_readUnit.2.1 127 = .ok (.bipush (-10), 2) := by decide +kernel
theorem dX3_readUnit_129 : decode mX3_readUnit.2.1 129 = .ok (.invokevirtual 54, 3) := by decide +kernel
theorem dX3_readUnit_132 : decode mX3_readUnit.2.1 132 = .ok (.iinc 6 1, 3) := by decide +kernel
theorem dX3_readUnit_135 : decode mX3_readUnit.2.1 135 = .ok (.goto (-18), 3) := by decide +kernel
theorem dX3_readUnit_138 : decode mX3_readUnit.2.1 138 = .ok (.iload 5, 2) := by decide +kernel
theorem dX3_readUnit_140 : decode mX3_readUnit.2.1 140 = .ok (.ireturn, 1) := by decide +kernel
theorem dX3_readComparison_0 : decode mX3_readComparison.2.1 0 = .ok (.aload_n 0, 1) := by decide +kernel
theorem dX3_readComparison_1 : decode mX3_readComparison.2.1 1 = .ok (.invokevirtual 40, 3) := by decide +kernel
theorem dX3_readComparison_4 : decode mX3_readComparison.2.1 4 = .ok (.istore_n 2, 1) := by decide +kernel
theorem dX3_readComparison_5 : decode mX3_readComparison.2.1 5 = .ok (.iload_n 2, 1) := by decide +kernel
theorem dX3_readComparison_6 : decode mX3_readComparison.2.1 6 = .ok (.invokestatic 71, 3) := by decide +kernel
theorem dX3_readComparison_9 : decode mX3_readComparison.2.1 9 = .ok (.ifCond .ne 5, 3) := by decide +kernel
theorem dX3_readComparison_12 : decode mX3_readComparison.2.1 12 = .ok (.iconst 0, 1) := by decide +kernel
theorem dX3_readComparison_13 : decode mX3_readComparison.2.1 13 = .ok (.ireturn, 1) := by decide +kernel
theorem dX3_readComparison_14 : decode mX3_readComparison.2.1 14 = .ok (.aload_n 0, 1) := by decide +kernel
theorem dX3_readComparison_15 : decode mX3_readComparison.2.1 15 = .ok (.dup, 1) := by decide +kernel
theorem dX3_readComparison_16 : decode mX3_readComparison.2.1 16 = .ok (.getfield 44, 3) := by decide +kernel
theorem dX3_readComparison_19 : decode mX3_readComparison.2.1 19 = .ok (.iconst 1, 1) := by decide +kernel
theorem dX3_readComparison_20 : decode mX3_readComparison.2.1 20 = .ok (.iadd, 1) := by decide +kernel
theorem dX3_readComparison_21 : decode mX3_readComparison.2.1 21 = .ok (.putfield 44, 3) := by decide +kernel
theorem dX3_readComparison_24 : decode mX3_readComparison.2.1 24 = .ok (.aload_n 0, 1) := by decide +kernel
theorem dX3_readComparison_25 : decode mX3_readComparison.2.1 25 = .ok (.iload_n 1, 1) := by decide +kernel
theorem dX3_readComparison_26 : decode mX3_readComparison.2.1 26 = .ok (.invokevirtual 68, 3) := by decide +kernel
theorem dX3_readComparison_29 : decode mX3_readComparison.2.1 29 = .ok (.ifCond .ne 5, 3) := by decide +kernel
theorem dX3_readComparison_32 : decode mX3_readComparison.2.1 32 = .ok (.iconst 0, 1) := by decide +kernel
theorem dX3_readComparison_33 : decode mX3_readComparison.2.1 33 = .ok (.ireturn, 1) := by decide +kernel
theorem dX3_readComparison_34 : decode mX3_readComparison.2.1 34 = .ok (.aload_n 0, 1) := by decide +kernel
theorem dX3_readComparison_35 : decode mX3_readComparison.2.1 35 = .ok (.getfield 12, 3) := by decide +kernel
theorem dX3_readComparison_38 : decode mX3_readComparison.2.1 38 = .ok (.iload_n 2, 1) := by decide +kernel
theorem dX3_readComparison_39 : decode mX3_readComparison.2.1 39 = .ok (.bipush 61, 2) := by decide +kernel
theorem dX3_readComparison_41 : decode mX3_readComparison.2.1 41 = .ok (.if_icmp .ne 8, 3) := by decide +kernel
theorem dX3_readComparison_44 : decode mX3_readComparison.2.1 44 = .ok (.bipush (-5), 2) := by decide +kernel
theorem dX3_readComparison_46 : decode mX3_readComparison.2.1 46 = .ok (.goto 16, 3) := by decide +kernel
theorem dX3_readComparison_49 : decode mX3_readComparison.2.1 49 = .ok (.iload_n 2, 1) := by decide +kernel
theorem dX3_readComparison_50 : decode mX3_readComparison.2.1 50 = .ok (.bipush 60, 2) := by decide +kernel
theorem dX3_readComparison_52 : decode mX3_readComparison.2.1 52 = .ok (.if_icmp .ne 8, 3) := by decide +kernel
theorem dX3_readComparison_55 : decode mX3_readComparison.2.1 55 = .ok (.bipush (-6), 2) := by decide +kernel
theorem dX3_readComparison_57 : decode mX3_readComparison.2.1 57 = .ok (.goto 5, 3) := by decide +kernel
theorem dX3_readComparison_60 : decode mX3_readComparison.2.1 60 = .ok (.bipush (-7), 2) := by decide +kernel
theorem dX3_readComparison_62 : decode mX3_readComparison.2.1 62 = .ok (.invokevirtual 54, 3) := by decide +kernel
theorem dX3_readComparison_65 : decode mX3_readComparison.2.1 65 = .ok (.iconst 1, 1) := by decide +kernel
theorem dX3_readComparison_66 : decode mX3_readComparison.2.1 66 = .ok (.ireturn, 1) := by decide +kernel
theorem dX3_isComparison_0 : decode mX3_isComparison.2.1 0 = .ok (.iload_n 0, 1) := by decide +kernel
theorem dX3_isComparison_1 : decode mX3_isComparison.2.1 1 = .ok (.bipush 61, 2) := by decide +kernel
theorem dX3_isComparison_3 : decode mX3_isComparison.2.1 3 = .ok (.if_icmp .eq 15, 3) := by decide +kernel
theorem dX3_isComparison_6 : decode mX3_isComparison.2.1 6 = .ok (.iload_n 0, 1) := by decide +kernel
theorem dX3_isComparison_7 : decode mX3_isComparison.2.1 7 = .ok (.bipush 60, 2) := by decide +kernel
theorem dX3_isComparison_9 : decode mX3_isComparison.2.1 9 = .ok (.if_icmp .eq 9, 3) := by decide +kernel
theorem dX3_isComparison_12 : decode mX3_isComparison.2.1 12 = .ok (.iload_n 0, 1) := by decide +kernel
theorem dX3_isComparison_13 : decode mX3_isComparison.2.1 13 = .ok (.bipush 62, 2) := by decide +kernel
theorem dX3_isComparison_15 : decode mX3_isComparison.2.1 15 = .ok (.if_icmp .ne 7, 3) := by decide +kernel
theorem dX3_isComparison_18 : decode mX3_isComparison.2.1 18 = .ok (.iconst 1, 1) := by decide +kernel
theorem dX3_isComparison_19 : decode mX3_isComparison.2.1 19 = .ok (.goto 4, 3) := by decide +kernel
theorem dX3_isComparison_22 : decode mX3_isComparison.2.1 22 = .ok (.iconst 0, 1) := by decide +kernel
theorem dX3_isComparison_23 : decode mX3_isComparison.2.1 23 = .ok (.ireturn, 1) := by decide +kernel
theorem dX3_readSum_0 : decode mX3_readSum.2.1 0 = .ok (.iconst (-1), 1) := by decide +kernel
theorem dX3_readSum_1 : decode mX3_readSum.2.1 1 = .ok (.istore_n 2, 1) := by decide +kernel
theorem dX3_readSum_2 : decode mX3_readSum.2.1 2 = .ok (.iconst 0, 1) := by decide +kernel
theorem dX3_readSum_3 : decode mX3_readSum.2.1 3 = .ok (.istore_n 3, 1) := by decide +kernel
theorem dX3_readSum_4 : decode mX3_readSum.2.1 4 = .ok (.iload_n 3, 1) := by decide +kernel
theorem dX3_readSum_5 : decode mX3_readSum.2.1 5 = .ok (.sipush 160, 3) := by decide +kernel
theorem dX3_readSum_8 : decode mX3_readSum.2.1 8 = .ok (.if_icmp .ge 156, 3) := by decide +kernel
theorem dX3_readSum_11 : decode mX3_readSum.2.1 11 = .ok (.aload_n 0, 1) := by decide +kernel
theorem dX3_readSum_12 : decode mX3_readSum.2.1 12 = .ok (.iload_n 1, 1) := by decide +kernel
theorem dX3_readSum_13 : decode mX3_readSum.2.1 13 = .ok (.invokevirtual 83, 3) := by decide +kernel
theorem dX3_readSum_16 : decode mX3_readSum.2.1 16 = .ok (.ifCond .ne 5, 3) := by decide +kernel
theorem dX3_readSum_19 : decode mX3_readSum.2.1 19 = .ok (.iconst 0, 1) := by decide +kernel
theorem dX3_readSum_20 : decode mX3_readSum.2.1 20 = .ok (.ireturn, 1) := by decide +kernel
theorem dX3_readSum_21 : decode mX3_readSum.2.1 21 = .ok (.aload_n 0, 1) := by decide +kernel
theorem dX3_readSum_22 : decode mX3_readSum.2.1 22 = .ok (.invokevirtual 40, 3) := by decide +kernel
theorem dX3_readSum_25 : decode mX3_readSum.2.1 25 = .ok (.istore 4, 2) := by decide +kernel
theorem dX3_readSum_27 : decode mX3_readSum.2.1 27 = .ok (.iconst 0, 1) := by decide +kernel
theorem dX3_readSum_28 : decode mX3_readSum.2.1 28 = .ok (.istore 5, 2) := by decide +kernel
theorem dX3_readSum_30 : decode mX3_readSum.2.1 30 = .ok (.iload 5, 2) := by decide +kernel
theorem dX3_readSum_32 : decode mX3_readSum.2.1 32 = .ok (.sipush 160, 3) := by decide +kernel
theorem dX3_readSum_35 : decode mX3_readSum.2.1 35 = .ok (.if_icmp .ge 70, 3) := by decide +kernel
theorem dX3_readSum_38 : decode mX3_readSum.2.1 38 = .ok (.iload 4, 2) := by decide +kernel
theorem dX3_readSum_40 : decode mX3_readSum.2.1 40 = .ok (.bipush 42, 2) := by decide +kernel
theorem dX3_readSum_42 : decode mX3_readSum.2.1 42 = .ok (.if_icmp .eq 10, 3) := by decide +kernel
theorem dX3_readSum_45 : decode mX3_readSum.2.1 45 = .ok (.iload 4, 2) := by decide +kernel
theorem dX3_readSum_47 : decode mX3_readSum.2.1 47 = .ok (.bipush 47, 2) := by decide +kernel
theorem dX3_readSum_49 : decode mX3_readSum.2.1 49 = .ok (.if_icmp .ne 56, 3) := by decide +kernel
theorem dX3_readSum_52 : decode mX3_readSum.2.1 52 = .ok (.aload_n 0, 1) := by decide +kernel
theorem dX3_readSum_53 : decode mX3_readSum.2.1 53 = .ok (.dup, 1) := by decide +kernel
theorem dX3_readSum_54 : decode mX3_readSum.2.1 54 = .ok (.getfield 44, 3) := by decide +kernel
theorem dX3_readSum_57 : decode mX3_readSum.2.1 57 = .ok (.iconst 1, 1) := by decide +kernel
theorem dX3_readSum_58 : decode mX3_readSum.2.1 58 = .ok (.iadd, 1) := by decide +kernel
theorem dX3_readSum_59 : decode mX3_readSum.2.1 59 = .ok (.putfield 44, 3) := by decide +kernel
theorem dX3_readSum_62 : decode mX3_readSum.2.1 62 = .ok (.aload_n 0, 1) := by decide +kernel
theorem dX3_readSum_63 : decode mX3_readSum.2.1 63 = .ok (.iload_n 1, 1) := by decide +kernel
theorem dX3_readSum_64 : decode mX3_readSum.2.1 64 = .ok (.invokevirtual 83, 3) := by decide +kernel
theorem dX3_readSum_67 : decode mX3_readSum.2.1 67 = .ok (.ifCond .ne 5, 3) := by decide +kernel
theorem dX3_readSum_70 : decode mX3_readSum.2.1 70 = .ok (.iconst 0, 1) := by decide +kernel
theorem dX3_readSum_71 : decode mX3_readSum.2.1 71 = .ok (.ireturn, 1) := by decide +kernel
theorem dX3_readSum_72 : decode mX3_readSum.2.1 72 = .ok (.aload_n 0, 1) := by decide +kernel
theorem dX3_readSum_73 : decode mX3_readSum.2.1 73 = .ok (.getfield 12, 3) := by decide +kernel
theorem dX3_readSum_76 : decode mX3_readSum.2.1 76 = .ok (.iload 4, 2) := by decide +kernel
theorem dX3_readSum_78 : decode mX3_readSum.2.1 78 = .ok (.bipush 42, 2) := by decide +kernel
theorem dX3_readSum_80 : decode mX3_readSum.2.1 80 = .ok (.if_icmp .ne 8, 3) := by decide +kernel
theorem dX3_readSum_83 : decode mX3_readSum.2.1 83 = .ok (.bipush (-3), 2) := by decide +kernel
theorem dX3_readSum_85 : decode mX3_readSum.2.1 85 = .ok (.goto 5, 3) := by decide +kernel
theorem dX3_readSum_88 : decode mX3_readSum.2.1 88 = .ok (.bipush (-4), 2) := by decide +kernel
theorem dX3_readSum_90 : decode mX3_readSum.2.1 90 = .ok (.invokevirtual 54, 3) := by decide +kernel
theorem dX3_readSum_93 : decode mX3_readSum.2.1 93 = .ok (.aload_n 0, 1) := by decide +kernel
theorem dX3_readSum_94 : decode mX3_readSum.2.1 94 = .ok (.invokevirtual 40, 3) := by decide +kernel
theorem dX3_readSum_97 : decode mX3_readSum.2.1 97 = .ok (.istore 4, 2) := by decide +kernel
theorem dX3_readSum_99 : decode mX3_readSum.2.1 99 = .ok (.iinc 5 1, 3) := by decide +kernel
theorem dX3_readSum_102 : decode mX3_readSum.2.1 102 = .ok (.goto (-72), 3) := by decide +kernel
theorem dX3_readSum_105 : decode mX3_readSum.2.1 105 = .ok (.iload_n 2, 1) := by decide +kernel
theorem dX3_readSum_106 : decode mX3_readSum.2.1 106 = .ok (.iconst (-1), 1) := by decide +kernel
theorem dX3_readSum_107 : decode mX3_readSum.2.1 107 = .ok (.if_icmp .eq 22, 3) := by decide +kernel
theorem dX3_readSum_110 : decode mX3_readSum.2.1 110 = .ok (.aload_n 0, 1) := by decide +kernel
theorem dX3_readSum_111 : decode mX3_readSum.2.1 111 = .ok (.getfield 12, 3) := by decide +kernel
theorem dX3_readSum_114 : decode mX3_readSum.2.1 114 = .ok (.iload_n 2, 1) := by decide +kernel
theorem dX3_readSum_115 : decode mX3_readSum.2.1 115 = .ok (.bipush 43, 2) := by decide +kernel
theorem dX3_readSum_117 : decode mX3_readSum.2.1 117 = .ok (.if_icmp .ne 7, 3) := by decide +kernel
theorem dX3_readSum_120 : decode mX3_readSum.2.1 120 = .ok (.iconst (-1), 1) := by decide +kernel
theorem dX3_readSum_121 : decode mX3_readSum.2.1 121 = .ok (.goto 5, 3) := by decide +kernel
theorem dX3_readSum_124 : decode mX3_readSum.2.1 124 = .ok (.bipush (-2), 2) := by decide +kernel
theorem dX3_readSum_126 : decode mX3_readSum.2.1 126 = .ok (.invokevirtual 54, 3) := by decide +kernel
theorem dX3_readSum_129 : decode mX3_readSum.2.1 129 = .ok (.iload 4, 2) := by decide +kernel
theorem dX3_readSum_131 : decode mX3_readSum.2.1 131 = .ok (.bipush 43, 2) := by decide +kernel
theorem dX3_readSum_133 : decode mX3_readSum.2.1 133 = .ok (.if_icmp .eq 12, 3) := by decide +kernel
theorem dX3_readSum_136 : decode mX3_readSum.2.1 136 = .ok (.iload 4, 2) := by decide +kernel
theorem dX3_readSum_138 : decode mX3_readSum.2.1 138 = .ok (.bipush 45, 2) := by decide +kernel
theorem dX3_readSum_140 : decode mX3_readSum.2.1 140 = .ok (.if_icmp .eq 5, 3) := by decide +kernel
theorem dX3_readSum_143 : decode mX3_readSum.2.1 143 = .ok (.iconst 1, 1) := by decide +kernel
theorem dX3_readSum_144 : decode mX3_readSum.2.1 144 = .ok (.ireturn, 1) := by decide +kernel
theorem dX3_readSum_145 : decode mX3_readSum.2.1 145 = .ok (.iload 4, 2) := by decide +kernel
theorem dX3_readSum_147 : decode mX3_readSum.2.1 147 = .ok (.istore_n 2, 1) := by decide +kernel
theorem dX3_readSum_148 : decode mX3_readSum.2.1 148 = .ok (.aload_n 0, 1) := by decide +kernel
theorem dX3_readSum_149 : decode mX3_readSum.2.1 149 = .ok (.dup, 1) := by decide +kernel
theorem dX3_readSum_150 : decode mX3_readSum.2.1 150 = .ok (.getfield 44, 3) := by decide +kernel
theorem dX3_readSum_153 : decode mX3_readSum.2.1 153 = .ok (.iconst 1, 1) := by decide +kernel
theorem dX3_readSum_154 : decode mX3_readSum.2.1 154 = .ok (.iadd, 1) := by decide +kernel
theorem dX3_readSum_155 : decode mX3_readSum.2.1 155 = .ok (.putfield 44, 3) := by decide +kernel
theorem dX3_readSum_158 : decode mX3_readSum.2.1 158 = .ok (.iinc 3 1, 3) := by decide +kernel
theorem dX3_readSum_161 : decode mX3_readSum.2.1 161 = .ok (.goto (-157), 3) := by decide +kernel
theorem dX3_readSum_164 : decode mX3_readSum.2.1 164 = .ok (.iconst 1, 1) := by decide +kernel
theorem dX3_readSum_165 : decode mX3_readSum.2.1 165 = .ok (.ireturn, 1) := by decide +kernel
theorem dX3_readAtom_0 : decode mX3_readAtom.2.1 0 = .ok (.aload_n 0, 1) := by decide +kernel
theorem dX3_readAtom_1 : decode mX3_readAtom.2.1 1 = .ok (.invokevirtual 40, 3) := by decide +kernel
theorem dX3_readAtom_4 : decode mX3_readAtom.2.1 4 = .ok (.istore_n 2, 1) := by decide +kernel
theorem dX3_readAtom_5 : decode mX3_readAtom.2.1 5 = .ok (.iload_n 2, 1) := by decide +kernel
theorem dX3_readAtom_6 : decode mX3_readAtom.2.1 6 = .ok (.bipush 48, 2) := by decide +kernel
theorem dX3_readAtom_8 : decode mX3_readAtom.2.1 8 = .ok (.if_icmp .lt 14, 3) := by decide +kernel
theorem dX3_readAtom_11 : decode mX3_readAtom.2.1 11 = .ok (.iload_n 2, 1) := by decide +kernel
theorem dX3_readAtom_12 : decode mX3_readAtom.2.1 12 = .ok (.bipush 57, 2) := by decide +kernel
theorem dX3_readAtom_14 : decode mX3_readAtom.2.1 14 = .ok (.if_icmp .gt 8, 3) := by decide +kernel
theorem dX3_readAtom_17 : decode mX3_readAtom.2.1 17 = .ok (.aload_n 0, 1) := by decide +kernel
theorem dX3_readAtom_18 : decode mX3_readAtom.2.1 18 = .ok (.invokevirtual 86, 3) := by decide +kernel
theorem dX3_readAtom_21 : decode mX3_readAtom.2.1 21 = .ok (.ireturn, 1) := by decide +kernel
theorem dX3_readAtom_22 : decode mX3_readAtom.2.1 22 = .ok (.iload_n 2, 1) := by decide +kernel
theorem dX3_readAtom_23 : decode mX3_readAtom.2.1 23 = .ok (.bipush 91, 2) := by decide +kernel
theorem dX3_readAtom_25 : decode mX3_readAtom.2.1 25 = .ok (.if_icmp .ne 44, 3) := by decide +kernel
theorem dX3_readAtom_28 : decode mX3_readAtom.2.1 28 = .ok (.iload_n 1, 1) := by decide +kernel
theorem dX3_readAtom_29 : decode mX3_readAtom.2.1 29 = .ok (.bipush 6, 2) := by decide +kernel
theorem dX3_readAtom_31 : decode mX3_readAtom.2.1 31 = .ok (.if_icmp .ge 38, 3) := by decide +kernel
theorem dX3_readAtom_34 : decode mX3_readAtom.2.1 34 = .ok (.aload_n 0, 1) := by decide +kernel
theorem dX3_readAtom_35 : decode mX3_readAtom.2.1 35 = .ok (.dup, 1) := by decide +kernel
theorem dX3_readAtom_36 : decode mX3_readAtom.2.1 36 = .ok (.getfield 44, 3) := by decide +kernel
theorem dX3_readAtom_39 : decode mX3_readAtom.2.1 39 = .ok (.iconst 1, 1) := by decide +kernel
theorem dX3_readAtom_40 : decode mX3_readAtom.2.1 40 = .ok (.iadd, 1) := by decide +kernel
theorem dX3_readAtom_41 : decode mX3_readAtom.2.1 41 = .ok (.putfield 44, 3) := by decide +kernel
theorem dX3_readAtom_44 : decode mX3_readAtom.2.1 44 = .ok (.aload_n 0, 1) := by decide +kernel
theorem dX3_readAtom_45 : decode mX3_readAtom.2.1 45 = .ok (.iload_n 1, 1) := by decide +kernel
theorem dX3_readAtom_46 : decode mX3_readAtom.2.1 46 = .ok (.iconst 1, 1) := by decide +kernel
theorem dX3_readAtom_47 : decode mX3_readAtom.2.1 47 = .ok (.iadd, 1) := by decide +kernel
theorem dX3_readAtom_48 : decode mX3_readAtom.2.1 48 = .ok (.invokevirtual 68, 3) := by decide +kernel
theorem dX3_readAtom_51 : decode mX3_readAtom.2.1 51 = .ok (.ifCond .eq 16, 3) := by decide +kernel
theorem dX3_readAtom_54 : decode mX3_readAtom.2.1 54 = .ok (.aload_n 0, 1) := by decide +kernel
theorem dX3_readAtom_55 : decode mX3_readAtom.2.1 55 = .ok (.bipush 93, 2) := by decide +kernel
theorem dX3_readAtom_57 : decode mX3_readAtom.2.1 57 = .ok (.invokevirtual 36, 3) := by decide +kernel
theorem dX3_readAtom_60 : decode mX3_readAtom.2.1 60 = .ok (.ifCond .eq 7, 3) := by decide +kernel
theorem dX3_readAtom_63 : decode mX3_readAtom.2.1 63 = .ok (.iconst 1, 1) := by decide +kernel
theorem dX3_readAtom_64 : decode mX3_readAtom.2.1 64 = .ok (.goto 4, 3) := by decide +kernel
theorem dX3_readAtom_67 : decode mX3_readAtom.2.1 67 = .ok (.iconst 0, 1) := by decide +kernel
theorem dX3_readAtom_68 : decode mX3_readAtom.2.1 68 = .ok (.ireturn, 1) := by decide +kernel
theorem dX3_readAtom_69 : decode mX3_readAtom.2.1 69 = .ok (.iload_n 2, 1) := by decide +kernel
theorem dX3_readAtom_70 : decode mX3_readAtom.2.1 70 = .ok (.iconst (-1), 1) := by decide +kernel
theorem dX3_readAtom_71 : decode mX3_readAtom.2.1 71 = .ok (.if_icmp .ne 7, 3) := by decide +kernel
theorem dX3_readAtom_74 : decode mX3_readAtom.2.1 74 = .ok (.iconst (-1), 1) := by decide +kernel
theorem dX3_readAtom_75 : decode mX3_readAtom.2.1 75 = .ok (.goto 12, 3) := by decide +kernel
theorem dX3_readAtom_78 : decode mX3_readAtom.2.1 78 = .ok (.aload_n 0, 1) := by decide +kernel
theorem dX3_readAtom_79 : decode mX3_readAtom.2.1 79 = .ok (.getfield 20, 3) := by decide +kernel
theorem dX3_readAtom_82 : decode mX3_readAtom.2.1 82 = .ok (.iload_n 2, 1) := by decide +kernel
theorem dX3_readAtom_83 : decode mX3_readAtom.2.1 83 = .ok (.i2c, 1) := by decide +kernel
theorem dX3_readAtom_84 : decode mX3_readAtom.2.1 84 = .ok (.invokevirtual 89, 3) := by decide +kernel
theorem dX3_readAtom_87 : decode mX3_readAtom.2.1 87 = .ok (.istore_n 3, 1) := by decide +kernel
theorem dX3_readAtom_88 : decode mX3_readAtom.2.1 88 = .ok (.iload_n 3, 1) := by decide +kernel
theorem dX3_readAtom_89 : decode mX3_readAtom.2.1 89 = .ok (.ifCond .ge 5, 3) := by decide +kernel
theorem dX3_readAtom_92 : decode mX3_readAtom.2.1 92 = .ok (.iconst 0, 1) := by decide +kernel
theorem dX3_readAtom_93 : decode mX3_readAtom.2.1 93 = .ok (.ireturn, 1) := by decide +kernel
theorem dX3_readAtom_94 : decode mX3_readAtom.2.1 94 = .ok (.aload_n 0, 1) := by decide +kernel
theorem dX3_readAtom_95 : decode mX3_readAtom.2.1 95 = .ok (.dup, 1) := by decide +kernel
theorem dX3_readAtom_96 : decode mX3_readAtom.2.1 96 = .ok (.getfield 44, 3) := by decide +kernel
theorem dX3_readAtom_99 : decode mX3_readAtom.2.1 99 = .ok (.iconst 1, 1) := by decide +kernel
theorem dX3_readAtom_100 : decode mX3_readAtom.2.1 100 = .ok (.iadd, 1) := by decide +kernel
theorem dX3_readAtom_101 : decode mX3_readAtom.2.1 101 = .ok (.putfield 44, 3) := by decide +kernel
theorem dX3_readAtom_104 : decode mX3_readAtom.2.1 104 = .ok (.aload_n 0, 1) := by decide +kernel
theorem dX3_readAtom_105 : decode mX3_readAtom.2.1 105 = .ok (.getfield 12, 3) := by decide +kernel
theorem dX3_readAtom_108 : decode mX3_readAtom.2.1 108 = .ok (.bipush (-20), 2) := by decide +kernel
theorem dX3_readAtom_110 : decode mX3_readAtom.2.1 110 = .ok (.iload_n 3, 1) := by decide +kernel
theorem dX3_readAtom_111 : decode mX3_readAtom.2.1 111 = .ok (.isub, 1) := by decide +kernel
theorem dX3_readAtom_112 : decode mX3_readAtom.2.1 112 = .ok (.invokevirtual 54, 3) := by decide +kernel
theorem dX3_readAtom_115 : decode mX3_readAtom.2.1 115 = .ok (.iconst 1, 1) := by decide +kernel
theorem dX3_readAtom_116 : decode mX3_readAtom.2.1 116 = .ok (.ireturn, 1) := by decide +kernel
theorem dX3_readNumber_0 : decode mX3_readNumber.2.1 0 = .ok (.iconst 0, 1) := by decide +kernel
theorem dX3_readNumber_1 : decode mX3_readNumber.2.1 1 = .ok (.istore_n 1, 1) := by decide +kernel
theorem dX3_readNumber_2 : decode mX3_readNumber.2.1 2 = .ok (.aload_n 0, 1) := by decide +kernel
theorem dX3_readNumber_3 : decode mX3_readNumber.2.1 3 = .ok (.getfield 24, 3) := by decide +kernel
theorem dX3_readNumber_6 : decode mX3_readNumber.2.1 6 = .ok (.aload_n 0, 1) := by decide +kernel
theorem dX3_readNumber_7 : decode mX3_readNumber.2.1 7 = .ok (.getfield 44, 3) := by decide +kernel
theorem dX3_readNumber_10 : decode mX3_readNumber.2.1 10 = .ok (.invokevirtual 64, 3) := by decide +kernel
theorem dX3_readNumber_13 : decode mX3_readNumber.2.1 13 = .ok (.istore_n 2, 1) := by decide +kernel
theorem dX3_readNumber_14 : decode mX3_readNumber.2.1 14 = .ok (.iconst 0, 1) := by decide +kernel
theorem dX3_readNumber_15 : decode mX3_readNumber.2.1 15 = .ok (.istore_n 3, 1) := by decide +kernel
theorem dX3_readNumber_16 : decode mX3_readNumber.2.1 16 = .ok (.iload_n 3, 1) := by decide +kernel
theorem dX3_readNumber_17 : decode mX3_readNumber.2.1 17 = .ok (.iconst 4, 1) := by decide +kernel
theorem dX3_readNumber_18 : decode mX3_readNumber.2.1 18 = .ok (.if_icmp .ge 53, 3) := by decide +kernel
theorem dX3_readNumber_21 : decode mX3_readNumber.2.1 21 = .ok (.iload_n 2, 1) := by decide +kernel
theorem dX3_readNumber_22 : decode mX3_readNumber.2.1 22 = .ok (.bipush 48, 2) := by decide +kernel
theorem dX3_readNumber_24 : decode mX3_readNumber.2.1 24 = .ok (.if_icmp .lt 47, 3) := by decide +kernel
theorem dX3_readNumber_27 : decode mX3_readNumber.2.1 27 = .ok (.iload_n 2, 1) := by decide +kernel
theorem dX3_readNumber_28 : decode mX3_readNumber.2.1 28 = .ok (.bipush 57, 2) := by decide +kernel
theorem dX3_readNumber_30 : decode mX3_readNumber.2.1 30 = .ok (.if_icmp .gt 41, 3) := by decide +kernel
theorem dX3_readNumber_33 : decode mX3_readNumber.2.1 33 = .ok (.iload_n 1, 1) := by decide +kernel
theorem dX3_readNumber_34 : decode mX3_readNumber.2.1 34 = .ok (.bipush 10, 2) := by decide +kernel
theorem dX3_readNumber_36 : decode mX3_readNumber.2.1 36 = .ok (.imul, 1) := by decide +kernel
theorem dX3_readNumber_37 : decode mX3_readNumber.2.1 37 = .ok (.iload_n 2, 1) := by decide +kernel
theorem dX3_readNumber_38 : decode mX3_readNumber.2.1 38 = .ok (.iadd, 1) := by decide +kernel
theorem dX3_readNumber_39 : decode mX3_readNumber.2.1 39 = .ok (.bipush 48, 2) := by decide +kernel
theorem dX3_readNumber_41 : decode mX3_readNumber.2.1 41 = .ok (.isub, 1) := by decide +kernel
theorem dX3_readNumber_42 : decode mX3_readNumber.2.1 42 = .ok (.istore_n 1, 1) := by decide +kernel
theorem dX3_readNumber_43 : decode mX3_readNumber.2.1 43 = .ok (.aload_n 0, 1) := by decide +kernel
theorem dX3_readNumber_44 : decode mX3_readNumber.2.1 44 = .ok (.dup, 1) := by decide +kernel
theorem dX3_readNumber_45 : decode mX3_readNumber.2.1 45 = .ok (.getfield 44, 3) := by decide +kernel
theorem dX3_readNumber_48 : decode mX3_readNumber.2.1 48 = .ok (.iconst 1, 1) := by decide +kernel
theorem dX3_readNumber_49 : decode mX3_readNumber.2.1 49 = .ok (.iadd, 1) := by decide +kernel
theorem dX3_readNumber_50 : decode mX3_readNumber.2.1 50 = .ok (.putfield 44, 3) := by decide +kernel
theorem dX3_readNumber_53 : decode mX3_readNumber.2.1 53 = .ok (.aload_n 0, 1) := by decide +kernel
theorem dX3_readNumber_54 : decode mX3_readNumber.2.1 54 = .ok (.getfield 24, 3) := by decide +kernel
theorem dX3_readNumber_57 : decode mX3_readNumber.2.1 57 = .ok (.aload_n 0, 1) := by decide +kernel
theorem dX3_readNumber_58 : decode mX3_readNumber.2.1 58 = .ok (.getfield 44, 3) := by decide +kernel
theorem dX3_readNumber_61 : decode mX3_readNumber.2.1 61 = .ok (.invokevirtual 64, 3) := by decide +kernel
theorem dX3_readNumber_64 : decode mX3_readNumber.2.1 64 = .ok (.istore_n 2, 1) := by decide +kernel
theorem dX3_readNumber_65 : decode mX3_readNumber.2.1 65 = .ok (.iinc 3 1, 3) := by decide +kernel
theorem dX3_readNumber_68 : decode mX3_readNumber.2.1 68 = .ok (.goto (-52), 3) := by decide +kernel
theorem dX3_readNumber_71 : decode mX3_readNumber.2.1 71 = .ok (.aload_n 0, 1) := by decide +kernel
theorem dX3_readNumber_72 : decode mX3_readNumber.2.1 72 = .ok (.getfield 12, 3) := by decide +kernel
theorem dX3_readNumber_75 : decode mX3_readNumber.2.1 75 = .ok (.iload_n 1, 1) := by decide +kernel
theorem dX3_readNumber_76 : decode mX3_readNumber.2.1 76 = .ok (.invokevirtual 54, 3) := by decide +kernel
theorem dX3_readNumber_79 : decode mX3_readNumber.2.1 79 = .ok (.iload_n 2, 1) := by decide +kernel
theorem dX3_readNumber_80 : decode mX3_readNumber.2.1 80 = .ok (.bipush 48, 2) := by decide +kernel
theorem dX3_readNumber_82 : decode mX3_readNumber.2.1 82 = .ok (.if_icmp .lt 9, 3) := by decide +kernel
theorem dX3_readNumber_85 : decode mX3_readNumber.2.1 85 = .ok (.iload_n 2, 1) := by decide +kernel
theorem dX3_readNumber_86 : decode mX3_readNumber.2.1 86 = .ok (.bipush 57, 2) := by decide +kernel
theorem dX3_readNumber_88 : decode mX3_readNumber.2.1 88 = .ok (.if_icmp .le 7, 3) := by decide +kernel
theorem dX3_readNumber_91 : decode mX3_readNumber.2.1 91 = .ok (.iconst 1, 1) := by decide +kernel
theorem dX3_readNumber_92 : decode mX3_readNumber.2.1 92 = .ok (.goto 4, 3) := by decide +kernel
theorem dX3_readNumber_95 : decode mX3_readNumber.2.1 95 = .ok (.iconst 0, 1) := by decide +kernel
theorem dX3_readNumber_96 : decode mX3_readNumber.2.1 96 = .ok (.ireturn, 1) := by decide +kernel
theorem dX4_init_0 : decode mX4_init.2.1 0 = .ok (.aload_n 0, 1) := by decide +kernel
theorem dX4_init_1 : decode mX4_init.2.1 1 = .ok (.invokespecial 3, 3) := by decide +kernel
theorem dX4_init_4 : decode mX4_init.2.1 4 = .ok (.aload_n 0, 1) := by decide +kernel
theorem dX4_init_5 : decode mX4_init.2.1 5 = .ok (.iconst 4, 1) := by decide +kernel
theorem dX4_init_6 : decode mX4_init.2.1 6 = .ok (.anewarray 9, 3) := by decide +kernel
theorem dX4_init_9 : decode mX4_init.2.1 9 = .ok (.putfield 11, 3) := by decide +kernel
theorem dX4_init_12 : decode mX4_init.2.1 12 = .ok (.iconst 0, 1) := by decide +kernel
theorem dX4_init_13 : decode mX4_init.2.1 13 = .ok (.istore_n 1, 1) := by decide +kernel
theorem dX4_init_14 : decode mX4_init.2.1 14 = .ok (.iload_n 1, 1) := by decide +kernel
theorem dX4_init_15 : decode mX4_init.2.1 15 = .ok (.aload_n 0, 1) := by decide +kernel
theorem dX4_init_16 : decode mX4_init.2.1 16 = .ok (.getfield 11, 3) := by decide +kernel
theorem dX4_init_19 : decode mX4_init.2.1 19 = .ok (.arraylength, 1) := by decide +kernel
theorem dX4_init_20 : decode mX4_init.2.1 20 = .ok (.if_icmp .ge 22, 3) := by decide +kernel
theorem dX4_init_23 : decode mX4_init.2.1 23 = .ok (.aload_n 0, 1) := by decide +kernel
theorem dX4_init_24 : decode mX4_init.2.1 24 = .ok (.getfield 11, 3) := by decide +kernel
theorem dX4_init_27 : decode mX4_init.2.1 27 = .ok (.iload_n 1, 1) := by decide +kernel
theorem dX4_init_28 : decode mX4_init.2.1 28 = .ok (.new 9, 3) := by decide +kernel
theorem dX4_init_31 : decode mX4_init.2.1 31 = .ok (.dup, 1) := by decide +kernel
theorem dX4_init_32 : decode mX4_init.2.1 32 = .ok (.invokespecial 17, 3) := by decide +kernel
theorem dX4_init_35 : decode mX4_init.2.1 35 = .ok (.aastore, 1) := by decide +kernel
theorem dX4_init_36 : decode mX4_init.2.1 36 = .ok (.iinc 1 1, 3) := by decide +kernel
theorem dX4_init_39 : decode mX4_init.2.1 39 = .ok (.goto (-25), 3) := by decide +kernel
theorem dX4_init_42 : decode mX4_init.2.1 42 = .ok (.return_, 1) := by decide +kernel
theorem dX4_has_0 : decode mX4_has.2.1 0 = .ok (.iload_n 1, 1) := by decide +kernel
theorem dX4_has_1 : decode mX4_has.2.1 1 = .ok (.ifCond .lt 24, 3) := by decide +kernel
theorem dX4_has_4 : decode mX4_has.2.1 4 = .ok (.iload_n 1, 1) := by decide +kernel
theorem dX4_has_5 : decode mX4_has.2.1 5 = .ok (.aload_n 0, 1) := by decide +kernel
theorem dX4_has_6 : decode mX4_has.2.1 6 = .ok (.getfield 18, 3) := by decide +kernel
theorem dX4_has_9 : decode mX4_has.2.1 9 = .ok (.if_icmp .ge 16, 3) := by decide +kernel
theorem dX4_has_12 : decode mX4_has.2.1 12 = .ok (.iload_n 1, 1) := by decide +kernel
theorem dX4_has_13 : decode mX4_has.2.1 13 = .ok (.aload_n 0, 1) := by decide +kernel
theorem dX4_has_14 : decode mX4_has.2.1 14 = .ok (.getfield 11, 3) := by decide +kernel
theorem dX4_has_17 : decode mX4_has.2.1 17 = .ok (.arraylength, 1) := by decide +kernel
theorem dX4_has_18 : decode mX4_has.2.1 18 = .ok (.if_icmp .ge 7, 3) := by decide +kernel
theorem dX4_has_21 : decode mX4_has.2.1 21 = .ok (.iconst 1, 1) := by decide +kernel
theorem dX4_has_22 : decode mX4_has.2.1 22 = .ok (.goto 4, 3) := by decide +kernel
theorem dX4_has_25 : decode mX4_has.2.1 25 = .ok (.iconst 0, 1) := by decide +kernel
theorem dX4_has_26 : decode mX4_has.2.1 26 = .ok (.ireturn, 1) := by decide +kernel
theorem dX4_at_0 : decode mX4_at.2.1 0 = .ok (.aload_n 0, 1) := by decide +kernel
theorem dX4_at_1 : decode mX4_at.2.1 1 = .ok (.getfield 11, 3) := by decide +kernel
theorem dX4_at_4 : decode mX4_at.2.1 4 = .ok (.aload_n 0, 1) := by decide +kernel
theorem dX4_at_5 : decode mX4_at.2.1 5 = .ok (.iload_n 1, 1) := by decide +kernel
theorem dX4_at_6 : decode mX4_at.2.1 6 = .ok (.invokevirtual 22, 3) := by decide +kernel
theorem dX4_at_9 : decode mX4_at.2.1 9 = .ok (.ifCond .eq 7, 3) := by decide +kernel
theorem dX4_at_12 : decode mX4_at.2.1 12 = .ok (.iload_n 1, 1) := by decide +kernel
theorem dX4_at_13 : decode mX4_at.2.1 13 = .ok (.goto 4, 3) := by decide +kernel
theorem dX4_at_16 : decode mX4_at.2.1 16 = .ok (.iconst 0, 1) := by decide +kernel
theorem dX4_at_17 : decode mX4_at.2.1 17 = .ok (.aaload, 1) := by decide +kernel
theorem dX4_at_18 : decode mX4_at.2.1 18 = .ok (.areturn, 1) := by decide +kernel
theorem dX4_keep_0 : decode mX4_keep.2.1 0 = .ok (.aload_n 0, 1) := by decide +kernel
theorem dX4_keep_1 : decode mX4_keep.2.1 1 = .ok (.getfield 18, 3) := by decide +kernel
theorem dX4_keep_4 : decode mX4_keep.2.1 4 = .ok (.aload_n 0, 1) := by decide +kernel
theorem dX4_keep_5 : decode mX4_keep.2.1 5 = .ok (.getfield 11, 3) := by decide +kernel
theorem dX4_keep_8 : decode mX4_keep.2.1 8 = .ok (.arraylength, 1) := by decide +kernel
theorem dX4_keep_9 : decode mX4_keep.2.1 9 = .ok (.if_icmp .lt 5, 3) := by decide +kernel
theorem dX4_keep_12 : decode mX4_keep.2.1 12 = .ok (.iconst (-1), 1) := by decide +kernel
theorem dX4_keep_13 : decode mX4_keep.2.1 13 = .ok (.ireturn, 1) := by decide +kernel
theorem dX4_keep_14 : decode mX4_keep.2.1 14 = .ok (.aload_n 0, 1) := by decide +kernel
theorem dX4_keep_15 : decode mX4_keep.2.1 15 = .ok (.getfield 11, 3) := by decide +kernel
theorem dX4_keep_18 : decode mX4_keep.2.1 18 = .ok (.aload_n 0, 1) := by decide +kernel
theorem dX4_keep_19 : decode mX4_keep.2.1 19 = .ok (.getfield 18, 3) := by decide +kernel
theorem dX4_keep_22 : decode mX4_keep.2.1 22 = .ok (.aaload, 1) := by decide +kernel
theorem dX4_keep_23 : decode mX4_keep.2.1 23 = .ok (.aload_n 1, 1) := by decide +kernel
theorem dX4_keep_24 : decode mX4_keep.2.1 24 = .ok (.invokevirtual 26, 3) := by decide +kernel
theorem dX4_keep_27 : decode mX4_keep.2.1 27 = .ok (.aload_n 0, 1) := by decide +kernel
theorem dX4_keep_28 : decode mX4_keep.2.1 28 = .ok (.dup, 1) := by decide +kernel
theorem dX4_keep_29 : decode mX4_keep.2.1 29 = .ok (.getfield 18, 3) := by decide +kernel
theorem dX4_keep_32 : decode mX4_keep.2.1 32 = .ok (.iconst 1, 1) := by decide +kernel
theorem dX4_keep_33 : decode mX4_keep.2.1 33 = .ok (.iadd, 1) := by decide +kernel
theorem dX4_keep_34 : decode mX4_keep.2.1 34 = .ok (.putfield 18, 3) := by decide +kernel
theorem dX4_keep_37 : decode mX4_keep.2.1 37 = .ok (.aload_n 0, 1) := by decide +kernel
theorem dX4_keep_38 : decode mX4_keep.2.1 38 = .ok (.getfield 18, 3) := by decide +kernel
theorem dX4_keep_41 : decode mX4_keep.2.1 41 = .ok (.iconst 1, 1) := by decide +kernel
theorem dX4_keep_42 : decode mX4_keep.2.1 42 = .ok (.isub, 1) := by decide +kernel
theorem dX4_keep_43 : decode mX4_keep.2.1 43 = .ok (.ireturn, 1) := by decide +kernel
theorem dX6_init_0 : decode mX6_init.2.1 0 = .ok (.aload_n 0, 1) := by decide +kernel
theorem dX6_init_1 : decode mX6_init.2.1 1 = .ok (.invokespecial 3, 3) := by decide +kernel
theorem dX6_init_4 : decode mX6_init.2.1 4 = .ok (.aload_n 0, 1) := by decide +kernel
theorem dX6_init_5 : decode mX6_init.2.1 5 = .ok (.sipush 160, 3) := by decide +kernel
theorem dX6_init_8 : decode mX6_init.2.1 8 = .ok (.newarray .int, 2) := by decide +kernel
theorem dX6_init_10 : decode mX6_init.2.1 10 = .ok (.putfield 9, 3) := by decide +kernel
theorem dX6_init_13 : decode mX6_init.2.1 13 = .ok (.return_, 1) := by decide +kernel
theorem dX6_bytesIn_0 : decode mX6_bytesIn.2.1 0 = .ok (.iconst 0, 1) := by decide +kernel
theorem dX6_bytesIn_1 : decode mX6_bytesIn.2.1 1 = .ok (.istore_n 1, 1) := by decide +kernel
theorem dX6_bytesIn_2 : decode mX6_bytesIn.2.1 2 = .ok (.bipush 24, 2) := by decide +kernel
theorem dX6_bytesIn_4 : decode mX6_bytesIn.2.1 4 = .ok (.istore_n 2, 1) := by decide +kernel
theorem dX6_bytesIn_5 : decode mX6_bytesIn.2.1 5 = .ok (.iload_n 2, 1) := by decide +kernel
theorem dX6_bytesIn_6 : decode mX6_bytesIn.2.1 6 = .ok (.ifCond .lt 22, 3) := by decide +kernel
theorem dX6_bytesIn_9 : decode mX6_bytesIn.2.1 9 = .ok (.iload_n 0, 1) := by decide +kernel
theorem dX6_bytesIn_10 : decode mX6_bytesIn.2.1 10 = .ok (.iload_n 2, 1) := by decide +kernel
theorem dX6_bytesIn_11 : decode mX6_bytesIn.2.1 11 = .ok (.iushr, 1) := by decide +kernel
theorem dX6_bytesIn_12 : decode mX6_bytesIn.2.1 12 = .ok (.sipush 255, 3) := by decide +kernel
theorem dX6_bytesIn_15 : decode mX6_bytesIn.2.1 15 = .ok (.iand, 1) := by decide +kernel
theorem dX6_bytesIn_16 : decode mX6_bytesIn.2.1 16 = .ok (.ifCond .eq 6, 3) := by decide +kernel
theorem dX6_bytesIn_19 : decode mX6_bytesIn.2.1 19 = .ok (.iinc 1 1, 3) := by decide +kernel
theorem dX6_bytesIn_22 : decode mX6_bytesIn.2.1 22 = .ok (.iinc 2 (-8), 3) := by decide +kernel
theorem dX6_bytesIn_25 : decode mX6_bytesIn.2.1 25 = .ok (.goto (-20), 3) := by decide +kernel
theorem dX6_bytesIn_28 : decode mX6_bytesIn.2.1 28 = .ok (.iload_n 1, 1) := by decide +kernel
theorem dX6_bytesIn_29 : decode mX6_bytesIn.2.1 29 = .ok (.ireturn, 1) := by decide +kernel
theorem dX6_append_0 : decode mX6_append.2.1 0 = .ok (.bipush 24, 2) := by decide +kernel
theorem dX6_append_2 : decode mX6_append.2.1 2 = .ok (.istore_n 2, 1) := by decide +kernel
theorem dX6_append_3 : decode mX6_append.2.1 3 = .ok (.iload_n 2, 1) := by decide +kernel
theorem dX6_append_4 : decode mX6_append.2.1 4 = .ok (.ifCond .lt 53, 3) := by decide +kernel
theorem dX6_append_7 : decode mX6_append.2.1 7 = .ok (.iload_n 1, 1) := by decide +kernel
theorem dX6_append_8 : decode mX6_append.2.1 8 = .ok (.iload_n 2, 1) := by decide +kernel
theorem dX6_append_9 : decode mX6_append.2.1 9 = .ok (.iushr, 1) := by decide +kernel
theorem dX6_append_10 : decode mX6_append.2.1 10 = .ok (.sipush 255, 3) := by decide +kernel
theorem dX6_append_13 : decode mX6_append.2.1 13 = .ok (.iand, 1) := by decide +kernel
theorem dX6_append_14 : decode mX6_append.2.1 14 = .ok (.istore_n 3, 1) := by decide +kernel
theorem dX6_append_15 : decode mX6_append.2.1 15 = .ok (.iload_n 3, 1) := by decide +kernel
theorem dX6_append_16 : decode mX6_append.2.1 16 = .ok (.ifCond .eq 35, 3) := by decide +kernel
theorem dX6_append_19 : decode mX6_append.2.1 19 = .ok (.aload_n 0, 1) := by decide +kernel
theorem dX6_append_20 : decode mX6_append.2.1 20 = .ok (.getfield 15, 3) := by decide +kernel
theorem dX6_append_23 : decode mX6_append.2.1 23 = .ok (.aload_n 0, 1) := by decide +kernel
theorem dX6_append_24 : decode mX6_append.2.1 24 = .ok (.getfield 9, 3) := by decide +kernel
theorem dX6_append_27 : decode mX6_append.2.1 27 = .ok (.arraylength, 1) := by decide +kernel
theorem dX6_append_28 : decode mX6_append.2.1 28 = .ok (.if_icmp .ge 23, 3) := by decide +kernel
theorem dX6_append_31 : decode mX6_append.2.1 31 = .ok (.aload_n 0, 1) := by decide +kernel
theorem dX6_append_32 : decode mX6_append.2.1 32 = .ok (.getfield 9, 3) := by decide +kernel
theorem dX6_append_35 : decode mX6_append.2.1 35 = .ok (.aload_n 0, 1) := by decide +kernel
theorem dX6_append_36 : decode mX6_append.2.1 36 = .ok (.getfield 15, 3) := by decide +kernel
theorem dX6_append_39 : decode mX6_append.2.1 39 = .ok (.iload_n 3, 1) := by decide +kernel
theorem dX6_append_40 : decode mX6_append.2.1 40 = .ok (.iastore, 1) := by decide +kernel
theorem dX6_append_41 : decode mX6_append.2.1 41 = .ok (.aload_n 0, 1) := by decide +kernel
theorem dX6_append_42 : decode mX6_append.2.1 42 = .ok (.dup, 1) := by decide +kernel
theorem dX6_append_43 : decode mX6_append.2.1 43 = .ok (.getfield 15, 3) := by decide +kernel
theorem dX6_append_46 : decode mX6_append.2.1 46 = .ok (.iconst 1, 1) := by decide +kernel
theorem dX6_append_47 : decode mX6_append.2.1 47 = .ok (.iadd, 1) := by decide +kernel
theorem dX6_append_48 : decode mX6_append.2.1 48 = .ok (.putfield 15, 3) := by decide +kernel
theorem dX6_append_51 : decode mX6_append.2.1 51 = .ok (.iinc 2 (-8), 3) := by decide +kernel
theorem dX6_append_54 : decode mX6_append.2.1 54 = .ok (.goto (-51), 3) := by decide +kernel
theorem dX6_append_57 : decode mX6_append.2.1 57 = .ok (.return_, 1) := by decide +kernel
theorem dX6_byteAt_0 : decode mX6_byteAt.2.1 0 = .ok (.iload_n 1, 1) := by decide +kernel
theorem dX6_byteAt_1 : decode mX6_byteAt.2.1 1 = .ok (.ifCond .lt 29, 3) := by decide +kernel
theorem dX6_byteAt_4 : decode mX6_byteAt.2.1 4 = .ok (.iload_n 1, 1) := by decide +kernel
theorem dX6_byteAt_5 : decode mX6_byteAt.2.1 5 = .ok (.aload_n 0, 1) := by decide +kernel
theorem dX6_byteAt_6 : decode mX6_byteAt.2.1 6 = .ok (.getfield 15, 3) := by decide +kernel
theorem dX6_byteAt_9 : decode mX6_byteAt.2.1 9 = .ok (.if_icmp .ge 21, 3) := by decide +kernel
theorem dX6_byteAt_12 : decode mX6_byteAt.2.1 12 = .ok (.iload_n 1, 1) := by decide +kernel
theorem dX6_byteAt_13 : decode mX6_byteAt.2.1 13 = .ok (.aload_n 0, 1) := by decide +kernel
theorem dX6_byteAt_14 : decode mX6_byteAt.2.1 14 = .ok (.getfield 9, 3) := by decide +kernel
theorem dX6_byteAt_17 : decode mX6_byteAt.2.1 17 = .ok (.arraylength, 1) := by decide +kernel
theorem dX6_byteAt_18 : decode mX6_byteAt.2.1 18 = .ok (.if_icmp .ge 12, 3) := by decide +kernel
theorem dX6_byteAt_21 : decode mX6_byteAt.2.1 21 = .ok (.aload_n 0, 1) := by decide +kernel
theorem dX6_byteAt_22 : decode mX6_byteAt.2.1 22 = .ok (.getfield 9, 3) := by decide +kernel
theorem dX6_byteAt_25 : decode mX6_byteAt.2.1 25 = .ok (.iload_n 1, 1) := by decide +kernel
theorem dX6_byteAt_26 : decode mX6_byteAt.2.1 26 = .ok (.iaload, 1) := by decide +kernel
theorem dX6_byteAt_27 : decode mX6_byteAt.2.1 27 = .ok (.goto 4, 3) := by decide +kernel
theorem dX6_byteAt_30 : decode mX6_byteAt.2.1 30 = .ok (.iconst (-1), 1) := by decide +kernel
theorem dX6_byteAt_31 : decode mX6_byteAt.2.1 31 = .ok (.ireturn, 1) := by decide +kernel
