theorem dX0_init_0 : decode cX0_init 0 = .ok (.aload_n 0, 1) := by decide +kernel
theorem dX0_init_1 : decode cX0_init 1 = .ok (.invokespecial 1, 3) := by decide +kernel
theorem dX0_init_4 : decode cX0_init 4 = .ok (.aload_n 0, 1) := by decide +kernel
theorem dX0_init_5 : decode cX0_init 5 = .ok (.iconst 0, 1) := by decide +kernel
theorem dX0_init_6 : decode cX0_init 6 = .ok (.iload_n 1, 1) := by decide +kernel
theorem dX0_init_7 : decode cX0_init 7 = .ok (.invokestatic 7, 3) := by decide +kernel
theorem dX0_init_10 : decode cX0_init 10 = .ok (.bipush 6, 2) := by decide +kernel
theorem dX0_init_12 : decode cX0_init 12 = .ok (.imul, 1) := by decide +kernel
theorem dX0_init_13 : decode cX0_init 13 = .ok (.newarray .int, 2) := by decide +kernel
theorem dX0_init_15 : decode cX0_init 15 = .ok (.putfield 15, 3) := by decide +kernel
theorem dX0_init_18 : decode cX0_init 18 = .ok (.return_, 1) := by decide +kernel
theorem dX0_setAxis_0 : decode cX0_setAxis 0 = .ok (.iload_n 1, 1) := by decide +kernel
theorem dX0_setAxis_1 : decode cX0_setAxis 1 = .ok (.bipush 6, 2) := by decide +kernel
theorem dX0_setAxis_3 : decode cX0_setAxis 3 = .ok (.imul, 1) := by decide +kernel
theorem dX0_setAxis_4 : decode cX0_setAxis 4 = .ok (.iconst 2, 1) := by decide +kernel
theorem dX0_setAxis_5 : decode cX0_setAxis 5 = .ok (.iload_n 2, 1) := by decide +kernel
theorem dX0_setAxis_6 : decode cX0_setAxis 6 = .ok (.imul, 1) := by decide +kernel
theorem dX0_setAxis_7 : decode cX0_setAxis 7 = .ok (.iadd, 1) := by decide +kernel
theorem dX0_setAxis_8 : decode cX0_setAxis 8 = .ok (.istore 5, 2) := by decide +kernel
theorem dX0_setAxis_10 : decode cX0_setAxis 10 = .ok (.aload_n 0, 1) := by decide +kernel
theorem dX0_setAxis_11 : decode cX0_setAxis 11 = .ok (.getfield 15, 3) := by decide +kernel
theorem dX0_setAxis_14 : decode cX0_setAxis 14 = .ok (.iload 5, 2) := by decide +kernel
theorem dX0_setAxis_16 : decode cX0_setAxis 16 = .ok (.iload_n 3, 1) := by decide +kernel
theorem dX0_setAxis_17 : decode cX0_setAxis 17 = .ok (.iastore, 1) := by decide +kernel
theorem dX0_setAxis_18 : decode cX0_setAxis 18 = .ok (.aload_n 0, 1) := by decide +kernel
theorem dX0_setAxis_19 : decode cX0_setAxis 19 = .ok (.getfield 15, 3) := by decide +kernel
theorem dX0_setAxis_22 : decode cX0_setAxis 22 = .ok (.iload 5, 2) := by decide +kernel
theorem dX0_setAxis_24 : decode cX0_setAxis 24 = .ok (.iconst 1, 1) := by decide +kernel
theorem dX0_setAxis_25 : decode cX0_setAxis 25 = .ok (.iadd, 1) := by decide +kernel
theorem dX0_setAxis_26 : decode cX0_setAxis 26 = .ok (.iload 4, 2) := by decide +kernel
theorem dX0_setAxis_28 : decode cX0_setAxis 28 = .ok (.iastore, 1) := by decide +kernel
theorem dX0_setAxis_29 : decode cX0_setAxis 29 = .ok (.return_, 1) := by decide +kernel
theorem dX0_copyFrom_0 : decode cX0_copyFrom 0 = .ok (.iconst 0, 1) := by decide +kernel
theorem dX0_copyFrom_1 : decode cX0_copyFrom 1 = .ok (.istore 4, 2) := by decide +kernel
theorem dX0_copyFrom_3 : decode cX0_copyFrom 3 = .ok (.iload 4, 2) := by decide +kernel
theorem dX0_copyFrom_5 : decode cX0_copyFrom 5 = .ok (.bipush 6, 2) := by decide +kernel
theorem dX0_copyFrom_7 : decode cX0_copyFrom 7 = .ok (.if_icmp .ge 33, 3) := by decide +kernel
theorem dX0_copyFrom_10 : decode cX0_copyFrom 10 = .ok (.aload_n 0, 1) := by decide +kernel
theorem dX0_copyFrom_11 : decode cX0_copyFrom 11 = .ok (.getfield 15, 3) := by decide +kernel
theorem dX0_copyFrom_14 : decode cX0_copyFrom 14 = .ok (.iload_n 1, 1) := by decide +kernel
theorem dX0_copyFrom_15 : decode cX0_copyFrom 15 = .ok (.bipush 6, 2) := by decide +kernel
theorem dX0_copyFrom_17 : decode cX0_copyFrom 17 = .ok (.imul, 1) := by decide +kernel
theorem dX0_copyFrom_18 : decode cX0_copyFrom 18 = .ok (.iload 4, 2) := by decide +kernel
theorem dX0_copyFrom_20 : decode cX0_copyFrom 20 = .ok (.iadd, 1) := by decide +kernel
theorem dX0_copyFrom_21 : decode cX0_copyFrom 21 = .ok (.aload_n 2, 1) := by decide +kernel
theorem dX0_copyFrom_22 : decode cX0_copyFrom 22 = .ok (.getfield 15, 3) := by decide +kernel
theorem dX0_copyFrom_25 : decode cX0_copyFrom 25 = .ok (.iload_n 3, 1) := by decide +kernel
theorem dX0_copyFrom_26 : decode cX0_copyFrom 26 = .ok (.bipush 6, 2) := by decide +kernel
theorem dX0_copyFrom_28 : decode cX0_copyFrom 28 = .ok (.imul, 1) := by decide +kernel
theorem dX0_copyFrom_29 : decode cX0_copyFrom 29 = .ok (.iload 4, 2) := by decide +kernel
theorem dX0_copyFrom_31 : decode cX0_copyFrom 31 = .ok (.iadd, 1) := by decide +kernel
theorem dX0_copyFrom_32 : decode cX0_copyFrom 32 = .ok (.iaload, 1) := by decide +kernel
theorem dX0_copyFrom_33 : decode cX0_copyFrom 33 = .ok (.iastore, 1) := by decide +kernel
theorem dX0_copyFrom_34 : decode cX0_copyFrom 34 = .ok (.iinc 4 1, 3) := by decide +kernel
theorem dX0_copyFrom_37 : decode cX0_copyFrom 37 = .ok (.goto (-34), 3) := by decide +kernel
theorem dX0_copyFrom_40 : decode cX0_copyFrom 40 = .ok (.return_, 1) := by decide +kernel
theorem dX0_widen_0 : decode cX0_widen 0 = .ok (.iconst 0, 1) := by decide +kernel
theorem dX0_widen_1 : decode cX0_widen 1 = .ok (.istore 4, 2) := by decide +kernel
theorem dX0_widen_3 : decode cX0_widen 3 = .ok (.iload 4, 2) := by decide +kernel
theorem dX0_widen_5 : decode cX0_widen 5 = .ok (.bipush 6, 2) := by decide +kernel
theorem dX0_widen_7 : decode cX0_widen 7 = .ok (.if_icmp .ge 81, 3) := by decide +kernel
theorem dX0_widen_10 : decode cX0_widen 10 = .ok (.iload_n 1, 1) := by decide +kernel
theorem dX0_widen_11 : decode cX0_widen 11 = .ok (.bipush 6, 2) := by decide +kernel
theorem dX0_widen_13 : decode cX0_widen 13 = .ok (.imul, 1) := by decide +kernel
theorem dX0_widen_14 : decode cX0_widen 14 = .ok (.iload 4, 2) := by decide +kernel
theorem dX0_widen_16 : decode cX0_widen 16 = .ok (.iadd, 1) := by decide +kernel
theorem dX0_widen_17 : decode cX0_widen 17 = .ok (.istore 5, 2) := by decide +kernel
theorem dX0_widen_19 : decode cX0_widen 19 = .ok (.iload_n 3, 1) := by decide +kernel
theorem dX0_widen_20 : decode cX0_widen 20 = .ok (.bipush 6, 2) := by decide +kernel
theorem dX0_widen_22 : decode cX0_widen 22 = .ok (.imul, 1) := by decide +kernel
theorem dX0_widen_23 : decode cX0_widen 23 = .ok (.iload 4, 2) := by decide +kernel
theorem dX0_widen_25 : decode cX0_widen 25 = .ok (.iadd, 1) := by decide +kernel
theorem dX0_widen_26 : decode cX0_widen 26 = .ok (.istore 6, 2) := by decide +kernel
theorem dX0_widen_28 : decode cX0_widen 28 = .ok (.aload_n 0, 1) := by decide +kernel
theorem dX0_widen_29 : decode cX0_widen 29 = .ok (.getfield 15, 3) := by decide +kernel
theorem dX0_widen_32 : decode cX0_widen 32 = .ok (.iload 5, 2) := by decide +kernel
theorem dX0_widen_34 : decode cX0_widen 34 = .ok (.aload_n 0, 1) := by decide +kernel
theorem dX0_widen_35 : decode cX0_widen 35 = .ok (.getfield 15, 3) := by decide +kernel
theorem dX0_widen_38 : decode cX0_widen 38 = .ok (.iload 5, 2) := by decide +kernel
theorem dX0_widen_40 : decode cX0_widen 40 = .ok (.iaload, 1) := by decide +kernel
theorem dX0_widen_41 : decode cX0_widen 41 = .ok (.aload_n 2, 1) := by decide +kernel
theorem dX0_widen_42 : decode cX0_widen 42 = .ok (.getfield 15, 3) := by decide +kernel
theorem dX0_widen_45 : decode cX0_widen 45 = .ok (.iload 6, 2) := by decide +kernel
theorem dX0_widen_47 : decode cX0_widen 47 = .ok (.iaload, 1) := by decide +kernel
theorem dX0_widen_48 : decode cX0_widen 48 = .ok (.invokestatic 19, 3) := by decide +kernel
theorem dX0_widen_51 : decode cX0_widen 51 = .ok (.iastore, 1) := by decide +kernel
theorem dX0_widen_52 : decode cX0_widen 52 = .ok (.aload_n 0, 1) := by decide +kernel
theorem dX0_widen_53 : decode cX0_widen 53 = .ok (.getfield 15, 3) := by decide +kernel
theorem dX0_widen_56 : decode cX0_widen 56 = .ok (.iload 5, 2) := by decide +kernel
theorem dX0_widen_58 : decode cX0_widen 58 = .ok (.iconst 1, 1) := by decide +kernel
theorem dX0_widen_59 : decode cX0_widen 59 = .ok (.iadd, 1) := by decide +kernel
theorem dX0_widen_60 : decode cX0_widen 60 = .ok (.aload_n 0, 1) := by decide +kernel
theorem dX0_widen_61 : decode cX0_widen 61 = .ok (.getfield 15, 3) := by decide +kernel
theorem dX0_widen_64 : decode cX0_widen 64 = .ok (.iload 5, 2) := by decide +kernel
theorem dX0_widen_66 : decode cX0_widen 66 = .ok (.iconst 1, 1) := by decide +kernel
theorem dX0_widen_67 : decode cX0_widen 67 = .ok (.iadd, 1) := by decide +kernel
theorem dX0_widen_68 : decode cX0_widen 68 = .ok (.iaload, 1) := by decide +kernel
theorem dX0_widen_69 : decode cX0_widen 69 = .ok (.aload_n 2, 1) := by decide +kernel
theorem dX0_widen_70 : decode cX0_widen 70 = .ok (.getfield 15, 3) := by decide +kernel
theorem dX0_widen_73 : decode cX0_widen 73 = .ok (.iload 6, 2) := by decide +kernel
theorem dX0_widen_75 : decode cX0_widen 75 = .ok (.iconst 1, 1) := by decide +kernel
theorem dX0_widen_76 : decode cX0_widen 76 = .ok (.iadd, 1) := by decide +kernel
theorem dX0_widen_77 : decode cX0_widen 77 = .ok (.iaload, 1) := by decide +kernel
theorem dX0_widen_78 : decode cX0_widen 78 = .ok (.invokestatic 7, 3) := by decide +kernel
theorem dX0_widen_81 : decode cX0_widen 81 = .ok (.iastore, 1) := by decide +kernel
theorem dX0_widen_82 : decode cX0_widen 82 = .ok (.iinc 4 2, 3) := by decide +kernel
theorem dX0_widen_85 : decode cX0_widen 85 = .ok (.goto (-82), 3) := by decide +kernel
theorem dX0_widen_88 : decode cX0_widen 88 = .ok (.return_, 1) := by decide +kernel
theorem dX0_sizeOf_0 : decode cX0_sizeOf 0 = .ok (.iconst 1, 1) := by decide +kernel
theorem dX0_sizeOf_1 : decode cX0_sizeOf 1 = .ok (.istore_n 2, 1) := by decide +kernel
theorem dX0_sizeOf_2 : decode cX0_sizeOf 2 = .ok (.iload_n 1, 1) := by decide +kernel
theorem dX0_sizeOf_3 : decode cX0_sizeOf 3 = .ok (.bipush 6, 2) := by decide +kernel
theorem dX0_sizeOf_5 : decode cX0_sizeOf 5 = .ok (.imul, 1) := by decide +kernel
theorem dX0_sizeOf_6 : decode cX0_sizeOf 6 = .ok (.istore_n 3, 1) := by decide +kernel
theorem dX0_sizeOf_7 : decode cX0_sizeOf 7 = .ok (.iload_n 3, 1) := by decide +kernel
theorem dX0_sizeOf_8 : decode cX0_sizeOf 8 = .ok (.iload_n 1, 1) := by decide +kernel
theorem dX0_sizeOf_9 : decode cX0_sizeOf 9 = .ok (.bipush 6, 2) := by decide +kernel
theorem dX0_sizeOf_11 : decode cX0_sizeOf 11 = .ok (.imul, 1) := by decide +kernel
theorem dX0_sizeOf_12 : decode cX0_sizeOf 12 = .ok (.bipush 6, 2) := by decide +kernel
theorem dX0_sizeOf_14 : decode cX0_sizeOf 14 = .ok (.iadd, 1) := by decide +kernel
theorem dX0_sizeOf_15 : decode cX0_sizeOf 15 = .ok (.if_icmp .ge 29, 3) := by decide +kernel
theorem dX0_sizeOf_18 : decode cX0_sizeOf 18 = .ok (.iload_n 2, 1) := by decide +kernel
theorem dX0_sizeOf_19 : decode cX0_sizeOf 19 = .ok (.aload_n 0, 1) := by decide +kernel
theorem dX0_sizeOf_20 : decode cX0_sizeOf 20 = .ok (.getfield 15, 3) := by decide +kernel
theorem dX0_sizeOf_23 : decode cX0_sizeOf 23 = .ok (.iload_n 3, 1) := by decide +kernel
theorem dX0_sizeOf_24 : decode cX0_sizeOf 24 = .ok (.iconst 1, 1) := by decide +kernel
theorem dX0_sizeOf_25 : decode cX0_sizeOf 25 = .ok (.iadd, 1) := by decide +kernel
theorem dX0_sizeOf_26 : decode cX0_sizeOf 26 = .ok (.iaload, 1) := by decide +kernel
theorem dX0_sizeOf_27 : decode cX0_sizeOf 27 = .ok (.aload_n 0, 1) := by decide +kernel
theorem dX0_sizeOf_28 : decode cX0_sizeOf 28 = .ok (.getfield 15, 3) := by decide +kernel
theorem dX0_sizeOf_31 : decode cX0_sizeOf 31 = .ok (.iload_n 3, 1) := by decide +kernel
theorem dX0_sizeOf_32 : decode cX0_sizeOf 32 = .ok (.iaload, 1) := by decide +kernel
theorem dX0_sizeOf_33 : decode cX0_sizeOf 33 = .ok (.isub, 1) := by decide +kernel
theorem dX0_sizeOf_34 : decode cX0_sizeOf 34 = .ok (.iconst 1, 1) := by decide +kernel
theorem dX0_sizeOf_35 : decode cX0_sizeOf 35 = .ok (.iadd, 1) := by decide +kernel
theorem dX0_sizeOf_36 : decode cX0_sizeOf 36 = .ok (.imul, 1) := by decide +kernel
theorem dX0_sizeOf_37 : decode cX0_sizeOf 37 = .ok (.istore_n 2, 1) := by decide +kernel
theorem dX0_sizeOf_38 : decode cX0_sizeOf 38 = .ok (.iinc 3 2, 3) := by decide +kernel
theorem dX0_sizeOf_41 : decode cX0_sizeOf 41 = .ok (.goto (-34), 3) := by decide +kernel
theorem dX0_sizeOf_44 : decode cX0_sizeOf 44 = .ok (.iload_n 2, 1) := by decide +kernel
theorem dX0_sizeOf_45 : decode cX0_sizeOf 45 = .ok (.ireturn, 1) := by decide +kernel
theorem dX0_growth_0 : decode cX0_growth 0 = .ok (.iconst 1, 1) := by decide +kernel
theorem dX0_growth_1 : decode cX0_growth 1 = .ok (.istore 4, 2) := by decide +kernel
theorem dX0_growth_3 : decode cX0_growth 3 = .ok (.iconst 0, 1) := by decide +kernel
theorem dX0_growth_4 : decode cX0_growth 4 = .ok (.istore 5, 2) := by decide +kernel
theorem dX0_growth_6 : decode cX0_growth 6 = .ok (.iload 5, 2) := by decide +kernel
theorem dX0_growth_8 : decode cX0_growth 8 = .ok (.bipush 6, 2) := by decide +kernel
theorem dX0_growth_10 : decode cX0_growth 10 = .ok (.if_icmp .ge 81, 3) := by decide +kernel
theorem dX0_growth_13 : decode cX0_growth 13 = .ok (.iload_n 1, 1) := by decide +kernel
theorem dX0_growth_14 : decode cX0_growth 14 = .ok (.bipush 6, 2) := by decide +kernel
theorem dX0_growth_16 : decode cX0_growth 16 = .ok (.imul, 1) := by decide +kernel
theorem dX0_growth_17 : decode cX0_growth 17 = .ok (.iload 5, 2) := by decide +kernel
theorem dX0_growth_19 : decode cX0_growth 19 = .ok (.iadd, 1) := by decide +kernel
theorem dX0_growth_20 : decode cX0_growth 20 = .ok (.istore 6, 2) := by decide +kernel
theorem dX0_growth_22 : decode cX0_growth 22 = .ok (.iload_n 3, 1) := by decide +kernel
theorem dX0_growth_23 : decode cX0_growth 23 = .ok (.bipush 6, 2) := by decide +kernel
theorem dX0_growth_25 : decode cX0_growth 25 = .ok (.imul, 1) := by decide +kernel
theorem dX0_growth_26 : decode cX0_growth 26 = .ok (.iload 5, 2) := by decide +kernel
theorem dX0_growth_28 : decode cX0_growth 28 = .ok (.iadd, 1) := by decide +kernel
theorem dX0_growth_29 : decode cX0_growth 29 = .ok (.istore 7, 2) := by decide +kernel
theorem dX0_growth_31 : decode cX0_growth 31 = .ok (.aload_n 0, 1) := by decide +kernel
theorem dX0_growth_32 : decode cX0_growth 32 = .ok (.getfield 15, 3) := by decide +kernel
theorem dX0_growth_35 : decode cX0_growth 35 = .ok (.iload 6, 2) := by decide +kernel
theorem dX0_growth_37 : decode cX0_growth 37 = .ok (.iaload, 1) := by decide +kernel
theorem dX0_growth_38 : decode cX0_growth 38 = .ok (.aload_n 2, 1) := by decide +kernel
theorem dX0_growth_39 : decode cX0_growth 39 = .ok (.getfield 15, 3) := by decide +kernel
theorem dX0_growth_42 : decode cX0_growth 42 = .ok (.iload 7, 2) := by decide +kernel
theorem dX0_growth_44 : decode cX0_growth 44 = .ok (.iaload, 1) := by decide +kernel
theorem dX0_growth_45 : decode cX0_growth 45 = .ok (.invokestatic 19, 3) := by decide +kernel
theorem dX0_growth_48 : decode cX0_growth 48 = .ok (.istore 8, 2) := by decide +kernel
theorem dX0_growth_50 : decode cX0_growth 50 = .ok (.aload_n 0, 1) := by decide +kernel
theorem dX0_growth_51 : decode cX0_growth 51 = .ok (.getfield 15, 3) := by decide +kernel
theorem dX0_growth_54 : decode cX0_growth 54 = .ok (.iload 6, 2) := by decide +kernel
theorem dX0_growth_56 : decode cX0_growth 56 = .ok (.iconst 1, 1) := by decide +kernel
theorem dX0_growth_57 : decode cX0_growth 57 = .ok (.iadd, 1) := by decide +kernel
theorem dX0_growth_58 : decode cX0_growth 58 = .ok (.iaload, 1) := by decide +kernel
theorem dX0_growth_59 : decode cX0_growth 59 = .ok (.aload_n 2, 1) := by decide +kernel
theorem dX0_growth_60 : decode cX0_growth 60 = .ok (.getfield 15, 3) := by decide +kernel
theorem dX0_growth_63 : decode cX0_growth 63 = .ok (.iload 7, 2) := by decide +kernel
theorem dX0_growth_65 : decode cX0_growth 65 = .ok (.iconst 1, 1) := by decide +kernel
theorem dX0_growth_66 : decode cX0_growth 66 = .ok (.iadd, 1) := by decide +kernel
theorem dX0_growth_67 : decode cX0_growth 67 = .ok (.iaload, 1) := by decide +kernel
theorem dX0_growth_68 : decode cX0_growth 68 = .ok (.invokestatic 7, 3) := by decide +kernel
theorem dX0_growth_71 : decode cX0_growth 71 = .ok (.istore 9, 2) := by decide +kernel
theorem dX0_growth_73 : decode cX0_growth 73 = .ok (.iload 4, 2) := by decide +kernel
theorem dX0_growth_75 : decode cX0_growth 75 = .ok (.iload 9, 2) := by decide +kernel
theorem dX0_growth_77 : decode cX0_growth 77 = .ok (.iload 8, 2) := by decide +kernel
theorem dX0_growth_79 : decode cX0_growth 79 = .ok (.isub, 1) := by decide +kernel
theorem dX0_growth_80 : decode cX0_growth 80 = .ok (.iconst 1, 1) := by decide +kernel
theorem dX0_growth_81 : decode cX0_growth 81 = .ok (.iadd, 1) := by decide +kernel
theorem dX0_growth_82 : decode cX0_growth 82 = .ok (.imul, 1) := by decide +kernel
theorem dX0_growth_83 : decode cX0_growth 83 = .ok (.istore 4, 2) := by decide +kernel
theorem dX0_growth_85 : decode cX0_growth 85 = .ok (.iinc 5 2, 3) := by decide +kernel
theorem dX0_growth_88 : decode cX0_growth 88 = .ok (.goto (-82), 3) := by decide +kernel
theorem dX0_growth_91 : decode cX0_growth 91 = .ok (.iload 4, 2) := by decide +kernel
theorem dX0_growth_93 : decode cX0_growth 93 = .ok (.aload_n 0, 1) := by decide +kernel
theorem dX0_growth_94 : decode cX0_growth 94 = .ok (.iload_n 1, 1) := by decide +kernel
theorem dX0_growth_95 : decode cX0_growth 95 = .ok (.invokevirtual 22, 3) := by decide +kernel
theorem dX0_growth_98 : decode cX0_growth 98 = .ok (.isub, 1) := by decide +kernel
theorem dX0_growth_99 : decode cX0_growth 99 = .ok (.ireturn, 1) := by decide +kernel
theorem dX0_touch_0 : decode cX0_touch 0 = .ok (.iconst 0, 1) := by decide +kernel
theorem dX0_touch_1 : decode cX0_touch 1 = .ok (.istore 4, 2) := by decide +kernel
theorem dX0_touch_3 : decode cX0_touch 3 = .ok (.iload 4, 2) := by decide +kernel
theorem dX0_touch_5 : decode cX0_touch 5 = .ok (.bipush 6, 2) := by decide +kernel
theorem dX0_touch_7 : decode cX0_touch 7 = .ok (.if_icmp .ge 67, 3) := by decide +kernel
theorem dX0_touch_10 : decode cX0_touch 10 = .ok (.iload_n 1, 1) := by decide +kernel
theorem dX0_touch_11 : decode cX0_touch 11 = .ok (.bipush 6, 2) := by decide +kernel
theorem dX0_touch_13 : decode cX0_touch 13 = .ok (.imul, 1) := by decide +kernel
theorem dX0_touch_14 : decode cX0_touch 14 = .ok (.iload 4, 2) := by decide +kernel
theorem dX0_touch_16 : decode cX0_touch 16 = .ok (.iadd, 1) := by decide +kernel
theorem dX0_touch_17 : decode cX0_touch 17 = .ok (.istore 5, 2) := by decide +kernel
theorem dX0_touch_19 : decode cX0_touch 19 = .ok (.iload_n 3, 1) := by decide +kernel
theorem dX0_touch_20 : decode cX0_touch 20 = .ok (.bipush 6, 2) := by decide +kernel
theorem dX0_touch_22 : decode cX0_touch 22 = .ok (.imul, 1) := by decide +kernel
theorem dX0_touch_23 : decode cX0_touch 23 = .ok (.iload 4, 2) := by decide +kernel
theorem dX0_touch_25 : decode cX0_touch 25 = .ok (.iadd, 1) := by decide +kernel
theorem dX0_touch_26 : decode cX0_touch 26 = .ok (.istore 6, 2) := by decide +kernel
theorem dX0_touch_28 : decode cX0_touch 28 = .ok (.aload_n 0, 1) := by decide +kernel
theorem dX0_touch_29 : decode cX0_touch 29 = .ok (.getfield 15, 3) := by decide +kernel
theorem dX0_touch_32 : decode cX0_touch 32 = .ok (.iload 5, 2) := by decide +kernel
theorem dX0_touch_34 : decode cX0_touch 34 = .ok (.iaload, 1) := by decide +kernel
theorem dX0_touch_35 : decode cX0_touch 35 = .ok (.aload_n 2, 1) := by decide +kernel
theorem dX0_touch_36 : decode cX0_touch 36 = .ok (.getfield 15, 3) := by decide +kernel
theorem dX0_touch_39 : decode cX0_touch 39 = .ok (.iload 6, 2) := by decide +kernel
theorem dX0_touch_41 : decode cX0_touch 41 = .ok (.iconst 1, 1) := by decide +kernel
theorem dX0_touch_42 : decode cX0_touch 42 = .ok (.iadd, 1) := by decide +kernel
theorem dX0_touch_43 : decode cX0_touch 43 = .ok (.iaload, 1) := by decide +kernel
theorem dX0_touch_44 : decode cX0_touch 44 = .ok (.if_icmp .gt 22, 3) := by decide +kernel
theorem dX0_touch_47 : decode cX0_touch 47 = .ok (.aload_n 2, 1) := by decide +kernel
theorem dX0_touch_48 : decode cX0_touch 48 = .ok (.getfield 15, 3) := by decide +kernel
theorem dX0_touch_51 : decode cX0_touch 51 = .ok (.iload 6, 2) := by decide +kernel
theorem dX0_touch_53 : decode cX0_touch 53 = .ok (.iaload, 1) := by decide +kernel
theorem dX0_touch_54 : decode cX0_touch 54 = .ok (.aload_n 0, 1) := by decide +kernel
theorem dX0_touch_55 : decode cX0_touch 55 = .ok (.getfield 15, 3) := by decide +kernel
theorem dX0_touch_58 : decode cX0_touch 58 = .ok (.iload 5, 2) := by decide +kernel
theorem dX0_touch_60 : decode cX0_touch 60 = .ok (.iconst 1, 1) := by decide +kernel
theorem dX0_touch_61 : decode cX0_touch 61 = .ok (.iadd, 1) := by decide +kernel
theorem dX0_touch_62 : decode cX0_touch 62 = .ok (.iaload, 1) := by decide +kernel
theorem dX0_touch_63 : decode cX0_touch 63 = .ok (.if_icmp .le 5, 3) := by decide +kernel
theorem dX0_touch_66 : decode cX0_touch 66 = .ok (.iconst 0, 1) := by decide +kernel
theorem dX0_touch_67 : decode cX0_touch 67 = .ok (.ireturn, 1) := by decide +kernel
theorem dX0_touch_68 : decode cX0_touch 68 = .ok (.iinc 4 2, 3) := by decide +kernel
theorem dX0_touch_71 : decode cX0_touch 71 = .ok (.goto (-68), 3) := by decide +kernel
theorem dX0_touch_74 : decode cX0_touch 74 = .ok (.iconst 1, 1) := by decide +kernel
theorem dX0_touch_75 : decode cX0_touch 75 = .ok (.ireturn, 1) := by decide +kernel
theorem dX0_endsSum_0 : decode cX0_endsSum 0 = .ok (.iload_n 1, 1) := by decide +kernel
theorem dX0_endsSum_1 : decode cX0_endsSum 1 = .ok (.bipush 6, 2) := by decide +kernel
theorem dX0_endsSum_3 : decode cX0_endsSum 3 = .ok (.imul, 1) := by decide +kernel
theorem dX0_endsSum_4 : decode cX0_endsSum 4 = .ok (.iconst 2, 1) := by decide +kernel
theorem dX0_endsSum_5 : decode cX0_endsSum 5 = .ok (.iload_n 2, 1) := by decide +kernel
theorem dX0_endsSum_6 : decode cX0_endsSum 6 = .ok (.imul, 1) := by decide +kernel
theorem dX0_endsSum_7 : decode cX0_endsSum 7 = .ok (.iadd, 1) := by decide +kernel
theorem dX0_endsSum_8 : decode cX0_endsSum 8 = .ok (.istore_n 3, 1) := by decide +kernel
theorem dX0_endsSum_9 : decode cX0_endsSum 9 = .ok (.aload_n 0, 1) := by decide +kernel
theorem dX0_endsSum_10 : decode cX0_endsSum 10 = .ok (.getfield 15, 3) := by decide +kernel
theorem dX0_endsSum_13 : decode cX0_endsSum 13 = .ok (.iload_n 3, 1) := by decide +kernel
theorem dX0_endsSum_14 : decode cX0_endsSum 14 = .ok (.iaload, 1) := by decide +kernel
theorem dX0_endsSum_15 : decode cX0_endsSum 15 = .ok (.aload_n 0, 1) := by decide +kernel
theorem dX0_endsSum_16 : decode cX0_endsSum 16 = .ok (.getfield 15, 3) := by decide +kernel
theorem dX0_endsSum_19 : decode cX0_endsSum 19 = .ok (.iload_n 3, 1) := by decide +kernel
theorem dX0_endsSum_20 : decode cX0_endsSum 20 = .ok (.iconst 1, 1) := by decide +kernel
theorem dX0_endsSum_21 : decode cX0_endsSum 21 = .ok (.iadd, 1) := by decide +kernel
theorem dX0_endsSum_22 : decode cX0_endsSum 22 = .ok (.iaload, 1) := by decide +kernel
theorem dX0_endsSum_23 : decode cX0_endsSum 23 = .ok (.iadd, 1) := by decide +kernel
theorem dX0_endsSum_24 : decode cX0_endsSum 24 = .ok (.ireturn, 1) := by decide +kernel
theorem dX1_init_0 : decode cX1_init 0 = .ok (.aload_n 0, 1) := by decide +kernel
theorem dX1_init_1 : decode cX1_init 1 = .ok (.invokespecial 3, 3) := by decide +kernel
theorem dX1_init_4 : decode cX1_init 4 = .ok (.aload_n 0, 1) := by decide +kernel
theorem dX1_init_5 : decode cX1_init 5 = .ok (.bipush 10, 2) := by decide +kernel
theorem dX1_init_7 : decode cX1_init 7 = .ok (.newarray .int, 2) := by decide +kernel
theorem dX1_init_9 : decode cX1_init 9 = .ok (.putfield 9, 3) := by decide +kernel
theorem dX1_init_12 : decode cX1_init 12 = .ok (.return_, 1) := by decide +kernel
theorem dX1_clear_0 : decode cX1_clear 0 = .ok (.iconst 0, 1) := by decide +kernel
theorem dX1_clear_1 : decode cX1_clear 1 = .ok (.istore_n 1, 1) := by decide +kernel
theorem dX1_clear_2 : decode cX1_clear 2 = .ok (.iload_n 1, 1) := by decide +kernel
theorem dX1_clear_3 : decode cX1_clear 3 = .ok (.bipush 10, 2) := by decide +kernel
theorem dX1_clear_5 : decode cX1_clear 5 = .ok (.if_icmp .ge 16, 3) := by decide +kernel
theorem dX1_clear_8 : decode cX1_clear 8 = .ok (.aload_n 0, 1) := by decide +kernel
theorem dX1_clear_9 : decode cX1_clear 9 = .ok (.getfield 9, 3) := by decide +kernel
theorem dX1_clear_12 : decode cX1_clear 12 = .ok (.iload_n 1, 1) := by decide +kernel
theorem dX1_clear_13 : decode cX1_clear 13 = .ok (.iconst 0, 1) := by decide +kernel
theorem dX1_clear_14 : decode cX1_clear 14 = .ok (.iastore, 1) := by decide +kernel
theorem dX1_clear_15 : decode cX1_clear 15 = .ok (.iinc 1 1, 3) := by decide +kernel
theorem dX1_clear_18 : decode cX1_clear 18 = .ok (.goto (-16), 3) := by decide +kernel
theorem dX1_clear_21 : decode cX1_clear 21 = .ok (.return_, 1) := by decide +kernel
theorem dX1_add_0 : decode cX1_add 0 = .ok (.iload_n 1, 1) := by decide +kernel
theorem dX1_add_1 : decode cX1_add 1 = .ok (.iconst 0, 1) := by decide +kernel
theorem dX1_add_2 : decode cX1_add 2 = .ok (.bipush 9, 2) := by decide +kernel
theorem dX1_add_4 : decode cX1_add 4 = .ok (.invokestatic 15, 3) := by decide +kernel
theorem dX1_add_7 : decode cX1_add 7 = .ok (.ifCond .eq 13, 3) := by decide +kernel
theorem dX1_add_10 : decode cX1_add 10 = .ok (.aload_n 0, 1) := by decide +kernel
theorem dX1_add_11 : decode cX1_add 11 = .ok (.getfield 9, 3) := by decide +kernel
theorem dX1_add_14 : decode cX1_add 14 = .ok (.iload_n 1, 1) := by decide +kernel
theorem dX1_add_15 : decode cX1_add 15 = .ok (.dup2, 1) := by decide +kernel
theorem dX1_add_16 : decode cX1_add 16 = .ok (.iaload, 1) := by decide +kernel
theorem dX1_add_17 : decode cX1_add 17 = .ok (.iconst 1, 1) := by decide +kernel
theorem dX1_add_18 : decode cX1_add 18 = .ok (.iadd, 1) := by decide +kernel
theorem dX1_add_19 : decode cX1_add 19 = .ok (.iastore, 1) := by decide +kernel
theorem dX1_add_20 : decode cX1_add 20 = .ok (.return_, 1) := by decide +kernel
theorem dX1_leastGreatest_0 : decode cX1_leastGreatest 0 = .ok (.iconst 0, 1) := by decide +kernel
theorem dX1_leastGreatest_1 : decode cX1_leastGreatest 1 = .ok (.istore_n 2, 1) := by decide +kernel
theorem dX1_leastGreatest_2 : decode cX1_leastGreatest 2 = .ok (.iload_n 2, 1) := by decide +kernel
theorem dX1_leastGreatest_3 : decode cX1_leastGreatest 3 = .ok (.sipush 240, 3) := by decide +kernel
theorem dX1_leastGreatest_6 : decode cX1_leastGreatest 6 = .ok (.if_icmp .ge 22, 3) := by decide +kernel
theorem dX1_leastGreatest_9 : decode cX1_leastGreatest 9 = .ok (.aload_n 0, 1) := by decide +kernel
theorem dX1_leastGreatest_10 : decode cX1_leastGreatest 10 = .ok (.iconst 0, 1) := by decide +kernel
theorem dX1_leastGreatest_11 : decode cX1_leastGreatest 11 = .ok (.iload_n 1, 1) := by decide +kernel
theorem dX1_leastGreatest_12 : decode cX1_leastGreatest 12 = .ok (.iload_n 2, 1) := by decide +kernel
theorem dX1_leastGreatest_13 : decode cX1_leastGreatest 13 = .ok (.invokevirtual 19, 3) := by decide +kernel
theorem dX1_leastGreatest_16 : decode cX1_leastGreatest 16 = .ok (.ifCond .eq 6, 3) := by decide +kernel
theorem dX1_leastGreatest_19 : decode cX1_leastGreatest 19 = .ok (.goto 9, 3) := by decide +kernel
theorem dX1_leastGreatest_22 : decode cX1_leastGreatest 22 = .ok (.iinc 2 1, 3) := by decide +kernel
theorem dX1_leastGreatest_25 : decode cX1_leastGreatest 25 = .ok (.goto (-23), 3) := by decide +kernel
theorem dX1_leastGreatest_28 : decode cX1_leastGreatest 28 = .ok (.iload_n 2, 1) := by decide +kernel
theorem dX1_leastGreatest_29 : decode cX1_leastGreatest 29 = .ok (.ireturn, 1) := by decide +kernel
theorem dX1_partOf_0 : decode cX1_partOf 0 = .ok (.aload_n 0, 1) := by decide +kernel
theorem dX1_partOf_1 : decode cX1_partOf 1 = .ok (.iload_n 1, 1) := by decide +kernel
theorem dX1_partOf_2 : decode cX1_partOf 2 = .ok (.invokevirtual 22, 3) := by decide +kernel
theorem dX1_partOf_5 : decode cX1_partOf 5 = .ok (.istore_n 3, 1) := by decide +kernel
theorem dX1_partOf_6 : decode cX1_partOf 6 = .ok (.iconst 0, 1) := by decide +kernel
theorem dX1_partOf_7 : decode cX1_partOf 7 = .ok (.istore 4, 2) := by decide +kernel
theorem dX1_partOf_9 : decode cX1_partOf 9 = .ok (.iconst 0, 1) := by decide +kernel
theorem dX1_partOf_10 : decode cX1_partOf 10 = .ok (.istore 5, 2) := by decide +kernel
theorem dX1_partOf_12 : decode cX1_partOf 12 = .ok (.iconst 0, 1) := by decide +kernel
theorem dX1_partOf_13 : decode cX1_partOf 13 = .ok (.istore 6, 2) := by decide +kernel
theorem dX1_partOf_15 : decode cX1_partOf 15 = .ok (.iload 6, 2) := by decide +kernel
theorem dX1_partOf_17 : decode cX1_partOf 17 = .ok (.iload_n 2, 1) := by decide +kernel
theorem dX1_partOf_18 : decode cX1_partOf 18 = .ok (.if_icmp .gt 42, 3) := by decide +kernel
theorem dX1_partOf_21 : decode cX1_partOf 21 = .ok (.iload 5, 2) := by decide +kernel
theorem dX1_partOf_23 : decode cX1_partOf 23 = .ok (.istore 4, 2) := by decide +kernel
theorem dX1_partOf_25 : decode cX1_partOf 25 = .ok (.iload 5, 2) := by decide +kernel
theorem dX1_partOf_27 : decode cX1_partOf 27 = .ok (.bipush 10, 2) := by decide +kernel
theorem dX1_partOf_29 : decode cX1_partOf 29 = .ok (.if_icmp .ge 25, 3) := by decide +kernel
theorem dX1_partOf_32 : decode cX1_partOf 32 = .ok (.aload_n 0, 1) := by decide +kernel
theorem dX1_partOf_33 : decode cX1_partOf 33 = .ok (.iload 5, 2) := by decide +kernel
theorem dX1_partOf_35 : decode cX1_partOf 35 = .ok (.iload_n 1, 1) := by decide +kernel
theorem dX1_partOf_36 : decode cX1_partOf 36 = .ok (.iload 6, 2) := by decide +kernel
theorem dX1_partOf_38 : decode cX1_partOf 38 = .ok (.isub, 1) := by decide +kernel
theorem dX1_partOf_39 : decode cX1_partOf 39 = .ok (.iconst 1, 1) := by decide +kernel
theorem dX1_partOf_40 : decode cX1_partOf 40 = .ok (.isub, 1) := by decide +kernel
theorem dX1_partOf_41 : decode cX1_partOf 41 = .ok (.iload_n 3, 1) := by decide +kernel
theorem dX1_partOf_42 : decode cX1_partOf 42 = .ok (.invokevirtual 19, 3) := by decide +kernel
theorem dX1_partOf_45 : decode cX1_partOf 45 = .ok (.ifCond .ne 9, 3) := by decide +kernel
theorem dX1_partOf_48 : decode cX1_partOf 48 = .ok (.iinc 5 1, 3) := by decide +kernel
theorem dX1_partOf_51 : decode cX1_partOf 51 = .ok (.goto (-26), 3) := by decide +kernel
theorem dX1_partOf_54 : decode cX1_partOf 54 = .ok (.iinc 6 1, 3) := by decide +kernel
theorem dX1_partOf_57 : decode cX1_partOf 57 = .ok (.goto (-42), 3) := by decide +kernel
theorem dX1_partOf_60 : decode cX1_partOf 60 = .ok (.iload 5, 2) := by decide +kernel
theorem dX1_partOf_62 : decode cX1_partOf 62 = .ok (.iload 4, 2) := by decide +kernel
theorem dX1_partOf_64 : decode cX1_partOf 64 = .ok (.isub, 1) := by decide +kernel
theorem dX1_partOf_65 : decode cX1_partOf 65 = .ok (.ireturn, 1) := by decide +kernel
theorem dX1_fits_0 : decode cX1_fits 0 = .ok (.iload_n 1, 1) := by decide +kernel
theorem dX1_fits_1 : decode cX1_fits 1 = .ok (.bipush 10, 2) := by decide +kernel
theorem dX1_fits_3 : decode cX1_fits 3 = .ok (.if_icmp .ge 10, 3) := by decide +kernel
theorem dX1_fits_6 : decode cX1_fits 6 = .ok (.iload_n 2, 1) := by decide +kernel
theorem dX1_fits_7 : decode cX1_fits 7 = .ok (.iconst 1, 1) := by decide +kernel
theorem dX1_fits_8 : decode cX1_fits 8 = .ok (.if_icmp .ge 5, 3) := by decide +kernel
theorem dX1_fits_11 : decode cX1_fits 11 = .ok (.iconst 0, 1) := by decide +kernel
theorem dX1_fits_12 : decode cX1_fits 12 = .ok (.ireturn, 1) := by decide +kernel
theorem dX1_fits_13 : decode cX1_fits 13 = .ok (.iload_n 2, 1) := by decide +kernel
theorem dX1_fits_14 : decode cX1_fits 14 = .ok (.istore 4, 2) := by decide +kernel
theorem dX1_fits_16 : decode cX1_fits 16 = .ok (.iconst 0, 1) := by decide +kernel
theorem dX1_fits_17 : decode cX1_fits 17 = .ok (.istore 5, 2) := by decide +kernel
theorem dX1_fits_19 : decode cX1_fits 19 = .ok (.iload_n 1, 1) := by decide +kernel
theorem dX1_fits_20 : decode cX1_fits 20 = .ok (.istore 6, 2) := by decide +kernel
theorem dX1_fits_22 : decode cX1_fits 22 = .ok (.iload 6, 2) := by decide +kernel
theorem dX1_fits_24 : decode cX1_fits 24 = .ok (.bipush 10, 2) := by decide +kernel
theorem dX1_fits_26 : decode cX1_fits 26 = .ok (.if_icmp .ge 58, 3) := by decide +kernel
theorem dX1_fits_29 : decode cX1_fits 29 = .ok (.aload_n 0, 1) := by decide +kernel
theorem dX1_fits_30 : decode cX1_fits 30 = .ok (.getfield 9, 3) := by decide +kernel
theorem dX1_fits_33 : decode cX1_fits 33 = .ok (.iload 6, 2) := by decide +kernel
theorem dX1_fits_35 : decode cX1_fits 35 = .ok (.iaload, 1) := by decide +kernel
theorem dX1_fits_36 : decode cX1_fits 36 = .ok (.iload 5, 2) := by decide +kernel
theorem dX1_fits_38 : decode cX1_fits 38 = .ok (.if_icmp .le 28, 3) := by decide +kernel
theorem dX1_fits_41 : decode cX1_fits 41 = .ok (.aload_n 0, 1) := by decide +kernel
theorem dX1_fits_42 : decode cX1_fits 42 = .ok (.getfield 9, 3) := by decide +kernel
theorem dX1_fits_45 : decode cX1_fits 45 = .ok (.iload 6, 2) := by decide +kernel
theorem dX1_fits_47 : decode cX1_fits 47 = .ok (.iaload, 1) := by decide +kernel
theorem dX1_fits_48 : decode cX1_fits 48 = .ok (.iload_n 3, 1) := by decide +kernel
theorem dX1_fits_49 : decode cX1_fits 49 = .ok (.if_icmp .gt 9, 3) := by decide +kernel
theorem dX1_fits_52 : decode cX1_fits 52 = .ok (.iload 4, 2) := by decide +kernel
theorem dX1_fits_54 : decode cX1_fits 54 = .ok (.iconst 1, 1) := by decide +kernel
theorem dX1_fits_55 : decode cX1_fits 55 = .ok (.if_icmp .ge 5, 3) := by decide +kernel
theorem dX1_fits_58 : decode cX1_fits 58 = .ok (.iconst 0, 1) := by decide +kernel
theorem dX1_fits_59 : decode cX1_fits 59 = .ok (.ireturn, 1) := by decide +kernel
theorem dX1_fits_60 : decode cX1_fits 60 = .ok (.iinc 4 (-1), 3) := by decide +kernel
theorem dX1_fits_63 : decode cX1_fits 63 = .ok (.iload_n 3, 1) := by decide +kernel
theorem dX1_fits_64 : decode cX1_fits 64 = .ok (.istore 5, 2) := by decide +kernel
theorem dX1_fits_66 : decode cX1_fits 66 = .ok (.iload 5, 2) := by decide +kernel
theorem dX1_fits_68 : decode cX1_fits 68 = .ok (.aload_n 0, 1) := by decide +kernel
theorem dX1_fits_69 : decode cX1_fits 69 = .ok (.getfield 9, 3) := by decide +kernel
theorem dX1_fits_72 : decode cX1_fits 72 = .ok (.iload 6, 2) := by decide +kernel
theorem dX1_fits_74 : decode cX1_fits 74 = .ok (.iaload, 1) := by decide +kernel
theorem dX1_fits_75 : decode cX1_fits 75 = .ok (.isub, 1) := by decide +kernel
theorem dX1_fits_76 : decode cX1_fits 76 = .ok (.istore 5, 2) := by decide +kernel
theorem dX1_fits_78 : decode cX1_fits 78 = .ok (.iinc 6 1, 3) := by decide +kernel
theorem dX1_fits_81 : decode cX1_fits 81 = .ok (.goto (-59), 3) := by decide +kernel
theorem dX1_fits_84 : decode cX1_fits 84 = .ok (.iconst 1, 1) := by decide +kernel
theorem dX1_fits_85 : decode cX1_fits 85 = .ok (.ireturn, 1) := by decide +kernel
theorem dX2_init_0 : decode cX2_init 0 = .ok (.aload_n 0, 1) := by decide +kernel
theorem dX2_init_1 : decode cX2_init 1 = .ok (.invokespecial 5, 3) := by decide +kernel
theorem dX2_init_4 : decode cX2_init 4 = .ok (.aload_n 0, 1) := by decide +kernel
theorem dX2_init_5 : decode cX2_init 5 = .ok (.new 11, 3) := by decide +kernel
theorem dX2_init_8 : decode cX2_init 8 = .ok (.dup, 1) := by decide +kernel
theorem dX2_init_9 : decode cX2_init 9 = .ok (.sipush 230, 3) := by decide +kernel
theorem dX2_init_12 : decode cX2_init 12 = .ok (.invokespecial 13, 3) := by decide +kernel
theorem dX2_init_15 : decode cX2_init 15 = .ok (.putfield 16, 3) := by decide +kernel
theorem dX2_init_18 : decode cX2_init 18 = .ok (.aload_n 0, 1) := by decide +kernel
theorem dX2_init_19 : decode cX2_init 19 = .ok (.new 11, 3) := by decide +kernel
theorem dX2_init_22 : decode cX2_init 22 = .ok (.dup, 1) := by decide +kernel
theorem dX2_init_23 : decode cX2_init 23 = .ok (.sipush 230, 3) := by decide +kernel
theorem dX2_init_26 : decode cX2_init 26 = .ok (.invokespecial 13, 3) := by decide +kernel
theorem dX2_init_29 : decode cX2_init 29 = .ok (.putfield 20, 3) := by decide +kernel
theorem dX2_init_32 : decode cX2_init 32 = .ok (.aload_n 0, 1) := by decide +kernel
theorem dX2_init_33 : decode cX2_init 33 = .ok (.sipush 230, 3) := by decide +kernel
theorem dX2_init_36 : decode cX2_init 36 = .ok (.newarray .int, 2) := by decide +kernel
theorem dX2_init_38 : decode cX2_init 38 = .ok (.putfield 23, 3) := by decide +kernel
theorem dX2_init_41 : decode cX2_init 41 = .ok (.aload_n 0, 1) := by decide +kernel
theorem dX2_init_42 : decode cX2_init 42 = .ok (.sipush 1150, 3) := by decide +kernel
theorem dX2_init_45 : decode cX2_init 45 = .ok (.newarray .int, 2) := by decide +kernel
theorem dX2_init_47 : decode cX2_init 47 = .ok (.putfield 27, 3) := by decide +kernel
theorem dX2_init_50 : decode cX2_init 50 = .ok (.aload_n 0, 1) := by decide +kernel
theorem dX2_init_51 : decode cX2_init 51 = .ok (.sipush 230, 3) := by decide +kernel
theorem dX2_init_54 : decode cX2_init 54 = .ok (.newarray .int, 2) := by decide +kernel
theorem dX2_init_56 : decode cX2_init 56 = .ok (.putfield 30, 3) := by decide +kernel
theorem dX2_init_59 : decode cX2_init 59 = .ok (.aload_n 0, 1) := by decide +kernel
theorem dX2_init_60 : decode cX2_init 60 = .ok (.sipush 230, 3) := by decide +kernel
theorem dX2_init_63 : decode cX2_init 63 = .ok (.newarray .int, 2) := by decide +kernel
theorem dX2_init_65 : decode cX2_init 65 = .ok (.putfield 33, 3) := by decide +kernel
theorem dX2_init_68 : decode cX2_init 68 = .ok (.aload_n 0, 1) := by decide +kernel
theorem dX2_init_69 : decode cX2_init 69 = .ok (.sipush 230, 3) := by decide +kernel
theorem dX2_init_72 : decode cX2_init 72 = .ok (.newarray .boolean, 2) := by decide +kernel
theorem dX2_init_74 : decode cX2_init 74 = .ok (.putfield 36, 3) := by decide +kernel
theorem dX2_init_77 : decode cX2_init 77 = .ok (.aload_n 0, 1) := by decide +kernel
theorem dX2_init_78 : decode cX2_init 78 = .ok (.iconst 5, 1) := by decide +kernel
theorem dX2_init_79 : decode cX2_init 79 = .ok (.newarray .int, 2) := by decide +kernel
theorem dX2_init_81 : decode cX2_init 81 = .ok (.putfield 40, 3) := by decide +kernel
theorem dX2_init_84 : decode cX2_init 84 = .ok (.aload_n 0, 1) := by decide +kernel
theorem dX2_init_85 : decode cX2_init 85 = .ok (.iconst 5, 1) := by decide +kernel
theorem dX2_init_86 : decode cX2_init 86 = .ok (.newarray .int, 2) := by decide +kernel
theorem dX2_init_88 : decode cX2_init 88 = .ok (.putfield 43, 3) := by decide +kernel
theorem dX2_init_91 : decode cX2_init 91 = .ok (.aload_n 0, 1) := by decide +kernel
theorem dX2_init_92 : decode cX2_init 92 = .ok (.new 11, 3) := by decide +kernel
theorem dX2_init_95 : decode cX2_init 95 = .ok (.dup, 1) := by decide +kernel
theorem dX2_init_96 : decode cX2_init 96 = .ok (.iconst 1, 1) := by decide +kernel
theorem dX2_init_97 : decode cX2_init 97 = .ok (.invokespecial 13, 3) := by decide +kernel
theorem dX2_init_100 : decode cX2_init 100 = .ok (.putfield 46, 3) := by decide +kernel
theorem dX2_init_103 : decode cX2_init 103 = .ok (.aload_n 0, 1) := by decide +kernel
theorem dX2_init_104 : decode cX2_init 104 = .ok (.new 11, 3) := by decide +kernel
theorem dX2_init_107 : decode cX2_init 107 = .ok (.dup, 1) := by decide +kernel
theorem dX2_init_108 : decode cX2_init 108 = .ok (.iconst 1, 1) := by decide +kernel
theorem dX2_init_109 : decode cX2_init 109 = .ok (.invokespecial 13, 3) := by decide +kernel
theorem dX2_init_112 : decode cX2_init 112 = .ok (.putfield 49, 3) := by decide +kernel
theorem dX2_init_115 : decode cX2_init 115 = .ok (.aload_n 0, 1) := by decide +kernel
theorem dX2_init_116 : decode cX2_init 116 = .ok (.iconst 0, 1) := by decide +kernel
theorem dX2_init_117 : decode cX2_init 117 = .ok (.putfield 52, 3) := by decide +kernel
theorem dX2_init_120 : decode cX2_init 120 = .ok (.aload_n 0, 1) := by decide +kernel
theorem dX2_init_121 : decode cX2_init 121 = .ok (.iconst 1, 1) := by decide +kernel
theorem dX2_init_122 : decode cX2_init 122 = .ok (.putfield 56, 3) := by decide +kernel
theorem dX2_init_125 : decode cX2_init 125 = .ok (.aload_n 0, 1) := by decide +kernel
theorem dX2_init_126 : decode cX2_init 126 = .ok (.iconst 0, 1) := by decide +kernel
theorem dX2_init_127 : decode cX2_init 127 = .ok (.putfield 59, 3) := by decide +kernel
theorem dX2_init_130 : decode cX2_init 130 = .ok (.aload_n 0, 1) := by decide +kernel
theorem dX2_init_131 : decode cX2_init 131 = .ok (.iconst 0, 1) := by decide +kernel
theorem dX2_init_132 : decode cX2_init 132 = .ok (.putfield 62, 3) := by decide +kernel
theorem dX2_init_135 : decode cX2_init 135 = .ok (.return_, 1) := by decide +kernel
theorem dX2_clear_0 : decode cX2_clear 0 = .ok (.aload_n 0, 1) := by decide +kernel
theorem dX2_clear_1 : decode cX2_clear 1 = .ok (.iconst 0, 1) := by decide +kernel
theorem dX2_clear_2 : decode cX2_clear 2 = .ok (.putfield 52, 3) := by decide +kernel
theorem dX2_clear_5 : decode cX2_clear 5 = .ok (.aload_n 0, 1) := by decide +kernel
theorem dX2_clear_6 : decode cX2_clear 6 = .ok (.iconst 0, 1) := by decide +kernel
theorem dX2_clear_7 : decode cX2_clear 7 = .ok (.putfield 56, 3) := by decide +kernel
theorem dX2_clear_10 : decode cX2_clear 10 = .ok (.aload_n 0, 1) := by decide +kernel
theorem dX2_clear_11 : decode cX2_clear 11 = .ok (.invokevirtual 65, 3) := by decide +kernel
theorem dX2_clear_14 : decode cX2_clear 14 = .ok (.return_, 1) := by decide +kernel
theorem dX2_addLeaf_0 : decode cX2_addLeaf 0 = .ok (.aload_n 0, 1) := by decide +kernel
theorem dX2_addLeaf_1 : decode cX2_addLeaf 1 = .ok (.getfield 23, 3) := by decide +kernel
theorem dX2_addLeaf_4 : decode cX2_addLeaf 4 = .ok (.aload_n 0, 1) := by decide +kernel
theorem dX2_addLeaf_5 : decode cX2_addLeaf 5 = .ok (.getfield 56, 3) := by decide +kernel
theorem dX2_addLeaf_8 : decode cX2_addLeaf 8 = .ok (.iconst 0, 1) := by decide +kernel
theorem dX2_addLeaf_9 : decode cX2_addLeaf 9 = .ok (.iastore, 1) := by decide +kernel
theorem dX2_addLeaf_10 : decode cX2_addLeaf 10 = .ok (.aload_n 0, 1) := by decide +kernel
theorem dX2_addLeaf_11 : decode cX2_addLeaf 11 = .ok (.getfield 30, 3) := by decide +kernel
theorem dX2_addLeaf_14 : decode cX2_addLeaf 14 = .ok (.aload_n 0, 1) := by decide +kernel
theorem dX2_addLeaf_15 : decode cX2_addLeaf 15 = .ok (.getfield 56, 3) := by decide +kernel
theorem dX2_addLeaf_18 : decode cX2_addLeaf 18 = .ok (.iconst 0, 1) := by decide +kernel
theorem dX2_addLeaf_19 : decode cX2_addLeaf 19 = .ok (.iastore, 1) := by decide +kernel
theorem dX2_addLeaf_20 : decode cX2_addLeaf 20 = .ok (.aload_n 0, 1) := by decide +kernel
theorem dX2_addLeaf_21 : decode cX2_addLeaf 21 = .ok (.dup, 1) := by decide +kernel
theorem dX2_addLeaf_22 : decode cX2_addLeaf 22 = .ok (.getfield 56, 3) := by decide +kernel
theorem dX2_addLeaf_25 : decode cX2_addLeaf 25 = .ok (.iconst 1, 1) := by decide +kernel
theorem dX2_addLeaf_26 : decode cX2_addLeaf 26 = .ok (.iadd, 1) := by decide +kernel
theorem dX2_addLeaf_27 : decode cX2_addLeaf 27 = .ok (.putfield 56, 3) := by decide +kernel
theorem dX2_addLeaf_30 : decode cX2_addLeaf 30 = .ok (.return_, 1) := by decide +kernel
theorem dX2_takeLeg_0 : decode cX2_takeLeg 0 = .ok (.aload_n 0, 1) := by decide +kernel
theorem dX2_takeLeg_1 : decode cX2_takeLeg 1 = .ok (.getfield 52, 3) := by decide +kernel
theorem dX2_takeLeg_4 : decode cX2_takeLeg 4 = .ok (.sipush 230, 3) := by decide +kernel
theorem dX2_takeLeg_7 : decode cX2_takeLeg 7 = .ok (.if_icmp .lt 5, 3) := by decide +kernel
theorem dX2_takeLeg_10 : decode cX2_takeLeg 10 = .ok (.iconst 0, 1) := by decide +kernel
theorem dX2_takeLeg_11 : decode cX2_takeLeg 11 = .ok (.ireturn, 1) := by decide +kernel
theorem dX2_takeLeg_12 : decode cX2_takeLeg 12 = .ok (.aload_n 0, 1) := by decide +kernel
theorem dX2_takeLeg_13 : decode cX2_takeLeg 13 = .ok (.getfield 52, 3) := by decide +kernel
theorem dX2_takeLeg_16 : decode cX2_takeLeg 16 = .ok (.istore_n 3, 1) := by decide +kernel
theorem dX2_takeLeg_17 : decode cX2_takeLeg 17 = .ok (.aload_n 0, 1) := by decide +kernel
theorem dX2_takeLeg_18 : decode cX2_takeLeg 18 = .ok (.dup, 1) := by decide +kernel
theorem dX2_takeLeg_19 : decode cX2_takeLeg 19 = .ok (.getfield 52, 3) := by decide +kernel
theorem dX2_takeLeg_22 : decode cX2_takeLeg 22 = .ok (.iconst 1, 1) := by decide +kernel
theorem dX2_takeLeg_23 : decode cX2_takeLeg 23 = .ok (.iadd, 1) := by decide +kernel
theorem dX2_takeLeg_24 : decode cX2_takeLeg 24 = .ok (.putfield 52, 3) := by decide +kernel
theorem dX2_takeLeg_27 : decode cX2_takeLeg 27 = .ok (.aload_n 0, 1) := by decide +kernel
theorem dX2_takeLeg_28 : decode cX2_takeLeg 28 = .ok (.iload_n 3, 1) := by decide +kernel
theorem dX2_takeLeg_29 : decode cX2_takeLeg 29 = .ok (.iconst 0, 1) := by decide +kernel
theorem dX2_takeLeg_30 : decode cX2_takeLeg 30 = .ok (.aload_n 1, 1) := by decide +kernel
theorem dX2_takeLeg_31 : decode cX2_takeLeg 31 = .ok (.getfield 68, 3) := by decide +kernel
theorem dX2_takeLeg_34 : decode cX2_takeLeg 34 = .ok (.iload_n 2, 1) := by decide +kernel
theorem dX2_takeLeg_35 : decode cX2_takeLeg 35 = .ok (.invokevirtual 73, 3) := by decide +kernel
theorem dX2_takeLeg_38 : decode cX2_takeLeg 38 = .ok (.aload_n 0, 1) := by decide +kernel
theorem dX2_takeLeg_39 : decode cX2_takeLeg 39 = .ok (.iload_n 3, 1) := by decide +kernel
theorem dX2_takeLeg_40 : decode cX2_takeLeg 40 = .ok (.iconst 1, 1) := by decide +kernel
theorem dX2_takeLeg_41 : decode cX2_takeLeg 41 = .ok (.aload_n 1, 1) := by decide +kernel
theorem dX2_takeLeg_42 : decode cX2_takeLeg 42 = .ok (.getfield 77, 3) := by decide +kernel
theorem dX2_takeLeg_45 : decode cX2_takeLeg 45 = .ok (.iload_n 2, 1) := by decide +kernel
theorem dX2_takeLeg_46 : decode cX2_takeLeg 46 = .ok (.invokevirtual 73, 3) := by decide +kernel
theorem dX2_takeLeg_49 : decode cX2_takeLeg 49 = .ok (.aload_n 0, 1) := by decide +kernel
theorem dX2_takeLeg_50 : decode cX2_takeLeg 50 = .ok (.iload_n 3, 1) := by decide +kernel
theorem dX2_takeLeg_51 : decode cX2_takeLeg 51 = .ok (.iconst 2, 1) := by decide +kernel
theorem dX2_takeLeg_52 : decode cX2_takeLeg 52 = .ok (.aload_n 1, 1) := by decide +kernel
theorem dX2_takeLeg_53 : decode cX2_takeLeg 53 = .ok (.getfield 80, 3) := by decide +kernel
theorem dX2_takeLeg_56 : decode cX2_takeLeg 56 = .ok (.iload_n 2, 1) := by decide +kernel
theorem dX2_takeLeg_57 : decode cX2_takeLeg 57 = .ok (.invokevirtual 73, 3) := by decide +kernel
theorem dX2_takeLeg_60 : decode cX2_takeLeg 60 = .ok (.iconst 0, 1) := by decide +kernel
theorem dX2_takeLeg_61 : decode cX2_takeLeg 61 = .ok (.istore 4, 2) := by decide +kernel
theorem dX2_takeLeg_63 : decode cX2_takeLeg 63 = .ok (.iconst 0, 1) := by decide +kernel
theorem dX2_takeLeg_64 : decode cX2_takeLeg 64 = .ok (.istore 5, 2) := by decide +kernel
theorem dX2_takeLeg_66 : decode cX2_takeLeg 66 = .ok (.iload 5, 2) := by decide +kernel
theorem dX2_takeLeg_68 : decode cX2_takeLeg 68 = .ok (.sipush 230, 3) := by decide +kernel
theorem dX2_takeLeg_71 : decode cX2_takeLeg 71 = .ok (.if_icmp .ge 42, 3) := by decide +kernel
theorem dX2_takeLeg_74 : decode cX2_takeLeg 74 = .ok (.aload_n 0, 1) := by decide +kernel
theorem dX2_takeLeg_75 : decode cX2_takeLeg 75 = .ok (.getfield 23, 3) := by decide +kernel
theorem dX2_takeLeg_78 : decode cX2_takeLeg 78 = .ok (.iload 4, 2) := by decide +kernel
theorem dX2_takeLeg_80 : decode cX2_takeLeg 80 = .ok (.iaload, 1) := by decide +kernel
theorem dX2_takeLeg_81 : decode cX2_takeLeg 81 = .ok (.ifCond .eq 32, 3) := by decide +kernel
theorem dX2_takeLeg_84 : decode cX2_takeLeg 84 = .ok (.aload_n 0, 1) := by decide +kernel
theorem dX2_takeLeg_85 : decode cX2_takeLeg 85 = .ok (.getfield 20, 3) := by decide +kernel
theorem dX2_takeLeg_88 : decode cX2_takeLeg 88 = .ok (.iload 4, 2) := by decide +kernel
theorem dX2_takeLeg_90 : decode cX2_takeLeg 90 = .ok (.aload_n 0, 1) := by decide +kernel
theorem dX2_takeLeg_91 : decode cX2_takeLeg 91 = .ok (.getfield 16, 3) := by decide +kernel
theorem dX2_takeLeg_94 : decode cX2_takeLeg 94 = .ok (.iload_n 3, 1) := by decide +kernel
theorem dX2_takeLeg_95 : decode cX2_takeLeg 95 = .ok (.invokevirtual 83, 3) := by decide +kernel
theorem dX2_takeLeg_98 : decode cX2_takeLeg 98 = .ok (.aload_n 0, 1) := by decide +kernel
theorem dX2_takeLeg_99 : decode cX2_takeLeg 99 = .ok (.iload 4, 2) := by decide +kernel
theorem dX2_takeLeg_101 : decode cX2_takeLeg 101 = .ok (.iload_n 3, 1) := by decide +kernel
theorem dX2_takeLeg_102 : decode cX2_takeLeg 102 = .ok (.invokevirtual 87, 3) := by decide +kernel
theorem dX2_takeLeg_105 : decode cX2_takeLeg 105 = .ok (.istore 4, 2) := by decide +kernel
theorem dX2_takeLeg_107 : decode cX2_takeLeg 107 = .ok (.iinc 5 1, 3) := by decide +kernel
theorem dX2_takeLeg_110 : decode cX2_takeLeg 110 = .ok (.goto (-44), 3) := by decide +kernel
theorem dX2_takeLeg_113 : decode cX2_takeLeg 113 = .ok (.aload_n 0, 1) := by decide +kernel
theorem dX2_takeLeg_114 : decode cX2_takeLeg 114 = .ok (.iload 4, 2) := by decide +kernel
theorem dX2_takeLeg_116 : decode cX2_takeLeg 116 = .ok (.iload_n 3, 1) := by decide +kernel
theorem dX2_takeLeg_117 : decode cX2_takeLeg 117 = .ok (.invokevirtual 91, 3) := by decide +kernel
theorem dX2_takeLeg_120 : decode cX2_takeLeg 120 = .ok (.iload 4, 2) := by decide +kernel
theorem dX2_takeLeg_122 : decode cX2_takeLeg 122 = .ok (.ireturn, 1) := by decide +kernel
theorem dX2_setLegAxis_0 : decode cX2_setLegAxis 0 = .ok (.aload_n 3, 1) := by decide +kernel
theorem dX2_setLegAxis_1 : decode cX2_setLegAxis 1 = .ok (.iload 4, 2) := by decide +kernel
theorem dX2_setLegAxis_3 : decode cX2_setLegAxis 3 = .ok (.iaload, 1) := by decide +kernel
theorem dX2_setLegAxis_4 : decode cX2_setLegAxis 4 = .ok (.istore 5, 2) := by decide +kernel
theorem dX2_setLegAxis_6 : decode cX2_setLegAxis 6 = .ok (.aload_n 3, 1) := by decide +kernel
theorem dX2_setLegAxis_7 : decode cX2_setLegAxis 7 = .ok (.iload 4, 2) := by decide +kernel
theorem dX2_setLegAxis_9 : decode cX2_setLegAxis 9 = .ok (.iconst 1, 1) := by decide +kernel
theorem dX2_setLegAxis_10 : decode cX2_setLegAxis 10 = .ok (.iadd, 1) := by decide +kernel
theorem dX2_setLegAxis_11 : decode cX2_setLegAxis 11 = .ok (.iaload, 1) := by decide +kernel
theorem dX2_setLegAxis_12 : decode cX2_setLegAxis 12 = .ok (.istore 6, 2) := by decide +kernel
theorem dX2_setLegAxis_14 : decode cX2_setLegAxis 14 = .ok (.aload_n 0, 1) := by decide +kernel
theorem dX2_setLegAxis_15 : decode cX2_setLegAxis 15 = .ok (.getfield 16, 3) := by decide +kernel
theorem dX2_setLegAxis_18 : decode cX2_setLegAxis 18 = .ok (.iload_n 1, 1) := by decide +kernel
theorem dX2_setLegAxis_19 : decode cX2_setLegAxis 19 = .ok (.iload_n 2, 1) := by decide +kernel
theorem dX2_setLegAxis_20 : decode cX2_setLegAxis 20 = .ok (.iload 5, 2) := by decide +kernel
theorem dX2_setLegAxis_22 : decode cX2_setLegAxis 22 = .ok (.iload 6, 2) := by decide +kernel
theorem dX2_setLegAxis_24 : decode cX2_setLegAxis 24 = .ok (.invokestatic 95, 3) := by decide +kernel
theorem dX2_setLegAxis_27 : decode cX2_setLegAxis 27 = .ok (.iload 5, 2) := by decide +kernel
theorem dX2_setLegAxis_29 : decode cX2_setLegAxis 29 = .ok (.iload 6, 2) := by decide +kernel
theorem dX2_setLegAxis_31 : decode cX2_setLegAxis 31 = .ok (.invokestatic 100, 3) := by decide +kernel
theorem dX2_setLegAxis_34 : decode cX2_setLegAxis 34 = .ok (.invokevirtual 103, 3) := by decide +kernel
theorem dX2_setLegAxis_37 : decode cX2_setLegAxis 37 = .ok (.return_, 1) := by decide +kernel
theorem dX2_partFor_0 : decode cX2_partFor 0 = .ok (.aload_n 0, 1) := by decide +kernel
theorem dX2_partFor_1 : decode cX2_partFor 1 = .ok (.getfield 23, 3) := by decide +kernel
theorem dX2_partFor_4 : decode cX2_partFor 4 = .ok (.iload_n 1, 1) := by decide +kernel
theorem dX2_partFor_5 : decode cX2_partFor 5 = .ok (.iaload, 1) := by decide +kernel
theorem dX2_partFor_6 : decode cX2_partFor 6 = .ok (.istore_n 3, 1) := by decide +kernel
theorem dX2_partFor_7 : decode cX2_partFor 7 = .ok (.aload_n 0, 1) := by decide +kernel
theorem dX2_partFor_8 : decode cX2_partFor 8 = .ok (.getfield 20, 3) := by decide +kernel
theorem dX2_partFor_11 : decode cX2_partFor 11 = .ok (.iload_n 3, 1) := by decide +kernel
theorem dX2_partFor_12 : decode cX2_partFor 12 = .ok (.aload_n 0, 1) := by decide +kernel
theorem dX2_partFor_13 : decode cX2_partFor 13 = .ok (.getfield 16, 3) := by decide +kernel
theorem dX2_partFor_16 : decode cX2_partFor 16 = .ok (.iload_n 2, 1) := by decide +kernel
theorem dX2_partFor_17 : decode cX2_partFor 17 = .ok (.invokevirtual 107, 3) := by decide +kernel
theorem dX2_partFor_20 : decode cX2_partFor 20 = .ok (.istore 4, 2) := by decide +kernel
theorem dX2_partFor_22 : decode cX2_partFor 22 = .ok (.aload_n 0, 1) := by decide +kernel
theorem dX2_partFor_23 : decode cX2_partFor 23 = .ok (.getfield 20, 3) := by decide +kernel
theorem dX2_partFor_26 : decode cX2_partFor 26 = .ok (.iload_n 3, 1) := by decide +kernel
theorem dX2_partFor_27 : decode cX2_partFor 27 = .ok (.iconst 1, 1) := by decide +kernel
theorem dX2_partFor_28 : decode cX2_partFor 28 = .ok (.iadd, 1) := by decide +kernel
theorem dX2_partFor_29 : decode cX2_partFor 29 = .ok (.aload_n 0, 1) := by decide +kernel
theorem dX2_partFor_30 : decode cX2_partFor 30 = .ok (.getfield 16, 3) := by decide +kernel
theorem dX2_partFor_33 : decode cX2_partFor 33 = .ok (.iload_n 2, 1) := by decide +kernel
theorem dX2_partFor_34 : decode cX2_partFor 34 = .ok (.invokevirtual 107, 3) := by decide +kernel
theorem dX2_partFor_37 : decode cX2_partFor 37 = .ok (.istore 5, 2) := by decide +kernel
theorem dX2_partFor_39 : decode cX2_partFor 39 = .ok (.iload 5, 2) := by decide +kernel
theorem dX2_partFor_41 : decode cX2_partFor 41 = .ok (.iload 4, 2) := by decide +kernel
theorem dX2_partFor_43 : decode cX2_partFor 43 = .ok (.if_icmp .ge 9, 3) := by decide +kernel
theorem dX2_partFor_46 : decode cX2_partFor 46 = .ok (.iload_n 3, 1) := by decide +kernel
theorem dX2_partFor_47 : decode cX2_partFor 47 = .ok (.iconst 1, 1) := by decide +kernel
theorem dX2_partFor_48 : decode cX2_partFor 48 = .ok (.iadd, 1) := by decide +kernel
theorem dX2_partFor_49 : decode cX2_partFor 49 = .ok (.goto 4, 3) := by decide +kernel
theorem dX2_partFor_52 : decode cX2_partFor 52 = .ok (.iload_n 3, 1) := by decide +kernel
theorem dX2_partFor_53 : decode cX2_partFor 53 = .ok (.ireturn, 1) := by decide +kernel
theorem dX2_hold_0 : decode cX2_hold 0 = .ok (.aload_n 0, 1) := by decide +kernel
theorem dX2_hold_1 : decode cX2_hold 1 = .ok (.getfield 30, 3) := by decide +kernel
theorem dX2_hold_4 : decode cX2_hold 4 = .ok (.iload_n 1, 1) := by decide +kernel
theorem dX2_hold_5 : decode cX2_hold 5 = .ok (.iaload, 1) := by decide +kernel
theorem dX2_hold_6 : decode cX2_hold 6 = .ok (.iconst 5, 1) := by decide +kernel
theorem dX2_hold_7 : decode cX2_hold 7 = .ok (.if_icmp .lt 4, 3) := by decide +kernel
theorem dX2_hold_10 : decode cX2_hold 10 = .ok (.return_, 1) := by decide +kernel
theorem dX2_hold_11 : decode cX2_hold 11 = .ok (.aload_n 0, 1) := by decide +kernel
theorem dX2_hold_12 : decode cX2_hold 12 = .ok (.getfield 30, 3) := by decide +kernel
theorem dX2_hold_15 : decode cX2_hold 15 = .ok (.iload_n 1, 1) := by decide +kernel
theorem dX2_hold_16 : decode cX2_hold 16 = .ok (.iaload, 1) := by decide +kernel
theorem dX2_hold_17 : decode cX2_hold 17 = .ok (.ifCond .ne 19, 3) := by decide +kernel
theorem dX2_hold_20 : decode cX2_hold 20 = .ok (.aload_n 0, 1) := by decide +kernel
theorem dX2_hold_21 : decode cX2_hold 21 = .ok (.getfield 20, 3) := by decide +kernel
theorem dX2_hold_24 : decode cX2_hold 24 = .ok (.iload_n 1, 1) := by decide +kernel
theorem dX2_hold_25 : decode cX2_hold 25 = .ok (.aload_n 0, 1) := by decide +kernel
theorem dX2_hold_26 : decode cX2_hold 26 = .ok (.getfield 16, 3) := by decide +kernel
theorem dX2_hold_29 : decode cX2_hold 29 = .ok (.iload_n 2, 1) := by decide +kernel
theorem dX2_hold_30 : decode cX2_hold 30 = .ok (.invokevirtual 111, 3) := by decide +kernel
theorem dX2_hold_33 : decode cX2_hold 33 = .ok (.goto 16, 3) := by decide +kernel
theorem dX2_hold_36 : decode cX2_hold 36 = .ok (.aload_n 0, 1) := by decide +kernel
theorem dX2_hold_37 : decode cX2_hold 37 = .ok (.getfield 20, 3) := by decide +kernel
theorem dX2_hold_40 : decode cX2_hold 40 = .ok (.iload_n 1, 1) := by decide +kernel
theorem dX2_hold_41 : decode cX2_hold 41 = .ok (.aload_n 0, 1) := by decide +kernel
theorem dX2_hold_42 : decode cX2_hold 42 = .ok (.getfield 16, 3) := by decide +kernel
theorem dX2_hold_45 : decode cX2_hold 45 = .ok (.iload_n 2, 1) := by decide +kernel
theorem dX2_hold_46 : decode cX2_hold 46 = .ok (.invokevirtual 83, 3) := by decide +kernel
theorem dX2_hold_49 : decode cX2_hold 49 = .ok (.aload_n 0, 1) := by decide +kernel
theorem dX2_hold_50 : decode cX2_hold 50 = .ok (.getfield 27, 3) := by decide +kernel
theorem dX2_hold_53 : decode cX2_hold 53 = .ok (.iload_n 1, 1) := by decide +kernel
theorem dX2_hold_54 : decode cX2_hold 54 = .ok (.iconst 5, 1) := by decide +kernel
theorem dX2_hold_55 : decode cX2_hold 55 = .ok (.imul, 1) := by decide +kernel
theorem dX2_hold_56 : decode cX2_hold 56 = .ok (.aload_n 0, 1) := by decide +kernel
theorem dX2_hold_57 : decode cX2_hold 57 = .ok (.getfield 30, 3) := by decide +kernel
theorem dX2_hold_60 : decode cX2_hold 60 = .ok (.iload_n 1, 1) := by decide +kernel
theorem dX2_hold_61 : decode cX2_hold 61 = .ok (.iaload, 1) := by decide +kernel
theorem dX2_hold_62 : decode cX2_hold 62 = .ok (.iadd, 1) := by decide +kernel
theorem dX2_hold_63 : decode cX2_hold 63 = .ok (.iload_n 2, 1) := by decide +kernel
theorem dX2_hold_64 : decode cX2_hold 64 = .ok (.iastore, 1) := by decide +kernel
theorem dX2_hold_65 : decode cX2_hold 65 = .ok (.aload_n 0, 1) := by decide +kernel
theorem dX2_hold_66 : decode cX2_hold 66 = .ok (.getfield 30, 3) := by decide +kernel
theorem dX2_hold_69 : decode cX2_hold 69 = .ok (.iload_n 1, 1) := by decide +kernel
theorem dX2_hold_70 : decode cX2_hold 70 = .ok (.dup2, 1) := by decide +kernel
theorem dX2_hold_71 : decode cX2_hold 71 = .ok (.iaload, 1) := by decide +kernel
theorem dX2_hold_72 : decode cX2_hold 72 = .ok (.iconst 1, 1) := by decide +kernel
theorem dX2_hold_73 : decode cX2_hold 73 = .ok (.iadd, 1) := by decide +kernel
theorem dX2_hold_74 : decode cX2_hold 74 = .ok (.iastore, 1) := by decide +kernel
theorem dX2_hold_75 : decode cX2_hold 75 = .ok (.return_, 1) := by decide +kernel
theorem dX2_cutIfOverfull_0 : decode cX2_cutIfOverfull 0 = .ok (.aload_n 0, 1) := by decide +kernel
theorem dX2_cutIfOverfull_1 : decode cX2_cutIfOverfull 1 = .ok (.getfield 23, 3) := by decide +kernel
theorem dX2_cutIfOverfull_4 : decode cX2_cutIfOverfull 4 = .ok (.iload_n 1, 1) := by decide +kernel
theorem dX2_cutIfOverfull_5 : decode cX2_cutIfOverfull 5 = .ok (.iaload, 1) := by decide +kernel
theorem dX2_cutIfOverfull_6 : decode cX2_cutIfOverfull 6 = .ok (.ifCond .ne 25, 3) := by decide +kernel
theorem dX2_cutIfOverfull_9 : decode cX2_cutIfOverfull 9 = .ok (.aload_n 0, 1) := by decide +kernel
theorem dX2_cutIfOverfull_10 : decode cX2_cutIfOverfull 10 = .ok (.getfield 30, 3) := by decide +kernel
theorem dX2_cutIfOverfull_13 : decode cX2_cutIfOverfull 13 = .ok (.iload_n 1, 1) := by decide +kernel
theorem dX2_cutIfOverfull_14 : decode cX2_cutIfOverfull 14 = .ok (.iaload, 1) := by decide +kernel
theorem dX2_cutIfOverfull_15 : decode cX2_cutIfOverfull 15 = .ok (.iconst 4, 1) := by decide +kernel
theorem dX2_cutIfOverfull_16 : decode cX2_cutIfOverfull 16 = .ok (.if_icmp .le 15, 3) := by decide +kernel
theorem dX2_cutIfOverfull_19 : decode cX2_cutIfOverfull 19 = .ok (.aload_n 0, 1) := by decide +kernel
theorem dX2_cutIfOverfull_20 : decode cX2_cutIfOverfull 20 = .ok (.getfield 56, 3) := by decide +kernel
theorem dX2_cutIfOverfull_23 : decode cX2_cutIfOverfull 23 = .ok (.iconst 2, 1) := by decide +kernel
theorem dX2_cutIfOverfull_24 : decode cX2_cutIfOverfull 24 = .ok (.iadd, 1) := by decide +kernel
theorem dX2_cutIfOverfull_25 : decode cX2_cutIfOverfull 25 = .ok (.sipush 230, 3) := by decide +kernel
theorem dX2_cutIfOverfull_28 : decode cX2_cutIfOverfull 28 = .ok (.if_icmp .le 4, 3) := by decide +kernel
theorem dX2_cutIfOverfull_31 : decode cX2_cutIfOverfull 31 = .ok (.return_, 1) := by decide +kernel
theorem dX2_cutIfOverfull_32 : decode cX2_cutIfOverfull 32 = .ok (.aload_n 0, 1) := by decide +kernel
theorem dX2_cutIfOverfull_33 : decode cX2_cutIfOverfull 33 = .ok (.iload_n 1, 1) := by decide +kernel
theorem dX2_cutIfOverfull_34 : decode cX2_cutIfOverfull 34 = .ok (.invokevirtual 114, 3) := by decide +kernel
theorem dX2_cutIfOverfull_37 : decode cX2_cutIfOverfull 37 = .ok (.istore_n 2, 1) := by decide +kernel
theorem dX2_cutIfOverfull_38 : decode cX2_cutIfOverfull 38 = .ok (.aload_n 0, 1) := by decide +kernel
theorem dX2_cutIfOverfull_39 : decode cX2_cutIfOverfull 39 = .ok (.getfield 23, 3) := by decide +kernel
theorem dX2_cutIfOverfull_42 : decode cX2_cutIfOverfull 42 = .ok (.iload_n 1, 1) := by decide +kernel
theorem dX2_cutIfOverfull_43 : decode cX2_cutIfOverfull 43 = .ok (.aload_n 0, 1) := by decide +kernel
theorem dX2_cutIfOverfull_44 : decode cX2_cutIfOverfull 44 = .ok (.getfield 56, 3) := by decide +kernel
theorem dX2_cutIfOverfull_47 : decode cX2_cutIfOverfull 47 = .ok (.iastore, 1) := by decide +kernel
theorem dX2_cutIfOverfull_48 : decode cX2_cutIfOverfull 48 = .ok (.aload_n 0, 1) := by decide +kernel
theorem dX2_cutIfOverfull_49 : decode cX2_cutIfOverfull 49 = .ok (.invokevirtual 65, 3) := by decide +kernel
theorem dX2_cutIfOverfull_52 : decode cX2_cutIfOverfull 52 = .ok (.aload_n 0, 1) := by decide +kernel
theorem dX2_cutIfOverfull_53 : decode cX2_cutIfOverfull 53 = .ok (.invokevirtual 65, 3) := by decide +kernel
theorem dX2_cutIfOverfull_56 : decode cX2_cutIfOverfull 56 = .ok (.iconst 0, 1) := by decide +kernel
theorem dX2_cutIfOverfull_57 : decode cX2_cutIfOverfull 57 = .ok (.istore_n 3, 1) := by decide +kernel
theorem dX2_cutIfOverfull_58 : decode cX2_cutIfOverfull 58 = .ok (.iload_n 3, 1) := by decide +kernel
theorem dX2_cutIfOverfull_59 : decode cX2_cutIfOverfull 59 = .ok (.iconst 5, 1) := by decide +kernel
theorem dX2_cutIfOverfull_60 : decode cX2_cutIfOverfull 60 = .ok (.if_icmp .ge 39, 3) := by decide +kernel
theorem dX2_cutIfOverfull_63 : decode cX2_cutIfOverfull 63 = .ok (.aload_n 0, 1) := by decide +kernel
theorem dX2_cutIfOverfull_64 : decode cX2_cutIfOverfull 64 = .ok (.iload_n 3, 1) := by decide +kernel
theorem dX2_cutIfOverfull_65 : decode cX2_cutIfOverfull 65 = .ok (.iload_n 2, 1) := by decide +kernel
theorem dX2_cutIfOverfull_66 : decode cX2_cutIfOverfull 66 = .ok (.if_icmp .ge 12, 3) := by decide +kernel
theorem dX2_cutIfOverfull_69 : decode cX2_cutIfOverfull 69 = .ok (.aload_n 0, 1) := by decide +kernel
theorem dX2_cutIfOverfull_70 : decode cX2_cutIfOverfull 70 = .ok (.getfield 56, 3) := by decide +kernel
theorem dX2_cutIfOverfull_73 : decode cX2_cutIfOverfull 73 = .ok (.iconst 2, 1) := by decide +kernel
theorem dX2_cutIfOverfull_74 : decode cX2_cutIfOverfull 74 = .ok (.isub, 1) := by decide +kernel
theorem dX2_cutIfOverfull_75 : decode cX2_cutIfOverfull 75 = .ok (.goto 9, 3) := by decide +kernel
theorem dX2_cutIfOverfull_78 : decode cX2_cutIfOverfull 78 = .ok (.aload_n 0, 1) := by decide +kernel
theorem dX2_cutIfOverfull_79 : decode cX2_cutIfOverfull 79 = .ok (.getfield 56, 3) := by decide +kernel
theorem dX2_cutIfOverfull_82 : decode cX2_cutIfOverfull 82 = .ok (.iconst 1, 1) := by decide +kernel
theorem dX2_cutIfOverfull_83 : decode cX2_cutIfOverfull 83 = .ok (.isub, 1) := by decide +kernel
theorem dX2_cutIfOverfull_84 : decode cX2_cutIfOverfull 84 = .ok (.aload_n 0, 1) := by decide +kernel
theorem dX2_cutIfOverfull_85 : decode cX2_cutIfOverfull 85 = .ok (.getfield 43, 3) := by decide +kernel
theorem dX2_cutIfOverfull_88 : decode cX2_cutIfOverfull 88 = .ok (.iload_n 3, 1) := by decide +kernel
theorem dX2_cutIfOverfull_89 : decode cX2_cutIfOverfull 89 = .ok (.iaload, 1) := by decide +kernel
theorem dX2_cutIfOverfull_90 : decode cX2_cutIfOverfull 90 = .ok (.invokevirtual 91, 3) := by decide +kernel
theorem dX2_cutIfOverfull_93 : decode cX2_cutIfOverfull 93 = .ok (.iinc 3 1, 3) := by decide +kernel
theorem dX2_cutIfOverfull_96 : decode cX2_cutIfOverfull 96 = .ok (.goto (-38), 3) := by decide +kernel
theorem dX2_cutIfOverfull_99 : decode cX2_cutIfOverfull 99 = .ok (.return_, 1) := by decide +kernel
theorem dX2_chooseCut_0 : decode cX2_chooseCut 0 = .ok (.iconst 0, 1) := by decide +kernel
theorem dX2_chooseCut_1 : decode cX2_chooseCut 1 = .ok (.istore_n 2, 1) := by decide +kernel
theorem dX2_chooseCut_2 : decode cX2_chooseCut 2 = .ok (.iconst 0, 1) := by decide +kernel
theorem dX2_chooseCut_3 : decode cX2_chooseCut 3 = .ok (.istore_n 3, 1) := by decide +kernel
theorem dX2_chooseCut_4 : decode cX2_chooseCut 4 = .ok (.iconst 0, 1) := by decide +kernel
theorem dX2_chooseCut_5 : decode cX2_chooseCut 5 = .ok (.istore 4, 2) := by decide +kernel
theorem dX2_chooseCut_7 : decode cX2_chooseCut 7 = .ok (.iload 4, 2) := by decide +kernel
theorem dX2_chooseCut_9 : decode cX2_chooseCut 9 = .ok (.iconst 3, 1) := by decide +kernel
theorem dX2_chooseCut_10 : decode cX2_chooseCut 10 = .ok (.if_icmp .ge 78, 3) := by decide +kernel
theorem dX2_chooseCut_13 : decode cX2_chooseCut 13 = .ok (.aload_n 0, 1) := by decide +kernel
theorem dX2_chooseCut_14 : decode cX2_chooseCut 14 = .ok (.iload_n 1, 1) := by decide +kernel
theorem dX2_chooseCut_15 : decode cX2_chooseCut 15 = .ok (.iload 4, 2) := by decide +kernel
theorem dX2_chooseCut_17 : decode cX2_chooseCut 17 = .ok (.invokevirtual 118, 3) := by decide +kernel
theorem dX2_chooseCut_20 : decode cX2_chooseCut 20 = .ok (.iconst 2, 1) := by decide +kernel
theorem dX2_chooseCut_21 : decode cX2_chooseCut 21 = .ok (.istore 5, 2) := by decide +kernel
theorem dX2_chooseCut_23 : decode cX2_chooseCut 23 = .ok (.iload 5, 2) := by decide +kernel
theorem dX2_chooseCut_25 : decode cX2_chooseCut 25 = .ok (.iconst 3, 1) := by decide +kernel
theorem dX2_chooseCut_26 : decode cX2_chooseCut 26 = .ok (.if_icmp .gt 56, 3) := by decide +kernel
theorem dX2_chooseCut_29 : decode cX2_chooseCut 29 = .ok (.aload_n 0, 1) := by decide +kernel
theorem dX2_chooseCut_30 : decode cX2_chooseCut 30 = .ok (.iconst 0, 1) := by decide +kernel
theorem dX2_chooseCut_31 : decode cX2_chooseCut 31 = .ok (.iload 5, 2) := by decide +kernel
theorem dX2_chooseCut_33 : decode cX2_chooseCut 33 = .ok (.invokevirtual 121, 3) := by decide +kernel
theorem dX2_chooseCut_36 : decode cX2_chooseCut 36 = .ok (.aload_n 0, 1) := by decide +kernel
theorem dX2_chooseCut_37 : decode cX2_chooseCut 37 = .ok (.iload 5, 2) := by decide +kernel
theorem dX2_chooseCut_39 : decode cX2_chooseCut 39 = .ok (.iconst 5, 1) := by decide +kernel
theorem dX2_chooseCut_40 : decode cX2_chooseCut 40 = .ok (.invokevirtual 121, 3) := by decide +kernel
theorem dX2_chooseCut_43 : decode cX2_chooseCut 43 = .ok (.iadd, 1) := by decide +kernel
theorem dX2_chooseCut_44 : decode cX2_chooseCut 44 = .ok (.istore 6, 2) := by decide +kernel
theorem dX2_chooseCut_46 : decode cX2_chooseCut 46 = .ok (.iload_n 2, 1) := by decide +kernel
theorem dX2_chooseCut_47 : decode cX2_chooseCut 47 = .ok (.ifCond .eq 9, 3) := by decide +kernel
theorem dX2_chooseCut_50 : decode cX2_chooseCut 50 = .ok (.iload 6, 2) := by decide +kernel
theorem dX2_chooseCut_52 : decode cX2_chooseCut 52 = .ok (.iload_n 3, 1) := by decide +kernel
theorem dX2_chooseCut_53 : decode cX2_chooseCut 53 = .ok (.if_icmp .ge 23, 3) := by decide +kernel
theorem dX2_chooseCut_56 : decode cX2_chooseCut 56 = .ok (.iload 5, 2) := by decide +kernel
theorem dX2_chooseCut_58 : decode cX2_chooseCut 58 = .ok (.istore_n 2, 1) := by decide +kernel
theorem dX2_chooseCut_59 : decode cX2_chooseCut 59 = .ok (.iload 6, 2) := by decide +kernel
theorem dX2_chooseCut_61 : decode cX2_chooseCut 61 = .ok (.istore_n 3, 1) := by decide +kernel
theorem dX2_chooseCut_62 : decode cX2_chooseCut 62 = .ok (.aload_n 0, 1) := by decide +kernel
theorem dX2_chooseCut_63 : decode cX2_chooseCut 63 = .ok (.getfield 40, 3) := by decide +kernel
theorem dX2_chooseCut_66 : decode cX2_chooseCut 66 = .ok (.iconst 0, 1) := by decide +kernel
theorem dX2_chooseCut_67 : decode cX2_chooseCut 67 = .ok (.aload_n 0, 1) := by decide +kernel
theorem dX2_chooseCut_68 : decode cX2_chooseCut 68 = .ok (.getfield 43, 3) := by decide +kernel
theorem dX2_chooseCut_71 : decode cX2_chooseCut 71 = .ok (.iconst 0, 1) := by decide +kernel
theorem dX2_chooseCut_72 : decode cX2_chooseCut 72 = .ok (.iconst 5, 1) := by decide +kernel
theorem dX2_chooseCut_73 : decode cX2_chooseCut 73 = .ok (.invokestatic 124, 3) := by decide +kernel
theorem dX2_chooseCut_76 : decode cX2_chooseCut 76 = .ok (.iinc 5 1, 3) := by decide +kernel
theorem dX2_chooseCut_79 : decode cX2_chooseCut 79 = .ok (.goto (-56), 3) := by decide +kernel
theorem dX2_chooseCut_82 : decode cX2_chooseCut 82 = .ok (.iinc 4 1, 3) := by decide +kernel
theorem dX2_chooseCut_85 : decode cX2_chooseCut 85 = .ok (.goto (-78), 3) := by decide +kernel
theorem dX2_chooseCut_88 : decode cX2_chooseCut 88 = .ok (.iload_n 2, 1) := by decide +kernel
theorem dX2_chooseCut_89 : decode cX2_chooseCut 89 = .ok (.ireturn, 1) := by decide +kernel
theorem dX2_sortAlong_0 : decode cX2_sortAlong 0 = .ok (.iconst 0, 1) := by decide +kernel
theorem dX2_sortAlong_1 : decode cX2_sortAlong 1 = .ok (.istore_n 3, 1) := by decide +kernel
theorem dX2_sortAlong_2 : decode cX2_sortAlong 2 = .ok (.iload_n 3, 1) := by decide +kernel
theorem dX2_sortAlong_3 : decode cX2_sortAlong 3 = .ok (.iconst 5, 1) := by decide +kernel
theorem dX2_sortAlong_4 : decode cX2_sortAlong 4 = .ok (.if_icmp .ge 79, 3) := by decide +kernel
theorem dX2_sortAlong_7 : decode cX2_sortAlong 7 = .ok (.aload_n 0, 1) := by decide +kernel
theorem dX2_sortAlong_8 : decode cX2_sortAlong 8 = .ok (.getfield 27, 3) := by decide +kernel
theorem dX2_sortAlong_11 : decode cX2_sortAlong 11 = .ok (.iload_n 1, 1) := by decide +kernel
theorem dX2_sortAlong_12 : decode cX2_sortAlong 12 = .ok (.iconst 5, 1) := by decide +kernel
theorem dX2_sortAlong_13 : decode cX2_sortAlong 13 = .ok (.imul, 1) := by decide +kernel
theorem dX2_sortAlong_14 : decode cX2_sortAlong 14 = .ok (.iload_n 3, 1) := by decide +kernel
theorem dX2_sortAlong_15 : decode cX2_sortAlong 15 = .ok (.iadd, 1) := by decide +kernel
theorem dX2_sortAlong_16 : decode cX2_sortAlong 16 = .ok (.iaload, 1) := by decide +kernel
theorem dX2_sortAlong_17 : decode cX2_sortAlong 17 = .ok (.istore 4, 2) := by decide +kernel
theorem dX2_sortAlong_19 : decode cX2_sortAlong 19 = .ok (.iload_n 3, 1) := by decide +kernel
theorem dX2_sortAlong_20 : decode cX2_sortAlong 20 = .ok (.istore 5, 2) := by decide +kernel
theorem dX2_sortAlong_22 : decode cX2_sortAlong 22 = .ok (.iload 5, 2) := by decide +kernel
theorem dX2_sortAlong_24 : decode cX2_sortAlong 24 = .ok (.ifCond .le 44, 3) := by decide +kernel
theorem dX2_sortAlong_27 : decode cX2_sortAlong 27 = .ok (.aload_n 0, 1) := by decide +kernel
theorem dX2_sortAlong_28 : decode cX2_sortAlong 28 = .ok (.iload 4, 2) := by decide +kernel
theorem dX2_sortAlong_30 : decode cX2_sortAlong 30 = .ok (.aload_n 0, 1) := by decide +kernel
theorem dX2_sortAlong_31 : decode cX2_sortAlong 31 = .ok (.getfield 40, 3) := by decide +kernel
theorem dX2_sortAlong_34 : decode cX2_sortAlong 34 = .ok (.iload 5, 2) := by decide +kernel
theorem dX2_sortAlong_36 : decode cX2_sortAlong 36 = .ok (.iconst 1, 1) := by decide +kernel
theorem dX2_sortAlong_37 : decode cX2_sortAlong 37 = .ok (.isub, 1) := by decide +kernel
theorem dX2_sortAlong_38 : decode cX2_sortAlong 38 = .ok (.iaload, 1) := by decide +kernel
theorem dX2_sortAlong_39 : decode cX2_sortAlong 39 = .ok (.iload_n 2, 1) := by decide +kernel
theorem dX2_sortAlong_40 : decode cX2_sortAlong 40 = .ok (.invokevirtual 130, 3) := by decide +kernel
theorem dX2_sortAlong_43 : decode cX2_sortAlong 43 = .ok (.ifCond .eq 25, 3) := by decide +kernel
theorem dX2_sortAlong_46 : decode cX2_sortAlong 46 = .ok (.aload_n 0, 1) := by decide +kernel
theorem dX2_sortAlong_47 : decode cX2_sortAlong 47 = .ok (.getfield 40, 3) := by decide +kernel
theorem dX2_sortAlong_50 : decode cX2_sortAlong 50 = .ok (.iload 5, 2) := by decide +kernel
theorem dX2_sortAlong_52 : decode cX2_sortAlong 52 = .ok (.aload_n 0, 1) := by decide +kernel
theorem dX2_sortAlong_53 : decode cX2_sortAlong 53 = .ok (.getfield 40, 3) := by decide +kernel
theorem dX2_sortAlong_56 : decode cX2_sortAlong 56 = .ok (.iload 5, 2) := by decide +kernel
theorem dX2_sortAlong_58 : decode cX2_sortAlong 58 = .ok (.iconst 1, 1) := by decide +kernel
theorem dX2_sortAlong_59 : decode cX2_sortAlong 59 = .ok (.isub, 1) := by decide +kernel
theorem dX2_sortAlong_60 : decode cX2_sortAlong 60 = .ok (.iaload, 1) := by decide +kernel
theorem dX2_sortAlong_61 : decode cX2_sortAlong 61 = .ok (.iastore, 1) := by decide +kernel
theorem dX2_sortAlong_62 : decode cX2_sortAlong 62 = .ok (.iinc 5 (-1), 3) := by decide +kernel
theorem dX2_sortAlong_65 : decode cX2_sortAlong 65 = .ok (.goto (-43), 3) := by decide +kernel
theorem dX2_sortAlong_68 : decode cX2_sortAlong 68 = .ok (.aload_n 0, 1) := by decide +kernel
theorem dX2_sortAlong_69 : decode cX2_sortAlong 69 = .ok (.getfield 40, 3) := by decide +kernel
theorem dX2_sortAlong_72 : decode cX2_sortAlong 72 = .ok (.iload 5, 2) := by decide +kernel
theorem dX2_sortAlong_74 : decode cX2_sortAlong 74 = .ok (.iload 4, 2) := by decide +kernel
theorem dX2_sortAlong_76 : decode cX2_sortAlong 76 = .ok (.iastore, 1) := by decide +kernel
theorem dX2_sortAlong_77 : decode cX2_sortAlong 77 = .ok (.iinc 3 1, 3) := by decide +kernel
theorem dX2_sortAlong_80 : decode cX2_sortAlong 80 = .ok (.goto (-78), 3) := by decide +kernel
theorem dX2_sortAlong_83 : decode cX2_sortAlong 83 = .ok (.return_, 1) := by decide +kernel
theorem dX2_isAhead_0 : decode cX2_isAhead 0 = .ok (.aload_n 0, 1) := by decide +kernel
theorem dX2_isAhead_1 : decode cX2_isAhead 1 = .ok (.getfield 16, 3) := by decide +kernel
theorem dX2_isAhead_4 : decode cX2_isAhead 4 = .ok (.iload_n 1, 1) := by decide +kernel
theorem dX2_isAhead_5 : decode cX2_isAhead 5 = .ok (.iload_n 3, 1) := by decide +kernel
theorem dX2_isAhead_6 : decode cX2_isAhead 6 = .ok (.invokevirtual 134, 3) := by decide +kernel
theorem dX2_isAhead_9 : decode cX2_isAhead 9 = .ok (.istore 4, 2) := by decide +kernel
theorem dX2_isAhead_11 : decode cX2_isAhead 11 = .ok (.aload_n 0, 1) := by decide +kernel
theorem dX2_isAhead_12 : decode cX2_isAhead 12 = .ok (.getfield 16, 3) := by decide +kernel
theorem dX2_isAhead_15 : decode cX2_isAhead 15 = .ok (.iload_n 2, 1) := by decide +kernel
theorem dX2_isAhead_16 : decode cX2_isAhead 16 = .ok (.iload_n 3, 1) := by decide +kernel
theorem dX2_isAhead_17 : decode cX2_isAhead 17 = .ok (.invokevirtual 134, 3) := by decide +kernel
theorem dX2_isAhead_20 : decode cX2_isAhead 20 = .ok (.istore 5, 2) := by decide +kernel
theorem dX2_isAhead_22 : decode cX2_isAhead 22 = .ok (.iload 4, 2) := by decide +kernel
theorem dX2_isAhead_24 : decode cX2_isAhead 24 = .ok (.iload 5, 2) := by decide +kernel
theorem dX2_isAhead_26 : decode cX2_isAhead 26 = .ok (.if_icmp .lt 15, 3) := by decide +kernel
theorem dX2_isAhead_29 : decode cX2_isAhead 29 = .ok (.iload 4, 2) := by decide +kernel
theorem dX2_isAhead_31 : decode cX2_isAhead 31 = .ok (.iload 5, 2) := by decide +kernel
theorem dX2_isAhead_33 : decode cX2_isAhead 33 = .ok (.if_icmp .ne 12, 3) := by decide +kernel
theorem dX2_isAhead_36 : decode cX2_isAhead 36 = .ok (.iload_n 1, 1) := by decide +kernel
theorem dX2_isAhead_37 : decode cX2_isAhead 37 = .ok (.iload_n 2, 1) := by decide +kernel
theorem dX2_isAhead_38 : decode cX2_isAhead 38 = .ok (.if_icmp .ge 7, 3) := by decide +kernel
theorem dX2_isAhead_41 : decode cX2_isAhead 41 = .ok (.iconst 1, 1) := by decide +kernel
theorem dX2_isAhead_42 : decode cX2_isAhead 42 = .ok (.goto 4, 3) := by decide +kernel
theorem dX2_isAhead_45 : decode cX2_isAhead 45 = .ok (.iconst 0, 1) := by decide +kernel
theorem dX2_isAhead_46 : decode cX2_isAhead 46 = .ok (.ireturn, 1) := by decide +kernel
theorem dX2_sizeTogether_0 : decode cX2_sizeTogether 0 = .ok (.aload_n 0, 1) := by decide +kernel
theorem dX2_sizeTogether_1 : decode cX2_sizeTogether 1 = .ok (.getfield 46, 3) := by decide +kernel
theorem dX2_sizeTogether_4 : decode cX2_sizeTogether 4 = .ok (.iconst 0, 1) := by decide +kernel
theorem dX2_sizeTogether_5 : decode cX2_sizeTogether 5 = .ok (.aload_n 0, 1) := by decide +kernel
theorem dX2_sizeTogether_6 : decode cX2_sizeTogether 6 = .ok (.getfield 16, 3) := by decide +kernel
theorem dX2_sizeTogether_9 : decode cX2_sizeTogether 9 = .ok (.aload_n 0, 1) := by decide +kernel
theorem dX2_sizeTogether_10 : decode cX2_sizeTogether 10 = .ok (.getfield 40, 3) := by decide +kernel
theorem dX2_sizeTogether_13 : decode cX2_sizeTogether 13 = .ok (.iload_n 1, 1) := by decide +kernel
theorem dX2_sizeTogether_14 : decode cX2_sizeTogether 14 = .ok (.iaload, 1) := by decide +kernel
theorem dX2_sizeTogether_15 : decode cX2_sizeTogether 15 = .ok (.invokevirtual 111, 3) := by decide +kernel
theorem dX2_sizeTogether_18 : decode cX2_sizeTogether 18 = .ok (.iload_n 1, 1) := by decide +kernel
theorem dX2_sizeTogether_19 : decode cX2_sizeTogether 19 = .ok (.iconst 1, 1) := by decide +kernel
theorem dX2_sizeTogether_20 : decode cX2_sizeTogether 20 = .ok (.iadd, 1) := by decide +kernel
theorem dX2_sizeTogether_21 : decode cX2_sizeTogether 21 = .ok (.istore_n 3, 1) := by decide +kernel
theorem dX2_sizeTogether_22 : decode cX2_sizeTogether 22 = .ok (.iload_n 3, 1) := by decide +kernel
theorem dX2_sizeTogether_23 : decode cX2_sizeTogether 23 = .ok (.iload_n 2, 1) := by decide +kernel
theorem dX2_sizeTogether_24 : decode cX2_sizeTogether 24 = .ok (.if_icmp .ge 27, 3) := by decide +kernel
theorem dX2_sizeTogether_27 : decode cX2_sizeTogether 27 = .ok (.aload_n 0, 1) := by decide +kernel
theorem dX2_sizeTogether_28 : decode cX2_sizeTogether 28 = .ok (.getfield 46, 3) := by decide +kernel
theorem dX2_sizeTogether_31 : decode cX2_sizeTogether 31 = .ok (.iconst 0, 1) := by decide +kernel
theorem dX2_sizeTogether_32 : decode cX2_sizeTogether 32 = .ok (.aload_n 0, 1) := by decide +kernel
theorem dX2_sizeTogether_33 : decode cX2_sizeTogether 33 = .ok (.getfield 16, 3) := by decide +kernel
theorem dX2_sizeTogether_36 : decode cX2_sizeTogether 36 = .ok (.aload_n 0, 1) := by decide +kernel
theorem dX2_sizeTogether_37 : decode cX2_sizeTogether 37 = .ok (.getfield 40, 3) := by decide +kernel
theorem dX2_sizeTogether_40 : decode cX2_sizeTogether 40 = .ok (.iload_n 3, 1) := by decide +kernel
theorem dX2_sizeTogether_41 : decode cX2_sizeTogether 41 = .ok (.iaload, 1) := by decide +kernel
theorem dX2_sizeTogether_42 : decode cX2_sizeTogether 42 = .ok (.invokevirtual 83, 3) := by decide +kernel
theorem dX2_sizeTogether_45 : decode cX2_sizeTogether 45 = .ok (.iinc 3 1, 3) := by decide +kernel
theorem dX2_sizeTogether_48 : decode cX2_sizeTogether 48 = .ok (.goto (-26), 3) := by decide +kernel
theorem dX2_sizeTogether_51 : decode cX2_sizeTogether 51 = .ok (.aload_n 0, 1) := by decide +kernel
theorem dX2_sizeTogether_52 : decode cX2_sizeTogether 52 = .ok (.getfield 46, 3) := by decide +kernel
theorem dX2_sizeTogether_55 : decode cX2_sizeTogether 55 = .ok (.iconst 0, 1) := by decide +kernel
theorem dX2_sizeTogether_56 : decode cX2_sizeTogether 56 = .ok (.invokevirtual 137, 3) := by decide +kernel
theorem dX2_sizeTogether_59 : decode cX2_sizeTogether 59 = .ok (.ireturn, 1) := by decide +kernel
theorem dX2_leaves_0 : decode cX2_leaves 0 = .ok (.aload_n 0, 1) := by decide +kernel
theorem dX2_leaves_1 : decode cX2_leaves 1 = .ok (.getfield 56, 3) := by decide +kernel
theorem dX2_leaves_4 : decode cX2_leaves 4 = .ok (.iconst 1, 1) := by decide +kernel
theorem dX2_leaves_5 : decode cX2_leaves 5 = .ok (.iadd, 1) := by decide +kernel
theorem dX2_leaves_6 : decode cX2_leaves 6 = .ok (.iconst 2, 1) := by decide +kernel
theorem dX2_leaves_7 : decode cX2_leaves 7 = .ok (.idiv, 1) := by decide +kernel
theorem dX2_leaves_8 : decode cX2_leaves 8 = .ok (.ireturn, 1) := by decide +kernel
theorem dX2_deepest_0 : decode cX2_deepest 0 = .ok (.iconst 1, 1) := by decide +kernel
theorem dX2_deepest_1 : decode cX2_deepest 1 = .ok (.istore_n 1, 1) := by decide +kernel
theorem dX2_deepest_2 : decode cX2_deepest 2 = .ok (.aload_n 0, 1) := by decide +kernel
theorem dX2_deepest_3 : decode cX2_deepest 3 = .ok (.getfield 33, 3) := by decide +kernel
theorem dX2_deepest_6 : decode cX2_deepest 6 = .ok (.iconst 0, 1) := by decide +kernel
theorem dX2_deepest_7 : decode cX2_deepest 7 = .ok (.iconst 1, 1) := by decide +kernel
theorem dX2_deepest_8 : decode cX2_deepest 8 = .ok (.iastore, 1) := by decide +kernel
theorem dX2_deepest_9 : decode cX2_deepest 9 = .ok (.iconst 0, 1) := by decide +kernel
theorem dX2_deepest_10 : decode cX2_deepest 10 = .ok (.istore_n 2, 1) := by decide +kernel
theorem dX2_deepest_11 : decode cX2_deepest 11 = .ok (.iload_n 2, 1) := by decide +kernel
theorem dX2_deepest_12 : decode cX2_deepest 12 = .ok (.aload_n 0, 1) := by decide +kernel
theorem dX2_deepest_13 : decode cX2_deepest 13 = .ok (.getfield 56, 3) := by decide +kernel
theorem dX2_deepest_16 : decode cX2_deepest 16 = .ok (.if_icmp .ge 61, 3) := by decide +kernel
theorem dX2_deepest_19 : decode cX2_deepest 19 = .ok (.aload_n 0, 1) := by decide +kernel
theorem dX2_deepest_20 : decode cX2_deepest 20 = .ok (.getfield 23, 3) := by decide +kernel
theorem dX2_deepest_23 : decode cX2_deepest 23 = .ok (.iload_n 2, 1) := by decide +kernel
theorem dX2_deepest_24 : decode cX2_deepest 24 = .ok (.iaload, 1) := by decide +kernel
theorem dX2_deepest_25 : decode cX2_deepest 25 = .ok (.istore_n 3, 1) := by decide +kernel
theorem dX2_deepest_26 : decode cX2_deepest 26 = .ok (.iload_n 3, 1) := by decide +kernel
theorem dX2_deepest_27 : decode cX2_deepest 27 = .ok (.ifCond .eq 44, 3) := by decide +kernel
theorem dX2_deepest_30 : decode cX2_deepest 30 = .ok (.aload_n 0, 1) := by decide +kernel
theorem dX2_deepest_31 : decode cX2_deepest 31 = .ok (.getfield 33, 3) := by decide +kernel
theorem dX2_deepest_34 : decode cX2_deepest 34 = .ok (.iload_n 3, 1) := by decide +kernel
theorem dX2_deepest_35 : decode cX2_deepest 35 = .ok (.aload_n 0, 1) := by decide +kernel
theorem dX2_deepest_36 : decode cX2_deepest 36 = .ok (.getfield 33, 3) := by decide +kernel
theorem dX2_deepest_39 : decode cX2_deepest 39 = .ok (.iload_n 2, 1) := by decide +kernel
theorem dX2_deepest_40 : decode cX2_deepest 40 = .ok (.iaload, 1) := by decide +kernel
theorem dX2_deepest_41 : decode cX2_deepest 41 = .ok (.iconst 1, 1) := by decide +kernel
theorem dX2_deepest_42 : decode cX2_deepest 42 = .ok (.iadd, 1) := by decide +kernel
theorem dX2_deepest_43 : decode cX2_deepest 43 = .ok (.iastore, 1) := by decide +kernel
theorem dX2_deepest_44 : decode cX2_deepest 44 = .ok (.aload_n 0, 1) := by decide +kernel
theorem dX2_deepest_45 : decode cX2_deepest 45 = .ok (.getfield 33, 3) := by decide +kernel
theorem dX2_deepest_48 : decode cX2_deepest 48 = .ok (.iload_n 3, 1) := by decide +kernel
theorem dX2_deepest_49 : decode cX2_deepest 49 = .ok (.iconst 1, 1) := by decide +kernel
theorem dX2_deepest_50 : decode cX2_deepest 50 = .ok (.iadd, 1) := by decide +kernel
theorem dX2_deepest_51 : decode cX2_deepest 51 = .ok (.aload_n 0, 1) := by decide +kernel
theorem dX2_deepest_52 : decode cX2_deepest 52 = .ok (.getfield 33, 3) := by decide +kernel
theorem dX2_deepest_55 : decode cX2_deepest 55 = .ok (.iload_n 2, 1) := by decide +kernel
theorem dX2_deepest_56 : decode cX2_deepest 56 = .ok (.iaload, 1) := by decide +kernel
theorem dX2_deepest_57 : decode cX2_deepest 57 = .ok (.iconst 1, 1) := by decide +kernel
theorem dX2_deepest_58 : decode cX2_deepest 58 = .ok (.iadd, 1) := by decide +kernel
theorem dX2_deepest_59 : decode cX2_deepest 59 = .ok (.iastore, 1) := by decide +kernel
theorem dX2_deepest_60 : decode cX2_deepest 60 = .ok (.iload_n 1, 1) := by decide +kernel
theorem dX2_deepest_61 : decode cX2_deepest 61 = .ok (.aload_n 0, 1) := by decide +kernel
theorem dX2_deepest_62 : decode cX2_deepest 62 = .ok (.getfield 33, 3) := by decide +kernel
theorem dX2_deepest_65 : decode cX2_deepest 65 = .ok (.iload_n 3, 1) := by decide +kernel
theorem dX2_deepest_66 : decode cX2_deepest 66 = .ok (.iaload, 1) := by decide +kernel
theorem dX2_deepest_67 : decode cX2_deepest 67 = .ok (.invokestatic 100, 3) := by decide +kernel
theorem dX2_deepest_70 : decode cX2_deepest 70 = .ok (.istore_n 1, 1) := by decide +kernel
theorem dX2_deepest_71 : decode cX2_deepest 71 = .ok (.iinc 2 1, 3) := by decide +kernel
theorem dX2_deepest_74 : decode cX2_deepest 74 = .ok (.goto (-63), 3) := by decide +kernel
theorem dX2_deepest_77 : decode cX2_deepest 77 = .ok (.iload_n 1, 1) := by decide +kernel
theorem dX2_deepest_78 : decode cX2_deepest 78 = .ok (.ireturn, 1) := by decide +kernel
theorem dX2_leafSizes_0 : decode cX2_leafSizes 0 = .ok (.lconst 0, 1) := by decide +kernel
theorem dX2_leafSizes_1 : decode cX2_leafSizes 1 = .ok (.lstore_n 1, 1) := by decide +kernel
theorem dX2_leafSizes_2 : decode cX2_leafSizes 2 = .ok (.iconst 0, 1) := by decide +kernel
theorem dX2_leafSizes_3 : decode cX2_leafSizes 3 = .ok (.istore_n 3, 1) := by decide +kernel
theorem dX2_leafSizes_4 : decode cX2_leafSizes 4 = .ok (.iload_n 3, 1) := by decide +kernel
theorem dX2_leafSizes_5 : decode cX2_leafSizes 5 = .ok (.aload_n 0, 1) := by decide +kernel
theorem dX2_leafSizes_6 : decode cX2_leafSizes 6 = .ok (.getfield 56, 3) := by decide +kernel
theorem dX2_leafSizes_9 : decode cX2_leafSizes 9 = .ok (.if_icmp .ge 39, 3) := by decide +kernel
theorem dX2_leafSizes_12 : decode cX2_leafSizes 12 = .ok (.aload_n 0, 1) := by decide +kernel
theorem dX2_leafSizes_13 : decode cX2_leafSizes 13 = .ok (.getfield 23, 3) := by decide +kernel
theorem dX2_leafSizes_16 : decode cX2_leafSizes 16 = .ok (.iload_n 3, 1) := by decide +kernel
theorem dX2_leafSizes_17 : decode cX2_leafSizes 17 = .ok (.iaload, 1) := by decide +kernel
theorem dX2_leafSizes_18 : decode cX2_leafSizes 18 = .ok (.ifCond .ne 24, 3) := by decide +kernel
theorem dX2_leafSizes_21 : decode cX2_leafSizes 21 = .ok (.aload_n 0, 1) := by decide +kernel
theorem dX2_leafSizes_22 : decode cX2_leafSizes 22 = .ok (.getfield 30, 3) := by decide +kernel
theorem dX2_leafSizes_25 : decode cX2_leafSizes 25 = .ok (.iload_n 3, 1) := by decide +kernel
theorem dX2_leafSizes_26 : decode cX2_leafSizes 26 = .ok (.iaload, 1) := by decide +kernel
theorem dX2_leafSizes_27 : decode cX2_leafSizes 27 = .ok (.ifCond .le 15, 3) := by decide +kernel
theorem dX2_leafSizes_30 : decode cX2_leafSizes 30 = .ok (.lload_n 1, 1) := by decide +kernel
theorem dX2_leafSizes_31 : decode cX2_leafSizes 31 = .ok (.aload_n 0, 1) := by decide +kernel
theorem dX2_leafSizes_32 : decode cX2_leafSizes 32 = .ok (.getfield 20, 3) := by decide +kernel
theorem dX2_leafSizes_35 : decode cX2_leafSizes 35 = .ok (.iload_n 3, 1) := by decide +kernel
theorem dX2_leafSizes_36 : decode cX2_leafSizes 36 = .ok (.invokevirtual 137, 3) := by decide +kernel
theorem dX2_leafSizes_39 : decode cX2_leafSizes 39 = .ok (.i2l, 1) := by decide +kernel
theorem dX2_leafSizes_40 : decode cX2_leafSizes 40 = .ok (.ladd, 1) := by decide +kernel
theorem dX2_leafSizes_41 : decode cX2_leafSizes 41 = .ok (.lstore_n 1, 1) := by decide +kernel
theorem dX2_leafSizes_42 : decode cX2_leafSizes 42 = .ok (.iinc 3 1, 3) := by decide +kernel
theorem dX2_leafSizes_45 : decode cX2_leafSizes 45 = .ok (.goto (-41), 3) := by decide +kernel
theorem dX2_leafSizes_48 : decode cX2_leafSizes 48 = .ok (.lload_n 1, 1) := by decide +kernel
theorem dX2_leafSizes_49 : decode cX2_leafSizes 49 = .ok (.lreturn, 1) := by decide +kernel
theorem dX2_ask_0 : decode cX2_ask 0 = .ok (.aload_n 0, 1) := by decide +kernel
theorem dX2_ask_1 : decode cX2_ask 1 = .ok (.getfield 49, 3) := by decide +kernel
theorem dX2_ask_4 : decode cX2_ask 4 = .ok (.iconst 0, 1) := by decide +kernel
theorem dX2_ask_5 : decode cX2_ask 5 = .ok (.iconst 0, 1) := by decide +kernel
theorem dX2_ask_6 : decode cX2_ask 6 = .ok (.aload_n 1, 1) := by decide +kernel
theorem dX2_ask_7 : decode cX2_ask 7 = .ok (.getfield 140, 3) := by decide +kernel
theorem dX2_ask_10 : decode cX2_ask 10 = .ok (.aload_n 1, 1) := by decide +kernel
theorem dX2_ask_11 : decode cX2_ask 11 = .ok (.getfield 145, 3) := by decide +kernel
theorem dX2_ask_14 : decode cX2_ask 14 = .ok (.invokevirtual 103, 3) := by decide +kernel
theorem dX2_ask_17 : decode cX2_ask 17 = .ok (.aload_n 0, 1) := by decide +kernel
theorem dX2_ask_18 : decode cX2_ask 18 = .ok (.getfield 49, 3) := by decide +kernel
theorem dX2_ask_21 : decode cX2_ask 21 = .ok (.iconst 0, 1) := by decide +kernel
theorem dX2_ask_22 : decode cX2_ask 22 = .ok (.iconst 1, 1) := by decide +kernel
theorem dX2_ask_23 : decode cX2_ask 23 = .ok (.aload_n 1, 1) := by decide +kernel
theorem dX2_ask_24 : decode cX2_ask 24 = .ok (.getfield 148, 3) := by decide +kernel
theorem dX2_ask_27 : decode cX2_ask 27 = .ok (.aload_n 1, 1) := by decide +kernel
theorem dX2_ask_28 : decode cX2_ask 28 = .ok (.getfield 151, 3) := by decide +kernel
theorem dX2_ask_31 : decode cX2_ask 31 = .ok (.invokevirtual 103, 3) := by decide +kernel
theorem dX2_ask_34 : decode cX2_ask 34 = .ok (.aload_n 0, 1) := by decide +kernel
theorem dX2_ask_35 : decode cX2_ask 35 = .ok (.getfield 49, 3) := by decide +kernel
theorem dX2_ask_38 : decode cX2_ask 38 = .ok (.iconst 0, 1) := by decide +kernel
theorem dX2_ask_39 : decode cX2_ask 39 = .ok (.iconst 2, 1) := by decide +kernel
theorem dX2_ask_40 : decode cX2_ask 40 = .ok (.iload_n 2, 1) := by decide +kernel
theorem dX2_ask_41 : decode cX2_ask 41 = .ok (.iload_n 3, 1) := by decide +kernel
theorem dX2_ask_42 : decode cX2_ask 42 = .ok (.invokevirtual 103, 3) := by decide +kernel
theorem dX2_ask_45 : decode cX2_ask 45 = .ok (.aload_n 0, 1) := by decide +kernel
theorem dX2_ask_46 : decode cX2_ask 46 = .ok (.iconst 0, 1) := by decide +kernel
theorem dX2_ask_47 : decode cX2_ask 47 = .ok (.putfield 59, 3) := by decide +kernel
theorem dX2_ask_50 : decode cX2_ask 50 = .ok (.aload_n 0, 1) := by decide +kernel
theorem dX2_ask_51 : decode cX2_ask 51 = .ok (.iconst 0, 1) := by decide +kernel
theorem dX2_ask_52 : decode cX2_ask 52 = .ok (.putfield 62, 3) := by decide +kernel
theorem dX2_ask_55 : decode cX2_ask 55 = .ok (.aload_n 0, 1) := by decide +kernel
theorem dX2_ask_56 : decode cX2_ask 56 = .ok (.getfield 36, 3) := by decide +kernel
theorem dX2_ask_59 : decode cX2_ask 59 = .ok (.iconst 0, 1) := by decide +kernel
theorem dX2_ask_60 : decode cX2_ask 60 = .ok (.aload_n 0, 1) := by decide +kernel
theorem dX2_ask_61 : decode cX2_ask 61 = .ok (.getfield 52, 3) := by decide +kernel
theorem dX2_ask_64 : decode cX2_ask 64 = .ok (.ifCond .le 23, 3) := by decide +kernel
theorem dX2_ask_67 : decode cX2_ask 67 = .ok (.aload_n 0, 1) := by decide +kernel
theorem dX2_ask_68 : decode cX2_ask 68 = .ok (.getfield 20, 3) := by decide +kernel
theorem dX2_ask_71 : decode cX2_ask 71 = .ok (.iconst 0, 1) := by decide +kernel
theorem dX2_ask_72 : decode cX2_ask 72 = .ok (.aload_n 0, 1) := by decide +kernel
theorem dX2_ask_73 : decode cX2_ask 73 = .ok (.getfield 49, 3) := by decide +kernel
theorem dX2_ask_76 : decode cX2_ask 76 = .ok (.iconst 0, 1) := by decide +kernel
theorem dX2_ask_77 : decode cX2_ask 77 = .ok (.invokevirtual 154, 3) := by decide +kernel
theorem dX2_ask_80 : decode cX2_ask 80 = .ok (.ifCond .eq 7, 3) := by decide +kernel
theorem dX2_ask_83 : decode cX2_ask 83 = .ok (.iconst 1, 1) := by decide +kernel
theorem dX2_ask_84 : decode cX2_ask 84 = .ok (.goto 4, 3) := by decide +kernel
theorem dX2_ask_87 : decode cX2_ask 87 = .ok (.iconst 0, 1) := by decide +kernel
theorem dX2_ask_88 : decode cX2_ask 88 = .ok (.bastore, 1) := by decide +kernel
theorem dX2_ask_89 : decode cX2_ask 89 = .ok (.iconst 0, 1) := by decide +kernel
theorem dX2_ask_90 : decode cX2_ask 90 = .ok (.istore 4, 2) := by decide +kernel
theorem dX2_ask_92 : decode cX2_ask 92 = .ok (.iload 4, 2) := by decide +kernel
theorem dX2_ask_94 : decode cX2_ask 94 = .ok (.aload_n 0, 1) := by decide +kernel
theorem dX2_ask_95 : decode cX2_ask 95 = .ok (.getfield 56, 3) := by decide +kernel
theorem dX2_ask_98 : decode cX2_ask 98 = .ok (.if_icmp .ge 149, 3) := by decide +kernel
theorem dX2_ask_101 : decode cX2_ask 101 = .ok (.aload_n 0, 1) := by decide +kernel
theorem dX2_ask_102 : decode cX2_ask 102 = .ok (.getfield 23, 3) := by decide +kernel
theorem dX2_ask_105 : decode cX2_ask 105 = .ok (.iload 4, 2) := by decide +kernel
theorem dX2_ask_107 : decode cX2_ask 107 = .ok (.iaload, 1) := by decide +kernel
theorem dX2_ask_108 : decode cX2_ask 108 = .ok (.istore 5, 2) := by decide +kernel
theorem dX2_ask_110 : decode cX2_ask 110 = .ok (.iload 5, 2) := by decide +kernel
theorem dX2_ask_112 : decode cX2_ask 112 = .ok (.ifCond .eq 85, 3) := by decide +kernel
theorem dX2_ask_115 : decode cX2_ask 115 = .ok (.aload_n 0, 1) := by decide +kernel
theorem dX2_ask_116 : decode cX2_ask 116 = .ok (.getfield 36, 3) := by decide +kernel
theorem dX2_ask_119 : decode cX2_ask 119 = .ok (.iload 5, 2) := by decide +kernel
theorem dX2_ask_121 : decode cX2_ask 121 = .ok (.aload_n 0, 1) := by decide +kernel
theorem dX2_ask_122 : decode cX2_ask 122 = .ok (.getfield 36, 3) := by decide +kernel
theorem dX2_ask_125 : decode cX2_ask 125 = .ok (.iload 4, 2) := by decide +kernel
theorem dX2_ask_127 : decode cX2_ask 127 = .ok (.baload, 1) := by decide +kernel
theorem dX2_ask_128 : decode cX2_ask 128 = .ok (.ifCond .eq 24, 3) := by decide +kernel
theorem dX2_ask_131 : decode cX2_ask 131 = .ok (.aload_n 0, 1) := by decide +kernel
theorem dX2_ask_132 : decode cX2_ask 132 = .ok (.getfield 20, 3) := by decide +kernel
theorem dX2_ask_135 : decode cX2_ask 135 = .ok (.iload 5, 2) := by decide +kernel
theorem dX2_ask_137 : decode cX2_ask 137 = .ok (.aload_n 0, 1) := by decide +kernel
theorem dX2_ask_138 : decode cX2_ask 138 = .ok (.getfield 49, 3) := by decide +kernel
theorem dX2_ask_141 : decode cX2_ask 141 = .ok (.iconst 0, 1) := by decide +kernel
theorem dX2_ask_142 : decode cX2_ask 142 = .ok (.invokevirtual 154, 3) := by decide +kernel
theorem dX2_ask_145 : decode cX2_ask 145 = .ok (.ifCond .eq 7, 3) := by decide +kernel
theorem dX2_ask_148 : decode cX2_ask 148 = .ok (.iconst 1, 1) := by decide +kernel
theorem dX2_ask_149 : decode cX2_ask 149 = .ok (.goto 4, 3) := by decide +kernel
theorem dX2_ask_152 : decode cX2_ask 152 = .ok (.iconst 0, 1) := by decide +kernel
theorem dX2_ask_153 : decode cX2_ask 153 = .ok (.bastore, 1) := by decide +kernel
theorem dX2_ask_154 : decode cX2_ask 154 = .ok (.aload_n 0, 1) := by decide +kernel
theorem dX2_ask_155 : decode cX2_ask 155 = .ok (.getfield 36, 3) := by decide +kernel
theorem dX2_ask_158 : decode cX2_ask 158 = .ok (.iload 5, 2) := by decide +kernel
theorem dX2_ask_160 : decode cX2_ask 160 = .ok (.iconst 1, 1) := by decide +kernel
theorem dX2_ask_161 : decode cX2_ask 161 = .ok (.iadd, 1) := by decide +kernel
theorem dX2_ask_162 : decode cX2_ask 162 = .ok (.aload_n 0, 1) := by decide +kernel
theorem dX2_ask_163 : decode cX2_ask 163 = .ok (.getfield 36, 3) := by decide +kernel
theorem dX2_ask_166 : decode cX2_ask 166 = .ok (.iload 4, 2) := by decide +kernel
theorem dX2_ask_168 : decode cX2_ask 168 = .ok (.baload, 1) := by decide +kernel
theorem dX2_ask_169 : decode cX2_ask 169 = .ok (.ifCond .eq 26, 3) := by decide +kernel
theorem dX2_ask_172 : decode cX2_ask 172 = .ok (.aload_n 0, 1) := by decide +kernel
theorem dX2_ask_173 : decode cX2_ask 173 = .ok (.getfield 20, 3) := by decide +kernel
theorem dX2_ask_176 : decode cX2_ask 176 = .ok (.iload 5, 2) := by decide +kernel
theorem dX2_ask_178 : decode cX2_ask 178 = .ok (.iconst 1, 1) := by decide +kernel
theorem dX2_ask_179 : decode cX2_ask 179 = .ok (.iadd, 1) := by decide +kernel
theorem dX2_ask_180 : decode cX2_ask 180 = .ok (.aload_n 0, 1) := by decide +kernel
theorem dX2_ask_181 : decode cX2_ask 181 = .ok (.getfield 49, 3) := by decide +kernel
theorem dX2_ask_184 : decode cX2_ask 184 = .ok (.iconst 0, 1) := by decide +kernel
theorem dX2_ask_185 : decode cX2_ask 185 = .ok (.invokevirtual 154, 3) := by decide +kernel
theorem dX2_ask_188 : decode cX2_ask 188 = .ok (.ifCond .eq 7, 3) := by decide +kernel
theorem dX2_ask_191 : decode cX2_ask 191 = .ok (.iconst 1, 1) := by decide +kernel
theorem dX2_ask_192 : decode cX2_ask 192 = .ok (.goto 4, 3) := by decide +kernel
theorem dX2_ask_195 : decode cX2_ask 195 = .ok (.iconst 0, 1) := by decide +kernel
theorem dX2_ask_196 : decode cX2_ask 196 = .ok (.bastore, 1) := by decide +kernel
theorem dX2_ask_197 : decode cX2_ask 197 = .ok (.aload_n 0, 1) := by decide +kernel
theorem dX2_ask_198 : decode cX2_ask 198 = .ok (.getfield 36, 3) := by decide +kernel
theorem dX2_ask_201 : decode cX2_ask 201 = .ok (.iload 4, 2) := by decide +kernel
theorem dX2_ask_203 : decode cX2_ask 203 = .ok (.baload, 1) := by decide +kernel
theorem dX2_ask_204 : decode cX2_ask 204 = .ok (.ifCond .eq 37, 3) := by decide +kernel
theorem dX2_ask_207 : decode cX2_ask 207 = .ok (.aload_n 0, 1) := by decide +kernel
theorem dX2_ask_208 : decode cX2_ask 208 = .ok (.dup, 1) := by decide +kernel
theorem dX2_ask_209 : decode cX2_ask 209 = .ok (.getfield 59, 3) := by decide +kernel
theorem dX2_ask_212 : decode cX2_ask 212 = .ok (.iconst 1, 1) := by decide +kernel
theorem dX2_ask_213 : decode cX2_ask 213 = .ok (.iadd, 1) := by decide +kernel
theorem dX2_ask_214 : decode cX2_ask 214 = .ok (.putfield 59, 3) := by decide +kernel
theorem dX2_ask_217 : decode cX2_ask 217 = .ok (.aload_n 0, 1) := by decide +kernel
theorem dX2_ask_218 : decode cX2_ask 218 = .ok (.dup, 1) := by decide +kernel
theorem dX2_ask_219 : decode cX2_ask 219 = .ok (.getfield 62, 3) := by decide +kernel
theorem dX2_ask_222 : decode cX2_ask 222 = .ok (.iload 5, 2) := by decide +kernel
theorem dX2_ask_224 : decode cX2_ask 224 = .ok (.ifCond .ne 12, 3) := by decide +kernel
theorem dX2_ask_227 : decode cX2_ask 227 = .ok (.aload_n 0, 1) := by decide +kernel
theorem dX2_ask_228 : decode cX2_ask 228 = .ok (.iload 4, 2) := by decide +kernel
theorem dX2_ask_230 : decode cX2_ask 230 = .ok (.invokevirtual 158, 3) := by decide +kernel
theorem dX2_ask_233 : decode cX2_ask 233 = .ok (.goto 4, 3) := by decide +kernel
theorem dX2_ask_236 : decode cX2_ask 236 = .ok (.iconst 0, 1) := by decide +kernel
theorem dX2_ask_237 : decode cX2_ask 237 = .ok (.iadd, 1) := by decide +kernel
theorem dX2_ask_238 : decode cX2_ask 238 = .ok (.putfield 62, 3) := by decide +kernel
theorem dX2_ask_241 : decode cX2_ask 241 = .ok (.iinc 4 1, 3) := by decide +kernel
theorem dX2_ask_244 : decode cX2_ask 244 = .ok (.goto (-152), 3) := by decide +kernel
theorem dX2_ask_247 : decode cX2_ask 247 = .ok (.return_, 1) := by decide +kernel
theorem dX2_touchedIn_0 : decode cX2_touchedIn 0 = .ok (.iconst 0, 1) := by decide +kernel
theorem dX2_touchedIn_1 : decode cX2_touchedIn 1 = .ok (.istore_n 2, 1) := by decide +kernel
theorem dX2_touchedIn_2 : decode cX2_touchedIn 2 = .ok (.iconst 0, 1) := by decide +kernel
theorem dX2_touchedIn_3 : decode cX2_touchedIn 3 = .ok (.istore_n 3, 1) := by decide +kernel
theorem dX2_touchedIn_4 : decode cX2_touchedIn 4 = .ok (.iload_n 3, 1) := by decide +kernel
theorem dX2_touchedIn_5 : decode cX2_touchedIn 5 = .ok (.aload_n 0, 1) := by decide +kernel
theorem dX2_touchedIn_6 : decode cX2_touchedIn 6 = .ok (.getfield 30, 3) := by decide +kernel
theorem dX2_touchedIn_9 : decode cX2_touchedIn 9 = .ok (.iload_n 1, 1) := by decide +kernel
theorem dX2_touchedIn_10 : decode cX2_touchedIn 10 = .ok (.iaload, 1) := by decide +kernel
theorem dX2_touchedIn_11 : decode cX2_touchedIn 11 = .ok (.if_icmp .ge 37, 3) := by decide +kernel
theorem dX2_touchedIn_14 : decode cX2_touchedIn 14 = .ok (.aload_n 0, 1) := by decide +kernel
theorem dX2_touchedIn_15 : decode cX2_touchedIn 15 = .ok (.getfield 16, 3) := by decide +kernel
theorem dX2_touchedIn_18 : decode cX2_touchedIn 18 = .ok (.aload_n 0, 1) := by decide +kernel
theorem dX2_touchedIn_19 : decode cX2_touchedIn 19 = .ok (.getfield 27, 3) := by decide +kernel
theorem dX2_touchedIn_22 : decode cX2_touchedIn 22 = .ok (.iload_n 1, 1) := by decide +kernel
theorem dX2_touchedIn_23 : decode cX2_touchedIn 23 = .ok (.iconst 5, 1) := by decide +kernel
theorem dX2_touchedIn_24 : decode cX2_touchedIn 24 = .ok (.imul, 1) := by decide +kernel
theorem dX2_touchedIn_25 : decode cX2_touchedIn 25 = .ok (.iload_n 3, 1) := by decide +kernel
theorem dX2_touchedIn_26 : decode cX2_touchedIn 26 = .ok (.iadd, 1) := by decide +kernel
theorem dX2_touchedIn_27 : decode cX2_touchedIn 27 = .ok (.iaload, 1) := by decide +kernel
theorem dX2_touchedIn_28 : decode cX2_touchedIn 28 = .ok (.aload_n 0, 1) := by decide +kernel
theorem dX2_touchedIn_29 : decode cX2_touchedIn 29 = .ok (.getfield 49, 3) := by decide +kernel
theorem dX2_touchedIn_32 : decode cX2_touchedIn 32 = .ok (.iconst 0, 1) := by decide +kernel
theorem dX2_touchedIn_33 : decode cX2_touchedIn 33 = .ok (.invokevirtual 154, 3) := by decide +kernel
theorem dX2_touchedIn_36 : decode cX2_touchedIn 36 = .ok (.ifCond .eq 6, 3) := by decide +kernel
theorem dX2_touchedIn_39 : decode cX2_touchedIn 39 = .ok (.iinc 2 1, 3) := by decide +kernel
theorem dX2_touchedIn_42 : decode cX2_touchedIn 42 = .ok (.iinc 3 1, 3) := by decide +kernel
theorem dX2_touchedIn_45 : decode cX2_touchedIn 45 = .ok (.goto (-41), 3) := by decide +kernel
theorem dX2_touchedIn_48 : decode cX2_touchedIn 48 = .ok (.iload_n 2, 1) := by decide +kernel
theorem dX2_touchedIn_49 : decode cX2_touchedIn 49 = .ok (.ireturn, 1) := by decide +kernel
theorem dX3_init_0 : decode cX3_init 0 = .ok (.aload_n 0, 1) := by decide +kernel
theorem dX3_init_1 : decode cX3_init 1 = .ok (.invokespecial 1, 3) := by decide +kernel
theorem dX3_init_4 : decode cX3_init 4 = .ok (.aload_n 0, 1) := by decide +kernel
theorem dX3_init_5 : decode cX3_init 5 = .ok (.iconst 0, 1) := by decide +kernel
theorem dX3_init_6 : decode cX3_init 6 = .ok (.putfield 7, 3) := by decide +kernel
theorem dX3_init_9 : decode cX3_init 9 = .ok (.aload_n 0, 1) := by decide +kernel
theorem dX3_init_10 : decode cX3_init 10 = .ok (.iconst 0, 1) := by decide +kernel
theorem dX3_init_11 : decode cX3_init 11 = .ok (.putfield 13, 3) := by decide +kernel
theorem dX3_init_14 : decode cX3_init 14 = .ok (.aload_n 0, 1) := by decide +kernel
theorem dX3_init_15 : decode cX3_init 15 = .ok (.iconst 0, 1) := by decide +kernel
theorem dX3_init_16 : decode cX3_init 16 = .ok (.putfield 16, 3) := by decide +kernel
theorem dX3_init_19 : decode cX3_init 19 = .ok (.aload_n 0, 1) := by decide +kernel
theorem dX3_init_20 : decode cX3_init 20 = .ok (.iconst 0, 1) := by decide +kernel
theorem dX3_init_21 : decode cX3_init 21 = .ok (.putfield 19, 3) := by decide +kernel
theorem dX3_init_24 : decode cX3_init 24 = .ok (.return_, 1) := by decide +kernel
theorem dX3_set_0 : decode cX3_set 0 = .ok (.aload_n 0, 1) := by decide +kernel
theorem dX3_set_1 : decode cX3_set 1 = .ok (.iload_n 1, 1) := by decide +kernel
theorem dX3_set_2 : decode cX3_set 2 = .ok (.putfield 7, 3) := by decide +kernel
theorem dX3_set_5 : decode cX3_set 5 = .ok (.aload_n 0, 1) := by decide +kernel
theorem dX3_set_6 : decode cX3_set 6 = .ok (.iload_n 2, 1) := by decide +kernel
theorem dX3_set_7 : decode cX3_set 7 = .ok (.putfield 13, 3) := by decide +kernel
theorem dX3_set_10 : decode cX3_set 10 = .ok (.aload_n 0, 1) := by decide +kernel
theorem dX3_set_11 : decode cX3_set 11 = .ok (.iload_n 3, 1) := by decide +kernel
theorem dX3_set_12 : decode cX3_set 12 = .ok (.putfield 16, 3) := by decide +kernel
theorem dX3_set_15 : decode cX3_set 15 = .ok (.aload_n 0, 1) := by decide +kernel
theorem dX3_set_16 : decode cX3_set 16 = .ok (.iload 4, 2) := by decide +kernel
theorem dX3_set_18 : decode cX3_set 18 = .ok (.putfield 19, 3) := by decide +kernel
theorem dX3_set_21 : decode cX3_set 21 = .ok (.return_, 1) := by decide +kernel
theorem dX3_holds_0 : decode cX3_holds 0 = .ok (.aload_n 0, 1) := by decide +kernel
theorem dX3_holds_1 : decode cX3_holds 1 = .ok (.getfield 7, 3) := by decide +kernel
theorem dX3_holds_4 : decode cX3_holds 4 = .ok (.aload_n 1, 1) := by decide +kernel
theorem dX3_holds_5 : decode cX3_holds 5 = .ok (.getfield 22, 3) := by decide +kernel
theorem dX3_holds_8 : decode cX3_holds 8 = .ok (.imul, 1) := by decide +kernel
theorem dX3_holds_9 : decode cX3_holds 9 = .ok (.aload_n 1, 1) := by decide +kernel
theorem dX3_holds_10 : decode cX3_holds 10 = .ok (.getfield 27, 3) := by decide +kernel
theorem dX3_holds_13 : decode cX3_holds 13 = .ok (.if_icmp .gt 55, 3) := by decide +kernel
theorem dX3_holds_16 : decode cX3_holds 16 = .ok (.aload_n 1, 1) := by decide +kernel
theorem dX3_holds_17 : decode cX3_holds 17 = .ok (.getfield 27, 3) := by decide +kernel
theorem dX3_holds_20 : decode cX3_holds 20 = .ok (.aload_n 0, 1) := by decide +kernel
theorem dX3_holds_21 : decode cX3_holds 21 = .ok (.getfield 13, 3) := by decide +kernel
theorem dX3_holds_24 : decode cX3_holds 24 = .ok (.aload_n 1, 1) := by decide +kernel
theorem dX3_holds_25 : decode cX3_holds 25 = .ok (.getfield 22, 3) := by decide +kernel
theorem dX3_holds_28 : decode cX3_holds 28 = .ok (.imul, 1) := by decide +kernel
theorem dX3_holds_29 : decode cX3_holds 29 = .ok (.if_icmp .gt 39, 3) := by decide +kernel
theorem dX3_holds_32 : decode cX3_holds 32 = .ok (.aload_n 0, 1) := by decide +kernel
theorem dX3_holds_33 : decode cX3_holds 33 = .ok (.getfield 16, 3) := by decide +kernel
theorem dX3_holds_36 : decode cX3_holds 36 = .ok (.aload_n 1, 1) := by decide +kernel
theorem dX3_holds_37 : decode cX3_holds 37 = .ok (.getfield 22, 3) := by decide +kernel
theorem dX3_holds_40 : decode cX3_holds 40 = .ok (.imul, 1) := by decide +kernel
theorem dX3_holds_41 : decode cX3_holds 41 = .ok (.aload_n 1, 1) := by decide +kernel
theorem dX3_holds_42 : decode cX3_holds 42 = .ok (.getfield 30, 3) := by decide +kernel
theorem dX3_holds_45 : decode cX3_holds 45 = .ok (.if_icmp .gt 23, 3) := by decide +kernel
theorem dX3_holds_48 : decode cX3_holds 48 = .ok (.aload_n 1, 1) := by decide +kernel
theorem dX3_holds_49 : decode cX3_holds 49 = .ok (.getfield 30, 3) := by decide +kernel
theorem dX3_holds_52 : decode cX3_holds 52 = .ok (.aload_n 0, 1) := by decide +kernel
theorem dX3_holds_53 : decode cX3_holds 53 = .ok (.getfield 19, 3) := by decide +kernel
theorem dX3_holds_56 : decode cX3_holds 56 = .ok (.aload_n 1, 1) := by decide +kernel
theorem dX3_holds_57 : decode cX3_holds 57 = .ok (.getfield 22, 3) := by decide +kernel
theorem dX3_holds_60 : decode cX3_holds 60 = .ok (.imul, 1) := by decide +kernel
theorem dX3_holds_61 : decode cX3_holds 61 = .ok (.if_icmp .gt 7, 3) := by decide +kernel
theorem dX3_holds_64 : decode cX3_holds 64 = .ok (.iconst 1, 1) := by decide +kernel
theorem dX3_holds_65 : decode cX3_holds 65 = .ok (.goto 4, 3) := by decide +kernel
theorem dX3_holds_68 : decode cX3_holds 68 = .ok (.iconst 0, 1) := by decide +kernel
theorem dX3_holds_69 : decode cX3_holds 69 = .ok (.ireturn, 1) := by decide +kernel
theorem dX4_init_0 : decode cX4_init 0 = .ok (.aload_n 0, 1) := by decide +kernel
theorem dX4_init_1 : decode cX4_init 1 = .ok (.invokespecial 3, 3) := by decide +kernel
theorem dX4_init_4 : decode cX4_init 4 = .ok (.aload_n 0, 1) := by decide +kernel
theorem dX4_init_5 : decode cX4_init 5 = .ok (.bipush 10, 2) := by decide +kernel
theorem dX4_init_7 : decode cX4_init 7 = .ok (.newarray .int, 2) := by decide +kernel
theorem dX4_init_9 : decode cX4_init 9 = .ok (.putfield 9, 3) := by decide +kernel
theorem dX4_init_12 : decode cX4_init 12 = .ok (.aload_n 0, 1) := by decide +kernel
theorem dX4_init_13 : decode cX4_init 13 = .ok (.bipush 10, 2) := by decide +kernel
theorem dX4_init_15 : decode cX4_init 15 = .ok (.newarray .long, 2) := by decide +kernel
theorem dX4_init_17 : decode cX4_init 17 = .ok (.putfield 15, 3) := by decide +kernel
theorem dX4_init_20 : decode cX4_init 20 = .ok (.aload_n 0, 1) := by decide +kernel
theorem dX4_init_21 : decode cX4_init 21 = .ok (.bipush 10, 2) := by decide +kernel
theorem dX4_init_23 : decode cX4_init 23 = .ok (.newarray .long, 2) := by decide +kernel
theorem dX4_init_25 : decode cX4_init 25 = .ok (.putfield 19, 3) := by decide +kernel
theorem dX4_init_28 : decode cX4_init 28 = .ok (.aload_n 0, 1) := by decide +kernel
theorem dX4_init_29 : decode cX4_init 29 = .ok (.iconst 0, 1) := by decide +kernel
theorem dX4_init_30 : decode cX4_init 30 = .ok (.putfield 22, 3) := by decide +kernel
theorem dX4_init_33 : decode cX4_init 33 = .ok (.return_, 1) := by decide +kernel
theorem dX4_clear_0 : decode cX4_clear 0 = .ok (.aload_n 0, 1) := by decide +kernel
theorem dX4_clear_1 : decode cX4_clear 1 = .ok (.iconst 0, 1) := by decide +kernel
theorem dX4_clear_2 : decode cX4_clear 2 = .ok (.putfield 22, 3) := by decide +kernel
theorem dX4_clear_5 : decode cX4_clear 5 = .ok (.return_, 1) := by decide +kernel
theorem dX4_put_0 : decode cX4_put 0 = .ok (.aload_n 0, 1) := by decide +kernel
theorem dX4_put_1 : decode cX4_put 1 = .ok (.getfield 22, 3) := by decide +kernel
theorem dX4_put_4 : decode cX4_put 4 = .ok (.bipush 10, 2) := by decide +kernel
theorem dX4_put_6 : decode cX4_put 6 = .ok (.if_icmp .lt 4, 3) := by decide +kernel
theorem dX4_put_9 : decode cX4_put 9 = .ok (.return_, 1) := by decide +kernel
theorem dX4_put_10 : decode cX4_put 10 = .ok (.aload_n 0, 1) := by decide +kernel
theorem dX4_put_11 : decode cX4_put 11 = .ok (.getfield 22, 3) := by decide +kernel
theorem dX4_put_14 : decode cX4_put 14 = .ok (.istore 6, 2) := by decide +kernel
theorem dX4_put_16 : decode cX4_put 16 = .ok (.iload 6, 2) := by decide +kernel
theorem dX4_put_18 : decode cX4_put 18 = .ok (.ifCond .le 84, 3) := by decide +kernel
theorem dX4_put_21 : decode cX4_put 21 = .ok (.lload_n 2, 1) := by decide +kernel
theorem dX4_put_22 : decode cX4_put 22 = .ok (.aload_n 0, 1) := by decide +kernel
theorem dX4_put_23 : decode cX4_put 23 = .ok (.getfield 19, 3) := by decide +kernel
theorem dX4_put_26 : decode cX4_put 26 = .ok (.iload 6, 2) := by decide +kernel
theorem dX4_put_28 : decode cX4_put 28 = .ok (.iconst 1, 1) := by decide +kernel
theorem dX4_put_29 : decode cX4_put 29 = .ok (.isub, 1) := by decide +kernel
theorem dX4_put_30 : decode cX4_put 30 = .ok (.laload, 1) := by decide +kernel
theorem dX4_put_31 : decode cX4_put 31 = .ok (.lmul, 1) := by decide +kernel
theorem dX4_put_32 : decode cX4_put 32 = .ok (.aload_n 0, 1) := by decide +kernel
theorem dX4_put_33 : decode cX4_put 33 = .ok (.getfield 15, 3) := by decide +kernel
theorem dX4_put_36 : decode cX4_put 36 = .ok (.iload 6, 2) := by decide +kernel
theorem dX4_put_38 : decode cX4_put 38 = .ok (.iconst 1, 1) := by decide +kernel
theorem dX4_put_39 : decode cX4_put 39 = .ok (.isub, 1) := by decide +kernel
theorem dX4_put_40 : decode cX4_put 40 = .ok (.laload, 1) := by decide +kernel
theorem dX4_put_41 : decode cX4_put 41 = .ok (.lload 4, 2) := by decide +kernel
theorem dX4_put_43 : decode cX4_put 43 = .ok (.lmul, 1) := by decide +kernel
theorem dX4_put_44 : decode cX4_put 44 = .ok (.lcmp, 1) := by decide +kernel
theorem dX4_put_45 : decode cX4_put 45 = .ok (.ifCond .ge 57, 3) := by decide +kernel
theorem dX4_put_48 : decode cX4_put 48 = .ok (.aload_n 0, 1) := by decide +kernel
theorem dX4_put_49 : decode cX4_put 49 = .ok (.getfield 9, 3) := by decide +kernel
theorem dX4_put_52 : decode cX4_put 52 = .ok (.iload 6, 2) := by decide +kernel
theorem dX4_put_54 : decode cX4_put 54 = .ok (.aload_n 0, 1) := by decide +kernel
theorem dX4_put_55 : decode cX4_put 55 = .ok (.getfield 9, 3) := by decide +kernel
theorem dX4_put_58 : decode cX4_put 58 = .ok (.iload 6, 2) := by decide +kernel
theorem dX4_put_60 : decode cX4_put 60 = .ok (.iconst 1, 1) := by decide +kernel
theorem dX4_put_61 : decode cX4_put 61 = .ok (.isub, 1) := by decide +kernel
theorem dX4_put_62 : decode cX4_put 62 = .ok (.iaload, 1) := by decide +kernel
theorem dX4_put_63 : decode cX4_put 63 = .ok (.iastore, 1) := by decide +kernel
theorem dX4_put_64 : decode cX4_put 64 = .ok (.aload_n 0, 1) := by decide +kernel
theorem dX4_put_65 : decode cX4_put 65 = .ok (.getfield 15, 3) := by decide +kernel
theorem dX4_put_68 : decode cX4_put 68 = .ok (.iload 6, 2) := by decide +kernel
theorem dX4_put_70 : decode cX4_put 70 = .ok (.aload_n 0, 1) := by decide +kernel
theorem dX4_put_71 : decode cX4_put 71 = .ok (.getfield 15, 3) := by decide +kernel
theorem dX4_put_74 : decode cX4_put 74 = .ok (.iload 6, 2) := by decide +kernel
theorem dX4_put_76 : decode cX4_put 76 = .ok (.iconst 1, 1) := by decide +kernel
theorem dX4_put_77 : decode cX4_put 77 = .ok (.isub, 1) := by decide +kernel
theorem dX4_put_78 : decode cX4_put 78 = .ok (.laload, 1) := by decide +kernel
theorem dX4_put_79 : decode cX4_put 79 = .ok (.lastore, 1) := by decide +kernel
theorem dX4_put_80 : decode cX4_put 80 = .ok (.aload_n 0, 1) := by decide +kernel
theorem dX4_put_81 : decode cX4_put 81 = .ok (.getfield 19, 3) := by decide +kernel
theorem dX4_put_84 : decode cX4_put 84 = .ok (.iload 6, 2) := by decide +kernel
theorem dX4_put_86 : decode cX4_put 86 = .ok (.aload_n 0, 1) := by decide +kernel
theorem dX4_put_87 : decode cX4_put 87 = .ok (.getfield 19, 3) := by decide +kernel
theorem dX4_put_90 : decode cX4_put 90 = .ok (.iload 6, 2) := by decide +kernel
theorem dX4_put_92 : decode cX4_put 92 = .ok (.iconst 1, 1) := by decide +kernel
theorem dX4_put_93 : decode cX4_put 93 = .ok (.isub, 1) := by decide +kernel
theorem dX4_put_94 : decode cX4_put 94 = .ok (.laload, 1) := by decide +kernel
theorem dX4_put_95 : decode cX4_put 95 = .ok (.lastore, 1) := by decide +kernel
theorem dX4_put_96 : decode cX4_put 96 = .ok (.iinc 6 (-1), 3) := by decide +kernel
theorem dX4_put_99 : decode cX4_put 99 = .ok (.goto (-83), 3) := by decide +kernel
theorem dX4_put_102 : decode cX4_put 102 = .ok (.aload_n 0, 1) := by decide +kernel
theorem dX4_put_103 : decode cX4_put 103 = .ok (.getfield 9, 3) := by decide +kernel
theorem dX4_put_106 : decode cX4_put 106 = .ok (.iload 6, 2) := by decide +kernel
theorem dX4_put_108 : decode cX4_put 108 = .ok (.iload_n 1, 1) := by decide +kernel
theorem dX4_put_109 : decode cX4_put 109 = .ok (.iastore, 1) := by decide +kernel
theorem dX4_put_110 : decode cX4_put 110 = .ok (.aload_n 0, 1) := by decide +kernel
theorem dX4_put_111 : decode cX4_put 111 = .ok (.getfield 15, 3) := by decide +kernel
theorem dX4_put_114 : decode cX4_put 114 = .ok (.iload 6, 2) := by decide +kernel
theorem dX4_put_116 : decode cX4_put 116 = .ok (.lload_n 2, 1) := by decide +kernel
theorem dX4_put_117 : decode cX4_put 117 = .ok (.lastore, 1) := by decide +kernel
theorem dX4_put_118 : decode cX4_put 118 = .ok (.aload_n 0, 1) := by decide +kernel
theorem dX4_put_119 : decode cX4_put 119 = .ok (.getfield 19, 3) := by decide +kernel
theorem dX4_put_122 : decode cX4_put 122 = .ok (.iload 6, 2) := by decide +kernel
theorem dX4_put_124 : decode cX4_put 124 = .ok (.lload 4, 2) := by decide +kernel
theorem dX4_put_126 : decode cX4_put 126 = .ok (.lastore, 1) := by decide +kernel
theorem dX4_put_127 : decode cX4_put 127 = .ok (.aload_n 0, 1) := by decide +kernel
theorem dX4_put_128 : decode cX4_put 128 = .ok (.dup, 1) := by decide +kernel
theorem dX4_put_129 : decode cX4_put 129 = .ok (.getfield 22, 3) := by decide +kernel
theorem dX4_put_132 : decode cX4_put 132 = .ok (.iconst 1, 1) := by decide +kernel
theorem dX4_put_133 : decode cX4_put 133 = .ok (.iadd, 1) := by decide +kernel
theorem dX4_put_134 : decode cX4_put 134 = .ok (.putfield 22, 3) := by decide +kernel
theorem dX4_put_137 : decode cX4_put 137 = .ok (.return_, 1) := by decide +kernel
theorem dX4_numberAt_0 : decode cX4_numberAt 0 = .ok (.iload_n 1, 1) := by decide +kernel
theorem dX4_numberAt_1 : decode cX4_numberAt 1 = .ok (.iconst 0, 1) := by decide +kernel
theorem dX4_numberAt_2 : decode cX4_numberAt 2 = .ok (.aload_n 0, 1) := by decide +kernel
theorem dX4_numberAt_3 : decode cX4_numberAt 3 = .ok (.getfield 22, 3) := by decide +kernel
theorem dX4_numberAt_6 : decode cX4_numberAt 6 = .ok (.iconst 1, 1) := by decide +kernel
theorem dX4_numberAt_7 : decode cX4_numberAt 7 = .ok (.isub, 1) := by decide +kernel
theorem dX4_numberAt_8 : decode cX4_numberAt 8 = .ok (.invokestatic 26, 3) := by decide +kernel
theorem dX4_numberAt_11 : decode cX4_numberAt 11 = .ok (.ifCond .eq 12, 3) := by decide +kernel
theorem dX4_numberAt_14 : decode cX4_numberAt 14 = .ok (.aload_n 0, 1) := by decide +kernel
theorem dX4_numberAt_15 : decode cX4_numberAt 15 = .ok (.getfield 9, 3) := by decide +kernel
theorem dX4_numberAt_18 : decode cX4_numberAt 18 = .ok (.iload_n 1, 1) := by decide +kernel
theorem dX4_numberAt_19 : decode cX4_numberAt 19 = .ok (.iaload, 1) := by decide +kernel
theorem dX4_numberAt_20 : decode cX4_numberAt 20 = .ok (.goto 5, 3) := by decide +kernel
theorem dX4_numberAt_23 : decode cX4_numberAt 23 = .ok (.ldc 30, 2) := by decide +kernel
theorem dX4_numberAt_25 : decode cX4_numberAt 25 = .ok (.ireturn, 1) := by decide +kernel
theorem dX5_init_0 : decode cX5_init 0 = .ok (.aload_n 0, 1) := by decide +kernel
theorem dX5_init_1 : decode cX5_init 1 = .ok (.invokespecial 3, 3) := by decide +kernel
theorem dX5_init_4 : decode cX5_init 4 = .ok (.aload_n 0, 1) := by decide +kernel
theorem dX5_init_5 : decode cX5_init 5 = .ok (.bipush 100, 2) := by decide +kernel
theorem dX5_init_7 : decode cX5_init 7 = .ok (.newarray .int, 2) := by decide +kernel
theorem dX5_init_9 : decode cX5_init 9 = .ok (.putfield 9, 3) := by decide +kernel
theorem dX5_init_12 : decode cX5_init 12 = .ok (.aload_n 0, 1) := by decide +kernel
theorem dX5_init_13 : decode cX5_init 13 = .ok (.bipush 100, 2) := by decide +kernel
theorem dX5_init_15 : decode cX5_init 15 = .ok (.newarray .int, 2) := by decide +kernel
theorem dX5_init_17 : decode cX5_init 17 = .ok (.putfield 15, 3) := by decide +kernel
theorem dX5_init_20 : decode cX5_init 20 = .ok (.aload_n 0, 1) := by decide +kernel
theorem dX5_init_21 : decode cX5_init 21 = .ok (.iconst 0, 1) := by decide +kernel
theorem dX5_init_22 : decode cX5_init 22 = .ok (.putfield 18, 3) := by decide +kernel
theorem dX5_init_25 : decode cX5_init 25 = .ok (.return_, 1) := by decide +kernel
theorem dX5_clear_0 : decode cX5_clear 0 = .ok (.aload_n 0, 1) := by decide +kernel
theorem dX5_clear_1 : decode cX5_clear 1 = .ok (.iconst 0, 1) := by decide +kernel
theorem dX5_clear_2 : decode cX5_clear 2 = .ok (.putfield 18, 3) := by decide +kernel
theorem dX5_clear_5 : decode cX5_clear 5 = .ok (.return_, 1) := by decide +kernel
theorem dX5_add_0 : decode cX5_add 0 = .ok (.aload_n 0, 1) := by decide +kernel
theorem dX5_add_1 : decode cX5_add 1 = .ok (.getfield 18, 3) := by decide +kernel
theorem dX5_add_4 : decode cX5_add 4 = .ok (.ifCond .le 35, 3) := by decide +kernel
theorem dX5_add_7 : decode cX5_add 7 = .ok (.aload_n 0, 1) := by decide +kernel
theorem dX5_add_8 : decode cX5_add 8 = .ok (.getfield 15, 3) := by decide +kernel
theorem dX5_add_11 : decode cX5_add 11 = .ok (.aload_n 0, 1) := by decide +kernel
theorem dX5_add_12 : decode cX5_add 12 = .ok (.getfield 18, 3) := by decide +kernel
theorem dX5_add_15 : decode cX5_add 15 = .ok (.iconst 1, 1) := by decide +kernel
theorem dX5_add_16 : decode cX5_add 16 = .ok (.isub, 1) := by decide +kernel
theorem dX5_add_17 : decode cX5_add 17 = .ok (.iaload, 1) := by decide +kernel
theorem dX5_add_18 : decode cX5_add 18 = .ok (.iload_n 1, 1) := by decide +kernel
theorem dX5_add_19 : decode cX5_add 19 = .ok (.iconst 1, 1) := by decide +kernel
theorem dX5_add_20 : decode cX5_add 20 = .ok (.isub, 1) := by decide +kernel
theorem dX5_add_21 : decode cX5_add 21 = .ok (.if_icmp .ne 18, 3) := by decide +kernel
theorem dX5_add_24 : decode cX5_add 24 = .ok (.aload_n 0, 1) := by decide +kernel
theorem dX5_add_25 : decode cX5_add 25 = .ok (.getfield 15, 3) := by decide +kernel
theorem dX5_add_28 : decode cX5_add 28 = .ok (.aload_n 0, 1) := by decide +kernel
theorem dX5_add_29 : decode cX5_add 29 = .ok (.getfield 18, 3) := by decide +kernel
theorem dX5_add_32 : decode cX5_add 32 = .ok (.iconst 1, 1) := by decide +kernel
theorem dX5_add_33 : decode cX5_add 33 = .ok (.isub, 1) := by decide +kernel
theorem dX5_add_34 : decode cX5_add 34 = .ok (.iload_n 1, 1) := by decide +kernel
theorem dX5_add_35 : decode cX5_add 35 = .ok (.iastore, 1) := by decide +kernel
theorem dX5_add_36 : decode cX5_add 36 = .ok (.goto 45, 3) := by decide +kernel
theorem dX5_add_39 : decode cX5_add 39 = .ok (.aload_n 0, 1) := by decide +kernel
theorem dX5_add_40 : decode cX5_add 40 = .ok (.getfield 18, 3) := by decide +kernel
theorem dX5_add_43 : decode cX5_add 43 = .ok (.aload_n 0, 1) := by decide +kernel
theorem dX5_add_44 : decode cX5_add 44 = .ok (.getfield 9, 3) := by decide +kernel
theorem dX5_add_47 : decode cX5_add 47 = .ok (.arraylength, 1) := by decide +kernel
theorem dX5_add_48 : decode cX5_add 48 = .ok (.if_icmp .ge 33, 3) := by decide +kernel
theorem dX5_add_51 : decode cX5_add 51 = .ok (.aload_n 0, 1) := by decide +kernel
theorem dX5_add_52 : decode cX5_add 52 = .ok (.getfield 9, 3) := by decide +kernel
theorem dX5_add_55 : decode cX5_add 55 = .ok (.aload_n 0, 1) := by decide +kernel
theorem dX5_add_56 : decode cX5_add 56 = .ok (.getfield 18, 3) := by decide +kernel
theorem dX5_add_59 : decode cX5_add 59 = .ok (.iload_n 1, 1) := by decide +kernel
theorem dX5_add_60 : decode cX5_add 60 = .ok (.iastore, 1) := by decide +kernel
theorem dX5_add_61 : decode cX5_add 61 = .ok (.aload_n 0, 1) := by decide +kernel
theorem dX5_add_62 : decode cX5_add 62 = .ok (.getfield 15, 3) := by decide +kernel
theorem dX5_add_65 : decode cX5_add 65 = .ok (.aload_n 0, 1) := by decide +kernel
theorem dX5_add_66 : decode cX5_add 66 = .ok (.getfield 18, 3) := by decide +kernel
theorem dX5_add_69 : decode cX5_add 69 = .ok (.iload_n 1, 1) := by decide +kernel
theorem dX5_add_70 : decode cX5_add 70 = .ok (.iastore, 1) := by decide +kernel
theorem dX5_add_71 : decode cX5_add 71 = .ok (.aload_n 0, 1) := by decide +kernel
theorem dX5_add_72 : decode cX5_add 72 = .ok (.dup, 1) := by decide +kernel
theorem dX5_add_73 : decode cX5_add 73 = .ok (.getfield 18, 3) := by decide +kernel
theorem dX5_add_76 : decode cX5_add 76 = .ok (.iconst 1, 1) := by decide +kernel
theorem dX5_add_77 : decode cX5_add 77 = .ok (.iadd, 1) := by decide +kernel
theorem dX5_add_78 : decode cX5_add 78 = .ok (.putfield 18, 3) := by decide +kernel
theorem dX5_add_81 : decode cX5_add 81 = .ok (.return_, 1) := by decide +kernel
theorem dX5_lengthOf_0 : decode cX5_lengthOf 0 = .ok (.aload_n 0, 1) := by decide +kernel
theorem dX5_lengthOf_1 : decode cX5_lengthOf 1 = .ok (.getfield 15, 3) := by decide +kernel
theorem dX5_lengthOf_4 : decode cX5_lengthOf 4 = .ok (.iload_n 1, 1) := by decide +kernel
theorem dX5_lengthOf_5 : decode cX5_lengthOf 5 = .ok (.iaload, 1) := by decide +kernel
theorem dX5_lengthOf_6 : decode cX5_lengthOf 6 = .ok (.aload_n 0, 1) := by decide +kernel
theorem dX5_lengthOf_7 : decode cX5_lengthOf 7 = .ok (.getfield 9, 3) := by decide +kernel
theorem dX5_lengthOf_10 : decode cX5_lengthOf 10 = .ok (.iload_n 1, 1) := by decide +kernel
theorem dX5_lengthOf_11 : decode cX5_lengthOf 11 = .ok (.iaload, 1) := by decide +kernel
theorem dX5_lengthOf_12 : decode cX5_lengthOf 12 = .ok (.isub, 1) := by decide +kernel
theorem dX5_lengthOf_13 : decode cX5_lengthOf 13 = .ok (.iconst 1, 1) := by decide +kernel
theorem dX5_lengthOf_14 : decode cX5_lengthOf 14 = .ok (.iadd, 1) := by decide +kernel
theorem dX5_lengthOf_15 : decode cX5_lengthOf 15 = .ok (.ireturn, 1) := by decide +kernel
theorem dX5_longestOne_0 : decode cX5_longestOne 0 = .ok (.iconst (-1), 1) := by decide +kernel
theorem dX5_longestOne_1 : decode cX5_longestOne 1 = .ok (.istore_n 1, 1) := by decide +kernel
theorem dX5_longestOne_2 : decode cX5_longestOne 2 = .ok (.iconst 0, 1) := by decide +kernel
theorem dX5_longestOne_3 : decode cX5_longestOne 3 = .ok (.istore_n 2, 1) := by decide +kernel
theorem dX5_longestOne_4 : decode cX5_longestOne 4 = .ok (.iload_n 2, 1) := by decide +kernel
theorem dX5_longestOne_5 : decode cX5_longestOne 5 = .ok (.aload_n 0, 1) := by decide +kernel
theorem dX5_longestOne_6 : decode cX5_longestOne 6 = .ok (.getfield 18, 3) := by decide +kernel
theorem dX5_longestOne_9 : decode cX5_longestOne 9 = .ok (.if_icmp .ge 28, 3) := by decide +kernel
theorem dX5_longestOne_12 : decode cX5_longestOne 12 = .ok (.iload_n 1, 1) := by decide +kernel
theorem dX5_longestOne_13 : decode cX5_longestOne 13 = .ok (.ifCond .lt 16, 3) := by decide +kernel
theorem dX5_longestOne_16 : decode cX5_longestOne 16 = .ok (.aload_n 0, 1) := by decide +kernel
theorem dX5_longestOne_17 : decode cX5_longestOne 17 = .ok (.iload_n 2, 1) := by decide +kernel
theorem dX5_longestOne_18 : decode cX5_longestOne 18 = .ok (.invokevirtual 22, 3) := by decide +kernel
theorem dX5_longestOne_21 : decode cX5_longestOne 21 = .ok (.aload_n 0, 1) := by decide +kernel
theorem dX5_longestOne_22 : decode cX5_longestOne 22 = .ok (.iload_n 1, 1) := by decide +kernel
theorem dX5_longestOne_23 : decode cX5_longestOne 23 = .ok (.invokevirtual 22, 3) := by decide +kernel
theorem dX5_longestOne_26 : decode cX5_longestOne 26 = .ok (.if_icmp .le 5, 3) := by decide +kernel
theorem dX5_longestOne_29 : decode cX5_longestOne 29 = .ok (.iload_n 2, 1) := by decide +kernel
theorem dX5_longestOne_30 : decode cX5_longestOne 30 = .ok (.istore_n 1, 1) := by decide +kernel
theorem dX5_longestOne_31 : decode cX5_longestOne 31 = .ok (.iinc 2 1, 3) := by decide +kernel
theorem dX5_longestOne_34 : decode cX5_longestOne 34 = .ok (.goto (-30), 3) := by decide +kernel
theorem dX5_longestOne_37 : decode cX5_longestOne 37 = .ok (.iload_n 1, 1) := by decide +kernel
theorem dX5_longestOne_38 : decode cX5_longestOne 38 = .ok (.ireturn, 1) := by decide +kernel
theorem dX6_init_0 : decode cX6_init 0 = .ok (.aload_n 0, 1) := by decide +kernel
theorem dX6_init_1 : decode cX6_init 1 = .ok (.invokespecial 1, 3) := by decide +kernel
theorem dX6_init_4 : decode cX6_init 4 = .ok (.aload_n 0, 1) := by decide +kernel
theorem dX6_init_5 : decode cX6_init 5 = .ok (.iconst 0, 1) := by decide +kernel
theorem dX6_init_6 : decode cX6_init 6 = .ok (.putfield 7, 3) := by decide +kernel
theorem dX6_init_9 : decode cX6_init 9 = .ok (.aload_n 0, 1) := by decide +kernel
theorem dX6_init_10 : decode cX6_init 10 = .ok (.iconst 0, 1) := by decide +kernel
theorem dX6_init_11 : decode cX6_init 11 = .ok (.putfield 13, 3) := by decide +kernel
theorem dX6_init_14 : decode cX6_init 14 = .ok (.aload_n 0, 1) := by decide +kernel
theorem dX6_init_15 : decode cX6_init 15 = .ok (.iconst 1, 1) := by decide +kernel
theorem dX6_init_16 : decode cX6_init 16 = .ok (.putfield 16, 3) := by decide +kernel
theorem dX6_init_19 : decode cX6_init 19 = .ok (.return_, 1) := by decide +kernel
theorem dX7_init_0 : decode cX7_init 0 = .ok (.aload_n 0, 1) := by decide +kernel
theorem dX7_init_1 : decode cX7_init 1 = .ok (.invokespecial 3, 3) := by decide +kernel
theorem dX7_init_4 : decode cX7_init 4 = .ok (.aload_n 0, 1) := by decide +kernel
theorem dX7_init_5 : decode cX7_init 5 = .ok (.bipush 24, 2) := by decide +kernel
theorem dX7_init_7 : decode cX7_init 7 = .ok (.newarray .int, 2) := by decide +kernel
theorem dX7_init_9 : decode cX7_init 9 = .ok (.putfield 9, 3) := by decide +kernel
theorem dX7_init_12 : decode cX7_init 12 = .ok (.aload_n 0, 1) := by decide +kernel
theorem dX7_init_13 : decode cX7_init 13 = .ok (.bipush 24, 2) := by decide +kernel
theorem dX7_init_15 : decode cX7_init 15 = .ok (.newarray .int, 2) := by decide +kernel
theorem dX7_init_17 : decode cX7_init 17 = .ok (.putfield 15, 3) := by decide +kernel
theorem dX7_init_20 : decode cX7_init 20 = .ok (.aload_n 0, 1) := by decide +kernel
theorem dX7_init_21 : decode cX7_init 21 = .ok (.iconst 0, 1) := by decide +kernel
theorem dX7_init_22 : decode cX7_init 22 = .ok (.putfield 18, 3) := by decide +kernel
theorem dX7_init_25 : decode cX7_init 25 = .ok (.return_, 1) := by decide +kernel
theorem dX7_plan_0 : decode cX7_plan 0 = .ok (.aload_n 0, 1) := by decide +kernel
theorem dX7_plan_1 : decode cX7_plan 1 = .ok (.iconst 0, 1) := by decide +kernel
theorem dX7_plan_2 : decode cX7_plan 2 = .ok (.putfield 18, 3) := by decide +kernel
theorem dX7_plan_5 : decode cX7_plan 5 = .ok (.aload_n 1, 1) := by decide +kernel
theorem dX7_plan_6 : decode cX7_plan 6 = .ok (.getfield 22, 3) := by decide +kernel
theorem dX7_plan_9 : decode cX7_plan 9 = .ok (.ifCond .ne 4, 3) := by decide +kernel
theorem dX7_plan_12 : decode cX7_plan 12 = .ok (.return_, 1) := by decide +kernel
theorem dX7_plan_13 : decode cX7_plan 13 = .ok (.aload_n 0, 1) := by decide +kernel
theorem dX7_plan_14 : decode cX7_plan 14 = .ok (.aload_n 1, 1) := by decide +kernel
theorem dX7_plan_15 : decode cX7_plan 15 = .ok (.iload_n 2, 1) := by decide +kernel
theorem dX7_plan_16 : decode cX7_plan 16 = .ok (.invokevirtual 27, 3) := by decide +kernel
theorem dX7_plan_19 : decode cX7_plan 19 = .ok (.aload_n 0, 1) := by decide +kernel
theorem dX7_plan_20 : decode cX7_plan 20 = .ok (.iconst 0, 1) := by decide +kernel
theorem dX7_plan_21 : decode cX7_plan 21 = .ok (.invokevirtual 31, 3) := by decide +kernel
theorem dX7_plan_24 : decode cX7_plan 24 = .ok (.iconst 1, 1) := by decide +kernel
theorem dX7_plan_25 : decode cX7_plan 25 = .ok (.istore_n 3, 1) := by decide +kernel
theorem dX7_plan_26 : decode cX7_plan 26 = .ok (.iload_n 3, 1) := by decide +kernel
theorem dX7_plan_27 : decode cX7_plan 27 = .ok (.aload_n 1, 1) := by decide +kernel
theorem dX7_plan_28 : decode cX7_plan 28 = .ok (.getfield 22, 3) := by decide +kernel
theorem dX7_plan_31 : decode cX7_plan 31 = .ok (.if_icmp .ge 56, 3) := by decide +kernel
theorem dX7_plan_34 : decode cX7_plan 34 = .ok (.aload_n 0, 1) := by decide +kernel
theorem dX7_plan_35 : decode cX7_plan 35 = .ok (.getfield 9, 3) := by decide +kernel
theorem dX7_plan_38 : decode cX7_plan 38 = .ok (.aload_n 0, 1) := by decide +kernel
theorem dX7_plan_39 : decode cX7_plan 39 = .ok (.getfield 18, 3) := by decide +kernel
theorem dX7_plan_42 : decode cX7_plan 42 = .ok (.iconst 1, 1) := by decide +kernel
theorem dX7_plan_43 : decode cX7_plan 43 = .ok (.isub, 1) := by decide +kernel
theorem dX7_plan_44 : decode cX7_plan 44 = .ok (.iaload, 1) := by decide +kernel
theorem dX7_plan_45 : decode cX7_plan 45 = .ok (.istore 4, 2) := by decide +kernel
theorem dX7_plan_47 : decode cX7_plan 47 = .ok (.aload_n 0, 1) := by decide +kernel
theorem dX7_plan_48 : decode cX7_plan 48 = .ok (.getfield 15, 3) := by decide +kernel
theorem dX7_plan_51 : decode cX7_plan 51 = .ok (.iload_n 3, 1) := by decide +kernel
theorem dX7_plan_52 : decode cX7_plan 52 = .ok (.iaload, 1) := by decide +kernel
theorem dX7_plan_53 : decode cX7_plan 53 = .ok (.aload_n 0, 1) := by decide +kernel
theorem dX7_plan_54 : decode cX7_plan 54 = .ok (.getfield 15, 3) := by decide +kernel
theorem dX7_plan_57 : decode cX7_plan 57 = .ok (.iload 4, 2) := by decide +kernel
theorem dX7_plan_59 : decode cX7_plan 59 = .ok (.iaload, 1) := by decide +kernel
theorem dX7_plan_60 : decode cX7_plan 60 = .ok (.iconst 1, 1) := by decide +kernel
theorem dX7_plan_61 : decode cX7_plan 61 = .ok (.isub, 1) := by decide +kernel
theorem dX7_plan_62 : decode cX7_plan 62 = .ok (.if_icmp .ne 19, 3) := by decide +kernel
theorem dX7_plan_65 : decode cX7_plan 65 = .ok (.aload_n 1, 1) := by decide +kernel
theorem dX7_plan_66 : decode cX7_plan 66 = .ok (.iload 4, 2) := by decide +kernel
theorem dX7_plan_68 : decode cX7_plan 68 = .ok (.iload_n 3, 1) := by decide +kernel
theorem dX7_plan_69 : decode cX7_plan 69 = .ok (.iload_n 2, 1) := by decide +kernel
theorem dX7_plan_70 : decode cX7_plan 70 = .ok (.invokestatic 35, 3) := by decide +kernel
theorem dX7_plan_73 : decode cX7_plan 73 = .ok (.ifCond .eq 8, 3) := by decide +kernel
theorem dX7_plan_76 : decode cX7_plan 76 = .ok (.aload_n 0, 1) := by decide +kernel
theorem dX7_plan_77 : decode cX7_plan 77 = .ok (.iload_n 3, 1) := by decide +kernel
theorem dX7_plan_78 : decode cX7_plan 78 = .ok (.invokevirtual 31, 3) := by decide +kernel
theorem dX7_plan_81 : decode cX7_plan 81 = .ok (.iinc 3 1, 3) := by decide +kernel
theorem dX7_plan_84 : decode cX7_plan 84 = .ok (.goto (-58), 3) := by decide +kernel
theorem dX7_plan_87 : decode cX7_plan 87 = .ok (.return_, 1) := by decide +kernel
theorem dX7_keep_0 : decode cX7_keep 0 = .ok (.aload_n 0, 1) := by decide +kernel
theorem dX7_keep_1 : decode cX7_keep 1 = .ok (.getfield 9, 3) := by decide +kernel
theorem dX7_keep_4 : decode cX7_keep 4 = .ok (.aload_n 0, 1) := by decide +kernel
theorem dX7_keep_5 : decode cX7_keep 5 = .ok (.getfield 18, 3) := by decide +kernel
theorem dX7_keep_8 : decode cX7_keep 8 = .ok (.iload_n 1, 1) := by decide +kernel
theorem dX7_keep_9 : decode cX7_keep 9 = .ok (.iastore, 1) := by decide +kernel
theorem dX7_keep_10 : decode cX7_keep 10 = .ok (.aload_n 0, 1) := by decide +kernel
theorem dX7_keep_11 : decode cX7_keep 11 = .ok (.dup, 1) := by decide +kernel
theorem dX7_keep_12 : decode cX7_keep 12 = .ok (.getfield 18, 3) := by decide +kernel
theorem dX7_keep_15 : decode cX7_keep 15 = .ok (.iconst 1, 1) := by decide +kernel
theorem dX7_keep_16 : decode cX7_keep 16 = .ok (.iadd, 1) := by decide +kernel
theorem dX7_keep_17 : decode cX7_keep 17 = .ok (.putfield 18, 3) := by decide +kernel
theorem dX7_keep_20 : decode cX7_keep 20 = .ok (.return_, 1) := by decide +kernel
theorem dX7_countBackwards_0 : decode cX7_countBackwards 0 = .ok (.aload_n 0, 1) := by decide +kernel
theorem dX7_countBackwards_1 : decode cX7_countBackwards 1 = .ok (.getfield 15, 3) := by decide +kernel
theorem dX7_countBackwards_4 : decode cX7_countBackwards 4 = .ok (.aload_n 1, 1) := by decide +kernel
theorem dX7_countBackwards_5 : decode cX7_countBackwards 5 = .ok (.getfield 22, 3) := by decide +kernel
theorem dX7_countBackwards_8 : decode cX7_countBackwards 8 = .ok (.iconst 1, 1) := by decide +kernel
theorem dX7_countBackwards_9 : decode cX7_countBackwards 9 = .ok (.isub, 1) := by decide +kernel
theorem dX7_countBackwards_10 : decode cX7_countBackwards 10 = .ok (.iconst 1, 1) := by decide +kernel
theorem dX7_countBackwards_11 : decode cX7_countBackwards 11 = .ok (.iastore, 1) := by decide +kernel
theorem dX7_countBackwards_12 : decode cX7_countBackwards 12 = .ok (.aload_n 1, 1) := by decide +kernel
theorem dX7_countBackwards_13 : decode cX7_countBackwards 13 = .ok (.getfield 22, 3) := by decide +kernel
theorem dX7_countBackwards_16 : decode cX7_countBackwards 16 = .ok (.iconst 2, 1) := by decide +kernel
theorem dX7_countBackwards_17 : decode cX7_countBackwards 17 = .ok (.isub, 1) := by decide +kernel
theorem dX7_countBackwards_18 : decode cX7_countBackwards 18 = .ok (.istore_n 3, 1) := by decide +kernel
theorem dX7_countBackwards_19 : decode cX7_countBackwards 19 = .ok (.iload_n 3, 1) := by decide +kernel
theorem dX7_countBackwards_20 : decode cX7_countBackwards 20 = .ok (.ifCond .lt 81, 3) := by decide +kernel
theorem dX7_countBackwards_23 : decode cX7_countBackwards 23 = .ok (.aload_n 0, 1) := by decide +kernel
theorem dX7_countBackwards_24 : decode cX7_countBackwards 24 = .ok (.getfield 15, 3) := by decide +kernel
theorem dX7_countBackwards_27 : decode cX7_countBackwards 27 = .ok (.iload_n 3, 1) := by decide +kernel
theorem dX7_countBackwards_28 : decode cX7_countBackwards 28 = .ok (.iconst 1, 1) := by decide +kernel
theorem dX7_countBackwards_29 : decode cX7_countBackwards 29 = .ok (.iadd, 1) := by decide +kernel
theorem dX7_countBackwards_30 : decode cX7_countBackwards 30 = .ok (.iaload, 1) := by decide +kernel
theorem dX7_countBackwards_31 : decode cX7_countBackwards 31 = .ok (.istore 4, 2) := by decide +kernel
theorem dX7_countBackwards_33 : decode cX7_countBackwards 33 = .ok (.iload_n 3, 1) := by decide +kernel
theorem dX7_countBackwards_34 : decode cX7_countBackwards 34 = .ok (.iconst 2, 1) := by decide +kernel
theorem dX7_countBackwards_35 : decode cX7_countBackwards 35 = .ok (.iadd, 1) := by decide +kernel
theorem dX7_countBackwards_36 : decode cX7_countBackwards 36 = .ok (.istore 5, 2) := by decide +kernel
theorem dX7_countBackwards_38 : decode cX7_countBackwards 38 = .ok (.iload 5, 2) := by decide +kernel
theorem dX7_countBackwards_40 : decode cX7_countBackwards 40 = .ok (.aload_n 1, 1) := by decide +kernel
theorem dX7_countBackwards_41 : decode cX7_countBackwards 41 = .ok (.getfield 22, 3) := by decide +kernel
theorem dX7_countBackwards_44 : decode cX7_countBackwards 44 = .ok (.if_icmp .ge 41, 3) := by decide +kernel
theorem dX7_countBackwards_47 : decode cX7_countBackwards 47 = .ok (.aload_n 0, 1) := by decide +kernel
theorem dX7_countBackwards_48 : decode cX7_countBackwards 48 = .ok (.getfield 15, 3) := by decide +kernel
theorem dX7_countBackwards_51 : decode cX7_countBackwards 51 = .ok (.iload 5, 2) := by decide +kernel
theorem dX7_countBackwards_53 : decode cX7_countBackwards 53 = .ok (.iaload, 1) := by decide +kernel
theorem dX7_countBackwards_54 : decode cX7_countBackwards 54 = .ok (.iload 4, 2) := by decide +kernel
theorem dX7_countBackwards_56 : decode cX7_countBackwards 56 = .ok (.if_icmp .ge 23, 3) := by decide +kernel
theorem dX7_countBackwards_59 : decode cX7_countBackwards 59 = .ok (.aload_n 1, 1) := by decide +kernel
theorem dX7_countBackwards_60 : decode cX7_countBackwards 60 = .ok (.iload_n 3, 1) := by decide +kernel
theorem dX7_countBackwards_61 : decode cX7_countBackwards 61 = .ok (.iload 5, 2) := by decide +kernel
theorem dX7_countBackwards_63 : decode cX7_countBackwards 63 = .ok (.iload_n 2, 1) := by decide +kernel
theorem dX7_countBackwards_64 : decode cX7_countBackwards 64 = .ok (.invokestatic 35, 3) := by decide +kernel
theorem dX7_countBackwards_67 : decode cX7_countBackwards 67 = .ok (.ifCond .eq 12, 3) := by decide +kernel
theorem dX7_countBackwards_70 : decode cX7_countBackwards 70 = .ok (.aload_n 0, 1) := by decide +kernel
theorem dX7_countBackwards_71 : decode cX7_countBackwards 71 = .ok (.getfield 15, 3) := by decide +kernel
theorem dX7_countBackwards_74 : decode cX7_countBackwards 74 = .ok (.iload 5, 2) := by decide +kernel
theorem dX7_countBackwards_76 : decode cX7_countBackwards 76 = .ok (.iaload, 1) := by decide +kernel
theorem dX7_countBackwards_77 : decode cX7_countBackwards 77 = .ok (.istore 4, 2) := by decide +kernel
theorem dX7_countBackwards_79 : decode cX7_countBackwards 79 = .ok (.iinc 5 1, 3) := by decide +kernel
theorem dX7_countBackwards_82 : decode cX7_countBackwards 82 = .ok (.goto (-44), 3) := by decide +kernel
theorem dX7_countBackwards_85 : decode cX7_countBackwards 85 = .ok (.aload_n 0, 1) := by decide +kernel
theorem dX7_countBackwards_86 : decode cX7_countBackwards 86 = .ok (.getfield 15, 3) := by decide +kernel
theorem dX7_countBackwards_89 : decode cX7_countBackwards 89 = .ok (.iload_n 3, 1) := by decide +kernel
theorem dX7_countBackwards_90 : decode cX7_countBackwards 90 = .ok (.iload 4, 2) := by decide +kernel
theorem dX7_countBackwards_92 : decode cX7_countBackwards 92 = .ok (.iconst 1, 1) := by decide +kernel
theorem dX7_countBackwards_93 : decode cX7_countBackwards 93 = .ok (.iadd, 1) := by decide +kernel
theorem dX7_countBackwards_94 : decode cX7_countBackwards 94 = .ok (.iastore, 1) := by decide +kernel
theorem dX7_countBackwards_95 : decode cX7_countBackwards 95 = .ok (.iinc 3 (-1), 3) := by decide +kernel
theorem dX7_countBackwards_98 : decode cX7_countBackwards 98 = .ok (.goto (-79), 3) := by decide +kernel
theorem dX7_countBackwards_101 : decode cX7_countBackwards 101 = .ok (.return_, 1) := by decide +kernel
theorem dX7_mayFollow_0 : decode cX7_mayFollow 0 = .ok (.iload_n 2, 1) := by decide +kernel
theorem dX7_mayFollow_1 : decode cX7_mayFollow 1 = .ok (.iload_n 1, 1) := by decide +kernel
theorem dX7_mayFollow_2 : decode cX7_mayFollow 2 = .ok (.iconst 1, 1) := by decide +kernel
theorem dX7_mayFollow_3 : decode cX7_mayFollow 3 = .ok (.iadd, 1) := by decide +kernel
theorem dX7_mayFollow_4 : decode cX7_mayFollow 4 = .ok (.if_icmp .ne 5, 3) := by decide +kernel
theorem dX7_mayFollow_7 : decode cX7_mayFollow 7 = .ok (.iconst 1, 1) := by decide +kernel
theorem dX7_mayFollow_8 : decode cX7_mayFollow 8 = .ok (.ireturn, 1) := by decide +kernel
theorem dX7_mayFollow_9 : decode cX7_mayFollow 9 = .ok (.aload_n 0, 1) := by decide +kernel
theorem dX7_mayFollow_10 : decode cX7_mayFollow 10 = .ok (.getfield 39, 3) := by decide +kernel
theorem dX7_mayFollow_13 : decode cX7_mayFollow 13 = .ok (.iload_n 2, 1) := by decide +kernel
theorem dX7_mayFollow_14 : decode cX7_mayFollow 14 = .ok (.iaload, 1) := by decide +kernel
theorem dX7_mayFollow_15 : decode cX7_mayFollow 15 = .ok (.aload_n 0, 1) := by decide +kernel
theorem dX7_mayFollow_16 : decode cX7_mayFollow 16 = .ok (.getfield 39, 3) := by decide +kernel
theorem dX7_mayFollow_19 : decode cX7_mayFollow 19 = .ok (.iload_n 1, 1) := by decide +kernel
theorem dX7_mayFollow_20 : decode cX7_mayFollow 20 = .ok (.iaload, 1) := by decide +kernel
theorem dX7_mayFollow_21 : decode cX7_mayFollow 21 = .ok (.isub, 1) := by decide +kernel
theorem dX7_mayFollow_22 : decode cX7_mayFollow 22 = .ok (.bipush 16, 2) := by decide +kernel
theorem dX7_mayFollow_24 : decode cX7_mayFollow 24 = .ok (.if_icmp .le 5, 3) := by decide +kernel
theorem dX7_mayFollow_27 : decode cX7_mayFollow 27 = .ok (.iconst 0, 1) := by decide +kernel
theorem dX7_mayFollow_28 : decode cX7_mayFollow 28 = .ok (.ireturn, 1) := by decide +kernel
theorem dX7_mayFollow_29 : decode cX7_mayFollow 29 = .ok (.iload_n 1, 1) := by decide +kernel
theorem dX7_mayFollow_30 : decode cX7_mayFollow 30 = .ok (.iconst 1, 1) := by decide +kernel
theorem dX7_mayFollow_31 : decode cX7_mayFollow 31 = .ok (.iadd, 1) := by decide +kernel
theorem dX7_mayFollow_32 : decode cX7_mayFollow 32 = .ok (.istore 4, 2) := by decide +kernel
theorem dX7_mayFollow_34 : decode cX7_mayFollow 34 = .ok (.iload 4, 2) := by decide +kernel
theorem dX7_mayFollow_36 : decode cX7_mayFollow 36 = .ok (.iload_n 2, 1) := by decide +kernel
theorem dX7_mayFollow_37 : decode cX7_mayFollow 37 = .ok (.if_icmp .ge 49, 3) := by decide +kernel
theorem dX7_mayFollow_40 : decode cX7_mayFollow 40 = .ok (.aload_n 0, 1) := by decide +kernel
theorem dX7_mayFollow_41 : decode cX7_mayFollow 41 = .ok (.getfield 42, 3) := by decide +kernel
theorem dX7_mayFollow_44 : decode cX7_mayFollow 44 = .ok (.aload_n 0, 1) := by decide +kernel
theorem dX7_mayFollow_45 : decode cX7_mayFollow 45 = .ok (.getfield 39, 3) := by decide +kernel
theorem dX7_mayFollow_48 : decode cX7_mayFollow 48 = .ok (.iload_n 1, 1) := by decide +kernel
theorem dX7_mayFollow_49 : decode cX7_mayFollow 49 = .ok (.iload_n 2, 1) := by decide +kernel
theorem dX7_mayFollow_50 : decode cX7_mayFollow 50 = .ok (.iload 4, 2) := by decide +kernel
theorem dX7_mayFollow_52 : decode cX7_mayFollow 52 = .ok (.iload_n 3, 1) := by decide +kernel
theorem dX7_mayFollow_53 : decode cX7_mayFollow 53 = .ok (.invokestatic 45, 3) := by decide +kernel
theorem dX7_mayFollow_56 : decode cX7_mayFollow 56 = .ok (.ifCond .eq 22, 3) := by decide +kernel
theorem dX7_mayFollow_59 : decode cX7_mayFollow 59 = .ok (.aload_n 0, 1) := by decide +kernel
theorem dX7_mayFollow_60 : decode cX7_mayFollow 60 = .ok (.getfield 49, 3) := by decide +kernel
theorem dX7_mayFollow_63 : decode cX7_mayFollow 63 = .ok (.aload_n 0, 1) := by decide +kernel
theorem dX7_mayFollow_64 : decode cX7_mayFollow 64 = .ok (.getfield 39, 3) := by decide +kernel
theorem dX7_mayFollow_67 : decode cX7_mayFollow 67 = .ok (.iload_n 1, 1) := by decide +kernel
theorem dX7_mayFollow_68 : decode cX7_mayFollow 68 = .ok (.iload_n 2, 1) := by decide +kernel
theorem dX7_mayFollow_69 : decode cX7_mayFollow 69 = .ok (.iload 4, 2) := by decide +kernel
theorem dX7_mayFollow_71 : decode cX7_mayFollow 71 = .ok (.iload_n 3, 1) := by decide +kernel
theorem dX7_mayFollow_72 : decode cX7_mayFollow 72 = .ok (.invokestatic 45, 3) := by decide +kernel
theorem dX7_mayFollow_75 : decode cX7_mayFollow 75 = .ok (.ifCond .ne 5, 3) := by decide +kernel
theorem dX7_mayFollow_78 : decode cX7_mayFollow 78 = .ok (.iconst 0, 1) := by decide +kernel
theorem dX7_mayFollow_79 : decode cX7_mayFollow 79 = .ok (.ireturn, 1) := by decide +kernel
theorem dX7_mayFollow_80 : decode cX7_mayFollow 80 = .ok (.iinc 4 1, 3) := by decide +kernel
theorem dX7_mayFollow_83 : decode cX7_mayFollow 83 = .ok (.goto (-49), 3) := by decide +kernel
theorem dX7_mayFollow_86 : decode cX7_mayFollow 86 = .ok (.iconst 1, 1) := by decide +kernel
theorem dX7_mayFollow_87 : decode cX7_mayFollow 87 = .ok (.ireturn, 1) := by decide +kernel
theorem dX7_isNearLine_0 : decode cX7_isNearLine 0 = .ok (.aload_n 1, 1) := by decide +kernel
theorem dX7_isNearLine_1 : decode cX7_isNearLine 1 = .ok (.iload_n 3, 1) := by decide +kernel
theorem dX7_isNearLine_2 : decode cX7_isNearLine 2 = .ok (.iaload, 1) := by decide +kernel
theorem dX7_isNearLine_3 : decode cX7_isNearLine 3 = .ok (.aload_n 1, 1) := by decide +kernel
theorem dX7_isNearLine_4 : decode cX7_isNearLine 4 = .ok (.iload_n 2, 1) := by decide +kernel
theorem dX7_isNearLine_5 : decode cX7_isNearLine 5 = .ok (.iaload, 1) := by decide +kernel
theorem dX7_isNearLine_6 : decode cX7_isNearLine 6 = .ok (.isub, 1) := by decide +kernel
theorem dX7_isNearLine_7 : decode cX7_isNearLine 7 = .ok (.istore 6, 2) := by decide +kernel
theorem dX7_isNearLine_9 : decode cX7_isNearLine 9 = .ok (.aload_n 1, 1) := by decide +kernel
theorem dX7_isNearLine_10 : decode cX7_isNearLine 10 = .ok (.iload 4, 2) := by decide +kernel
theorem dX7_isNearLine_12 : decode cX7_isNearLine 12 = .ok (.iaload, 1) := by decide +kernel
theorem dX7_isNearLine_13 : decode cX7_isNearLine 13 = .ok (.aload_n 1, 1) := by decide +kernel
theorem dX7_isNearLine_14 : decode cX7_isNearLine 14 = .ok (.iload_n 2, 1) := by decide +kernel
theorem dX7_isNearLine_15 : decode cX7_isNearLine 15 = .ok (.iaload, 1) := by decide +kernel
theorem dX7_isNearLine_16 : decode cX7_isNearLine 16 = .ok (.isub, 1) := by decide +kernel
theorem dX7_isNearLine_17 : decode cX7_isNearLine 17 = .ok (.istore 7, 2) := by decide +kernel
theorem dX7_isNearLine_19 : decode cX7_isNearLine 19 = .ok (.aload_n 0, 1) := by decide +kernel
theorem dX7_isNearLine_20 : decode cX7_isNearLine 20 = .ok (.iload_n 2, 1) := by decide +kernel
theorem dX7_isNearLine_21 : decode cX7_isNearLine 21 = .ok (.iaload, 1) := by decide +kernel
theorem dX7_isNearLine_22 : decode cX7_isNearLine 22 = .ok (.iload 6, 2) := by decide +kernel
theorem dX7_isNearLine_24 : decode cX7_isNearLine 24 = .ok (.imul, 1) := by decide +kernel
theorem dX7_isNearLine_25 : decode cX7_isNearLine 25 = .ok (.aload_n 0, 1) := by decide +kernel
theorem dX7_isNearLine_26 : decode cX7_isNearLine 26 = .ok (.iload_n 3, 1) := by decide +kernel
theorem dX7_isNearLine_27 : decode cX7_isNearLine 27 = .ok (.iaload, 1) := by decide +kernel
theorem dX7_isNearLine_28 : decode cX7_isNearLine 28 = .ok (.aload_n 0, 1) := by decide +kernel
theorem dX7_isNearLine_29 : decode cX7_isNearLine 29 = .ok (.iload_n 2, 1) := by decide +kernel
theorem dX7_isNearLine_30 : decode cX7_isNearLine 30 = .ok (.iaload, 1) := by decide +kernel
theorem dX7_isNearLine_31 : decode cX7_isNearLine 31 = .ok (.isub, 1) := by decide +kernel
theorem dX7_isNearLine_32 : decode cX7_isNearLine 32 = .ok (.iload 7, 2) := by decide +kernel
theorem dX7_isNearLine_34 : decode cX7_isNearLine 34 = .ok (.imul, 1) := by decide +kernel
theorem dX7_isNearLine_35 : decode cX7_isNearLine 35 = .ok (.iadd, 1) := by decide +kernel
theorem dX7_isNearLine_36 : decode cX7_isNearLine 36 = .ok (.istore 8, 2) := by decide +kernel
theorem dX7_isNearLine_38 : decode cX7_isNearLine 38 = .ok (.aload_n 0, 1) := by decide +kernel
theorem dX7_isNearLine_39 : decode cX7_isNearLine 39 = .ok (.iload 4, 2) := by decide +kernel
theorem dX7_isNearLine_41 : decode cX7_isNearLine 41 = .ok (.iaload, 1) := by decide +kernel
theorem dX7_isNearLine_42 : decode cX7_isNearLine 42 = .ok (.iload 6, 2) := by decide +kernel
theorem dX7_isNearLine_44 : decode cX7_isNearLine 44 = .ok (.imul, 1) := by decide +kernel
theorem dX7_isNearLine_45 : decode cX7_isNearLine 45 = .ok (.iload 8, 2) := by decide +kernel
theorem dX7_isNearLine_47 : decode cX7_isNearLine 47 = .ok (.isub, 1) := by decide +kernel
theorem dX7_isNearLine_48 : decode cX7_isNearLine 48 = .ok (.invokestatic 52, 3) := by decide +kernel
theorem dX7_isNearLine_51 : decode cX7_isNearLine 51 = .ok (.iload 5, 2) := by decide +kernel
theorem dX7_isNearLine_53 : decode cX7_isNearLine 53 = .ok (.iload 6, 2) := by decide +kernel
theorem dX7_isNearLine_55 : decode cX7_isNearLine 55 = .ok (.imul, 1) := by decide +kernel
theorem dX7_isNearLine_56 : decode cX7_isNearLine 56 = .ok (.if_icmp .gt 7, 3) := by decide +kernel
theorem dX7_isNearLine_59 : decode cX7_isNearLine 59 = .ok (.iconst 1, 1) := by decide +kernel
theorem dX7_isNearLine_60 : decode cX7_isNearLine 60 = .ok (.goto 4, 3) := by decide +kernel
theorem dX7_isNearLine_63 : decode cX7_isNearLine 63 = .ok (.iconst 0, 1) := by decide +kernel
theorem dX7_isNearLine_64 : decode cX7_isNearLine 64 = .ok (.ireturn, 1) := by decide +kernel
theorem dX8_init_0 : decode cX8_init 0 = .ok (.aload_n 0, 1) := by decide +kernel
theorem dX8_init_1 : decode cX8_init 1 = .ok (.invokespecial 3, 3) := by decide +kernel
theorem dX8_init_4 : decode cX8_init 4 = .ok (.aload_n 0, 1) := by decide +kernel
theorem dX8_init_5 : decode cX8_init 5 = .ok (.bipush 24, 2) := by decide +kernel
theorem dX8_init_7 : decode cX8_init 7 = .ok (.newarray .int, 2) := by decide +kernel
theorem dX8_init_9 : decode cX8_init 9 = .ok (.putfield 9, 3) := by decide +kernel
theorem dX8_init_12 : decode cX8_init 12 = .ok (.aload_n 0, 1) := by decide +kernel
theorem dX8_init_13 : decode cX8_init 13 = .ok (.bipush 24, 2) := by decide +kernel
theorem dX8_init_15 : decode cX8_init 15 = .ok (.newarray .int, 2) := by decide +kernel
theorem dX8_init_17 : decode cX8_init 17 = .ok (.putfield 15, 3) := by decide +kernel
theorem dX8_init_20 : decode cX8_init 20 = .ok (.aload_n 0, 1) := by decide +kernel
theorem dX8_init_21 : decode cX8_init 21 = .ok (.bipush 24, 2) := by decide +kernel
theorem dX8_init_23 : decode cX8_init 23 = .ok (.newarray .int, 2) := by decide +kernel
theorem dX8_init_25 : decode cX8_init 25 = .ok (.putfield 18, 3) := by decide +kernel
theorem dX8_init_28 : decode cX8_init 28 = .ok (.aload_n 0, 1) := by decide +kernel
theorem dX8_init_29 : decode cX8_init 29 = .ok (.iconst 0, 1) := by decide +kernel
theorem dX8_init_30 : decode cX8_init 30 = .ok (.putfield 21, 3) := by decide +kernel
theorem dX8_init_33 : decode cX8_init 33 = .ok (.aload_n 0, 1) := by decide +kernel
theorem dX8_init_34 : decode cX8_init 34 = .ok (.iconst 0, 1) := by decide +kernel
theorem dX8_init_35 : decode cX8_init 35 = .ok (.putfield 25, 3) := by decide +kernel
theorem dX8_init_38 : decode cX8_init 38 = .ok (.return_, 1) := by decide +kernel
theorem dX8_lastRowUpTo_0 : decode cX8_lastRowUpTo 0 = .ok (.iconst 0, 1) := by decide +kernel
theorem dX8_lastRowUpTo_1 : decode cX8_lastRowUpTo 1 = .ok (.istore_n 2, 1) := by decide +kernel
theorem dX8_lastRowUpTo_2 : decode cX8_lastRowUpTo 2 = .ok (.aload_n 0, 1) := by decide +kernel
theorem dX8_lastRowUpTo_3 : decode cX8_lastRowUpTo 3 = .ok (.getfield 21, 3) := by decide +kernel
theorem dX8_lastRowUpTo_6 : decode cX8_lastRowUpTo 6 = .ok (.istore_n 3, 1) := by decide +kernel
theorem dX8_lastRowUpTo_7 : decode cX8_lastRowUpTo 7 = .ok (.iconst 0, 1) := by decide +kernel
theorem dX8_lastRowUpTo_8 : decode cX8_lastRowUpTo 8 = .ok (.istore 4, 2) := by decide +kernel
theorem dX8_lastRowUpTo_10 : decode cX8_lastRowUpTo 10 = .ok (.iload 4, 2) := by decide +kernel
theorem dX8_lastRowUpTo_12 : decode cX8_lastRowUpTo 12 = .ok (.bipush 24, 2) := by decide +kernel
theorem dX8_lastRowUpTo_14 : decode cX8_lastRowUpTo 14 = .ok (.if_icmp .ge 43, 3) := by decide +kernel
theorem dX8_lastRowUpTo_17 : decode cX8_lastRowUpTo 17 = .ok (.iload_n 2, 1) := by decide +kernel
theorem dX8_lastRowUpTo_18 : decode cX8_lastRowUpTo 18 = .ok (.iload_n 3, 1) := by decide +kernel
theorem dX8_lastRowUpTo_19 : decode cX8_lastRowUpTo 19 = .ok (.if_icmp .ge 38, 3) := by decide +kernel
theorem dX8_lastRowUpTo_22 : decode cX8_lastRowUpTo 22 = .ok (.iload_n 2, 1) := by decide +kernel
theorem dX8_lastRowUpTo_23 : decode cX8_lastRowUpTo 23 = .ok (.iload_n 3, 1) := by decide +kernel
theorem dX8_lastRowUpTo_24 : decode cX8_lastRowUpTo 24 = .ok (.iadd, 1) := by decide +kernel
theorem dX8_lastRowUpTo_25 : decode cX8_lastRowUpTo 25 = .ok (.iconst 2, 1) := by decide +kernel
theorem dX8_lastRowUpTo_26 : decode cX8_lastRowUpTo 26 = .ok (.idiv, 1) := by decide +kernel
theorem dX8_lastRowUpTo_27 : decode cX8_lastRowUpTo 27 = .ok (.istore 5, 2) := by decide +kernel
theorem dX8_lastRowUpTo_29 : decode cX8_lastRowUpTo 29 = .ok (.aload_n 0, 1) := by decide +kernel
theorem dX8_lastRowUpTo_30 : decode cX8_lastRowUpTo 30 = .ok (.getfield 9, 3) := by decide +kernel
theorem dX8_lastRowUpTo_33 : decode cX8_lastRowUpTo 33 = .ok (.iload 5, 2) := by decide +kernel
theorem dX8_lastRowUpTo_35 : decode cX8_lastRowUpTo 35 = .ok (.iaload, 1) := by decide +kernel
theorem dX8_lastRowUpTo_36 : decode cX8_lastRowUpTo 36 = .ok (.iload_n 1, 1) := by decide +kernel
theorem dX8_lastRowUpTo_37 : decode cX8_lastRowUpTo 37 = .ok (.if_icmp .gt 11, 3) := by decide +kernel
theorem dX8_lastRowUpTo_40 : decode cX8_lastRowUpTo 40 = .ok (.iload 5, 2) := by decide +kernel
theorem dX8_lastRowUpTo_42 : decode cX8_lastRowUpTo 42 = .ok (.iconst 1, 1) := by decide +kernel
theorem dX8_lastRowUpTo_43 : decode cX8_lastRowUpTo 43 = .ok (.iadd, 1) := by decide +kernel
theorem dX8_lastRowUpTo_44 : decode cX8_lastRowUpTo 44 = .ok (.istore_n 2, 1) := by decide +kernel
theorem dX8_lastRowUpTo_45 : decode cX8_lastRowUpTo 45 = .ok (.goto 6, 3) := by decide +kernel
theorem dX8_lastRowUpTo_48 : decode cX8_lastRowUpTo 48 = .ok (.iload 5, 2) := by decide +kernel
theorem dX8_lastRowUpTo_50 : decode cX8_lastRowUpTo 50 = .ok (.istore_n 3, 1) := by decide +kernel
theorem dX8_lastRowUpTo_51 : decode cX8_lastRowUpTo 51 = .ok (.iinc 4 1, 3) := by decide +kernel
theorem dX8_lastRowUpTo_54 : decode cX8_lastRowUpTo 54 = .ok (.goto (-44), 3) := by decide +kernel
theorem dX8_lastRowUpTo_57 : decode cX8_lastRowUpTo 57 = .ok (.iload_n 2, 1) := by decide +kernel
theorem dX8_lastRowUpTo_58 : decode cX8_lastRowUpTo 58 = .ok (.iconst 1, 1) := by decide +kernel
theorem dX8_lastRowUpTo_59 : decode cX8_lastRowUpTo 59 = .ok (.isub, 1) := by decide +kernel
theorem dX8_lastRowUpTo_60 : decode cX8_lastRowUpTo 60 = .ok (.ireturn, 1) := by decide +kernel
theorem dX8_hasRowAt_0 : decode cX8_hasRowAt 0 = .ok (.aload_n 0, 1) := by decide +kernel
theorem dX8_hasRowAt_1 : decode cX8_hasRowAt 1 = .ok (.iload_n 1, 1) := by decide +kernel
theorem dX8_hasRowAt_2 : decode cX8_hasRowAt 2 = .ok (.invokevirtual 29, 3) := by decide +kernel
theorem dX8_hasRowAt_5 : decode cX8_hasRowAt 5 = .ok (.istore_n 2, 1) := by decide +kernel
theorem dX8_hasRowAt_6 : decode cX8_hasRowAt 6 = .ok (.iload_n 2, 1) := by decide +kernel
theorem dX8_hasRowAt_7 : decode cX8_hasRowAt 7 = .ok (.ifCond .lt 17, 3) := by decide +kernel
theorem dX8_hasRowAt_10 : decode cX8_hasRowAt 10 = .ok (.aload_n 0, 1) := by decide +kernel
theorem dX8_hasRowAt_11 : decode cX8_hasRowAt 11 = .ok (.getfield 9, 3) := by decide +kernel
theorem dX8_hasRowAt_14 : decode cX8_hasRowAt 14 = .ok (.iload_n 2, 1) := by decide +kernel
theorem dX8_hasRowAt_15 : decode cX8_hasRowAt 15 = .ok (.iaload, 1) := by decide +kernel
theorem dX8_hasRowAt_16 : decode cX8_hasRowAt 16 = .ok (.iload_n 1, 1) := by decide +kernel
theorem dX8_hasRowAt_17 : decode cX8_hasRowAt 17 = .ok (.if_icmp .ne 7, 3) := by decide +kernel
theorem dX8_hasRowAt_20 : decode cX8_hasRowAt 20 = .ok (.iconst 1, 1) := by decide +kernel
theorem dX8_hasRowAt_21 : decode cX8_hasRowAt 21 = .ok (.goto 4, 3) := by decide +kernel
theorem dX8_hasRowAt_24 : decode cX8_hasRowAt 24 = .ok (.iconst 0, 1) := by decide +kernel
theorem dX8_hasRowAt_25 : decode cX8_hasRowAt 25 = .ok (.ireturn, 1) := by decide +kernel
theorem dX8_put_0 : decode cX8_put 0 = .ok (.aload_n 0, 1) := by decide +kernel
theorem dX8_put_1 : decode cX8_put 1 = .ok (.iload_n 1, 1) := by decide +kernel
theorem dX8_put_2 : decode cX8_put 2 = .ok (.invokevirtual 29, 3) := by decide +kernel
theorem dX8_put_5 : decode cX8_put 5 = .ok (.istore 4, 2) := by decide +kernel
theorem dX8_put_7 : decode cX8_put 7 = .ok (.iload 4, 2) := by decide +kernel
theorem dX8_put_9 : decode cX8_put 9 = .ok (.ifCond .lt 14, 3) := by decide +kernel
theorem dX8_put_12 : decode cX8_put 12 = .ok (.aload_n 0, 1) := by decide +kernel
theorem dX8_put_13 : decode cX8_put 13 = .ok (.getfield 9, 3) := by decide +kernel
theorem dX8_put_16 : decode cX8_put 16 = .ok (.iload 4, 2) := by decide +kernel
theorem dX8_put_18 : decode cX8_put 18 = .ok (.iaload, 1) := by decide +kernel
theorem dX8_put_19 : decode cX8_put 19 = .ok (.iload_n 1, 1) := by decide +kernel
theorem dX8_put_20 : decode cX8_put 20 = .ok (.if_icmp .eq 55, 3) := by decide +kernel
theorem dX8_put_23 : decode cX8_put 23 = .ok (.aload_n 0, 1) := by decide +kernel
theorem dX8_put_24 : decode cX8_put 24 = .ok (.getfield 21, 3) := by decide +kernel
theorem dX8_put_27 : decode cX8_put 27 = .ok (.bipush 24, 2) := by decide +kernel
theorem dX8_put_29 : decode cX8_put 29 = .ok (.if_icmp .lt 4, 3) := by decide +kernel
theorem dX8_put_32 : decode cX8_put 32 = .ok (.return_, 1) := by decide +kernel
theorem dX8_put_33 : decode cX8_put 33 = .ok (.iinc 4 1, 3) := by decide +kernel
theorem dX8_put_36 : decode cX8_put 36 = .ok (.aload_n 0, 1) := by decide +kernel
theorem dX8_put_37 : decode cX8_put 37 = .ok (.getfield 21, 3) := by decide +kernel
theorem dX8_put_40 : decode cX8_put 40 = .ok (.istore 5, 2) := by decide +kernel
theorem dX8_put_42 : decode cX8_put 42 = .ok (.iload 5, 2) := by decide +kernel
theorem dX8_put_44 : decode cX8_put 44 = .ok (.iload 4, 2) := by decide +kernel
theorem dX8_put_46 : decode cX8_put 46 = .ok (.if_icmp .le 19, 3) := by decide +kernel
theorem dX8_put_49 : decode cX8_put 49 = .ok (.aload_n 0, 1) := by decide +kernel
theorem dX8_put_50 : decode cX8_put 50 = .ok (.iload 5, 2) := by decide +kernel
theorem dX8_put_52 : decode cX8_put 52 = .ok (.iconst 1, 1) := by decide +kernel
theorem dX8_put_53 : decode cX8_put 53 = .ok (.isub, 1) := by decide +kernel
theorem dX8_put_54 : decode cX8_put 54 = .ok (.iload 5, 2) := by decide +kernel
theorem dX8_put_56 : decode cX8_put 56 = .ok (.invokevirtual 33, 3) := by decide +kernel
theorem dX8_put_59 : decode cX8_put 59 = .ok (.iinc 5 (-1), 3) := by decide +kernel
theorem dX8_put_62 : decode cX8_put 62 = .ok (.goto (-20), 3) := by decide +kernel
theorem dX8_put_65 : decode cX8_put 65 = .ok (.aload_n 0, 1) := by decide +kernel
theorem dX8_put_66 : decode cX8_put 66 = .ok (.dup, 1) := by decide +kernel
theorem dX8_put_67 : decode cX8_put 67 = .ok (.getfield 21, 3) := by decide +kernel
theorem dX8_put_70 : decode cX8_put 70 = .ok (.iconst 1, 1) := by decide +kernel
theorem dX8_put_71 : decode cX8_put 71 = .ok (.iadd, 1) := by decide +kernel
theorem dX8_put_72 : decode cX8_put 72 = .ok (.putfield 21, 3) := by decide +kernel
theorem dX8_put_75 : decode cX8_put 75 = .ok (.aload_n 0, 1) := by decide +kernel
theorem dX8_put_76 : decode cX8_put 76 = .ok (.getfield 9, 3) := by decide +kernel
theorem dX8_put_79 : decode cX8_put 79 = .ok (.iload 4, 2) := by decide +kernel
theorem dX8_put_81 : decode cX8_put 81 = .ok (.iload_n 1, 1) := by decide +kernel
theorem dX8_put_82 : decode cX8_put 82 = .ok (.iastore, 1) := by decide +kernel
theorem dX8_put_83 : decode cX8_put 83 = .ok (.aload_n 0, 1) := by decide +kernel
theorem dX8_put_84 : decode cX8_put 84 = .ok (.getfield 15, 3) := by decide +kernel
theorem dX8_put_87 : decode cX8_put 87 = .ok (.iload 4, 2) := by decide +kernel
theorem dX8_put_89 : decode cX8_put 89 = .ok (.iload_n 2, 1) := by decide +kernel
theorem dX8_put_90 : decode cX8_put 90 = .ok (.iastore, 1) := by decide +kernel
theorem dX8_put_91 : decode cX8_put 91 = .ok (.aload_n 0, 1) := by decide +kernel
theorem dX8_put_92 : decode cX8_put 92 = .ok (.getfield 18, 3) := by decide +kernel
theorem dX8_put_95 : decode cX8_put 95 = .ok (.iload 4, 2) := by decide +kernel
theorem dX8_put_97 : decode cX8_put 97 = .ok (.iload_n 3, 1) := by decide +kernel
theorem dX8_put_98 : decode cX8_put 98 = .ok (.iastore, 1) := by decide +kernel
theorem dX8_put_99 : decode cX8_put 99 = .ok (.return_, 1) := by decide +kernel
theorem dX8_drop_0 : decode cX8_drop 0 = .ok (.iload_n 1, 1) := by decide +kernel
theorem dX8_drop_1 : decode cX8_drop 1 = .ok (.istore_n 2, 1) := by decide +kernel
theorem dX8_drop_2 : decode cX8_drop 2 = .ok (.iload_n 2, 1) := by decide +kernel
theorem dX8_drop_3 : decode cX8_drop 3 = .ok (.iconst 1, 1) := by decide +kernel
theorem dX8_drop_4 : decode cX8_drop 4 = .ok (.iadd, 1) := by decide +kernel
theorem dX8_drop_5 : decode cX8_drop 5 = .ok (.aload_n 0, 1) := by decide +kernel
theorem dX8_drop_6 : decode cX8_drop 6 = .ok (.getfield 21, 3) := by decide +kernel
theorem dX8_drop_9 : decode cX8_drop 9 = .ok (.if_icmp .ge 17, 3) := by decide +kernel
theorem dX8_drop_12 : decode cX8_drop 12 = .ok (.aload_n 0, 1) := by decide +kernel
theorem dX8_drop_13 : decode cX8_drop 13 = .ok (.iload_n 2, 1) := by decide +kernel
theorem dX8_drop_14 : decode cX8_drop 14 = .ok (.iconst 1, 1) := by decide +kernel
theorem dX8_drop_15 : decode cX8_drop 15 = .ok (.iadd, 1) := by decide +kernel
theorem dX8_drop_16 : decode cX8_drop 16 = .ok (.iload_n 2, 1) := by decide +kernel
theorem dX8_drop_17 : decode cX8_drop 17 = .ok (.invokevirtual 33, 3) := by decide +kernel
theorem dX8_drop_20 : decode cX8_drop 20 = .ok (.iinc 2 1, 3) := by decide +kernel
theorem dX8_drop_23 : decode cX8_drop 23 = .ok (.goto (-21), 3) := by decide +kernel
theorem dX8_drop_26 : decode cX8_drop 26 = .ok (.aload_n 0, 1) := by decide +kernel
theorem dX8_drop_27 : decode cX8_drop 27 = .ok (.dup, 1) := by decide +kernel
theorem dX8_drop_28 : decode cX8_drop 28 = .ok (.getfield 21, 3) := by decide +kernel
theorem dX8_drop_31 : decode cX8_drop 31 = .ok (.iconst 1, 1) := by decide +kernel
theorem dX8_drop_32 : decode cX8_drop 32 = .ok (.isub, 1) := by decide +kernel
theorem dX8_drop_33 : decode cX8_drop 33 = .ok (.putfield 21, 3) := by decide +kernel
theorem dX8_drop_36 : decode cX8_drop 36 = .ok (.return_, 1) := by decide +kernel
theorem dX8_keepOnly_0 : decode cX8_keepOnly 0 = .ok (.iconst 0, 1) := by decide +kernel
theorem dX8_keepOnly_1 : decode cX8_keepOnly 1 = .ok (.istore_n 3, 1) := by decide +kernel
theorem dX8_keepOnly_2 : decode cX8_keepOnly 2 = .ok (.iload_n 3, 1) := by decide +kernel
theorem dX8_keepOnly_3 : decode cX8_keepOnly 3 = .ok (.iload_n 2, 1) := by decide +kernel
theorem dX8_keepOnly_4 : decode cX8_keepOnly 4 = .ok (.if_icmp .ge 17, 3) := by decide +kernel
theorem dX8_keepOnly_7 : decode cX8_keepOnly 7 = .ok (.aload_n 0, 1) := by decide +kernel
theorem dX8_keepOnly_8 : decode cX8_keepOnly 8 = .ok (.aload_n 1, 1) := by decide +kernel
theorem dX8_keepOnly_9 : decode cX8_keepOnly 9 = .ok (.iload_n 3, 1) := by decide +kernel
theorem dX8_keepOnly_10 : decode cX8_keepOnly 10 = .ok (.iaload, 1) := by decide +kernel
theorem dX8_keepOnly_11 : decode cX8_keepOnly 11 = .ok (.iload_n 3, 1) := by decide +kernel
theorem dX8_keepOnly_12 : decode cX8_keepOnly 12 = .ok (.invokevirtual 33, 3) := by decide +kernel
theorem dX8_keepOnly_15 : decode cX8_keepOnly 15 = .ok (.iinc 3 1, 3) := by decide +kernel
theorem dX8_keepOnly_18 : decode cX8_keepOnly 18 = .ok (.goto (-16), 3) := by decide +kernel
theorem dX8_keepOnly_21 : decode cX8_keepOnly 21 = .ok (.aload_n 0, 1) := by decide +kernel
theorem dX8_keepOnly_22 : decode cX8_keepOnly 22 = .ok (.iload_n 2, 1) := by decide +kernel
theorem dX8_keepOnly_23 : decode cX8_keepOnly 23 = .ok (.putfield 21, 3) := by decide +kernel
theorem dX8_keepOnly_26 : decode cX8_keepOnly 26 = .ok (.return_, 1) := by decide +kernel
theorem dX8_copyRow_0 : decode cX8_copyRow 0 = .ok (.aload_n 0, 1) := by decide +kernel
theorem dX8_copyRow_1 : decode cX8_copyRow 1 = .ok (.getfield 9, 3) := by decide +kernel
theorem dX8_copyRow_4 : decode cX8_copyRow 4 = .ok (.iload_n 2, 1) := by decide +kernel
theorem dX8_copyRow_5 : decode cX8_copyRow 5 = .ok (.aload_n 0, 1) := by decide +kernel
theorem dX8_copyRow_6 : decode cX8_copyRow 6 = .ok (.getfield 9, 3) := by decide +kernel
theorem dX8_copyRow_9 : decode cX8_copyRow 9 = .ok (.iload_n 1, 1) := by decide +kernel
theorem dX8_copyRow_10 : decode cX8_copyRow 10 = .ok (.iaload, 1) := by decide +kernel
theorem dX8_copyRow_11 : decode cX8_copyRow 11 = .ok (.iastore, 1) := by decide +kernel
theorem dX8_copyRow_12 : decode cX8_copyRow 12 = .ok (.aload_n 0, 1) := by decide +kernel
theorem dX8_copyRow_13 : decode cX8_copyRow 13 = .ok (.getfield 15, 3) := by decide +kernel
theorem dX8_copyRow_16 : decode cX8_copyRow 16 = .ok (.iload_n 2, 1) := by decide +kernel
theorem dX8_copyRow_17 : decode cX8_copyRow 17 = .ok (.aload_n 0, 1) := by decide +kernel
theorem dX8_copyRow_18 : decode cX8_copyRow 18 = .ok (.getfield 15, 3) := by decide +kernel
theorem dX8_copyRow_21 : decode cX8_copyRow 21 = .ok (.iload_n 1, 1) := by decide +kernel
theorem dX8_copyRow_22 : decode cX8_copyRow 22 = .ok (.iaload, 1) := by decide +kernel
theorem dX8_copyRow_23 : decode cX8_copyRow 23 = .ok (.iastore, 1) := by decide +kernel
theorem dX8_copyRow_24 : decode cX8_copyRow 24 = .ok (.aload_n 0, 1) := by decide +kernel
theorem dX8_copyRow_25 : decode cX8_copyRow 25 = .ok (.getfield 18, 3) := by decide +kernel
theorem dX8_copyRow_28 : decode cX8_copyRow 28 = .ok (.iload_n 2, 1) := by decide +kernel
theorem dX8_copyRow_29 : decode cX8_copyRow 29 = .ok (.aload_n 0, 1) := by decide +kernel
theorem dX8_copyRow_30 : decode cX8_copyRow 30 = .ok (.getfield 18, 3) := by decide +kernel
theorem dX8_copyRow_33 : decode cX8_copyRow 33 = .ok (.iload_n 1, 1) := by decide +kernel
theorem dX8_copyRow_34 : decode cX8_copyRow 34 = .ok (.iaload, 1) := by decide +kernel
theorem dX8_copyRow_35 : decode cX8_copyRow 35 = .ok (.iastore, 1) := by decide +kernel
theorem dX8_copyRow_36 : decode cX8_copyRow 36 = .ok (.return_, 1) := by decide +kernel
theorem dX8_isLeg_0 : decode cX8_isLeg 0 = .ok (.iload_n 1, 1) := by decide +kernel
theorem dX8_isLeg_1 : decode cX8_isLeg 1 = .ok (.ifCond .lt 37, 3) := by decide +kernel
theorem dX8_isLeg_4 : decode cX8_isLeg 4 = .ok (.iload_n 1, 1) := by decide +kernel
theorem dX8_isLeg_5 : decode cX8_isLeg 5 = .ok (.iconst 1, 1) := by decide +kernel
theorem dX8_isLeg_6 : decode cX8_isLeg 6 = .ok (.iadd, 1) := by decide +kernel
theorem dX8_isLeg_7 : decode cX8_isLeg 7 = .ok (.aload_n 0, 1) := by decide +kernel
theorem dX8_isLeg_8 : decode cX8_isLeg 8 = .ok (.getfield 21, 3) := by decide +kernel
theorem dX8_isLeg_11 : decode cX8_isLeg 11 = .ok (.if_icmp .ge 27, 3) := by decide +kernel
theorem dX8_isLeg_14 : decode cX8_isLeg 14 = .ok (.aload_n 0, 1) := by decide +kernel
theorem dX8_isLeg_15 : decode cX8_isLeg 15 = .ok (.getfield 9, 3) := by decide +kernel
theorem dX8_isLeg_18 : decode cX8_isLeg 18 = .ok (.iload_n 1, 1) := by decide +kernel
theorem dX8_isLeg_19 : decode cX8_isLeg 19 = .ok (.iconst 1, 1) := by decide +kernel
theorem dX8_isLeg_20 : decode cX8_isLeg 20 = .ok (.iadd, 1) := by decide +kernel
theorem dX8_isLeg_21 : decode cX8_isLeg 21 = .ok (.iaload, 1) := by decide +kernel
theorem dX8_isLeg_22 : decode cX8_isLeg 22 = .ok (.aload_n 0, 1) := by decide +kernel
theorem dX8_isLeg_23 : decode cX8_isLeg 23 = .ok (.getfield 9, 3) := by decide +kernel
theorem dX8_isLeg_26 : decode cX8_isLeg 26 = .ok (.iload_n 1, 1) := by decide +kernel
theorem dX8_isLeg_27 : decode cX8_isLeg 27 = .ok (.iaload, 1) := by decide +kernel
theorem dX8_isLeg_28 : decode cX8_isLeg 28 = .ok (.isub, 1) := by decide +kernel
theorem dX8_isLeg_29 : decode cX8_isLeg 29 = .ok (.bipush 16, 2) := by decide +kernel
theorem dX8_isLeg_31 : decode cX8_isLeg 31 = .ok (.if_icmp .gt 7, 3) := by decide +kernel
theorem dX8_isLeg_34 : decode cX8_isLeg 34 = .ok (.iconst 1, 1) := by decide +kernel
theorem dX8_isLeg_35 : decode cX8_isLeg 35 = .ok (.goto 4, 3) := by decide +kernel
theorem dX8_isLeg_38 : decode cX8_isLeg 38 = .ok (.iconst 0, 1) := by decide +kernel
theorem dX8_isLeg_39 : decode cX8_isLeg 39 = .ok (.ireturn, 1) := by decide +kernel
theorem dX8_locate_0 : decode cX8_locate 0 = .ok (.aload_n 0, 1) := by decide +kernel
theorem dX8_locate_1 : decode cX8_locate 1 = .ok (.iload_n 1, 1) := by decide +kernel
theorem dX8_locate_2 : decode cX8_locate 2 = .ok (.invokevirtual 29, 3) := by decide +kernel
theorem dX8_locate_5 : decode cX8_locate 5 = .ok (.istore_n 3, 1) := by decide +kernel
theorem dX8_locate_6 : decode cX8_locate 6 = .ok (.iload_n 3, 1) := by decide +kernel
theorem dX8_locate_7 : decode cX8_locate 7 = .ok (.ifCond .ge 5, 3) := by decide +kernel
theorem dX8_locate_10 : decode cX8_locate 10 = .ok (.iconst 0, 1) := by decide +kernel
theorem dX8_locate_11 : decode cX8_locate 11 = .ok (.ireturn, 1) := by decide +kernel
theorem dX8_locate_12 : decode cX8_locate 12 = .ok (.iload_n 3, 1) := by decide +kernel
theorem dX8_locate_13 : decode cX8_locate 13 = .ok (.aload_n 0, 1) := by decide +kernel
theorem dX8_locate_14 : decode cX8_locate 14 = .ok (.getfield 21, 3) := by decide +kernel
theorem dX8_locate_17 : decode cX8_locate 17 = .ok (.iconst 1, 1) := by decide +kernel
theorem dX8_locate_18 : decode cX8_locate 18 = .ok (.isub, 1) := by decide +kernel
theorem dX8_locate_19 : decode cX8_locate 19 = .ok (.if_icmp .ne 11, 3) := by decide +kernel
theorem dX8_locate_22 : decode cX8_locate 22 = .ok (.aload_n 0, 1) := by decide +kernel
theorem dX8_locate_23 : decode cX8_locate 23 = .ok (.iload_n 3, 1) := by decide +kernel
theorem dX8_locate_24 : decode cX8_locate 24 = .ok (.iload_n 1, 1) := by decide +kernel
theorem dX8_locate_25 : decode cX8_locate 25 = .ok (.aload_n 2, 1) := by decide +kernel
theorem dX8_locate_26 : decode cX8_locate 26 = .ok (.invokevirtual 37, 3) := by decide +kernel
theorem dX8_locate_29 : decode cX8_locate 29 = .ok (.ireturn, 1) := by decide +kernel
theorem dX8_locate_30 : decode cX8_locate 30 = .ok (.aload_n 0, 1) := by decide +kernel
theorem dX8_locate_31 : decode cX8_locate 31 = .ok (.iload_n 3, 1) := by decide +kernel
theorem dX8_locate_32 : decode cX8_locate 32 = .ok (.invokevirtual 41, 3) := by decide +kernel
theorem dX8_locate_35 : decode cX8_locate 35 = .ok (.ifCond .eq 12, 3) := by decide +kernel
theorem dX8_locate_38 : decode cX8_locate 38 = .ok (.aload_n 0, 1) := by decide +kernel
theorem dX8_locate_39 : decode cX8_locate 39 = .ok (.iload_n 3, 1) := by decide +kernel
theorem dX8_locate_40 : decode cX8_locate 40 = .ok (.iload_n 1, 1) := by decide +kernel
theorem dX8_locate_41 : decode cX8_locate 41 = .ok (.aload_n 2, 1) := by decide +kernel
theorem dX8_locate_42 : decode cX8_locate 42 = .ok (.invokevirtual 45, 3) := by decide +kernel
theorem dX8_locate_45 : decode cX8_locate 45 = .ok (.iconst 1, 1) := by decide +kernel
theorem dX8_locate_46 : decode cX8_locate 46 = .ok (.ireturn, 1) := by decide +kernel
theorem dX8_locate_47 : decode cX8_locate 47 = .ok (.aload_n 0, 1) := by decide +kernel
theorem dX8_locate_48 : decode cX8_locate 48 = .ok (.iload_n 3, 1) := by decide +kernel
theorem dX8_locate_49 : decode cX8_locate 49 = .ok (.aload_n 2, 1) := by decide +kernel
theorem dX8_locate_50 : decode cX8_locate 50 = .ok (.invokevirtual 49, 3) := by decide +kernel
theorem dX8_locate_53 : decode cX8_locate 53 = .ok (.aload_n 0, 1) := by decide +kernel
theorem dX8_locate_54 : decode cX8_locate 54 = .ok (.getfield 9, 3) := by decide +kernel
theorem dX8_locate_57 : decode cX8_locate 57 = .ok (.iload_n 3, 1) := by decide +kernel
theorem dX8_locate_58 : decode cX8_locate 58 = .ok (.iaload, 1) := by decide +kernel
theorem dX8_locate_59 : decode cX8_locate 59 = .ok (.iload_n 1, 1) := by decide +kernel
theorem dX8_locate_60 : decode cX8_locate 60 = .ok (.if_icmp .ne 7, 3) := by decide +kernel
theorem dX8_locate_63 : decode cX8_locate 63 = .ok (.iconst 1, 1) := by decide +kernel
theorem dX8_locate_64 : decode cX8_locate 64 = .ok (.goto 4, 3) := by decide +kernel
theorem dX8_locate_67 : decode cX8_locate 67 = .ok (.iconst 0, 1) := by decide +kernel
theorem dX8_locate_68 : decode cX8_locate 68 = .ok (.ireturn, 1) := by decide +kernel
theorem dX8_locateBehind_0 : decode cX8_locateBehind 0 = .ok (.iload_n 2, 1) := by decide +kernel
theorem dX8_locateBehind_1 : decode cX8_locateBehind 1 = .ok (.aload_n 0, 1) := by decide +kernel
theorem dX8_locateBehind_2 : decode cX8_locateBehind 2 = .ok (.getfield 9, 3) := by decide +kernel
theorem dX8_locateBehind_5 : decode cX8_locateBehind 5 = .ok (.iload_n 1, 1) := by decide +kernel
theorem dX8_locateBehind_6 : decode cX8_locateBehind 6 = .ok (.iaload, 1) := by decide +kernel
theorem dX8_locateBehind_7 : decode cX8_locateBehind 7 = .ok (.isub, 1) := by decide +kernel
theorem dX8_locateBehind_8 : decode cX8_locateBehind 8 = .ok (.bipush 16, 2) := by decide +kernel
theorem dX8_locateBehind_10 : decode cX8_locateBehind 10 = .ok (.if_icmp .le 5, 3) := by decide +kernel
theorem dX8_locateBehind_13 : decode cX8_locateBehind 13 = .ok (.iconst 0, 1) := by decide +kernel
theorem dX8_locateBehind_14 : decode cX8_locateBehind 14 = .ok (.ireturn, 1) := by decide +kernel
theorem dX8_locateBehind_15 : decode cX8_locateBehind 15 = .ok (.aload_n 0, 1) := by decide +kernel
theorem dX8_locateBehind_16 : decode cX8_locateBehind 16 = .ok (.getfield 25, 3) := by decide +kernel
theorem dX8_locateBehind_19 : decode cX8_locateBehind 19 = .ok (.ifCond .eq 25, 3) := by decide +kernel
theorem dX8_locateBehind_22 : decode cX8_locateBehind 22 = .ok (.aload_n 0, 1) := by decide +kernel
theorem dX8_locateBehind_23 : decode cX8_locateBehind 23 = .ok (.iload_n 1, 1) := by decide +kernel
theorem dX8_locateBehind_24 : decode cX8_locateBehind 24 = .ok (.iconst 1, 1) := by decide +kernel
theorem dX8_locateBehind_25 : decode cX8_locateBehind 25 = .ok (.isub, 1) := by decide +kernel
theorem dX8_locateBehind_26 : decode cX8_locateBehind 26 = .ok (.invokevirtual 41, 3) := by decide +kernel
theorem dX8_locateBehind_29 : decode cX8_locateBehind 29 = .ok (.ifCond .eq 15, 3) := by decide +kernel
theorem dX8_locateBehind_32 : decode cX8_locateBehind 32 = .ok (.aload_n 0, 1) := by decide +kernel
theorem dX8_locateBehind_33 : decode cX8_locateBehind 33 = .ok (.iload_n 1, 1) := by decide +kernel
theorem dX8_locateBehind_34 : decode cX8_locateBehind 34 = .ok (.iconst 1, 1) := by decide +kernel
theorem dX8_locateBehind_35 : decode cX8_locateBehind 35 = .ok (.isub, 1) := by decide +kernel
theorem dX8_locateBehind_36 : decode cX8_locateBehind 36 = .ok (.iload_n 2, 1) := by decide +kernel
theorem dX8_locateBehind_37 : decode cX8_locateBehind 37 = .ok (.aload_n 3, 1) := by decide +kernel
theorem dX8_locateBehind_38 : decode cX8_locateBehind 38 = .ok (.invokevirtual 45, 3) := by decide +kernel
theorem dX8_locateBehind_41 : decode cX8_locateBehind 41 = .ok (.goto 9, 3) := by decide +kernel
theorem dX8_locateBehind_44 : decode cX8_locateBehind 44 = .ok (.aload_n 0, 1) := by decide +kernel
theorem dX8_locateBehind_45 : decode cX8_locateBehind 45 = .ok (.iload_n 1, 1) := by decide +kernel
theorem dX8_locateBehind_46 : decode cX8_locateBehind 46 = .ok (.aload_n 3, 1) := by decide +kernel
theorem dX8_locateBehind_47 : decode cX8_locateBehind 47 = .ok (.invokevirtual 49, 3) := by decide +kernel
theorem dX8_locateBehind_50 : decode cX8_locateBehind 50 = .ok (.iconst 1, 1) := by decide +kernel
theorem dX8_locateBehind_51 : decode cX8_locateBehind 51 = .ok (.ireturn, 1) := by decide +kernel
theorem dX8_standAt_0 : decode cX8_standAt 0 = .ok (.aload_n 2, 1) := by decide +kernel
theorem dX8_standAt_1 : decode cX8_standAt 1 = .ok (.aload_n 0, 1) := by decide +kernel
theorem dX8_standAt_2 : decode cX8_standAt 2 = .ok (.getfield 15, 3) := by decide +kernel
theorem dX8_standAt_5 : decode cX8_standAt 5 = .ok (.iload_n 1, 1) := by decide +kernel
theorem dX8_standAt_6 : decode cX8_standAt 6 = .ok (.iaload, 1) := by decide +kernel
theorem dX8_standAt_7 : decode cX8_standAt 7 = .ok (.putfield 53, 3) := by decide +kernel
theorem dX8_standAt_10 : decode cX8_standAt 10 = .ok (.aload_n 2, 1) := by decide +kernel
theorem dX8_standAt_11 : decode cX8_standAt 11 = .ok (.aload_n 0, 1) := by decide +kernel
theorem dX8_standAt_12 : decode cX8_standAt 12 = .ok (.getfield 18, 3) := by decide +kernel
theorem dX8_standAt_15 : decode cX8_standAt 15 = .ok (.iload_n 1, 1) := by decide +kernel
theorem dX8_standAt_16 : decode cX8_standAt 16 = .ok (.iaload, 1) := by decide +kernel
theorem dX8_standAt_17 : decode cX8_standAt 17 = .ok (.putfield 58, 3) := by decide +kernel
theorem dX8_standAt_20 : decode cX8_standAt 20 = .ok (.aload_n 2, 1) := by decide +kernel
theorem dX8_standAt_21 : decode cX8_standAt 21 = .ok (.iconst 1, 1) := by decide +kernel
theorem dX8_standAt_22 : decode cX8_standAt 22 = .ok (.putfield 61, 3) := by decide +kernel
theorem dX8_standAt_25 : decode cX8_standAt 25 = .ok (.return_, 1) := by decide +kernel
theorem dX8_followLeg_0 : decode cX8_followLeg 0 = .ok (.iload_n 2, 1) := by decide +kernel
theorem dX8_followLeg_1 : decode cX8_followLeg 1 = .ok (.aload_n 0, 1) := by decide +kernel
theorem dX8_followLeg_2 : decode cX8_followLeg 2 = .ok (.getfield 9, 3) := by decide +kernel
theorem dX8_followLeg_5 : decode cX8_followLeg 5 = .ok (.iload_n 1, 1) := by decide +kernel
theorem dX8_followLeg_6 : decode cX8_followLeg 6 = .ok (.iaload, 1) := by decide +kernel
theorem dX8_followLeg_7 : decode cX8_followLeg 7 = .ok (.isub, 1) := by decide +kernel
theorem dX8_followLeg_8 : decode cX8_followLeg 8 = .ok (.istore 4, 2) := by decide +kernel
theorem dX8_followLeg_10 : decode cX8_followLeg 10 = .ok (.aload_n 3, 1) := by decide +kernel
theorem dX8_followLeg_11 : decode cX8_followLeg 11 = .ok (.aload_n 0, 1) := by decide +kernel
theorem dX8_followLeg_12 : decode cX8_followLeg 12 = .ok (.getfield 9, 3) := by decide +kernel
theorem dX8_followLeg_15 : decode cX8_followLeg 15 = .ok (.iload_n 1, 1) := by decide +kernel
theorem dX8_followLeg_16 : decode cX8_followLeg 16 = .ok (.iconst 1, 1) := by decide +kernel
theorem dX8_followLeg_17 : decode cX8_followLeg 17 = .ok (.iadd, 1) := by decide +kernel
theorem dX8_followLeg_18 : decode cX8_followLeg 18 = .ok (.iaload, 1) := by decide +kernel
theorem dX8_followLeg_19 : decode cX8_followLeg 19 = .ok (.aload_n 0, 1) := by decide +kernel
theorem dX8_followLeg_20 : decode cX8_followLeg 20 = .ok (.getfield 9, 3) := by decide +kernel
theorem dX8_followLeg_23 : decode cX8_followLeg 23 = .ok (.iload_n 1, 1) := by decide +kernel
theorem dX8_followLeg_24 : decode cX8_followLeg 24 = .ok (.iaload, 1) := by decide +kernel
theorem dX8_followLeg_25 : decode cX8_followLeg 25 = .ok (.isub, 1) := by decide +kernel
theorem dX8_followLeg_26 : decode cX8_followLeg 26 = .ok (.putfield 61, 3) := by decide +kernel
theorem dX8_followLeg_29 : decode cX8_followLeg 29 = .ok (.aload_n 3, 1) := by decide +kernel
theorem dX8_followLeg_30 : decode cX8_followLeg 30 = .ok (.aload_n 0, 1) := by decide +kernel
theorem dX8_followLeg_31 : decode cX8_followLeg 31 = .ok (.getfield 15, 3) := by decide +kernel
theorem dX8_followLeg_34 : decode cX8_followLeg 34 = .ok (.iload_n 1, 1) := by decide +kernel
theorem dX8_followLeg_35 : decode cX8_followLeg 35 = .ok (.iaload, 1) := by decide +kernel
theorem dX8_followLeg_36 : decode cX8_followLeg 36 = .ok (.aload_n 3, 1) := by decide +kernel
theorem dX8_followLeg_37 : decode cX8_followLeg 37 = .ok (.getfield 61, 3) := by decide +kernel
theorem dX8_followLeg_40 : decode cX8_followLeg 40 = .ok (.imul, 1) := by decide +kernel
theorem dX8_followLeg_41 : decode cX8_followLeg 41 = .ok (.aload_n 0, 1) := by decide +kernel
theorem dX8_followLeg_42 : decode cX8_followLeg 42 = .ok (.getfield 15, 3) := by decide +kernel
theorem dX8_followLeg_45 : decode cX8_followLeg 45 = .ok (.iload_n 1, 1) := by decide +kernel
theorem dX8_followLeg_46 : decode cX8_followLeg 46 = .ok (.iconst 1, 1) := by decide +kernel
theorem dX8_followLeg_47 : decode cX8_followLeg 47 = .ok (.iadd, 1) := by decide +kernel
theorem dX8_followLeg_48 : decode cX8_followLeg 48 = .ok (.iaload, 1) := by decide +kernel
theorem dX8_followLeg_49 : decode cX8_followLeg 49 = .ok (.aload_n 0, 1) := by decide +kernel
theorem dX8_followLeg_50 : decode cX8_followLeg 50 = .ok (.getfield 15, 3) := by decide +kernel
theorem dX8_followLeg_53 : decode cX8_followLeg 53 = .ok (.iload_n 1, 1) := by decide +kernel
theorem dX8_followLeg_54 : decode cX8_followLeg 54 = .ok (.iaload, 1) := by decide +kernel
theorem dX8_followLeg_55 : decode cX8_followLeg 55 = .ok (.isub, 1) := by decide +kernel
theorem dX8_followLeg_56 : decode cX8_followLeg 56 = .ok (.iload 4, 2) := by decide +kernel
theorem dX8_followLeg_58 : decode cX8_followLeg 58 = .ok (.imul, 1) := by decide +kernel
theorem dX8_followLeg_59 : decode cX8_followLeg 59 = .ok (.iadd, 1) := by decide +kernel
theorem dX8_followLeg_60 : decode cX8_followLeg 60 = .ok (.putfield 53, 3) := by decide +kernel
theorem dX8_followLeg_63 : decode cX8_followLeg 63 = .ok (.aload_n 3, 1) := by decide +kernel
theorem dX8_followLeg_64 : decode cX8_followLeg 64 = .ok (.aload_n 0, 1) := by decide +kernel
theorem dX8_followLeg_65 : decode cX8_followLeg 65 = .ok (.getfield 18, 3) := by decide +kernel
theorem dX8_followLeg_68 : decode cX8_followLeg 68 = .ok (.iload_n 1, 1) := by decide +kernel
theorem dX8_followLeg_69 : decode cX8_followLeg 69 = .ok (.iaload, 1) := by decide +kernel
theorem dX8_followLeg_70 : decode cX8_followLeg 70 = .ok (.aload_n 3, 1) := by decide +kernel
theorem dX8_followLeg_71 : decode cX8_followLeg 71 = .ok (.getfield 61, 3) := by decide +kernel
theorem dX8_followLeg_74 : decode cX8_followLeg 74 = .ok (.imul, 1) := by decide +kernel
theorem dX8_followLeg_75 : decode cX8_followLeg 75 = .ok (.aload_n 0, 1) := by decide +kernel
theorem dX8_followLeg_76 : decode cX8_followLeg 76 = .ok (.getfield 18, 3) := by decide +kernel
theorem dX8_followLeg_79 : decode cX8_followLeg 79 = .ok (.iload_n 1, 1) := by decide +kernel
theorem dX8_followLeg_80 : decode cX8_followLeg 80 = .ok (.iconst 1, 1) := by decide +kernel
theorem dX8_followLeg_81 : decode cX8_followLeg 81 = .ok (.iadd, 1) := by decide +kernel
theorem dX8_followLeg_82 : decode cX8_followLeg 82 = .ok (.iaload, 1) := by decide +kernel
theorem dX8_followLeg_83 : decode cX8_followLeg 83 = .ok (.aload_n 0, 1) := by decide +kernel
theorem dX8_followLeg_84 : decode cX8_followLeg 84 = .ok (.getfield 18, 3) := by decide +kernel
theorem dX8_followLeg_87 : decode cX8_followLeg 87 = .ok (.iload_n 1, 1) := by decide +kernel
theorem dX8_followLeg_88 : decode cX8_followLeg 88 = .ok (.iaload, 1) := by decide +kernel
theorem dX8_followLeg_89 : decode cX8_followLeg 89 = .ok (.isub, 1) := by decide +kernel
theorem dX8_followLeg_90 : decode cX8_followLeg 90 = .ok (.iload 4, 2) := by decide +kernel
theorem dX8_followLeg_92 : decode cX8_followLeg 92 = .ok (.imul, 1) := by decide +kernel
theorem dX8_followLeg_93 : decode cX8_followLeg 93 = .ok (.iadd, 1) := by decide +kernel
theorem dX8_followLeg_94 : decode cX8_followLeg 94 = .ok (.putfield 58, 3) := by decide +kernel
theorem dX8_followLeg_97 : decode cX8_followLeg 97 = .ok (.return_, 1) := by decide +kernel
theorem dX9_init_0 : decode cX9_init 0 = .ok (.aload_n 0, 1) := by decide +kernel
theorem dX9_init_1 : decode cX9_init 1 = .ok (.invokespecial 1, 3) := by decide +kernel
theorem dX9_init_4 : decode cX9_init 4 = .ok (.aload_n 0, 1) := by decide +kernel
theorem dX9_init_5 : decode cX9_init 5 = .ok (.bipush 10, 2) := by decide +kernel
theorem dX9_init_7 : decode cX9_init 7 = .ok (.anewarray 9, 3) := by decide +kernel
theorem dX9_init_10 : decode cX9_init 10 = .ok (.putfield 11, 3) := by decide +kernel
theorem dX9_init_13 : decode cX9_init 13 = .ok (.aload_n 0, 1) := by decide +kernel
theorem dX9_init_14 : decode cX9_init 14 = .ok (.bipush 6, 2) := by decide +kernel
theorem dX9_init_16 : decode cX9_init 16 = .ok (.anewarray 15, 3) := by decide +kernel
theorem dX9_init_19 : decode cX9_init 19 = .ok (.putfield 17, 3) := by decide +kernel
theorem dX9_init_22 : decode cX9_init 22 = .ok (.aload_n 0, 1) := by decide +kernel
theorem dX9_init_23 : decode cX9_init 23 = .ok (.new 15, 3) := by decide +kernel
theorem dX9_init_26 : decode cX9_init 26 = .ok (.dup, 1) := by decide +kernel
theorem dX9_init_27 : decode cX9_init 27 = .ok (.invokespecial 21, 3) := by decide +kernel
theorem dX9_init_30 : decode cX9_init 30 = .ok (.putfield 22, 3) := by decide +kernel
theorem dX9_init_33 : decode cX9_init 33 = .ok (.aload_n 0, 1) := by decide +kernel
theorem dX9_init_34 : decode cX9_init 34 = .ok (.new 26, 3) := by decide +kernel
theorem dX9_init_37 : decode cX9_init 37 = .ok (.dup, 1) := by decide +kernel
theorem dX9_init_38 : decode cX9_init 38 = .ok (.invokespecial 28, 3) := by decide +kernel
theorem dX9_init_41 : decode cX9_init 41 = .ok (.putfield 29, 3) := by decide +kernel
theorem dX9_init_44 : decode cX9_init 44 = .ok (.aload_n 0, 1) := by decide +kernel
theorem dX9_init_45 : decode cX9_init 45 = .ok (.new 26, 3) := by decide +kernel
theorem dX9_init_48 : decode cX9_init 48 = .ok (.dup, 1) := by decide +kernel
theorem dX9_init_49 : decode cX9_init 49 = .ok (.invokespecial 28, 3) := by decide +kernel
theorem dX9_init_52 : decode cX9_init 52 = .ok (.putfield 33, 3) := by decide +kernel
theorem dX9_init_55 : decode cX9_init 55 = .ok (.aload_n 0, 1) := by decide +kernel
theorem dX9_init_56 : decode cX9_init 56 = .ok (.new 36, 3) := by decide +kernel
theorem dX9_init_59 : decode cX9_init 59 = .ok (.dup, 1) := by decide +kernel
theorem dX9_init_60 : decode cX9_init 60 = .ok (.invokespecial 38, 3) := by decide +kernel
theorem dX9_init_63 : decode cX9_init 63 = .ok (.putfield 39, 3) := by decide +kernel
theorem dX9_init_66 : decode cX9_init 66 = .ok (.aload_n 0, 1) := by decide +kernel
theorem dX9_init_67 : decode cX9_init 67 = .ok (.new 43, 3) := by decide +kernel
theorem dX9_init_70 : decode cX9_init 70 = .ok (.dup, 1) := by decide +kernel
theorem dX9_init_71 : decode cX9_init 71 = .ok (.invokespecial 45, 3) := by decide +kernel
theorem dX9_init_74 : decode cX9_init 74 = .ok (.putfield 46, 3) := by decide +kernel
theorem dX9_init_77 : decode cX9_init 77 = .ok (.aload_n 0, 1) := by decide +kernel
theorem dX9_init_78 : decode cX9_init 78 = .ok (.new 50, 3) := by decide +kernel
theorem dX9_init_81 : decode cX9_init 81 = .ok (.dup, 1) := by decide +kernel
theorem dX9_init_82 : decode cX9_init 82 = .ok (.invokespecial 52, 3) := by decide +kernel
theorem dX9_init_85 : decode cX9_init 85 = .ok (.putfield 53, 3) := by decide +kernel
theorem dX9_init_88 : decode cX9_init 88 = .ok (.aload_n 0, 1) := by decide +kernel
theorem dX9_init_89 : decode cX9_init 89 = .ok (.new 57, 3) := by decide +kernel
theorem dX9_init_92 : decode cX9_init 92 = .ok (.dup, 1) := by decide +kernel
theorem dX9_init_93 : decode cX9_init 93 = .ok (.invokespecial 59, 3) := by decide +kernel
theorem dX9_init_96 : decode cX9_init 96 = .ok (.putfield 60, 3) := by decide +kernel
theorem dX9_init_99 : decode cX9_init 99 = .ok (.aload_n 0, 1) := by decide +kernel
theorem dX9_init_100 : decode cX9_init 100 = .ok (.new 64, 3) := by decide +kernel
theorem dX9_init_103 : decode cX9_init 103 = .ok (.dup, 1) := by decide +kernel
theorem dX9_init_104 : decode cX9_init 104 = .ok (.invokespecial 66, 3) := by decide +kernel
theorem dX9_init_107 : decode cX9_init 107 = .ok (.putfield 67, 3) := by decide +kernel
theorem dX9_init_110 : decode cX9_init 110 = .ok (.aload_n 0, 1) := by decide +kernel
theorem dX9_init_111 : decode cX9_init 111 = .ok (.iconst 0, 1) := by decide +kernel
theorem dX9_init_112 : decode cX9_init 112 = .ok (.putfield 71, 3) := by decide +kernel
theorem dX9_init_115 : decode cX9_init 115 = .ok (.aload_n 0, 1) := by decide +kernel
theorem dX9_init_116 : decode cX9_init 116 = .ok (.iconst 0, 1) := by decide +kernel
theorem dX9_init_117 : decode cX9_init 117 = .ok (.putfield 75, 3) := by decide +kernel
theorem dX9_init_120 : decode cX9_init 120 = .ok (.aload_n 0, 1) := by decide +kernel
theorem dX9_init_121 : decode cX9_init 121 = .ok (.iconst 0, 1) := by decide +kernel
theorem dX9_init_122 : decode cX9_init 122 = .ok (.putfield 79, 3) := by decide +kernel
theorem dX9_init_125 : decode cX9_init 125 = .ok (.aload_n 0, 1) := by decide +kernel
theorem dX9_init_126 : decode cX9_init 126 = .ok (.iconst 0, 1) := by decide +kernel
theorem dX9_init_127 : decode cX9_init 127 = .ok (.putfield 82, 3) := by decide +kernel
theorem dX9_init_130 : decode cX9_init 130 = .ok (.iconst 0, 1) := by decide +kernel
theorem dX9_init_131 : decode cX9_init 131 = .ok (.istore_n 1, 1) := by decide +kernel
theorem dX9_init_132 : decode cX9_init 132 = .ok (.iload_n 1, 1) := by decide +kernel
theorem dX9_init_133 : decode cX9_init 133 = .ok (.bipush 10, 2) := by decide +kernel
theorem dX9_init_135 : decode cX9_init 135 = .ok (.if_icmp .ge 22, 3) := by decide +kernel
theorem dX9_init_138 : decode cX9_init 138 = .ok (.aload_n 0, 1) := by decide +kernel
theorem dX9_init_139 : decode cX9_init 139 = .ok (.getfield 11, 3) := by decide +kernel
theorem dX9_init_142 : decode cX9_init 142 = .ok (.iload_n 1, 1) := by decide +kernel
theorem dX9_init_143 : decode cX9_init 143 = .ok (.new 9, 3) := by decide +kernel
theorem dX9_init_146 : decode cX9_init 146 = .ok (.dup, 1) := by decide +kernel
theorem dX9_init_147 : decode cX9_init 147 = .ok (.invokespecial 85, 3) := by decide +kernel
theorem dX9_init_150 : decode cX9_init 150 = .ok (.aastore, 1) := by decide +kernel
theorem dX9_init_151 : decode cX9_init 151 = .ok (.iinc 1 1, 3) := by decide +kernel
theorem dX9_init_154 : decode cX9_init 154 = .ok (.goto (-22), 3) := by decide +kernel
theorem dX9_init_157 : decode cX9_init 157 = .ok (.iconst 0, 1) := by decide +kernel
theorem dX9_init_158 : decode cX9_init 158 = .ok (.istore_n 1, 1) := by decide +kernel
theorem dX9_init_159 : decode cX9_init 159 = .ok (.iload_n 1, 1) := by decide +kernel
theorem dX9_init_160 : decode cX9_init 160 = .ok (.bipush 6, 2) := by decide +kernel
theorem dX9_init_162 : decode cX9_init 162 = .ok (.if_icmp .ge 22, 3) := by decide +kernel
theorem dX9_init_165 : decode cX9_init 165 = .ok (.aload_n 0, 1) := by decide +kernel
theorem dX9_init_166 : decode cX9_init 166 = .ok (.getfield 17, 3) := by decide +kernel
theorem dX9_init_169 : decode cX9_init 169 = .ok (.iload_n 1, 1) := by decide +kernel
theorem dX9_init_170 : decode cX9_init 170 = .ok (.new 15, 3) := by decide +kernel
theorem dX9_init_173 : decode cX9_init 173 = .ok (.dup, 1) := by decide +kernel
theorem dX9_init_174 : decode cX9_init 174 = .ok (.invokespecial 21, 3) := by decide +kernel
theorem dX9_init_177 : decode cX9_init 177 = .ok (.aastore, 1) := by decide +kernel
theorem dX9_init_178 : decode cX9_init 178 = .ok (.iinc 1 1, 3) := by decide +kernel
theorem dX9_init_181 : decode cX9_init 181 = .ok (.goto (-22), 3) := by decide +kernel
theorem dX9_init_184 : decode cX9_init 184 = .ok (.return_, 1) := by decide +kernel
theorem dX9_say_0 : decode cX9_say 0 = .ok (.iload_n 1, 1) := by decide +kernel
theorem dX9_say_1 : decode cX9_say 1 = .ok (.invokestatic 86, 3) := by decide +kernel
theorem dX9_say_4 : decode cX9_say 4 = .ok (.ifCond .ne 6, 3) := by decide +kernel
theorem dX9_say_7 : decode cX9_say 7 = .ok (.ldc 90, 2) := by decide +kernel
theorem dX9_say_9 : decode cX9_say 9 = .ok (.ireturn, 1) := by decide +kernel
theorem dX9_say_10 : decode cX9_say 10 = .ok (.iload_n 2, 1) := by decide +kernel
theorem dX9_say_11 : decode cX9_say 11 = .ok (.invokestatic 91, 3) := by decide +kernel
theorem dX9_say_14 : decode cX9_say 14 = .ok (.ifCond .eq 24, 3) := by decide +kernel
theorem dX9_say_17 : decode cX9_say 17 = .ok (.iload_n 3, 1) := by decide +kernel
theorem dX9_say_18 : decode cX9_say 18 = .ok (.iconst 0, 1) := by decide +kernel
theorem dX9_say_19 : decode cX9_say 19 = .ok (.bipush 99, 2) := by decide +kernel
theorem dX9_say_21 : decode cX9_say 21 = .ok (.invokestatic 94, 3) := by decide +kernel
theorem dX9_say_24 : decode cX9_say 24 = .ok (.ifCond .eq 14, 3) := by decide +kernel
theorem dX9_say_27 : decode cX9_say 27 = .ok (.iload 4, 2) := by decide +kernel
theorem dX9_say_29 : decode cX9_say 29 = .ok (.iconst 0, 1) := by decide +kernel
theorem dX9_say_30 : decode cX9_say 30 = .ok (.bipush 99, 2) := by decide +kernel
theorem dX9_say_32 : decode cX9_say 32 = .ok (.invokestatic 94, 3) := by decide +kernel
theorem dX9_say_35 : decode cX9_say 35 = .ok (.ifCond .ne 6, 3) := by decide +kernel
theorem dX9_say_38 : decode cX9_say 38 = .ok (.ldc 98, 2) := by decide +kernel
theorem dX9_say_40 : decode cX9_say 40 = .ok (.ireturn, 1) := by decide +kernel
theorem dX9_say_41 : decode cX9_say 41 = .ok (.aload_n 0, 1) := by decide +kernel
theorem dX9_say_42 : decode cX9_say 42 = .ok (.getfield 11, 3) := by decide +kernel
theorem dX9_say_45 : decode cX9_say 45 = .ok (.iload_n 1, 1) := by decide +kernel
theorem dX9_say_46 : decode cX9_say 46 = .ok (.aaload, 1) := by decide +kernel
theorem dX9_say_47 : decode cX9_say 47 = .ok (.astore 5, 2) := by decide +kernel
theorem dX9_say_49 : decode cX9_say 49 = .ok (.aload 5, 2) := by decide +kernel
theorem dX9_say_51 : decode cX9_say 51 = .ok (.iload_n 2, 1) := by decide +kernel
theorem dX9_say_52 : decode cX9_say 52 = .ok (.invokevirtual 99, 3) := by decide +kernel
theorem dX9_say_55 : decode cX9_say 55 = .ok (.ifCond .eq 16, 3) := by decide +kernel
theorem dX9_say_58 : decode cX9_say 58 = .ok (.aload_n 0, 1) := by decide +kernel
theorem dX9_say_59 : decode cX9_say 59 = .ok (.dup, 1) := by decide +kernel
theorem dX9_say_60 : decode cX9_say 60 = .ok (.getfield 79, 3) := by decide +kernel
theorem dX9_say_63 : decode cX9_say 63 = .ok (.iconst 1, 1) := by decide +kernel
theorem dX9_say_64 : decode cX9_say 64 = .ok (.iadd, 1) := by decide +kernel
theorem dX9_say_65 : decode cX9_say 65 = .ok (.putfield 79, 3) := by decide +kernel
theorem dX9_say_68 : decode cX9_say 68 = .ok (.goto 16, 3) := by decide +kernel
theorem dX9_say_71 : decode cX9_say 71 = .ok (.aload 5, 2) := by decide +kernel
theorem dX9_say_73 : decode cX9_say 73 = .ok (.getfield 102, 3) := by decide +kernel
theorem dX9_say_76 : decode cX9_say 76 = .ok (.bipush 24, 2) := by decide +kernel
theorem dX9_say_78 : decode cX9_say 78 = .ok (.if_icmp .lt 6, 3) := by decide +kernel
theorem dX9_say_81 : decode cX9_say 81 = .ok (.ldc 105, 2) := by decide +kernel
theorem dX9_say_83 : decode cX9_say 83 = .ok (.ireturn, 1) := by decide +kernel
theorem dX9_say_84 : decode cX9_say 84 = .ok (.aload 5, 2) := by decide +kernel
theorem dX9_say_86 : decode cX9_say 86 = .ok (.iload_n 2, 1) := by decide +kernel
theorem dX9_say_87 : decode cX9_say 87 = .ok (.iload_n 3, 1) := by decide +kernel
theorem dX9_say_88 : decode cX9_say 88 = .ok (.iload 4, 2) := by decide +kernel
theorem dX9_say_90 : decode cX9_say 90 = .ok (.invokevirtual 106, 3) := by decide +kernel
theorem dX9_say_93 : decode cX9_say 93 = .ok (.aload_n 0, 1) := by decide +kernel
theorem dX9_say_94 : decode cX9_say 94 = .ok (.iconst 1, 1) := by decide +kernel
theorem dX9_say_95 : decode cX9_say 95 = .ok (.putfield 71, 3) := by decide +kernel
theorem dX9_say_98 : decode cX9_say 98 = .ok (.aload 5, 2) := by decide +kernel
theorem dX9_say_100 : decode cX9_say 100 = .ok (.getfield 102, 3) := by decide +kernel
theorem dX9_say_103 : decode cX9_say 103 = .ok (.ireturn, 1) := by decide +kernel
theorem dX9_forget_0 : decode cX9_forget 0 = .ok (.aload_n 0, 1) := by decide +kernel
theorem dX9_forget_1 : decode cX9_forget 1 = .ok (.iload_n 1, 1) := by decide +kernel
theorem dX9_forget_2 : decode cX9_forget 2 = .ok (.iload_n 2, 1) := by decide +kernel
theorem dX9_forget_3 : decode cX9_forget 3 = .ok (.invokevirtual 110, 3) := by decide +kernel
theorem dX9_forget_6 : decode cX9_forget 6 = .ok (.ifCond .ne 6, 3) := by decide +kernel
theorem dX9_forget_9 : decode cX9_forget 9 = .ok (.ldc 90, 2) := by decide +kernel
theorem dX9_forget_11 : decode cX9_forget 11 = .ok (.ireturn, 1) := by decide +kernel
theorem dX9_forget_12 : decode cX9_forget 12 = .ok (.aload_n 0, 1) := by decide +kernel
theorem dX9_forget_13 : decode cX9_forget 13 = .ok (.getfield 11, 3) := by decide +kernel
theorem dX9_forget_16 : decode cX9_forget 16 = .ok (.iload_n 1, 1) := by decide +kernel
theorem dX9_forget_17 : decode cX9_forget 17 = .ok (.aaload, 1) := by decide +kernel
theorem dX9_forget_18 : decode cX9_forget 18 = .ok (.iload_n 2, 1) := by decide +kernel
theorem dX9_forget_19 : decode cX9_forget 19 = .ok (.invokevirtual 114, 3) := by decide +kernel
theorem dX9_forget_22 : decode cX9_forget 22 = .ok (.aload_n 0, 1) := by decide +kernel
theorem dX9_forget_23 : decode cX9_forget 23 = .ok (.iconst 1, 1) := by decide +kernel
theorem dX9_forget_24 : decode cX9_forget 24 = .ok (.putfield 71, 3) := by decide +kernel
theorem dX9_forget_27 : decode cX9_forget 27 = .ok (.aload_n 0, 1) := by decide +kernel
theorem dX9_forget_28 : decode cX9_forget 28 = .ok (.getfield 11, 3) := by decide +kernel
theorem dX9_forget_31 : decode cX9_forget 31 = .ok (.iload_n 1, 1) := by decide +kernel
theorem dX9_forget_32 : decode cX9_forget 32 = .ok (.aaload, 1) := by decide +kernel
theorem dX9_forget_33 : decode cX9_forget 33 = .ok (.getfield 102, 3) := by decide +kernel
theorem dX9_forget_36 : decode cX9_forget 36 = .ok (.ireturn, 1) := by decide +kernel
theorem dX9_kind_0 : decode cX9_kind 0 = .ok (.iload_n 1, 1) := by decide +kernel
theorem dX9_kind_1 : decode cX9_kind 1 = .ok (.invokestatic 86, 3) := by decide +kernel
theorem dX9_kind_4 : decode cX9_kind 4 = .ok (.ifCond .ne 6, 3) := by decide +kernel
theorem dX9_kind_7 : decode cX9_kind 7 = .ok (.ldc 90, 2) := by decide +kernel
theorem dX9_kind_9 : decode cX9_kind 9 = .ok (.ireturn, 1) := by decide +kernel
theorem dX9_kind_10 : decode cX9_kind 10 = .ok (.iload_n 2, 1) := by decide +kernel
theorem dX9_kind_11 : decode cX9_kind 11 = .ok (.iconst 0, 1) := by decide +kernel
theorem dX9_kind_12 : decode cX9_kind 12 = .ok (.iconst 1, 1) := by decide +kernel
theorem dX9_kind_13 : decode cX9_kind 13 = .ok (.invokestatic 94, 3) := by decide +kernel
theorem dX9_kind_16 : decode cX9_kind 16 = .ok (.ifCond .ne 6, 3) := by decide +kernel
theorem dX9_kind_19 : decode cX9_kind 19 = .ok (.ldc 98, 2) := by decide +kernel
theorem dX9_kind_21 : decode cX9_kind 21 = .ok (.ireturn, 1) := by decide +kernel
theorem dX9_kind_22 : decode cX9_kind 22 = .ok (.aload_n 0, 1) := by decide +kernel
theorem dX9_kind_23 : decode cX9_kind 23 = .ok (.getfield 11, 3) := by decide +kernel
theorem dX9_kind_26 : decode cX9_kind 26 = .ok (.iload_n 1, 1) := by decide +kernel
theorem dX9_kind_27 : decode cX9_kind 27 = .ok (.aaload, 1) := by decide +kernel
theorem dX9_kind_28 : decode cX9_kind 28 = .ok (.getfield 118, 3) := by decide +kernel
theorem dX9_kind_31 : decode cX9_kind 31 = .ok (.ifCond .eq 7, 3) := by decide +kernel
theorem dX9_kind_34 : decode cX9_kind 34 = .ok (.iconst 1, 1) := by decide +kernel
theorem dX9_kind_35 : decode cX9_kind 35 = .ok (.goto 4, 3) := by decide +kernel
theorem dX9_kind_38 : decode cX9_kind 38 = .ok (.iconst 0, 1) := by decide +kernel
theorem dX9_kind_39 : decode cX9_kind 39 = .ok (.istore_n 3, 1) := by decide +kernel
theorem dX9_kind_40 : decode cX9_kind 40 = .ok (.aload_n 0, 1) := by decide +kernel
theorem dX9_kind_41 : decode cX9_kind 41 = .ok (.getfield 11, 3) := by decide +kernel
theorem dX9_kind_44 : decode cX9_kind 44 = .ok (.iload_n 1, 1) := by decide +kernel
theorem dX9_kind_45 : decode cX9_kind 45 = .ok (.aaload, 1) := by decide +kernel
theorem dX9_kind_46 : decode cX9_kind 46 = .ok (.iload_n 2, 1) := by decide +kernel
theorem dX9_kind_47 : decode cX9_kind 47 = .ok (.iconst 1, 1) := by decide +kernel
theorem dX9_kind_48 : decode cX9_kind 48 = .ok (.if_icmp .ne 7, 3) := by decide +kernel
theorem dX9_kind_51 : decode cX9_kind 51 = .ok (.iconst 1, 1) := by decide +kernel
theorem dX9_kind_52 : decode cX9_kind 52 = .ok (.goto 4, 3) := by decide +kernel
theorem dX9_kind_55 : decode cX9_kind 55 = .ok (.iconst 0, 1) := by decide +kernel
theorem dX9_kind_56 : decode cX9_kind 56 = .ok (.putfield 118, 3) := by decide +kernel
theorem dX9_kind_59 : decode cX9_kind 59 = .ok (.iload_n 3, 1) := by decide +kernel
theorem dX9_kind_60 : decode cX9_kind 60 = .ok (.ireturn, 1) := by decide +kernel
theorem dX9_row_0 : decode cX9_row 0 = .ok (.aload_n 0, 1) := by decide +kernel
theorem dX9_row_1 : decode cX9_row 1 = .ok (.iload_n 1, 1) := by decide +kernel
theorem dX9_row_2 : decode cX9_row 2 = .ok (.iload_n 2, 1) := by decide +kernel
theorem dX9_row_3 : decode cX9_row 3 = .ok (.invokevirtual 110, 3) := by decide +kernel
theorem dX9_row_6 : decode cX9_row 6 = .ok (.ifCond .ne 6, 3) := by decide +kernel
theorem dX9_row_9 : decode cX9_row 9 = .ok (.ldc 90, 2) := by decide +kernel
theorem dX9_row_11 : decode cX9_row 11 = .ok (.ireturn, 1) := by decide +kernel
theorem dX9_row_12 : decode cX9_row 12 = .ok (.aload_n 0, 1) := by decide +kernel
theorem dX9_row_13 : decode cX9_row 13 = .ok (.getfield 11, 3) := by decide +kernel
theorem dX9_row_16 : decode cX9_row 16 = .ok (.iload_n 1, 1) := by decide +kernel
theorem dX9_row_17 : decode cX9_row 17 = .ok (.aaload, 1) := by decide +kernel
theorem dX9_row_18 : decode cX9_row 18 = .ok (.astore 4, 2) := by decide +kernel
theorem dX9_row_20 : decode cX9_row 20 = .ok (.iload_n 3, 1) := by decide +kernel
theorem dX9_row_21 : decode cX9_row 21 = .ok (.tableswitch 51 0 2 #[27, 35, 43], 27) := by decide +kernel
theorem dX9_row_48 : decode cX9_row 48 = .ok (.aload 4, 2) := by decide +kernel
theorem dX9_row_50 : decode cX9_row 50 = .ok (.getfield 121, 3) := by decide +kernel
theorem dX9_row_53 : decode cX9_row 53 = .ok (.iload_n 2, 1) := by decide +kernel
theorem dX9_row_54 : decode cX9_row 54 = .ok (.iaload, 1) := by decide +kernel
theorem dX9_row_55 : decode cX9_row 55 = .ok (.ireturn, 1) := by decide +kernel
theorem dX9_row_56 : decode cX9_row 56 = .ok (.aload 4, 2) := by decide +kernel
theorem dX9_row_58 : decode cX9_row 58 = .ok (.getfield 125, 3) := by decide +kernel
theorem dX9_row_61 : decode cX9_row 61 = .ok (.iload_n 2, 1) := by decide +kernel
theorem dX9_row_62 : decode cX9_row 62 = .ok (.iaload, 1) := by decide +kernel
theorem dX9_row_63 : decode cX9_row 63 = .ok (.ireturn, 1) := by decide +kernel
theorem dX9_row_64 : decode cX9_row 64 = .ok (.aload 4, 2) := by decide +kernel
theorem dX9_row_66 : decode cX9_row 66 = .ok (.getfield 128, 3) := by decide +kernel
theorem dX9_row_69 : decode cX9_row 69 = .ok (.iload_n 2, 1) := by decide +kernel
theorem dX9_row_70 : decode cX9_row 70 = .ok (.iaload, 1) := by decide +kernel
theorem dX9_row_71 : decode cX9_row 71 = .ok (.ireturn, 1) := by decide +kernel
theorem dX9_row_72 : decode cX9_row 72 = .ok (.ldc 98, 2) := by decide +kernel
theorem dX9_row_74 : decode cX9_row 74 = .ok (.ireturn, 1) := by decide +kernel
theorem dX9_at_0 : decode cX9_at 0 = .ok (.iload_n 1, 1) := by decide +kernel
theorem dX9_at_1 : decode cX9_at 1 = .ok (.iload_n 2, 1) := by decide +kernel
theorem dX9_at_2 : decode cX9_at 2 = .ok (.invokestatic 131, 3) := by decide +kernel
theorem dX9_at_5 : decode cX9_at 5 = .ok (.istore 5, 2) := by decide +kernel
theorem dX9_at_7 : decode cX9_at 7 = .ok (.iload 5, 2) := by decide +kernel
theorem dX9_at_9 : decode cX9_at 9 = .ok (.ifCond .eq 6, 3) := by decide +kernel
theorem dX9_at_12 : decode cX9_at 12 = .ok (.iload 5, 2) := by decide +kernel
theorem dX9_at_14 : decode cX9_at 14 = .ok (.ireturn, 1) := by decide +kernel
theorem dX9_at_15 : decode cX9_at 15 = .ok (.aload_n 0, 1) := by decide +kernel
theorem dX9_at_16 : decode cX9_at 16 = .ok (.getfield 11, 3) := by decide +kernel
theorem dX9_at_19 : decode cX9_at 19 = .ok (.iload_n 1, 1) := by decide +kernel
theorem dX9_at_20 : decode cX9_at 20 = .ok (.aaload, 1) := by decide +kernel
theorem dX9_at_21 : decode cX9_at 21 = .ok (.iload_n 2, 1) := by decide +kernel
theorem dX9_at_22 : decode cX9_at 22 = .ok (.aload_n 0, 1) := by decide +kernel
theorem dX9_at_23 : decode cX9_at 23 = .ok (.getfield 29, 3) := by decide +kernel
theorem dX9_at_26 : decode cX9_at 26 = .ok (.invokevirtual 135, 3) := by decide +kernel
theorem dX9_at_29 : decode cX9_at 29 = .ok (.ifCond .ne 6, 3) := by decide +kernel
theorem dX9_at_32 : decode cX9_at 32 = .ok (.ldc 139, 2) := by decide +kernel
theorem dX9_at_34 : decode cX9_at 34 = .ok (.ireturn, 1) := by decide +kernel
theorem dX9_at_35 : decode cX9_at 35 = .ok (.iload_n 3, 1) := by decide +kernel
theorem dX9_at_36 : decode cX9_at 36 = .ok (.ifCond .eq 13, 3) := by decide +kernel
theorem dX9_at_39 : decode cX9_at 39 = .ok (.aload_n 0, 1) := by decide +kernel
theorem dX9_at_40 : decode cX9_at 40 = .ok (.getfield 29, 3) := by decide +kernel
theorem dX9_at_43 : decode cX9_at 43 = .ok (.getfield 140, 3) := by decide +kernel
theorem dX9_at_46 : decode cX9_at 46 = .ok (.goto 10, 3) := by decide +kernel
theorem dX9_at_49 : decode cX9_at 49 = .ok (.aload_n 0, 1) := by decide +kernel
theorem dX9_at_50 : decode cX9_at 50 = .ok (.getfield 29, 3) := by decide +kernel
theorem dX9_at_53 : decode cX9_at 53 = .ok (.getfield 143, 3) := by decide +kernel
theorem dX9_at_56 : decode cX9_at 56 = .ok (.istore 6, 2) := by decide +kernel
theorem dX9_at_58 : decode cX9_at 58 = .ok (.iload 6, 2) := by decide +kernel
theorem dX9_at_60 : decode cX9_at 60 = .ok (.i2l, 1) := by decide +kernel
theorem dX9_at_61 : decode cX9_at 61 = .ok (.aload_n 0, 1) := by decide +kernel
theorem dX9_at_62 : decode cX9_at 62 = .ok (.getfield 29, 3) := by decide +kernel
theorem dX9_at_65 : decode cX9_at 65 = .ok (.getfield 146, 3) := by decide +kernel
theorem dX9_at_68 : decode cX9_at 68 = .ok (.i2l, 1) := by decide +kernel
theorem dX9_at_69 : decode cX9_at 69 = .ok (.iload 4, 2) := by decide +kernel
theorem dX9_at_71 : decode cX9_at 71 = .ok (.invokestatic 149, 3) := by decide +kernel
theorem dX9_at_74 : decode cX9_at 74 = .ok (.l2i, 1) := by decide +kernel
theorem dX9_at_75 : decode cX9_at 75 = .ok (.ireturn, 1) := by decide +kernel
theorem dX9_there_0 : decode cX9_there 0 = .ok (.iload_n 1, 1) := by decide +kernel
theorem dX9_there_1 : decode cX9_there 1 = .ok (.iload_n 2, 1) := by decide +kernel
theorem dX9_there_2 : decode cX9_there 2 = .ok (.invokestatic 131, 3) := by decide +kernel
theorem dX9_there_5 : decode cX9_there 5 = .ok (.istore_n 3, 1) := by decide +kernel
theorem dX9_there_6 : decode cX9_there 6 = .ok (.iload_n 3, 1) := by decide +kernel
theorem dX9_there_7 : decode cX9_there 7 = .ok (.ifCond .eq 5, 3) := by decide +kernel
theorem dX9_there_10 : decode cX9_there 10 = .ok (.iload_n 3, 1) := by decide +kernel
theorem dX9_there_11 : decode cX9_there 11 = .ok (.ireturn, 1) := by decide +kernel
theorem dX9_there_12 : decode cX9_there 12 = .ok (.aload_n 0, 1) := by decide +kernel
theorem dX9_there_13 : decode cX9_there 13 = .ok (.getfield 11, 3) := by decide +kernel
theorem dX9_there_16 : decode cX9_there 16 = .ok (.iload_n 1, 1) := by decide +kernel
theorem dX9_there_17 : decode cX9_there 17 = .ok (.aaload, 1) := by decide +kernel
theorem dX9_there_18 : decode cX9_there 18 = .ok (.iload_n 2, 1) := by decide +kernel
theorem dX9_there_19 : decode cX9_there 19 = .ok (.aload_n 0, 1) := by decide +kernel
theorem dX9_there_20 : decode cX9_there 20 = .ok (.getfield 29, 3) := by decide +kernel
theorem dX9_there_23 : decode cX9_there 23 = .ok (.invokevirtual 135, 3) := by decide +kernel
theorem dX9_there_26 : decode cX9_there 26 = .ok (.ifCond .eq 7, 3) := by decide +kernel
theorem dX9_there_29 : decode cX9_there 29 = .ok (.iconst 1, 1) := by decide +kernel
theorem dX9_there_30 : decode cX9_there 30 = .ok (.goto 4, 3) := by decide +kernel
theorem dX9_there_33 : decode cX9_there 33 = .ok (.iconst 0, 1) := by decide +kernel
theorem dX9_there_34 : decode cX9_there 34 = .ok (.ireturn, 1) := by decide +kernel
theorem dX9_mended_0 : decode cX9_mended 0 = .ok (.aload_n 0, 1) := by decide +kernel
theorem dX9_mended_1 : decode cX9_mended 1 = .ok (.getfield 79, 3) := by decide +kernel
theorem dX9_mended_4 : decode cX9_mended 4 = .ok (.ireturn, 1) := by decide +kernel
theorem dX9_inside_0 : decode cX9_inside 0 = .ok (.iload_n 1, 1) := by decide +kernel
theorem dX9_inside_1 : decode cX9_inside 1 = .ok (.iload_n 2, 1) := by decide +kernel
theorem dX9_inside_2 : decode cX9_inside 2 = .ok (.iload_n 3, 1) := by decide +kernel
theorem dX9_inside_3 : decode cX9_inside 3 = .ok (.iload 4, 2) := by decide +kernel
theorem dX9_inside_5 : decode cX9_inside 5 = .ok (.invokestatic 153, 3) := by decide +kernel
theorem dX9_inside_8 : decode cX9_inside 8 = .ok (.ifCond .eq 11, 3) := by decide +kernel
theorem dX9_inside_11 : decode cX9_inside 11 = .ok (.iload 5, 2) := by decide +kernel
theorem dX9_inside_13 : decode cX9_inside 13 = .ok (.invokestatic 91, 3) := by decide +kernel
theorem dX9_inside_16 : decode cX9_inside 16 = .ok (.ifCond .ne 6, 3) := by decide +kernel
theorem dX9_inside_19 : decode cX9_inside 19 = .ok (.ldc 98, 2) := by decide +kernel
theorem dX9_inside_21 : decode cX9_inside 21 = .ok (.ireturn, 1) := by decide +kernel
theorem dX9_inside_22 : decode cX9_inside 22 = .ok (.aload_n 0, 1) := by decide +kernel
theorem dX9_inside_23 : decode cX9_inside 23 = .ok (.getfield 22, 3) := by decide +kernel
theorem dX9_inside_26 : decode cX9_inside 26 = .ok (.iload_n 1, 1) := by decide +kernel
theorem dX9_inside_27 : decode cX9_inside 27 = .ok (.iload_n 2, 1) := by decide +kernel
theorem dX9_inside_28 : decode cX9_inside 28 = .ok (.iload_n 3, 1) := by decide +kernel
theorem dX9_inside_29 : decode cX9_inside 29 = .ok (.iload 4, 2) := by decide +kernel
theorem dX9_inside_31 : decode cX9_inside 31 = .ok (.invokevirtual 157, 3) := by decide +kernel
theorem dX9_inside_34 : decode cX9_inside 34 = .ok (.iconst 0, 1) := by decide +kernel
theorem dX9_inside_35 : decode cX9_inside 35 = .ok (.istore 6, 2) := by decide +kernel
theorem dX9_inside_37 : decode cX9_inside 37 = .ok (.iconst 0, 1) := by decide +kernel
theorem dX9_inside_38 : decode cX9_inside 38 = .ok (.istore 7, 2) := by decide +kernel
theorem dX9_inside_40 : decode cX9_inside 40 = .ok (.iload 7, 2) := by decide +kernel
theorem dX9_inside_42 : decode cX9_inside 42 = .ok (.bipush 10, 2) := by decide +kernel
theorem dX9_inside_44 : decode cX9_inside 44 = .ok (.if_icmp .ge 27, 3) := by decide +kernel
theorem dX9_inside_47 : decode cX9_inside 47 = .ok (.aload_n 0, 1) := by decide +kernel
theorem dX9_inside_48 : decode cX9_inside 48 = .ok (.aload_n 0, 1) := by decide +kernel
theorem dX9_inside_49 : decode cX9_inside 49 = .ok (.getfield 22, 3) := by decide +kernel
theorem dX9_inside_52 : decode cX9_inside 52 = .ok (.iload 7, 2) := by decide +kernel
theorem dX9_inside_54 : decode cX9_inside 54 = .ok (.iload 5, 2) := by decide +kernel
theorem dX9_inside_56 : decode cX9_inside 56 = .ok (.invokevirtual 161, 3) := by decide +kernel
theorem dX9_inside_59 : decode cX9_inside 59 = .ok (.ifCond .eq 6, 3) := by decide +kernel
theorem dX9_inside_62 : decode cX9_inside 62 = .ok (.iinc 6 1, 3) := by decide +kernel
theorem dX9_inside_65 : decode cX9_inside 65 = .ok (.iinc 7 1, 3) := by decide +kernel
theorem dX9_inside_68 : decode cX9_inside 68 = .ok (.goto (-28), 3) := by decide +kernel
theorem dX9_inside_71 : decode cX9_inside 71 = .ok (.iload 6, 2) := by decide +kernel
theorem dX9_inside_73 : decode cX9_inside 73 = .ok (.ireturn, 1) := by decide +kernel
theorem dX9_who_0 : decode cX9_who 0 = .ok (.iload_n 1, 1) := by decide +kernel
theorem dX9_who_1 : decode cX9_who 1 = .ok (.iload_n 2, 1) := by decide +kernel
theorem dX9_who_2 : decode cX9_who 2 = .ok (.iload_n 3, 1) := by decide +kernel
theorem dX9_who_3 : decode cX9_who 3 = .ok (.iload 4, 2) := by decide +kernel
theorem dX9_who_5 : decode cX9_who 5 = .ok (.invokestatic 153, 3) := by decide +kernel
theorem dX9_who_8 : decode cX9_who 8 = .ok (.ifCond .eq 11, 3) := by decide +kernel
theorem dX9_who_11 : decode cX9_who 11 = .ok (.iload 5, 2) := by decide +kernel
theorem dX9_who_13 : decode cX9_who 13 = .ok (.invokestatic 91, 3) := by decide +kernel
theorem dX9_who_16 : decode cX9_who 16 = .ok (.ifCond .ne 6, 3) := by decide +kernel
theorem dX9_who_19 : decode cX9_who 19 = .ok (.ldc 98, 2) := by decide +kernel
theorem dX9_who_21 : decode cX9_who 21 = .ok (.ireturn, 1) := by decide +kernel
theorem dX9_who_22 : decode cX9_who 22 = .ok (.aload_n 0, 1) := by decide +kernel
theorem dX9_who_23 : decode cX9_who 23 = .ok (.getfield 22, 3) := by decide +kernel
theorem dX9_who_26 : decode cX9_who 26 = .ok (.iload_n 1, 1) := by decide +kernel
theorem dX9_who_27 : decode cX9_who 27 = .ok (.iload_n 2, 1) := by decide +kernel
theorem dX9_who_28 : decode cX9_who 28 = .ok (.iload_n 3, 1) := by decide +kernel
theorem dX9_who_29 : decode cX9_who 29 = .ok (.iload 4, 2) := by decide +kernel
theorem dX9_who_31 : decode cX9_who 31 = .ok (.invokevirtual 157, 3) := by decide +kernel
theorem dX9_who_34 : decode cX9_who 34 = .ok (.iconst 0, 1) := by decide +kernel
theorem dX9_who_35 : decode cX9_who 35 = .ok (.istore 7, 2) := by decide +kernel
theorem dX9_who_37 : decode cX9_who 37 = .ok (.iconst 0, 1) := by decide +kernel
theorem dX9_who_38 : decode cX9_who 38 = .ok (.istore 8, 2) := by decide +kernel
theorem dX9_who_40 : decode cX9_who 40 = .ok (.iload 8, 2) := by decide +kernel
theorem dX9_who_42 : decode cX9_who 42 = .ok (.bipush 10, 2) := by decide +kernel
theorem dX9_who_44 : decode cX9_who 44 = .ok (.if_icmp .ge 37, 3) := by decide +kernel
theorem dX9_who_47 : decode cX9_who 47 = .ok (.aload_n 0, 1) := by decide +kernel
theorem dX9_who_48 : decode cX9_who 48 = .ok (.aload_n 0, 1) := by decide +kernel
theorem dX9_who_49 : decode cX9_who 49 = .ok (.getfield 22, 3) := by decide +kernel
theorem dX9_who_52 : decode cX9_who 52 = .ok (.iload 8, 2) := by decide +kernel
theorem dX9_who_54 : decode cX9_who 54 = .ok (.iload 5, 2) := by decide +kernel
theorem dX9_who_56 : decode cX9_who 56 = .ok (.invokevirtual 161, 3) := by decide +kernel
theorem dX9_who_59 : decode cX9_who 59 = .ok (.ifCond .eq 16, 3) := by decide +kernel
theorem dX9_who_62 : decode cX9_who 62 = .ok (.iload 7, 2) := by decide +kernel
theorem dX9_who_64 : decode cX9_who 64 = .ok (.iload 6, 2) := by decide +kernel
theorem dX9_who_66 : decode cX9_who 66 = .ok (.if_icmp .ne 6, 3) := by decide +kernel
theorem dX9_who_69 : decode cX9_who 69 = .ok (.iload 8, 2) := by decide +kernel
theorem dX9_who_71 : decode cX9_who 71 = .ok (.ireturn, 1) := by decide +kernel
theorem dX9_who_72 : decode cX9_who 72 = .ok (.iinc 7 1, 3) := by decide +kernel
theorem dX9_who_75 : decode cX9_who 75 = .ok (.iinc 8 1, 3) := by decide +kernel
theorem dX9_who_78 : decode cX9_who 78 = .ok (.goto (-38), 3) := by decide +kernel
theorem dX9_who_81 : decode cX9_who 81 = .ok (.ldc 165, 2) := by decide +kernel
theorem dX9_who_83 : decode cX9_who 83 = .ok (.ireturn, 1) := by decide +kernel
theorem dX9_visits_0 : decode cX9_visits 0 = .ok (.iload_n 1, 1) := by decide +kernel
theorem dX9_visits_1 : decode cX9_visits 1 = .ok (.iload_n 2, 1) := by decide +kernel
theorem dX9_visits_2 : decode cX9_visits 2 = .ok (.iload_n 3, 1) := by decide +kernel
theorem dX9_visits_3 : decode cX9_visits 3 = .ok (.iload 4, 2) := by decide +kernel
theorem dX9_visits_5 : decode cX9_visits 5 = .ok (.iload 5, 2) := by decide +kernel
theorem dX9_visits_7 : decode cX9_visits 7 = .ok (.invokestatic 166, 3) := by decide +kernel
theorem dX9_visits_10 : decode cX9_visits 10 = .ok (.istore 6, 2) := by decide +kernel
theorem dX9_visits_12 : decode cX9_visits 12 = .ok (.iload 6, 2) := by decide +kernel
theorem dX9_visits_14 : decode cX9_visits 14 = .ok (.ifCond .eq 6, 3) := by decide +kernel
theorem dX9_visits_17 : decode cX9_visits 17 = .ok (.iload 6, 2) := by decide +kernel
theorem dX9_visits_19 : decode cX9_visits 19 = .ok (.ireturn, 1) := by decide +kernel
theorem dX9_visits_20 : decode cX9_visits 20 = .ok (.aload_n 0, 1) := by decide +kernel
theorem dX9_visits_21 : decode cX9_visits 21 = .ok (.getfield 22, 3) := by decide +kernel
theorem dX9_visits_24 : decode cX9_visits 24 = .ok (.iload_n 2, 1) := by decide +kernel
theorem dX9_visits_25 : decode cX9_visits 25 = .ok (.iload_n 3, 1) := by decide +kernel
theorem dX9_visits_26 : decode cX9_visits 26 = .ok (.iload 4, 2) := by decide +kernel
theorem dX9_visits_28 : decode cX9_visits 28 = .ok (.iload 5, 2) := by decide +kernel
theorem dX9_visits_30 : decode cX9_visits 30 = .ok (.invokevirtual 157, 3) := by decide +kernel
theorem dX9_visits_33 : decode cX9_visits 33 = .ok (.aload_n 0, 1) := by decide +kernel
theorem dX9_visits_34 : decode cX9_visits 34 = .ok (.iload_n 1, 1) := by decide +kernel
theorem dX9_visits_35 : decode cX9_visits 35 = .ok (.invokevirtual 170, 3) := by decide +kernel
theorem dX9_visits_38 : decode cX9_visits 38 = .ok (.aload_n 0, 1) := by decide +kernel
theorem dX9_visits_39 : decode cX9_visits 39 = .ok (.getfield 39, 3) := by decide +kernel
theorem dX9_visits_42 : decode cX9_visits 42 = .ok (.getfield 173, 3) := by decide +kernel
theorem dX9_visits_45 : decode cX9_visits 45 = .ok (.ireturn, 1) := by decide +kernel
theorem dX9_visit_0 : decode cX9_visit 0 = .ok (.iload_n 1, 1) := by decide +kernel
theorem dX9_visit_1 : decode cX9_visit 1 = .ok (.iload_n 2, 1) := by decide +kernel
theorem dX9_visit_2 : decode cX9_visit 2 = .ok (.iload_n 3, 1) := by decide +kernel
theorem dX9_visit_3 : decode cX9_visit 3 = .ok (.iload 4, 2) := by decide +kernel
theorem dX9_visit_5 : decode cX9_visit 5 = .ok (.iload 5, 2) := by decide +kernel
theorem dX9_visit_7 : decode cX9_visit 7 = .ok (.invokestatic 166, 3) := by decide +kernel
theorem dX9_visit_10 : decode cX9_visit 10 = .ok (.istore 8, 2) := by decide +kernel
theorem dX9_visit_12 : decode cX9_visit 12 = .ok (.iload 8, 2) := by decide +kernel
theorem dX9_visit_14 : decode cX9_visit 14 = .ok (.ifCond .eq 6, 3) := by decide +kernel
theorem dX9_visit_17 : decode cX9_visit 17 = .ok (.iload 8, 2) := by decide +kernel
theorem dX9_visit_19 : decode cX9_visit 19 = .ok (.ireturn, 1) := by decide +kernel
theorem dX9_visit_20 : decode cX9_visit 20 = .ok (.aload_n 0, 1) := by decide +kernel
theorem dX9_visit_21 : decode cX9_visit 21 = .ok (.getfield 22, 3) := by decide +kernel
theorem dX9_visit_24 : decode cX9_visit 24 = .ok (.iload_n 2, 1) := by decide +kernel
theorem dX9_visit_25 : decode cX9_visit 25 = .ok (.iload_n 3, 1) := by decide +kernel
theorem dX9_visit_26 : decode cX9_visit 26 = .ok (.iload 4, 2) := by decide +kernel
theorem dX9_visit_28 : decode cX9_visit 28 = .ok (.iload 5, 2) := by decide +kernel
theorem dX9_visit_30 : decode cX9_visit 30 = .ok (.invokevirtual 157, 3) := by decide +kernel
theorem dX9_visit_33 : decode cX9_visit 33 = .ok (.aload_n 0, 1) := by decide +kernel
theorem dX9_visit_34 : decode cX9_visit 34 = .ok (.iload_n 1, 1) := by decide +kernel
theorem dX9_visit_35 : decode cX9_visit 35 = .ok (.invokevirtual 170, 3) := by decide +kernel
theorem dX9_visit_38 : decode cX9_visit 38 = .ok (.iload 6, 2) := by decide +kernel
theorem dX9_visit_40 : decode cX9_visit 40 = .ok (.iconst 0, 1) := by decide +kernel
theorem dX9_visit_41 : decode cX9_visit 41 = .ok (.aload_n 0, 1) := by decide +kernel
theorem dX9_visit_42 : decode cX9_visit 42 = .ok (.getfield 39, 3) := by decide +kernel
theorem dX9_visit_45 : decode cX9_visit 45 = .ok (.getfield 173, 3) := by decide +kernel
theorem dX9_visit_48 : decode cX9_visit 48 = .ok (.iconst 1, 1) := by decide +kernel
theorem dX9_visit_49 : decode cX9_visit 49 = .ok (.isub, 1) := by decide +kernel
theorem dX9_visit_50 : decode cX9_visit 50 = .ok (.invokestatic 94, 3) := by decide +kernel
theorem dX9_visit_53 : decode cX9_visit 53 = .ok (.ifCond .ne 6, 3) := by decide +kernel
theorem dX9_visit_56 : decode cX9_visit 56 = .ok (.ldc 165, 2) := by decide +kernel
theorem dX9_visit_58 : decode cX9_visit 58 = .ok (.ireturn, 1) := by decide +kernel
theorem dX9_visit_59 : decode cX9_visit 59 = .ok (.iload 7, 2) := by decide +kernel
theorem dX9_visit_61 : decode cX9_visit 61 = .ok (.ifCond .eq 16, 3) := by decide +kernel
theorem dX9_visit_64 : decode cX9_visit 64 = .ok (.aload_n 0, 1) := by decide +kernel
theorem dX9_visit_65 : decode cX9_visit 65 = .ok (.getfield 39, 3) := by decide +kernel
theorem dX9_visit_68 : decode cX9_visit 68 = .ok (.getfield 176, 3) := by decide +kernel
theorem dX9_visit_71 : decode cX9_visit 71 = .ok (.iload 6, 2) := by decide +kernel
theorem dX9_visit_73 : decode cX9_visit 73 = .ok (.iaload, 1) := by decide +kernel
theorem dX9_visit_74 : decode cX9_visit 74 = .ok (.goto 13, 3) := by decide +kernel
theorem dX9_visit_77 : decode cX9_visit 77 = .ok (.aload_n 0, 1) := by decide +kernel
theorem dX9_visit_78 : decode cX9_visit 78 = .ok (.getfield 39, 3) := by decide +kernel
theorem dX9_visit_81 : decode cX9_visit 81 = .ok (.getfield 179, 3) := by decide +kernel
theorem dX9_visit_84 : decode cX9_visit 84 = .ok (.iload 6, 2) := by decide +kernel
theorem dX9_visit_86 : decode cX9_visit 86 = .ok (.iaload, 1) := by decide +kernel
theorem dX9_visit_87 : decode cX9_visit 87 = .ok (.ireturn, 1) := by decide +kernel
theorem dX9_far_0 : decode cX9_far 0 = .ok (.iload_n 1, 1) := by decide +kernel
theorem dX9_far_1 : decode cX9_far 1 = .ok (.invokestatic 86, 3) := by decide +kernel
theorem dX9_far_4 : decode cX9_far 4 = .ok (.ifCond .eq 10, 3) := by decide +kernel
theorem dX9_far_7 : decode cX9_far 7 = .ok (.iload_n 2, 1) := by decide +kernel
theorem dX9_far_8 : decode cX9_far 8 = .ok (.invokestatic 86, 3) := by decide +kernel
theorem dX9_far_11 : decode cX9_far 11 = .ok (.ifCond .ne 7, 3) := by decide +kernel
theorem dX9_far_14 : decode cX9_far 14 = .ok (.ldc2_w 182, 3) := by decide +kernel
theorem dX9_far_17 : decode cX9_far 17 = .ok (.lreturn, 1) := by decide +kernel
theorem dX9_far_18 : decode cX9_far 18 = .ok (.iload_n 3, 1) := by decide +kernel
theorem dX9_far_19 : decode cX9_far 19 = .ok (.invokestatic 91, 3) := by decide +kernel
theorem dX9_far_22 : decode cX9_far 22 = .ok (.ifCond .ne 7, 3) := by decide +kernel
theorem dX9_far_25 : decode cX9_far 25 = .ok (.ldc2_w 184, 3) := by decide +kernel
theorem dX9_far_28 : decode cX9_far 28 = .ok (.lreturn, 1) := by decide +kernel
theorem dX9_far_29 : decode cX9_far 29 = .ok (.aload_n 0, 1) := by decide +kernel
theorem dX9_far_30 : decode cX9_far 30 = .ok (.iload_n 1, 1) := by decide +kernel
theorem dX9_far_31 : decode cX9_far 31 = .ok (.iload_n 2, 1) := by decide +kernel
theorem dX9_far_32 : decode cX9_far 32 = .ok (.iload_n 3, 1) := by decide +kernel
theorem dX9_far_33 : decode cX9_far 33 = .ok (.invokevirtual 186, 3) := by decide +kernel
theorem dX9_far_36 : decode cX9_far 36 = .ok (.ifCond .ne 7, 3) := by decide +kernel
theorem dX9_far_39 : decode cX9_far 39 = .ok (.ldc2_w 189, 3) := by decide +kernel
theorem dX9_far_42 : decode cX9_far 42 = .ok (.lreturn, 1) := by decide +kernel
theorem dX9_far_43 : decode cX9_far 43 = .ok (.aload_n 0, 1) := by decide +kernel
theorem dX9_far_44 : decode cX9_far 44 = .ok (.getfield 29, 3) := by decide +kernel
theorem dX9_far_47 : decode cX9_far 47 = .ok (.aload_n 0, 1) := by decide +kernel
theorem dX9_far_48 : decode cX9_far 48 = .ok (.getfield 33, 3) := by decide +kernel
theorem dX9_far_51 : decode cX9_far 51 = .ok (.invokestatic 191, 3) := by decide +kernel
theorem dX9_far_54 : decode cX9_far 54 = .ok (.aload_n 0, 1) := by decide +kernel
theorem dX9_far_55 : decode cX9_far 55 = .ok (.getfield 29, 3) := by decide +kernel
theorem dX9_far_58 : decode cX9_far 58 = .ok (.aload_n 0, 1) := by decide +kernel
theorem dX9_far_59 : decode cX9_far 59 = .ok (.getfield 33, 3) := by decide +kernel
theorem dX9_far_62 : decode cX9_far 62 = .ok (.invokestatic 195, 3) := by decide +kernel
theorem dX9_far_65 : decode cX9_far 65 = .ok (.iload 4, 2) := by decide +kernel
theorem dX9_far_67 : decode cX9_far 67 = .ok (.invokestatic 149, 3) := by decide +kernel
theorem dX9_far_70 : decode cX9_far 70 = .ok (.lreturn, 1) := by decide +kernel
theorem dX9_nearest_0 : decode cX9_nearest 0 = .ok (.iload_n 1, 1) := by decide +kernel
theorem dX9_nearest_1 : decode cX9_nearest 1 = .ok (.iload_n 2, 1) := by decide +kernel
theorem dX9_nearest_2 : decode cX9_nearest 2 = .ok (.invokestatic 131, 3) := by decide +kernel
theorem dX9_nearest_5 : decode cX9_nearest 5 = .ok (.istore 4, 2) := by decide +kernel
theorem dX9_nearest_7 : decode cX9_nearest 7 = .ok (.iload 4, 2) := by decide +kernel
theorem dX9_nearest_9 : decode cX9_nearest 9 = .ok (.ifCond .eq 6, 3) := by decide +kernel
theorem dX9_nearest_12 : decode cX9_nearest 12 = .ok (.iload 4, 2) := by decide +kernel
theorem dX9_nearest_14 : decode cX9_nearest 14 = .ok (.ireturn, 1) := by decide +kernel
theorem dX9_nearest_15 : decode cX9_nearest 15 = .ok (.aload_n 0, 1) := by decide +kernel
theorem dX9_nearest_16 : decode cX9_nearest 16 = .ok (.getfield 11, 3) := by decide +kernel
theorem dX9_nearest_19 : decode cX9_nearest 19 = .ok (.iload_n 1, 1) := by decide +kernel
theorem dX9_nearest_20 : decode cX9_nearest 20 = .ok (.aaload, 1) := by decide +kernel
theorem dX9_nearest_21 : decode cX9_nearest 21 = .ok (.iload_n 2, 1) := by decide +kernel
theorem dX9_nearest_22 : decode cX9_nearest 22 = .ok (.aload_n 0, 1) := by decide +kernel
theorem dX9_nearest_23 : decode cX9_nearest 23 = .ok (.getfield 29, 3) := by decide +kernel
theorem dX9_nearest_26 : decode cX9_nearest 26 = .ok (.invokevirtual 135, 3) := by decide +kernel
theorem dX9_nearest_29 : decode cX9_nearest 29 = .ok (.ifCond .ne 6, 3) := by decide +kernel
theorem dX9_nearest_32 : decode cX9_nearest 32 = .ok (.ldc 139, 2) := by decide +kernel
theorem dX9_nearest_34 : decode cX9_nearest 34 = .ok (.ireturn, 1) := by decide +kernel
theorem dX9_nearest_35 : decode cX9_nearest 35 = .ok (.aload_n 0, 1) := by decide +kernel
theorem dX9_nearest_36 : decode cX9_nearest 36 = .ok (.getfield 46, 3) := by decide +kernel
theorem dX9_nearest_39 : decode cX9_nearest 39 = .ok (.invokevirtual 198, 3) := by decide +kernel
theorem dX9_nearest_42 : decode cX9_nearest 42 = .ok (.iconst 0, 1) := by decide +kernel
theorem dX9_nearest_43 : decode cX9_nearest 43 = .ok (.istore 5, 2) := by decide +kernel
theorem dX9_nearest_45 : decode cX9_nearest 45 = .ok (.iload 5, 2) := by decide +kernel
theorem dX9_nearest_47 : decode cX9_nearest 47 = .ok (.bipush 10, 2) := by decide +kernel
theorem dX9_nearest_49 : decode cX9_nearest 49 = .ok (.if_icmp .ge 64, 3) := by decide +kernel
theorem dX9_nearest_52 : decode cX9_nearest 52 = .ok (.iload 5, 2) := by decide +kernel
theorem dX9_nearest_54 : decode cX9_nearest 54 = .ok (.iload_n 1, 1) := by decide +kernel
theorem dX9_nearest_55 : decode cX9_nearest 55 = .ok (.if_icmp .eq 52, 3) := by decide +kernel
theorem dX9_nearest_58 : decode cX9_nearest 58 = .ok (.aload_n 0, 1) := by decide +kernel
theorem dX9_nearest_59 : decode cX9_nearest 59 = .ok (.getfield 11, 3) := by decide +kernel
theorem dX9_nearest_62 : decode cX9_nearest 62 = .ok (.iload 5, 2) := by decide +kernel
theorem dX9_nearest_64 : decode cX9_nearest 64 = .ok (.aaload, 1) := by decide +kernel
theorem dX9_nearest_65 : decode cX9_nearest 65 = .ok (.iload_n 2, 1) := by decide +kernel
theorem dX9_nearest_66 : decode cX9_nearest 66 = .ok (.aload_n 0, 1) := by decide +kernel
theorem dX9_nearest_67 : decode cX9_nearest 67 = .ok (.getfield 33, 3) := by decide +kernel
theorem dX9_nearest_70 : decode cX9_nearest 70 = .ok (.invokevirtual 135, 3) := by decide +kernel
theorem dX9_nearest_73 : decode cX9_nearest 73 = .ok (.ifCond .eq 34, 3) := by decide +kernel
theorem dX9_nearest_76 : decode cX9_nearest 76 = .ok (.aload_n 0, 1) := by decide +kernel
theorem dX9_nearest_77 : decode cX9_nearest 77 = .ok (.getfield 46, 3) := by decide +kernel
theorem dX9_nearest_80 : decode cX9_nearest 80 = .ok (.iload 5, 2) := by decide +kernel
theorem dX9_nearest_82 : decode cX9_nearest 82 = .ok (.aload_n 0, 1) := by decide +kernel
theorem dX9_nearest_83 : decode cX9_nearest 83 = .ok (.getfield 29, 3) := by decide +kernel
theorem dX9_nearest_86 : decode cX9_nearest 86 = .ok (.aload_n 0, 1) := by decide +kernel
theorem dX9_nearest_87 : decode cX9_nearest 87 = .ok (.getfield 33, 3) := by decide +kernel
theorem dX9_nearest_90 : decode cX9_nearest 90 = .ok (.invokestatic 191, 3) := by decide +kernel
theorem dX9_nearest_93 : decode cX9_nearest 93 = .ok (.aload_n 0, 1) := by decide +kernel
theorem dX9_nearest_94 : decode cX9_nearest 94 = .ok (.getfield 29, 3) := by decide +kernel
theorem dX9_nearest_97 : decode cX9_nearest 97 = .ok (.aload_n 0, 1) := by decide +kernel
theorem dX9_nearest_98 : decode cX9_nearest 98 = .ok (.getfield 33, 3) := by decide +kernel
theorem dX9_nearest_101 : decode cX9_nearest 101 = .ok (.invokestatic 195, 3) := by decide +kernel
theorem dX9_nearest_104 : decode cX9_nearest 104 = .ok (.invokevirtual 201, 3) := by decide +kernel
theorem dX9_nearest_107 : decode cX9_nearest 107 = .ok (.iinc 5 1, 3) := by decide +kernel
theorem dX9_nearest_110 : decode cX9_nearest 110 = .ok (.goto (-65), 3) := by decide +kernel
theorem dX9_nearest_113 : decode cX9_nearest 113 = .ok (.aload_n 0, 1) := by decide +kernel
theorem dX9_nearest_114 : decode cX9_nearest 114 = .ok (.getfield 46, 3) := by decide +kernel
theorem dX9_nearest_117 : decode cX9_nearest 117 = .ok (.iload_n 3, 1) := by decide +kernel
theorem dX9_nearest_118 : decode cX9_nearest 118 = .ok (.invokevirtual 204, 3) := by decide +kernel
theorem dX9_nearest_121 : decode cX9_nearest 121 = .ok (.ireturn, 1) := by decide +kernel
theorem dX9_meetings_0 : decode cX9_meetings 0 = .ok (.iload_n 1, 1) := by decide +kernel
theorem dX9_meetings_1 : decode cX9_meetings 1 = .ok (.iload_n 2, 1) := by decide +kernel
theorem dX9_meetings_2 : decode cX9_meetings 2 = .ok (.iload_n 3, 1) := by decide +kernel
theorem dX9_meetings_3 : decode cX9_meetings 3 = .ok (.invokestatic 208, 3) := by decide +kernel
theorem dX9_meetings_6 : decode cX9_meetings 6 = .ok (.istore 4, 2) := by decide +kernel
theorem dX9_meetings_8 : decode cX9_meetings 8 = .ok (.iload 4, 2) := by decide +kernel
theorem dX9_meetings_10 : decode cX9_meetings 10 = .ok (.ifCond .eq 6, 3) := by decide +kernel
theorem dX9_meetings_13 : decode cX9_meetings 13 = .ok (.iload 4, 2) := by decide +kernel
theorem dX9_meetings_15 : decode cX9_meetings 15 = .ok (.ireturn, 1) := by decide +kernel
theorem dX9_meetings_16 : decode cX9_meetings 16 = .ok (.aload_n 0, 1) := by decide +kernel
theorem dX9_meetings_17 : decode cX9_meetings 17 = .ok (.iload_n 1, 1) := by decide +kernel
theorem dX9_meetings_18 : decode cX9_meetings 18 = .ok (.iload_n 2, 1) := by decide +kernel
theorem dX9_meetings_19 : decode cX9_meetings 19 = .ok (.iload_n 3, 1) := by decide +kernel
theorem dX9_meetings_20 : decode cX9_meetings 20 = .ok (.invokevirtual 212, 3) := by decide +kernel
theorem dX9_meetings_23 : decode cX9_meetings 23 = .ok (.aload_n 0, 1) := by decide +kernel
theorem dX9_meetings_24 : decode cX9_meetings 24 = .ok (.getfield 39, 3) := by decide +kernel
theorem dX9_meetings_27 : decode cX9_meetings 27 = .ok (.getfield 173, 3) := by decide +kernel
theorem dX9_meetings_30 : decode cX9_meetings 30 = .ok (.ireturn, 1) := by decide +kernel
theorem dX9_longest_0 : decode cX9_longest 0 = .ok (.iload_n 1, 1) := by decide +kernel
theorem dX9_longest_1 : decode cX9_longest 1 = .ok (.iload_n 2, 1) := by decide +kernel
theorem dX9_longest_2 : decode cX9_longest 2 = .ok (.iload_n 3, 1) := by decide +kernel
theorem dX9_longest_3 : decode cX9_longest 3 = .ok (.invokestatic 208, 3) := by decide +kernel
theorem dX9_longest_6 : decode cX9_longest 6 = .ok (.istore 5, 2) := by decide +kernel
theorem dX9_longest_8 : decode cX9_longest 8 = .ok (.iload 5, 2) := by decide +kernel
theorem dX9_longest_10 : decode cX9_longest 10 = .ok (.ifCond .eq 6, 3) := by decide +kernel
theorem dX9_longest_13 : decode cX9_longest 13 = .ok (.iload 5, 2) := by decide +kernel
theorem dX9_longest_15 : decode cX9_longest 15 = .ok (.ireturn, 1) := by decide +kernel
theorem dX9_longest_16 : decode cX9_longest 16 = .ok (.aload_n 0, 1) := by decide +kernel
theorem dX9_longest_17 : decode cX9_longest 17 = .ok (.iload_n 1, 1) := by decide +kernel
theorem dX9_longest_18 : decode cX9_longest 18 = .ok (.iload_n 2, 1) := by decide +kernel
theorem dX9_longest_19 : decode cX9_longest 19 = .ok (.iload_n 3, 1) := by decide +kernel
theorem dX9_longest_20 : decode cX9_longest 20 = .ok (.invokevirtual 212, 3) := by decide +kernel
theorem dX9_longest_23 : decode cX9_longest 23 = .ok (.aload_n 0, 1) := by decide +kernel
theorem dX9_longest_24 : decode cX9_longest 24 = .ok (.getfield 39, 3) := by decide +kernel
theorem dX9_longest_27 : decode cX9_longest 27 = .ok (.invokevirtual 215, 3) := by decide +kernel
theorem dX9_longest_30 : decode cX9_longest 30 = .ok (.istore 6, 2) := by decide +kernel
theorem dX9_longest_32 : decode cX9_longest 32 = .ok (.iload 6, 2) := by decide +kernel
theorem dX9_longest_34 : decode cX9_longest 34 = .ok (.ifCond .ge 6, 3) := by decide +kernel
theorem dX9_longest_37 : decode cX9_longest 37 = .ok (.ldc 165, 2) := by decide +kernel
theorem dX9_longest_39 : decode cX9_longest 39 = .ok (.ireturn, 1) := by decide +kernel
theorem dX9_longest_40 : decode cX9_longest 40 = .ok (.iload 4, 2) := by decide +kernel
theorem dX9_longest_42 : decode cX9_longest 42 = .ok (.ifCond .eq 15, 3) := by decide +kernel
theorem dX9_longest_45 : decode cX9_longest 45 = .ok (.aload_n 0, 1) := by decide +kernel
theorem dX9_longest_46 : decode cX9_longest 46 = .ok (.getfield 39, 3) := by decide +kernel
theorem dX9_longest_49 : decode cX9_longest 49 = .ok (.iload 6, 2) := by decide +kernel
theorem dX9_longest_51 : decode cX9_longest 51 = .ok (.invokevirtual 219, 3) := by decide +kernel
theorem dX9_longest_54 : decode cX9_longest 54 = .ok (.goto 13, 3) := by decide +kernel
theorem dX9_longest_57 : decode cX9_longest 57 = .ok (.aload_n 0, 1) := by decide +kernel
theorem dX9_longest_58 : decode cX9_longest 58 = .ok (.getfield 39, 3) := by decide +kernel
theorem dX9_longest_61 : decode cX9_longest 61 = .ok (.getfield 179, 3) := by decide +kernel
theorem dX9_longest_64 : decode cX9_longest 64 = .ok (.iload 6, 2) := by decide +kernel
theorem dX9_longest_66 : decode cX9_longest 66 = .ok (.iaload, 1) := by decide +kernel
theorem dX9_longest_67 : decode cX9_longest 67 = .ok (.ireturn, 1) := by decide +kernel
theorem dX9_pages_0 : decode cX9_pages 0 = .ok (.aload_n 0, 1) := by decide +kernel
theorem dX9_pages_1 : decode cX9_pages 1 = .ok (.invokevirtual 222, 3) := by decide +kernel
theorem dX9_pages_4 : decode cX9_pages 4 = .ok (.iload_n 1, 1) := by decide +kernel
theorem dX9_pages_5 : decode cX9_pages 5 = .ok (.tableswitch 63 0 3 #[31, 39, 47, 55], 31) := by decide +kernel
theorem dX9_pages_36 : decode cX9_pages 36 = .ok (.aload_n 0, 1) := by decide +kernel
theorem dX9_pages_37 : decode cX9_pages 37 = .ok (.getfield 53, 3) := by decide +kernel
theorem dX9_pages_40 : decode cX9_pages 40 = .ok (.getfield 225, 3) := by decide +kernel
theorem dX9_pages_43 : decode cX9_pages 43 = .ok (.ireturn, 1) := by decide +kernel
theorem dX9_pages_44 : decode cX9_pages 44 = .ok (.aload_n 0, 1) := by decide +kernel
theorem dX9_pages_45 : decode cX9_pages 45 = .ok (.getfield 53, 3) := by decide +kernel
theorem dX9_pages_48 : decode cX9_pages 48 = .ok (.getfield 228, 3) := by decide +kernel
theorem dX9_pages_51 : decode cX9_pages 51 = .ok (.ireturn, 1) := by decide +kernel
theorem dX9_pages_52 : decode cX9_pages 52 = .ok (.aload_n 0, 1) := by decide +kernel
theorem dX9_pages_53 : decode cX9_pages 53 = .ok (.getfield 53, 3) := by decide +kernel
theorem dX9_pages_56 : decode cX9_pages 56 = .ok (.invokevirtual 231, 3) := by decide +kernel
theorem dX9_pages_59 : decode cX9_pages 59 = .ok (.ireturn, 1) := by decide +kernel
theorem dX9_pages_60 : decode cX9_pages 60 = .ok (.aload_n 0, 1) := by decide +kernel
theorem dX9_pages_61 : decode cX9_pages 61 = .ok (.getfield 53, 3) := by decide +kernel
theorem dX9_pages_64 : decode cX9_pages 64 = .ok (.invokevirtual 234, 3) := by decide +kernel
theorem dX9_pages_67 : decode cX9_pages 67 = .ok (.ireturn, 1) := by decide +kernel
theorem dX9_pages_68 : decode cX9_pages 68 = .ok (.ldc 98, 2) := by decide +kernel
theorem dX9_pages_70 : decode cX9_pages 70 = .ok (.ireturn, 1) := by decide +kernel
theorem dX9_size_0 : decode cX9_size 0 = .ok (.aload_n 0, 1) := by decide +kernel
theorem dX9_size_1 : decode cX9_size 1 = .ok (.invokevirtual 222, 3) := by decide +kernel
theorem dX9_size_4 : decode cX9_size 4 = .ok (.aload_n 0, 1) := by decide +kernel
theorem dX9_size_5 : decode cX9_size 5 = .ok (.getfield 53, 3) := by decide +kernel
theorem dX9_size_8 : decode cX9_size 8 = .ok (.invokevirtual 237, 3) := by decide +kernel
theorem dX9_size_11 : decode cX9_size 11 = .ok (.lreturn, 1) := by decide +kernel
theorem dX9_opens_0 : decode cX9_opens 0 = .ok (.iload_n 1, 1) := by decide +kernel
theorem dX9_opens_1 : decode cX9_opens 1 = .ok (.iload_n 2, 1) := by decide +kernel
theorem dX9_opens_2 : decode cX9_opens 2 = .ok (.iload_n 3, 1) := by decide +kernel
theorem dX9_opens_3 : decode cX9_opens 3 = .ok (.iload 4, 2) := by decide +kernel
theorem dX9_opens_5 : decode cX9_opens 5 = .ok (.invokestatic 153, 3) := by decide +kernel
theorem dX9_opens_8 : decode cX9_opens 8 = .ok (.ifCond .eq 26, 3) := by decide +kernel
theorem dX9_opens_11 : decode cX9_opens 11 = .ok (.iload 5, 2) := by decide +kernel
theorem dX9_opens_13 : decode cX9_opens 13 = .ok (.invokestatic 91, 3) := by decide +kernel
theorem dX9_opens_16 : decode cX9_opens 16 = .ok (.ifCond .eq 18, 3) := by decide +kernel
theorem dX9_opens_19 : decode cX9_opens 19 = .ok (.iload 6, 2) := by decide +kernel
theorem dX9_opens_21 : decode cX9_opens 21 = .ok (.invokestatic 91, 3) := by decide +kernel
theorem dX9_opens_24 : decode cX9_opens 24 = .ok (.ifCond .eq 10, 3) := by decide +kernel
theorem dX9_opens_27 : decode cX9_opens 27 = .ok (.iload 6, 2) := by decide +kernel
theorem dX9_opens_29 : decode cX9_opens 29 = .ok (.iload 5, 2) := by decide +kernel
theorem dX9_opens_31 : decode cX9_opens 31 = .ok (.if_icmp .ge 6, 3) := by decide +kernel
theorem dX9_opens_34 : decode cX9_opens 34 = .ok (.ldc 98, 2) := by decide +kernel
theorem dX9_opens_36 : decode cX9_opens 36 = .ok (.ireturn, 1) := by decide +kernel
theorem dX9_opens_37 : decode cX9_opens 37 = .ok (.aload_n 0, 1) := by decide +kernel
theorem dX9_opens_38 : decode cX9_opens 38 = .ok (.invokevirtual 222, 3) := by decide +kernel
theorem dX9_opens_41 : decode cX9_opens 41 = .ok (.aload_n 0, 1) := by decide +kernel
theorem dX9_opens_42 : decode cX9_opens 42 = .ok (.getfield 22, 3) := by decide +kernel
theorem dX9_opens_45 : decode cX9_opens 45 = .ok (.iload_n 1, 1) := by decide +kernel
theorem dX9_opens_46 : decode cX9_opens 46 = .ok (.iload_n 2, 1) := by decide +kernel
theorem dX9_opens_47 : decode cX9_opens 47 = .ok (.iload_n 3, 1) := by decide +kernel
theorem dX9_opens_48 : decode cX9_opens 48 = .ok (.iload 4, 2) := by decide +kernel
theorem dX9_opens_50 : decode cX9_opens 50 = .ok (.invokevirtual 157, 3) := by decide +kernel
theorem dX9_opens_53 : decode cX9_opens 53 = .ok (.aload_n 0, 1) := by decide +kernel
theorem dX9_opens_54 : decode cX9_opens 54 = .ok (.getfield 53, 3) := by decide +kernel
theorem dX9_opens_57 : decode cX9_opens 57 = .ok (.aload_n 0, 1) := by decide +kernel
theorem dX9_opens_58 : decode cX9_opens 58 = .ok (.getfield 22, 3) := by decide +kernel
theorem dX9_opens_61 : decode cX9_opens 61 = .ok (.iload 5, 2) := by decide +kernel
theorem dX9_opens_63 : decode cX9_opens 63 = .ok (.iload 6, 2) := by decide +kernel
theorem dX9_opens_65 : decode cX9_opens 65 = .ok (.invokevirtual 241, 3) := by decide +kernel
theorem dX9_opens_68 : decode cX9_opens 68 = .ok (.iload 7, 2) := by decide +kernel
theorem dX9_opens_70 : decode cX9_opens 70 = .ok (.ifCond .eq 13, 3) := by decide +kernel
theorem dX9_opens_73 : decode cX9_opens 73 = .ok (.aload_n 0, 1) := by decide +kernel
theorem dX9_opens_74 : decode cX9_opens 74 = .ok (.getfield 53, 3) := by decide +kernel
theorem dX9_opens_77 : decode cX9_opens 77 = .ok (.getfield 245, 3) := by decide +kernel
theorem dX9_opens_80 : decode cX9_opens 80 = .ok (.goto 10, 3) := by decide +kernel
theorem dX9_opens_83 : decode cX9_opens 83 = .ok (.aload_n 0, 1) := by decide +kernel
theorem dX9_opens_84 : decode cX9_opens 84 = .ok (.getfield 53, 3) := by decide +kernel
theorem dX9_opens_87 : decode cX9_opens 87 = .ok (.getfield 248, 3) := by decide +kernel
theorem dX9_opens_90 : decode cX9_opens 90 = .ok (.ireturn, 1) := by decide +kernel
theorem dX9_thin_0 : decode cX9_thin 0 = .ok (.iload_n 1, 1) := by decide +kernel
theorem dX9_thin_1 : decode cX9_thin 1 = .ok (.iload_n 2, 1) := by decide +kernel
theorem dX9_thin_2 : decode cX9_thin 2 = .ok (.invokestatic 251, 3) := by decide +kernel
theorem dX9_thin_5 : decode cX9_thin 5 = .ok (.istore_n 3, 1) := by decide +kernel
theorem dX9_thin_6 : decode cX9_thin 6 = .ok (.iload_n 3, 1) := by decide +kernel
theorem dX9_thin_7 : decode cX9_thin 7 = .ok (.ifCond .eq 5, 3) := by decide +kernel
theorem dX9_thin_10 : decode cX9_thin 10 = .ok (.iload_n 3, 1) := by decide +kernel
theorem dX9_thin_11 : decode cX9_thin 11 = .ok (.ireturn, 1) := by decide +kernel
theorem dX9_thin_12 : decode cX9_thin 12 = .ok (.aload_n 0, 1) := by decide +kernel
theorem dX9_thin_13 : decode cX9_thin 13 = .ok (.getfield 60, 3) := by decide +kernel
theorem dX9_thin_16 : decode cX9_thin 16 = .ok (.aload_n 0, 1) := by decide +kernel
theorem dX9_thin_17 : decode cX9_thin 17 = .ok (.getfield 11, 3) := by decide +kernel
theorem dX9_thin_20 : decode cX9_thin 20 = .ok (.iload_n 1, 1) := by decide +kernel
theorem dX9_thin_21 : decode cX9_thin 21 = .ok (.aaload, 1) := by decide +kernel
theorem dX9_thin_22 : decode cX9_thin 22 = .ok (.iload_n 2, 1) := by decide +kernel
theorem dX9_thin_23 : decode cX9_thin 23 = .ok (.invokevirtual 254, 3) := by decide +kernel
theorem dX9_thin_26 : decode cX9_thin 26 = .ok (.aload_n 0, 1) := by decide +kernel
theorem dX9_thin_27 : decode cX9_thin 27 = .ok (.getfield 60, 3) := by decide +kernel
theorem dX9_thin_30 : decode cX9_thin 30 = .ok (.getfield 258, 3) := by decide +kernel
theorem dX9_thin_33 : decode cX9_thin 33 = .ok (.ireturn, 1) := by decide +kernel
theorem dX9_kept_0 : decode cX9_kept 0 = .ok (.iload_n 1, 1) := by decide +kernel
theorem dX9_kept_1 : decode cX9_kept 1 = .ok (.iload_n 2, 1) := by decide +kernel
theorem dX9_kept_2 : decode cX9_kept 2 = .ok (.invokestatic 251, 3) := by decide +kernel
theorem dX9_kept_5 : decode cX9_kept 5 = .ok (.istore 4, 2) := by decide +kernel
theorem dX9_kept_7 : decode cX9_kept 7 = .ok (.iload 4, 2) := by decide +kernel
theorem dX9_kept_9 : decode cX9_kept 9 = .ok (.ifCond .eq 6, 3) := by decide +kernel
theorem dX9_kept_12 : decode cX9_kept 12 = .ok (.iload 4, 2) := by decide +kernel
theorem dX9_kept_14 : decode cX9_kept 14 = .ok (.ireturn, 1) := by decide +kernel
theorem dX9_kept_15 : decode cX9_kept 15 = .ok (.aload_n 0, 1) := by decide +kernel
theorem dX9_kept_16 : decode cX9_kept 16 = .ok (.getfield 60, 3) := by decide +kernel
theorem dX9_kept_19 : decode cX9_kept 19 = .ok (.aload_n 0, 1) := by decide +kernel
theorem dX9_kept_20 : decode cX9_kept 20 = .ok (.getfield 11, 3) := by decide +kernel
theorem dX9_kept_23 : decode cX9_kept 23 = .ok (.iload_n 1, 1) := by decide +kernel
theorem dX9_kept_24 : decode cX9_kept 24 = .ok (.aaload, 1) := by decide +kernel
theorem dX9_kept_25 : decode cX9_kept 25 = .ok (.iload_n 2, 1) := by decide +kernel
theorem dX9_kept_26 : decode cX9_kept 26 = .ok (.invokevirtual 254, 3) := by decide +kernel
theorem dX9_kept_29 : decode cX9_kept 29 = .ok (.iload_n 3, 1) := by decide +kernel
theorem dX9_kept_30 : decode cX9_kept 30 = .ok (.iconst 0, 1) := by decide +kernel
theorem dX9_kept_31 : decode cX9_kept 31 = .ok (.aload_n 0, 1) := by decide +kernel
theorem dX9_kept_32 : decode cX9_kept 32 = .ok (.getfield 60, 3) := by decide +kernel
theorem dX9_kept_35 : decode cX9_kept 35 = .ok (.getfield 258, 3) := by decide +kernel
theorem dX9_kept_38 : decode cX9_kept 38 = .ok (.iconst 1, 1) := by decide +kernel
theorem dX9_kept_39 : decode cX9_kept 39 = .ok (.isub, 1) := by decide +kernel
theorem dX9_kept_40 : decode cX9_kept 40 = .ok (.invokestatic 94, 3) := by decide +kernel
theorem dX9_kept_43 : decode cX9_kept 43 = .ok (.ifCond .eq 15, 3) := by decide +kernel
theorem dX9_kept_46 : decode cX9_kept 46 = .ok (.aload_n 0, 1) := by decide +kernel
theorem dX9_kept_47 : decode cX9_kept 47 = .ok (.getfield 60, 3) := by decide +kernel
theorem dX9_kept_50 : decode cX9_kept 50 = .ok (.getfield 261, 3) := by decide +kernel
theorem dX9_kept_53 : decode cX9_kept 53 = .ok (.iload_n 3, 1) := by decide +kernel
theorem dX9_kept_54 : decode cX9_kept 54 = .ok (.iaload, 1) := by decide +kernel
theorem dX9_kept_55 : decode cX9_kept 55 = .ok (.goto 5, 3) := by decide +kernel
theorem dX9_kept_58 : decode cX9_kept 58 = .ok (.ldc 165, 2) := by decide +kernel
theorem dX9_kept_60 : decode cX9_kept 60 = .ok (.ireturn, 1) := by decide +kernel
theorem dX9_thinned_0 : decode cX9_thinned 0 = .ok (.iload_n 1, 1) := by decide +kernel
theorem dX9_thinned_1 : decode cX9_thinned 1 = .ok (.iload_n 2, 1) := by decide +kernel
theorem dX9_thinned_2 : decode cX9_thinned 2 = .ok (.invokestatic 251, 3) := by decide +kernel
theorem dX9_thinned_5 : decode cX9_thinned 5 = .ok (.istore_n 3, 1) := by decide +kernel
theorem dX9_thinned_6 : decode cX9_thinned 6 = .ok (.iload_n 3, 1) := by decide +kernel
theorem dX9_thinned_7 : decode cX9_thinned 7 = .ok (.ifCond .eq 5, 3) := by decide +kernel
theorem dX9_thinned_10 : decode cX9_thinned 10 = .ok (.iload_n 3, 1) := by decide +kernel
theorem dX9_thinned_11 : decode cX9_thinned 11 = .ok (.ireturn, 1) := by decide +kernel
theorem dX9_thinned_12 : decode cX9_thinned 12 = .ok (.aload_n 0, 1) := by decide +kernel
theorem dX9_thinned_13 : decode cX9_thinned 13 = .ok (.getfield 11, 3) := by decide +kernel
theorem dX9_thinned_16 : decode cX9_thinned 16 = .ok (.iload_n 1, 1) := by decide +kernel
theorem dX9_thinned_17 : decode cX9_thinned 17 = .ok (.aaload, 1) := by decide +kernel
theorem dX9_thinned_18 : decode cX9_thinned 18 = .ok (.astore 4, 2) := by decide +kernel
theorem dX9_thinned_20 : decode cX9_thinned 20 = .ok (.aload 4, 2) := by decide +kernel
theorem dX9_thinned_22 : decode cX9_thinned 22 = .ok (.getfield 102, 3) := by decide +kernel
theorem dX9_thinned_25 : decode cX9_thinned 25 = .ok (.istore 5, 2) := by decide +kernel
theorem dX9_thinned_27 : decode cX9_thinned 27 = .ok (.aload_n 0, 1) := by decide +kernel
theorem dX9_thinned_28 : decode cX9_thinned 28 = .ok (.getfield 60, 3) := by decide +kernel
theorem dX9_thinned_31 : decode cX9_thinned 31 = .ok (.aload 4, 2) := by decide +kernel
theorem dX9_thinned_33 : decode cX9_thinned 33 = .ok (.iload_n 2, 1) := by decide +kernel
theorem dX9_thinned_34 : decode cX9_thinned 34 = .ok (.invokevirtual 254, 3) := by decide +kernel
theorem dX9_thinned_37 : decode cX9_thinned 37 = .ok (.aload 4, 2) := by decide +kernel
theorem dX9_thinned_39 : decode cX9_thinned 39 = .ok (.aload_n 0, 1) := by decide +kernel
theorem dX9_thinned_40 : decode cX9_thinned 40 = .ok (.getfield 60, 3) := by decide +kernel
theorem dX9_thinned_43 : decode cX9_thinned 43 = .ok (.getfield 261, 3) := by decide +kernel
theorem dX9_thinned_46 : decode cX9_thinned 46 = .ok (.aload_n 0, 1) := by decide +kernel
theorem dX9_thinned_47 : decode cX9_thinned 47 = .ok (.getfield 60, 3) := by decide +kernel
theorem dX9_thinned_50 : decode cX9_thinned 50 = .ok (.getfield 258, 3) := by decide +kernel
theorem dX9_thinned_53 : decode cX9_thinned 53 = .ok (.invokevirtual 264, 3) := by decide +kernel
theorem dX9_thinned_56 : decode cX9_thinned 56 = .ok (.aload_n 0, 1) := by decide +kernel
theorem dX9_thinned_57 : decode cX9_thinned 57 = .ok (.iconst 1, 1) := by decide +kernel
theorem dX9_thinned_58 : decode cX9_thinned 58 = .ok (.putfield 71, 3) := by decide +kernel
theorem dX9_thinned_61 : decode cX9_thinned 61 = .ok (.iload 5, 2) := by decide +kernel
theorem dX9_thinned_63 : decode cX9_thinned 63 = .ok (.aload 4, 2) := by decide +kernel
theorem dX9_thinned_65 : decode cX9_thinned 65 = .ok (.getfield 102, 3) := by decide +kernel
theorem dX9_thinned_68 : decode cX9_thinned 68 = .ok (.isub, 1) := by decide +kernel
theorem dX9_thinned_69 : decode cX9_thinned 69 = .ok (.ireturn, 1) := by decide +kernel
theorem dX9_pass_0 : decode cX9_pass 0 = .ok (.iload_n 1, 1) := by decide +kernel
theorem dX9_pass_1 : decode cX9_pass 1 = .ok (.iconst 1, 1) := by decide +kernel
theorem dX9_pass_2 : decode cX9_pass 2 = .ok (.bipush 100, 2) := by decide +kernel
theorem dX9_pass_4 : decode cX9_pass 4 = .ok (.invokestatic 94, 3) := by decide +kernel
theorem dX9_pass_7 : decode cX9_pass 7 = .ok (.ifCond .ne 6, 3) := by decide +kernel
theorem dX9_pass_10 : decode cX9_pass 10 = .ok (.ldc 98, 2) := by decide +kernel
theorem dX9_pass_12 : decode cX9_pass 12 = .ok (.ireturn, 1) := by decide +kernel
theorem dX9_pass_13 : decode cX9_pass 13 = .ok (.aload_n 0, 1) := by decide +kernel
theorem dX9_pass_14 : decode cX9_pass 14 = .ok (.getfield 82, 3) := by decide +kernel
theorem dX9_pass_17 : decode cX9_pass 17 = .ok (.iload_n 1, 1) := by decide +kernel
theorem dX9_pass_18 : decode cX9_pass 18 = .ok (.iadd, 1) := by decide +kernel
theorem dX9_pass_19 : decode cX9_pass 19 = .ok (.invokestatic 91, 3) := by decide +kernel
theorem dX9_pass_22 : decode cX9_pass 22 = .ok (.ifCond .ne 6, 3) := by decide +kernel
theorem dX9_pass_25 : decode cX9_pass 25 = .ok (.ldc 105, 2) := by decide +kernel
theorem dX9_pass_27 : decode cX9_pass 27 = .ok (.ireturn, 1) := by decide +kernel
theorem dX9_pass_28 : decode cX9_pass 28 = .ok (.aload_n 0, 1) := by decide +kernel
theorem dX9_pass_29 : decode cX9_pass 29 = .ok (.dup, 1) := by decide +kernel
theorem dX9_pass_30 : decode cX9_pass 30 = .ok (.getfield 82, 3) := by decide +kernel
theorem dX9_pass_33 : decode cX9_pass 33 = .ok (.iload_n 1, 1) := by decide +kernel
theorem dX9_pass_34 : decode cX9_pass 34 = .ok (.iadd, 1) := by decide +kernel
theorem dX9_pass_35 : decode cX9_pass 35 = .ok (.putfield 82, 3) := by decide +kernel
theorem dX9_pass_38 : decode cX9_pass 38 = .ok (.aload_n 0, 1) := by decide +kernel
theorem dX9_pass_39 : decode cX9_pass 39 = .ok (.getfield 82, 3) := by decide +kernel
theorem dX9_pass_42 : decode cX9_pass 42 = .ok (.ireturn, 1) := by decide +kernel
theorem dX9_stand_0 : decode cX9_stand 0 = .ok (.iload_n 1, 1) := by decide +kernel
theorem dX9_stand_1 : decode cX9_stand 1 = .ok (.iload_n 2, 1) := by decide +kernel
theorem dX9_stand_2 : decode cX9_stand 2 = .ok (.iload_n 3, 1) := by decide +kernel
theorem dX9_stand_3 : decode cX9_stand 3 = .ok (.iload 4, 2) := by decide +kernel
theorem dX9_stand_5 : decode cX9_stand 5 = .ok (.invokestatic 153, 3) := by decide +kernel
theorem dX9_stand_8 : decode cX9_stand 8 = .ok (.ifCond .ne 6, 3) := by decide +kernel
theorem dX9_stand_11 : decode cX9_stand 11 = .ok (.ldc 98, 2) := by decide +kernel
theorem dX9_stand_13 : decode cX9_stand 13 = .ok (.ireturn, 1) := by decide +kernel
theorem dX9_stand_14 : decode cX9_stand 14 = .ok (.aload_n 0, 1) := by decide +kernel
theorem dX9_stand_15 : decode cX9_stand 15 = .ok (.getfield 75, 3) := by decide +kernel
theorem dX9_stand_18 : decode cX9_stand 18 = .ok (.bipush 6, 2) := by decide +kernel
theorem dX9_stand_20 : decode cX9_stand 20 = .ok (.if_icmp .lt 6, 3) := by decide +kernel
theorem dX9_stand_23 : decode cX9_stand 23 = .ok (.ldc 105, 2) := by decide +kernel
theorem dX9_stand_25 : decode cX9_stand 25 = .ok (.ireturn, 1) := by decide +kernel
theorem dX9_stand_26 : decode cX9_stand 26 = .ok (.aload_n 0, 1) := by decide +kernel
theorem dX9_stand_27 : decode cX9_stand 27 = .ok (.getfield 17, 3) := by decide +kernel
theorem dX9_stand_30 : decode cX9_stand 30 = .ok (.aload_n 0, 1) := by decide +kernel
theorem dX9_stand_31 : decode cX9_stand 31 = .ok (.getfield 75, 3) := by decide +kernel
theorem dX9_stand_34 : decode cX9_stand 34 = .ok (.aaload, 1) := by decide +kernel
theorem dX9_stand_35 : decode cX9_stand 35 = .ok (.iload_n 1, 1) := by decide +kernel
theorem dX9_stand_36 : decode cX9_stand 36 = .ok (.iload_n 2, 1) := by decide +kernel
theorem dX9_stand_37 : decode cX9_stand 37 = .ok (.iload_n 3, 1) := by decide +kernel
theorem dX9_stand_38 : decode cX9_stand 38 = .ok (.iload 4, 2) := by decide +kernel
theorem dX9_stand_40 : decode cX9_stand 40 = .ok (.invokevirtual 157, 3) := by decide +kernel
theorem dX9_stand_43 : decode cX9_stand 43 = .ok (.aload_n 0, 1) := by decide +kernel
theorem dX9_stand_44 : decode cX9_stand 44 = .ok (.dup, 1) := by decide +kernel
theorem dX9_stand_45 : decode cX9_stand 45 = .ok (.getfield 75, 3) := by decide +kernel
theorem dX9_stand_48 : decode cX9_stand 48 = .ok (.iconst 1, 1) := by decide +kernel
theorem dX9_stand_49 : decode cX9_stand 49 = .ok (.iadd, 1) := by decide +kernel
theorem dX9_stand_50 : decode cX9_stand 50 = .ok (.putfield 75, 3) := by decide +kernel
theorem dX9_stand_53 : decode cX9_stand 53 = .ok (.aload_n 0, 1) := by decide +kernel
theorem dX9_stand_54 : decode cX9_stand 54 = .ok (.getfield 75, 3) := by decide +kernel
theorem dX9_stand_57 : decode cX9_stand 57 = .ok (.iconst 1, 1) := by decide +kernel
theorem dX9_stand_58 : decode cX9_stand 58 = .ok (.isub, 1) := by decide +kernel
theorem dX9_stand_59 : decode cX9_stand 59 = .ok (.ireturn, 1) := by decide +kernel
theorem dX9_changes_0 : decode cX9_changes 0 = .ok (.aload_n 0, 1) := by decide +kernel
theorem dX9_changes_1 : decode cX9_changes 1 = .ok (.iload_n 1, 1) := by decide +kernel
theorem dX9_changes_2 : decode cX9_changes 2 = .ok (.iload_n 2, 1) := by decide +kernel
theorem dX9_changes_3 : decode cX9_changes 3 = .ok (.invokevirtual 268, 3) := by decide +kernel
theorem dX9_changes_6 : decode cX9_changes 6 = .ok (.istore_n 3, 1) := by decide +kernel
theorem dX9_changes_7 : decode cX9_changes 7 = .ok (.iload_n 3, 1) := by decide +kernel
theorem dX9_changes_8 : decode cX9_changes 8 = .ok (.ifCond .eq 5, 3) := by decide +kernel
theorem dX9_changes_11 : decode cX9_changes 11 = .ok (.iload_n 3, 1) := by decide +kernel
theorem dX9_changes_12 : decode cX9_changes 12 = .ok (.ireturn, 1) := by decide +kernel
theorem dX9_changes_13 : decode cX9_changes 13 = .ok (.iconst 0, 1) := by decide +kernel
theorem dX9_changes_14 : decode cX9_changes 14 = .ok (.istore 4, 2) := by decide +kernel
theorem dX9_changes_16 : decode cX9_changes 16 = .ok (.iconst 0, 1) := by decide +kernel
theorem dX9_changes_17 : decode cX9_changes 17 = .ok (.istore 5, 2) := by decide +kernel
theorem dX9_changes_19 : decode cX9_changes 19 = .ok (.iload 5, 2) := by decide +kernel
theorem dX9_changes_21 : decode cX9_changes 21 = .ok (.bipush 10, 2) := by decide +kernel
theorem dX9_changes_23 : decode cX9_changes 23 = .ok (.if_icmp .ge 28, 3) := by decide +kernel
theorem dX9_changes_26 : decode cX9_changes 26 = .ok (.aload_n 0, 1) := by decide +kernel
theorem dX9_changes_27 : decode cX9_changes 27 = .ok (.aload_n 0, 1) := by decide +kernel
theorem dX9_changes_28 : decode cX9_changes 28 = .ok (.getfield 17, 3) := by decide +kernel
theorem dX9_changes_31 : decode cX9_changes 31 = .ok (.iload_n 1, 1) := by decide +kernel
theorem dX9_changes_32 : decode cX9_changes 32 = .ok (.aaload, 1) := by decide +kernel
theorem dX9_changes_33 : decode cX9_changes 33 = .ok (.iload 5, 2) := by decide +kernel
theorem dX9_changes_35 : decode cX9_changes 35 = .ok (.iload_n 2, 1) := by decide +kernel
theorem dX9_changes_36 : decode cX9_changes 36 = .ok (.invokevirtual 271, 3) := by decide +kernel
theorem dX9_changes_39 : decode cX9_changes 39 = .ok (.ifCond .eq 6, 3) := by decide +kernel
theorem dX9_changes_42 : decode cX9_changes 42 = .ok (.iinc 4 1, 3) := by decide +kernel
theorem dX9_changes_45 : decode cX9_changes 45 = .ok (.iinc 5 1, 3) := by decide +kernel
theorem dX9_changes_48 : decode cX9_changes 48 = .ok (.goto (-29), 3) := by decide +kernel
theorem dX9_changes_51 : decode cX9_changes 51 = .ok (.iload 4, 2) := by decide +kernel
theorem dX9_changes_53 : decode cX9_changes 53 = .ok (.ireturn, 1) := by decide +kernel
theorem dX9_change_0 : decode cX9_change 0 = .ok (.aload_n 0, 1) := by decide +kernel
theorem dX9_change_1 : decode cX9_change 1 = .ok (.iload_n 1, 1) := by decide +kernel
theorem dX9_change_2 : decode cX9_change 2 = .ok (.iload_n 2, 1) := by decide +kernel
theorem dX9_change_3 : decode cX9_change 3 = .ok (.invokevirtual 268, 3) := by decide +kernel
theorem dX9_change_6 : decode cX9_change 6 = .ok (.istore 4, 2) := by decide +kernel
theorem dX9_change_8 : decode cX9_change 8 = .ok (.iload 4, 2) := by decide +kernel
theorem dX9_change_10 : decode cX9_change 10 = .ok (.ifCond .eq 6, 3) := by decide +kernel
theorem dX9_change_13 : decode cX9_change 13 = .ok (.iload 4, 2) := by decide +kernel
theorem dX9_change_15 : decode cX9_change 15 = .ok (.ireturn, 1) := by decide +kernel
theorem dX9_change_16 : decode cX9_change 16 = .ok (.iconst 0, 1) := by decide +kernel
theorem dX9_change_17 : decode cX9_change 17 = .ok (.istore 5, 2) := by decide +kernel
theorem dX9_change_19 : decode cX9_change 19 = .ok (.iconst 0, 1) := by decide +kernel
theorem dX9_change_20 : decode cX9_change 20 = .ok (.istore 6, 2) := by decide +kernel
theorem dX9_change_22 : decode cX9_change 22 = .ok (.iload 6, 2) := by decide +kernel
theorem dX9_change_24 : decode cX9_change 24 = .ok (.bipush 10, 2) := by decide +kernel
theorem dX9_change_26 : decode cX9_change 26 = .ok (.if_icmp .ge 61, 3) := by decide +kernel
theorem dX9_change_29 : decode cX9_change 29 = .ok (.aload_n 0, 1) := by decide +kernel
theorem dX9_change_30 : decode cX9_change 30 = .ok (.aload_n 0, 1) := by decide +kernel
theorem dX9_change_31 : decode cX9_change 31 = .ok (.getfield 17, 3) := by decide +kernel
theorem dX9_change_34 : decode cX9_change 34 = .ok (.iload_n 1, 1) := by decide +kernel
theorem dX9_change_35 : decode cX9_change 35 = .ok (.aaload, 1) := by decide +kernel
theorem dX9_change_36 : decode cX9_change 36 = .ok (.iload 6, 2) := by decide +kernel
theorem dX9_change_38 : decode cX9_change 38 = .ok (.iload_n 2, 1) := by decide +kernel
theorem dX9_change_39 : decode cX9_change 39 = .ok (.invokevirtual 271, 3) := by decide +kernel
theorem dX9_change_42 : decode cX9_change 42 = .ok (.ifCond .eq 39, 3) := by decide +kernel
theorem dX9_change_45 : decode cX9_change 45 = .ok (.iload 5, 2) := by decide +kernel
theorem dX9_change_47 : decode cX9_change 47 = .ok (.iload_n 3, 1) := by decide +kernel
theorem dX9_change_48 : decode cX9_change 48 = .ok (.if_icmp .ne 30, 3) := by decide +kernel
theorem dX9_change_51 : decode cX9_change 51 = .ok (.aload_n 0, 1) := by decide +kernel
theorem dX9_change_52 : decode cX9_change 52 = .ok (.aload_n 0, 1) := by decide +kernel
theorem dX9_change_53 : decode cX9_change 53 = .ok (.getfield 17, 3) := by decide +kernel
theorem dX9_change_56 : decode cX9_change 56 = .ok (.iload_n 1, 1) := by decide +kernel
theorem dX9_change_57 : decode cX9_change 57 = .ok (.aaload, 1) := by decide +kernel
theorem dX9_change_58 : decode cX9_change 58 = .ok (.iload 6, 2) := by decide +kernel
theorem dX9_change_60 : decode cX9_change 60 = .ok (.iload_n 2, 1) := by decide +kernel
theorem dX9_change_61 : decode cX9_change 61 = .ok (.invokevirtual 161, 3) := by decide +kernel
theorem dX9_change_64 : decode cX9_change 64 = .ok (.ifCond .eq 11, 3) := by decide +kernel
theorem dX9_change_67 : decode cX9_change 67 = .ok (.iload 6, 2) := by decide +kernel
theorem dX9_change_69 : decode cX9_change 69 = .ok (.bipush 100, 2) := by decide +kernel
theorem dX9_change_71 : decode cX9_change 71 = .ok (.iadd, 1) := by decide +kernel
theorem dX9_change_72 : decode cX9_change 72 = .ok (.goto 5, 3) := by decide +kernel
theorem dX9_change_75 : decode cX9_change 75 = .ok (.iload 6, 2) := by decide +kernel
theorem dX9_change_77 : decode cX9_change 77 = .ok (.ireturn, 1) := by decide +kernel
theorem dX9_change_78 : decode cX9_change 78 = .ok (.iinc 5 1, 3) := by decide +kernel
theorem dX9_change_81 : decode cX9_change 81 = .ok (.iinc 6 1, 3) := by decide +kernel
theorem dX9_change_84 : decode cX9_change 84 = .ok (.goto (-62), 3) := by decide +kernel
theorem dX9_change_87 : decode cX9_change 87 = .ok (.ldc 165, 2) := by decide +kernel
theorem dX9_change_89 : decode cX9_change 89 = .ok (.ireturn, 1) := by decide +kernel
theorem dX9_still_0 : decode cX9_still 0 = .ok (.aload_n 0, 1) := by decide +kernel
theorem dX9_still_1 : decode cX9_still 1 = .ok (.iload_n 1, 1) := by decide +kernel
theorem dX9_still_2 : decode cX9_still 2 = .ok (.invokevirtual 274, 3) := by decide +kernel
theorem dX9_still_5 : decode cX9_still 5 = .ok (.ifCond .eq 10, 3) := by decide +kernel
theorem dX9_still_8 : decode cX9_still 8 = .ok (.iload_n 2, 1) := by decide +kernel
theorem dX9_still_9 : decode cX9_still 9 = .ok (.invokestatic 86, 3) := by decide +kernel
theorem dX9_still_12 : decode cX9_still 12 = .ok (.ifCond .ne 6, 3) := by decide +kernel
theorem dX9_still_15 : decode cX9_still 15 = .ok (.ldc 90, 2) := by decide +kernel
theorem dX9_still_17 : decode cX9_still 17 = .ok (.ireturn, 1) := by decide +kernel
theorem dX9_still_18 : decode cX9_still 18 = .ok (.aload_n 0, 1) := by decide +kernel
theorem dX9_still_19 : decode cX9_still 19 = .ok (.aload_n 0, 1) := by decide +kernel
theorem dX9_still_20 : decode cX9_still 20 = .ok (.getfield 17, 3) := by decide +kernel
theorem dX9_still_23 : decode cX9_still 23 = .ok (.iload_n 1, 1) := by decide +kernel
theorem dX9_still_24 : decode cX9_still 24 = .ok (.aaload, 1) := by decide +kernel
theorem dX9_still_25 : decode cX9_still 25 = .ok (.iload_n 2, 1) := by decide +kernel
theorem dX9_still_26 : decode cX9_still 26 = .ok (.aload_n 0, 1) := by decide +kernel
theorem dX9_still_27 : decode cX9_still 27 = .ok (.getfield 82, 3) := by decide +kernel
theorem dX9_still_30 : decode cX9_still 30 = .ok (.invokevirtual 161, 3) := by decide +kernel
theorem dX9_still_33 : decode cX9_still 33 = .ok (.istore_n 3, 1) := by decide +kernel
theorem dX9_still_34 : decode cX9_still 34 = .ok (.iconst 0, 1) := by decide +kernel
theorem dX9_still_35 : decode cX9_still 35 = .ok (.istore 4, 2) := by decide +kernel
theorem dX9_still_37 : decode cX9_still 37 = .ok (.aload_n 0, 1) := by decide +kernel
theorem dX9_still_38 : decode cX9_still 38 = .ok (.getfield 82, 3) := by decide +kernel
theorem dX9_still_41 : decode cX9_still 41 = .ok (.iconst 1, 1) := by decide +kernel
theorem dX9_still_42 : decode cX9_still 42 = .ok (.iadd, 1) := by decide +kernel
theorem dX9_still_43 : decode cX9_still 43 = .ok (.istore 5, 2) := by decide +kernel
theorem dX9_still_45 : decode cX9_still 45 = .ok (.iload 5, 2) := by decide +kernel
theorem dX9_still_47 : decode cX9_still 47 = .ok (.sipush 200, 3) := by decide +kernel
theorem dX9_still_50 : decode cX9_still 50 = .ok (.if_icmp .ge 32, 3) := by decide +kernel
theorem dX9_still_53 : decode cX9_still 53 = .ok (.aload_n 0, 1) := by decide +kernel
theorem dX9_still_54 : decode cX9_still 54 = .ok (.aload_n 0, 1) := by decide +kernel
theorem dX9_still_55 : decode cX9_still 55 = .ok (.getfield 17, 3) := by decide +kernel
theorem dX9_still_58 : decode cX9_still 58 = .ok (.iload_n 1, 1) := by decide +kernel
theorem dX9_still_59 : decode cX9_still 59 = .ok (.aaload, 1) := by decide +kernel
theorem dX9_still_60 : decode cX9_still 60 = .ok (.iload_n 2, 1) := by decide +kernel
theorem dX9_still_61 : decode cX9_still 61 = .ok (.iload 5, 2) := by decide +kernel
theorem dX9_still_63 : decode cX9_still 63 = .ok (.invokevirtual 161, 3) := by decide +kernel
theorem dX9_still_66 : decode cX9_still 66 = .ok (.iload_n 3, 1) := by decide +kernel
theorem dX9_still_67 : decode cX9_still 67 = .ok (.if_icmp .eq 6, 3) := by decide +kernel
theorem dX9_still_70 : decode cX9_still 70 = .ok (.goto 12, 3) := by decide +kernel
theorem dX9_still_73 : decode cX9_still 73 = .ok (.iinc 4 1, 3) := by decide +kernel
theorem dX9_still_76 : decode cX9_still 76 = .ok (.iinc 5 1, 3) := by decide +kernel
theorem dX9_still_79 : decode cX9_still 79 = .ok (.goto (-34), 3) := by decide +kernel
theorem dX9_still_82 : decode cX9_still 82 = .ok (.iload 4, 2) := by decide +kernel
theorem dX9_still_84 : decode cX9_still 84 = .ok (.ireturn, 1) := by decide +kernel
theorem dX9_load_0 : decode cX9_load 0 = .ok (.iload_n 1, 1) := by decide +kernel
theorem dX9_load_1 : decode cX9_load 1 = .ok (.iconst 0, 1) := by decide +kernel
theorem dX9_load_2 : decode cX9_load 2 = .ok (.bipush 9, 2) := by decide +kernel
theorem dX9_load_4 : decode cX9_load 4 = .ok (.invokestatic 94, 3) := by decide +kernel
theorem dX9_load_7 : decode cX9_load 7 = .ok (.ifCond .ne 6, 3) := by decide +kernel
theorem dX9_load_10 : decode cX9_load 10 = .ok (.ldc 98, 2) := by decide +kernel
theorem dX9_load_12 : decode cX9_load 12 = .ok (.ireturn, 1) := by decide +kernel
theorem dX9_load_13 : decode cX9_load 13 = .ok (.aload_n 0, 1) := by decide +kernel
theorem dX9_load_14 : decode cX9_load 14 = .ok (.invokevirtual 277, 3) := by decide +kernel
theorem dX9_load_17 : decode cX9_load 17 = .ok (.aload_n 0, 1) := by decide +kernel
theorem dX9_load_18 : decode cX9_load 18 = .ok (.getfield 67, 3) := by decide +kernel
theorem dX9_load_21 : decode cX9_load 21 = .ok (.getfield 280, 3) := by decide +kernel
theorem dX9_load_24 : decode cX9_load 24 = .ok (.iload_n 1, 1) := by decide +kernel
theorem dX9_load_25 : decode cX9_load 25 = .ok (.iaload, 1) := by decide +kernel
theorem dX9_load_26 : decode cX9_load 26 = .ok (.ireturn, 1) := by decide +kernel
theorem dX9_share_0 : decode cX9_share 0 = .ok (.iload_n 1, 1) := by decide +kernel
theorem dX9_share_1 : decode cX9_share 1 = .ok (.iconst 1, 1) := by decide +kernel
theorem dX9_share_2 : decode cX9_share 2 = .ok (.iconst 5, 1) := by decide +kernel
theorem dX9_share_3 : decode cX9_share 3 = .ok (.invokestatic 94, 3) := by decide +kernel
theorem dX9_share_6 : decode cX9_share 6 = .ok (.ifCond .ne 6, 3) := by decide +kernel
theorem dX9_share_9 : decode cX9_share 9 = .ok (.ldc 98, 2) := by decide +kernel
theorem dX9_share_11 : decode cX9_share 11 = .ok (.ireturn, 1) := by decide +kernel
theorem dX9_share_12 : decode cX9_share 12 = .ok (.aload_n 0, 1) := by decide +kernel
theorem dX9_share_13 : decode cX9_share 13 = .ok (.invokevirtual 277, 3) := by decide +kernel
theorem dX9_share_16 : decode cX9_share 16 = .ok (.aload_n 0, 1) := by decide +kernel
theorem dX9_share_17 : decode cX9_share 17 = .ok (.getfield 67, 3) := by decide +kernel
theorem dX9_share_20 : decode cX9_share 20 = .ok (.iload_n 1, 1) := by decide +kernel
theorem dX9_share_21 : decode cX9_share 21 = .ok (.invokevirtual 283, 3) := by decide +kernel
theorem dX9_share_24 : decode cX9_share 24 = .ok (.ireturn, 1) := by decide +kernel
theorem dX9_gets_0 : decode cX9_gets 0 = .ok (.iload_n 1, 1) := by decide +kernel
theorem dX9_gets_1 : decode cX9_gets 1 = .ok (.iconst 1, 1) := by decide +kernel
theorem dX9_gets_2 : decode cX9_gets 2 = .ok (.iconst 5, 1) := by decide +kernel
theorem dX9_gets_3 : decode cX9_gets 3 = .ok (.invokestatic 94, 3) := by decide +kernel
theorem dX9_gets_6 : decode cX9_gets 6 = .ok (.ifCond .eq 14, 3) := by decide +kernel
theorem dX9_gets_9 : decode cX9_gets 9 = .ok (.iload_n 2, 1) := by decide +kernel
theorem dX9_gets_10 : decode cX9_gets 10 = .ok (.iconst 0, 1) := by decide +kernel
theorem dX9_gets_11 : decode cX9_gets 11 = .ok (.iload_n 1, 1) := by decide +kernel
theorem dX9_gets_12 : decode cX9_gets 12 = .ok (.iconst 1, 1) := by decide +kernel
theorem dX9_gets_13 : decode cX9_gets 13 = .ok (.isub, 1) := by decide +kernel
theorem dX9_gets_14 : decode cX9_gets 14 = .ok (.invokestatic 94, 3) := by decide +kernel
theorem dX9_gets_17 : decode cX9_gets 17 = .ok (.ifCond .ne 6, 3) := by decide +kernel
theorem dX9_gets_20 : decode cX9_gets 20 = .ok (.ldc 98, 2) := by decide +kernel
theorem dX9_gets_22 : decode cX9_gets 22 = .ok (.ireturn, 1) := by decide +kernel
theorem dX9_gets_23 : decode cX9_gets 23 = .ok (.aload_n 0, 1) := by decide +kernel
theorem dX9_gets_24 : decode cX9_gets 24 = .ok (.invokevirtual 277, 3) := by decide +kernel
theorem dX9_gets_27 : decode cX9_gets 27 = .ok (.aload_n 0, 1) := by decide +kernel
theorem dX9_gets_28 : decode cX9_gets 28 = .ok (.getfield 67, 3) := by decide +kernel
theorem dX9_gets_31 : decode cX9_gets 31 = .ok (.iload_n 1, 1) := by decide +kernel
theorem dX9_gets_32 : decode cX9_gets 32 = .ok (.iload_n 2, 1) := by decide +kernel
theorem dX9_gets_33 : decode cX9_gets 33 = .ok (.invokevirtual 286, 3) := by decide +kernel
theorem dX9_gets_36 : decode cX9_gets 36 = .ok (.ireturn, 1) := by decide +kernel
theorem dX9_blur_0 : decode cX9_blur 0 = .ok (.aload_n 0, 1) := by decide +kernel
theorem dX9_blur_1 : decode cX9_blur 1 = .ok (.iload_n 1, 1) := by decide +kernel
theorem dX9_blur_2 : decode cX9_blur 2 = .ok (.iload_n 2, 1) := by decide +kernel
theorem dX9_blur_3 : decode cX9_blur 3 = .ok (.invokevirtual 110, 3) := by decide +kernel
theorem dX9_blur_6 : decode cX9_blur 6 = .ok (.ifCond .ne 6, 3) := by decide +kernel
theorem dX9_blur_9 : decode cX9_blur 9 = .ok (.ldc 90, 2) := by decide +kernel
theorem dX9_blur_11 : decode cX9_blur 11 = .ok (.ireturn, 1) := by decide +kernel
theorem dX9_blur_12 : decode cX9_blur 12 = .ok (.iload_n 3, 1) := by decide +kernel
theorem dX9_blur_13 : decode cX9_blur 13 = .ok (.iload 4, 2) := by decide +kernel
theorem dX9_blur_15 : decode cX9_blur 15 = .ok (.invokestatic 289, 3) := by decide +kernel
theorem dX9_blur_18 : decode cX9_blur 18 = .ok (.ifCond .ne 6, 3) := by decide +kernel
theorem dX9_blur_21 : decode cX9_blur 21 = .ok (.ldc 98, 2) := by decide +kernel
theorem dX9_blur_23 : decode cX9_blur 23 = .ok (.ireturn, 1) := by decide +kernel
theorem dX9_blur_24 : decode cX9_blur 24 = .ok (.iload 5, 2) := by decide +kernel
theorem dX9_blur_26 : decode cX9_blur 26 = .ok (.ifCond .eq 17, 3) := by decide +kernel
theorem dX9_blur_29 : decode cX9_blur 29 = .ok (.aload_n 0, 1) := by decide +kernel
theorem dX9_blur_30 : decode cX9_blur 30 = .ok (.getfield 11, 3) := by decide +kernel
theorem dX9_blur_33 : decode cX9_blur 33 = .ok (.iload_n 1, 1) := by decide +kernel
theorem dX9_blur_34 : decode cX9_blur 34 = .ok (.aaload, 1) := by decide +kernel
theorem dX9_blur_35 : decode cX9_blur 35 = .ok (.getfield 128, 3) := by decide +kernel
theorem dX9_blur_38 : decode cX9_blur 38 = .ok (.iload_n 2, 1) := by decide +kernel
theorem dX9_blur_39 : decode cX9_blur 39 = .ok (.iaload, 1) := by decide +kernel
theorem dX9_blur_40 : decode cX9_blur 40 = .ok (.goto 14, 3) := by decide +kernel
theorem dX9_blur_43 : decode cX9_blur 43 = .ok (.aload_n 0, 1) := by decide +kernel
theorem dX9_blur_44 : decode cX9_blur 44 = .ok (.getfield 11, 3) := by decide +kernel
theorem dX9_blur_47 : decode cX9_blur 47 = .ok (.iload_n 1, 1) := by decide +kernel
theorem dX9_blur_48 : decode cX9_blur 48 = .ok (.aaload, 1) := by decide +kernel
theorem dX9_blur_49 : decode cX9_blur 49 = .ok (.getfield 125, 3) := by decide +kernel
theorem dX9_blur_52 : decode cX9_blur 52 = .ok (.iload_n 2, 1) := by decide +kernel
theorem dX9_blur_53 : decode cX9_blur 53 = .ok (.iaload, 1) := by decide +kernel
theorem dX9_blur_54 : decode cX9_blur 54 = .ok (.istore 6, 2) := by decide +kernel
theorem dX9_blur_56 : decode cX9_blur 56 = .ok (.iload 6, 2) := by decide +kernel
theorem dX9_blur_58 : decode cX9_blur 58 = .ok (.iload 4, 2) := by decide +kernel
theorem dX9_blur_60 : decode cX9_blur 60 = .ok (.iadd, 1) := by decide +kernel
theorem dX9_blur_61 : decode cX9_blur 61 = .ok (.iload_n 3, 1) := by decide +kernel
theorem dX9_blur_62 : decode cX9_blur 62 = .ok (.idiv, 1) := by decide +kernel
theorem dX9_blur_63 : decode cX9_blur 63 = .ok (.ireturn, 1) := by decide +kernel
theorem dX9_together_0 : decode cX9_together 0 = .ok (.aload_n 0, 1) := by decide +kernel
theorem dX9_together_1 : decode cX9_together 1 = .ok (.iload_n 1, 1) := by decide +kernel
theorem dX9_together_2 : decode cX9_together 2 = .ok (.iload_n 2, 1) := by decide +kernel
theorem dX9_together_3 : decode cX9_together 3 = .ok (.invokevirtual 110, 3) := by decide +kernel
theorem dX9_together_6 : decode cX9_together 6 = .ok (.ifCond .ne 6, 3) := by decide +kernel
theorem dX9_together_9 : decode cX9_together 9 = .ok (.ldc 90, 2) := by decide +kernel
theorem dX9_together_11 : decode cX9_together 11 = .ok (.ireturn, 1) := by decide +kernel
theorem dX9_together_12 : decode cX9_together 12 = .ok (.iload_n 3, 1) := by decide +kernel
theorem dX9_together_13 : decode cX9_together 13 = .ok (.iload 4, 2) := by decide +kernel
theorem dX9_together_15 : decode cX9_together 15 = .ok (.invokestatic 289, 3) := by decide +kernel
theorem dX9_together_18 : decode cX9_together 18 = .ok (.ifCond .eq 13, 3) := by decide +kernel
theorem dX9_together_21 : decode cX9_together 21 = .ok (.iload 5, 2) := by decide +kernel
theorem dX9_together_23 : decode cX9_together 23 = .ok (.iload 6, 2) := by decide +kernel
theorem dX9_together_25 : decode cX9_together 25 = .ok (.invokestatic 289, 3) := by decide +kernel
theorem dX9_together_28 : decode cX9_together 28 = .ok (.ifCond .ne 6, 3) := by decide +kernel
theorem dX9_together_31 : decode cX9_together 31 = .ok (.ldc 98, 2) := by decide +kernel
theorem dX9_together_33 : decode cX9_together 33 = .ok (.ireturn, 1) := by decide +kernel
theorem dX9_together_34 : decode cX9_together 34 = .ok (.aload_n 0, 1) := by decide +kernel
theorem dX9_together_35 : decode cX9_together 35 = .ok (.getfield 11, 3) := by decide +kernel
theorem dX9_together_38 : decode cX9_together 38 = .ok (.iload_n 1, 1) := by decide +kernel
theorem dX9_together_39 : decode cX9_together 39 = .ok (.aaload, 1) := by decide +kernel
theorem dX9_together_40 : decode cX9_together 40 = .ok (.astore 7, 2) := by decide +kernel
theorem dX9_together_42 : decode cX9_together 42 = .ok (.aload 7, 2) := by decide +kernel
theorem dX9_together_44 : decode cX9_together 44 = .ok (.getfield 125, 3) := by decide +kernel
theorem dX9_together_47 : decode cX9_together 47 = .ok (.iload_n 2, 1) := by decide +kernel
theorem dX9_together_48 : decode cX9_together 48 = .ok (.iaload, 1) := by decide +kernel
theorem dX9_together_49 : decode cX9_together 49 = .ok (.iload_n 3, 1) := by decide +kernel
theorem dX9_together_50 : decode cX9_together 50 = .ok (.iload 4, 2) := by decide +kernel
theorem dX9_together_52 : decode cX9_together 52 = .ok (.iload 5, 2) := by decide +kernel
theorem dX9_together_54 : decode cX9_together 54 = .ok (.iload 6, 2) := by decide +kernel
theorem dX9_together_56 : decode cX9_together 56 = .ok (.invokestatic 292, 3) := by decide +kernel
theorem dX9_together_59 : decode cX9_together 59 = .ok (.aload 7, 2) := by decide +kernel
theorem dX9_together_61 : decode cX9_together 61 = .ok (.getfield 128, 3) := by decide +kernel
theorem dX9_together_64 : decode cX9_together 64 = .ok (.iload_n 2, 1) := by decide +kernel
theorem dX9_together_65 : decode cX9_together 65 = .ok (.iaload, 1) := by decide +kernel
theorem dX9_together_66 : decode cX9_together 66 = .ok (.iload_n 3, 1) := by decide +kernel
theorem dX9_together_67 : decode cX9_together 67 = .ok (.iload 4, 2) := by decide +kernel
theorem dX9_together_69 : decode cX9_together 69 = .ok (.iload 5, 2) := by decide +kernel
theorem dX9_together_71 : decode cX9_together 71 = .ok (.iload 6, 2) := by decide +kernel
theorem dX9_together_73 : decode cX9_together 73 = .ok (.invokestatic 292, 3) := by decide +kernel
theorem dX9_together_76 : decode cX9_together 76 = .ok (.imul, 1) := by decide +kernel
theorem dX9_together_77 : decode cX9_together 77 = .ok (.ireturn, 1) := by decide +kernel
theorem dX9_count_0 : decode cX9_count 0 = .ok (.iload_n 1, 1) := by decide +kernel
theorem dX9_count_1 : decode cX9_count 1 = .ok (.tableswitch 60 0 4 #[35, 40, 45, 50, 55], 35) := by decide +kernel
theorem dX9_count_36 : decode cX9_count 36 = .ok (.aload_n 0, 1) := by decide +kernel
theorem dX9_count_37 : decode cX9_count 37 = .ok (.invokevirtual 295, 3) := by decide +kernel
theorem dX9_count_40 : decode cX9_count 40 = .ok (.ireturn, 1) := by decide +kernel
theorem dX9_count_41 : decode cX9_count 41 = .ok (.aload_n 0, 1) := by decide +kernel
theorem dX9_count_42 : decode cX9_count 42 = .ok (.invokevirtual 298, 3) := by decide +kernel
theorem dX9_count_45 : decode cX9_count 45 = .ok (.ireturn, 1) := by decide +kernel
theorem dX9_count_46 : decode cX9_count 46 = .ok (.aload_n 0, 1) := by decide +kernel
theorem dX9_count_47 : decode cX9_count 47 = .ok (.invokevirtual 301, 3) := by decide +kernel
theorem dX9_count_50 : decode cX9_count 50 = .ok (.ireturn, 1) := by decide +kernel
theorem dX9_count_51 : decode cX9_count 51 = .ok (.aload_n 0, 1) := by decide +kernel
theorem dX9_count_52 : decode cX9_count 52 = .ok (.getfield 75, 3) := by decide +kernel
theorem dX9_count_55 : decode cX9_count 55 = .ok (.ireturn, 1) := by decide +kernel
theorem dX9_count_56 : decode cX9_count 56 = .ok (.aload_n 0, 1) := by decide +kernel
theorem dX9_count_57 : decode cX9_count 57 = .ok (.getfield 82, 3) := by decide +kernel
theorem dX9_count_60 : decode cX9_count 60 = .ok (.ireturn, 1) := by decide +kernel
theorem dX9_count_61 : decode cX9_count 61 = .ok (.ldc 98, 2) := by decide +kernel
theorem dX9_count_63 : decode cX9_count 63 = .ok (.ireturn, 1) := by decide +kernel
theorem dX9_isWithin_0 : decode cX9_isWithin 0 = .ok (.iload_n 0, 1) := by decide +kernel
theorem dX9_isWithin_1 : decode cX9_isWithin 1 = .ok (.iload_n 1, 1) := by decide +kernel
theorem dX9_isWithin_2 : decode cX9_isWithin 2 = .ok (.if_icmp .lt 12, 3) := by decide +kernel
theorem dX9_isWithin_5 : decode cX9_isWithin 5 = .ok (.iload_n 0, 1) := by decide +kernel
theorem dX9_isWithin_6 : decode cX9_isWithin 6 = .ok (.iload_n 2, 1) := by decide +kernel
theorem dX9_isWithin_7 : decode cX9_isWithin 7 = .ok (.if_icmp .gt 7, 3) := by decide +kernel
theorem dX9_isWithin_10 : decode cX9_isWithin 10 = .ok (.iconst 1, 1) := by decide +kernel
theorem dX9_isWithin_11 : decode cX9_isWithin 11 = .ok (.goto 4, 3) := by decide +kernel
theorem dX9_isWithin_14 : decode cX9_isWithin 14 = .ok (.iconst 0, 1) := by decide +kernel
theorem dX9_isWithin_15 : decode cX9_isWithin 15 = .ok (.ireturn, 1) := by decide +kernel
theorem dX9_isThing_0 : decode cX9_isThing 0 = .ok (.iload_n 0, 1) := by decide +kernel
theorem dX9_isThing_1 : decode cX9_isThing 1 = .ok (.iconst 0, 1) := by decide +kernel
theorem dX9_isThing_2 : decode cX9_isThing 2 = .ok (.bipush 9, 2) := by decide +kernel
theorem dX9_isThing_4 : decode cX9_isThing 4 = .ok (.invokestatic 94, 3) := by decide +kernel
theorem dX9_isThing_7 : decode cX9_isThing 7 = .ok (.ireturn, 1) := by decide +kernel
theorem dX9_isMinute_0 : decode cX9_isMinute 0 = .ok (.iload_n 0, 1) := by decide +kernel
theorem dX9_isMinute_1 : decode cX9_isMinute 1 = .ok (.iconst 0, 1) := by decide +kernel
theorem dX9_isMinute_2 : decode cX9_isMinute 2 = .ok (.sipush 199, 3) := by decide +kernel
theorem dX9_isMinute_5 : decode cX9_isMinute 5 = .ok (.invokestatic 94, 3) := by decide +kernel
theorem dX9_isMinute_8 : decode cX9_isMinute 8 = .ok (.ireturn, 1) := by decide +kernel
theorem dX9_isPlace_0 : decode cX9_isPlace 0 = .ok (.iload_n 0, 1) := by decide +kernel
theorem dX9_isPlace_1 : decode cX9_isPlace 1 = .ok (.iload_n 1, 1) := by decide +kernel
theorem dX9_isPlace_2 : decode cX9_isPlace 2 = .ok (.invokestatic 304, 3) := by decide +kernel
theorem dX9_isPlace_5 : decode cX9_isPlace 5 = .ok (.ifCond .eq 15, 3) := by decide +kernel
theorem dX9_isPlace_8 : decode cX9_isPlace 8 = .ok (.iload_n 2, 1) := by decide +kernel
theorem dX9_isPlace_9 : decode cX9_isPlace 9 = .ok (.iload_n 3, 1) := by decide +kernel
theorem dX9_isPlace_10 : decode cX9_isPlace 10 = .ok (.invokestatic 304, 3) := by decide +kernel
theorem dX9_isPlace_13 : decode cX9_isPlace 13 = .ok (.ifCond .eq 7, 3) := by decide +kernel
theorem dX9_isPlace_16 : decode cX9_isPlace 16 = .ok (.iconst 1, 1) := by decide +kernel
theorem dX9_isPlace_17 : decode cX9_isPlace 17 = .ok (.goto 4, 3) := by decide +kernel
theorem dX9_isPlace_20 : decode cX9_isPlace 20 = .ok (.iconst 0, 1) := by decide +kernel
theorem dX9_isPlace_21 : decode cX9_isPlace 21 = .ok (.ireturn, 1) := by decide +kernel
theorem dX9_isSpan_0 : decode cX9_isSpan 0 = .ok (.iload_n 0, 1) := by decide +kernel
theorem dX9_isSpan_1 : decode cX9_isSpan 1 = .ok (.sipush (-2000), 3) := by decide +kernel
theorem dX9_isSpan_4 : decode cX9_isSpan 4 = .ok (.if_icmp .lt 19, 3) := by decide +kernel
theorem dX9_isSpan_7 : decode cX9_isSpan 7 = .ok (.iload_n 1, 1) := by decide +kernel
theorem dX9_isSpan_8 : decode cX9_isSpan 8 = .ok (.sipush 2000, 3) := by decide +kernel
theorem dX9_isSpan_11 : decode cX9_isSpan 11 = .ok (.if_icmp .gt 12, 3) := by decide +kernel
theorem dX9_isSpan_14 : decode cX9_isSpan 14 = .ok (.iload_n 0, 1) := by decide +kernel
theorem dX9_isSpan_15 : decode cX9_isSpan 15 = .ok (.iload_n 1, 1) := by decide +kernel
theorem dX9_isSpan_16 : decode cX9_isSpan 16 = .ok (.if_icmp .gt 7, 3) := by decide +kernel
theorem dX9_isSpan_19 : decode cX9_isSpan 19 = .ok (.iconst 1, 1) := by decide +kernel
theorem dX9_isSpan_20 : decode cX9_isSpan 20 = .ok (.goto 4, 3) := by decide +kernel
theorem dX9_isSpan_23 : decode cX9_isSpan 23 = .ok (.iconst 0, 1) := by decide +kernel
theorem dX9_isSpan_24 : decode cX9_isSpan 24 = .ok (.ireturn, 1) := by decide +kernel
theorem dX9_isBlur_0 : decode cX9_isBlur 0 = .ok (.iload_n 0, 1) := by decide +kernel
theorem dX9_isBlur_1 : decode cX9_isBlur 1 = .ok (.iconst 1, 1) := by decide +kernel
theorem dX9_isBlur_2 : decode cX9_isBlur 2 = .ok (.bipush 20, 2) := by decide +kernel
theorem dX9_isBlur_4 : decode cX9_isBlur 4 = .ok (.invokestatic 94, 3) := by decide +kernel
theorem dX9_isBlur_7 : decode cX9_isBlur 7 = .ok (.ifCond .eq 18, 3) := by decide +kernel
theorem dX9_isBlur_10 : decode cX9_isBlur 10 = .ok (.iload_n 1, 1) := by decide +kernel
theorem dX9_isBlur_11 : decode cX9_isBlur 11 = .ok (.iconst 0, 1) := by decide +kernel
theorem dX9_isBlur_12 : decode cX9_isBlur 12 = .ok (.iload_n 0, 1) := by decide +kernel
theorem dX9_isBlur_13 : decode cX9_isBlur 13 = .ok (.iconst 1, 1) := by decide +kernel
theorem dX9_isBlur_14 : decode cX9_isBlur 14 = .ok (.isub, 1) := by decide +kernel
theorem dX9_isBlur_15 : decode cX9_isBlur 15 = .ok (.invokestatic 94, 3) := by decide +kernel
theorem dX9_isBlur_18 : decode cX9_isBlur 18 = .ok (.ifCond .eq 7, 3) := by decide +kernel
theorem dX9_isBlur_21 : decode cX9_isBlur 21 = .ok (.iconst 1, 1) := by decide +kernel
theorem dX9_isBlur_22 : decode cX9_isBlur 22 = .ok (.goto 4, 3) := by decide +kernel
theorem dX9_isBlur_25 : decode cX9_isBlur 25 = .ok (.iconst 0, 1) := by decide +kernel
theorem dX9_isBlur_26 : decode cX9_isBlur 26 = .ok (.ireturn, 1) := by decide +kernel
theorem dX9_isRow_0 : decode cX9_isRow 0 = .ok (.iload_n 1, 1) := by decide +kernel
theorem dX9_isRow_1 : decode cX9_isRow 1 = .ok (.invokestatic 86, 3) := by decide +kernel
theorem dX9_isRow_4 : decode cX9_isRow 4 = .ok (.ifCond .eq 26, 3) := by decide +kernel
theorem dX9_isRow_7 : decode cX9_isRow 7 = .ok (.iload_n 2, 1) := by decide +kernel
theorem dX9_isRow_8 : decode cX9_isRow 8 = .ok (.iconst 0, 1) := by decide +kernel
theorem dX9_isRow_9 : decode cX9_isRow 9 = .ok (.aload_n 0, 1) := by decide +kernel
theorem dX9_isRow_10 : decode cX9_isRow 10 = .ok (.getfield 11, 3) := by decide +kernel
theorem dX9_isRow_13 : decode cX9_isRow 13 = .ok (.iload_n 1, 1) := by decide +kernel
theorem dX9_isRow_14 : decode cX9_isRow 14 = .ok (.aaload, 1) := by decide +kernel
theorem dX9_isRow_15 : decode cX9_isRow 15 = .ok (.getfield 102, 3) := by decide +kernel
theorem dX9_isRow_18 : decode cX9_isRow 18 = .ok (.iconst 1, 1) := by decide +kernel
theorem dX9_isRow_19 : decode cX9_isRow 19 = .ok (.isub, 1) := by decide +kernel
theorem dX9_isRow_20 : decode cX9_isRow 20 = .ok (.invokestatic 94, 3) := by decide +kernel
theorem dX9_isRow_23 : decode cX9_isRow 23 = .ok (.ifCond .eq 7, 3) := by decide +kernel
theorem dX9_isRow_26 : decode cX9_isRow 26 = .ok (.iconst 1, 1) := by decide +kernel
theorem dX9_isRow_27 : decode cX9_isRow 27 = .ok (.goto 4, 3) := by decide +kernel
theorem dX9_isRow_30 : decode cX9_isRow 30 = .ok (.iconst 0, 1) := by decide +kernel
theorem dX9_isRow_31 : decode cX9_isRow 31 = .ok (.ireturn, 1) := by decide +kernel
theorem dX9_isStand_0 : decode cX9_isStand 0 = .ok (.iload_n 1, 1) := by decide +kernel
theorem dX9_isStand_1 : decode cX9_isStand 1 = .ok (.iconst 0, 1) := by decide +kernel
theorem dX9_isStand_2 : decode cX9_isStand 2 = .ok (.aload_n 0, 1) := by decide +kernel
theorem dX9_isStand_3 : decode cX9_isStand 3 = .ok (.getfield 75, 3) := by decide +kernel
theorem dX9_isStand_6 : decode cX9_isStand 6 = .ok (.iconst 1, 1) := by decide +kernel
theorem dX9_isStand_7 : decode cX9_isStand 7 = .ok (.isub, 1) := by decide +kernel
theorem dX9_isStand_8 : decode cX9_isStand 8 = .ok (.invokestatic 94, 3) := by decide +kernel
theorem dX9_isStand_11 : decode cX9_isStand 11 = .ok (.ireturn, 1) := by decide +kernel
theorem dX9_refuseMoment_0 : decode cX9_refuseMoment 0 = .ok (.iload_n 0, 1) := by decide +kernel
theorem dX9_refuseMoment_1 : decode cX9_refuseMoment 1 = .ok (.invokestatic 86, 3) := by decide +kernel
theorem dX9_refuseMoment_4 : decode cX9_refuseMoment 4 = .ok (.ifCond .ne 6, 3) := by decide +kernel
theorem dX9_refuseMoment_7 : decode cX9_refuseMoment 7 = .ok (.ldc 90, 2) := by decide +kernel
theorem dX9_refuseMoment_9 : decode cX9_refuseMoment 9 = .ok (.ireturn, 1) := by decide +kernel
theorem dX9_refuseMoment_10 : decode cX9_refuseMoment 10 = .ok (.iload_n 1, 1) := by decide +kernel
theorem dX9_refuseMoment_11 : decode cX9_refuseMoment 11 = .ok (.invokestatic 91, 3) := by decide +kernel
theorem dX9_refuseMoment_14 : decode cX9_refuseMoment 14 = .ok (.ifCond .eq 7, 3) := by decide +kernel
theorem dX9_refuseMoment_17 : decode cX9_refuseMoment 17 = .ok (.iconst 0, 1) := by decide +kernel
theorem dX9_refuseMoment_18 : decode cX9_refuseMoment 18 = .ok (.goto 5, 3) := by decide +kernel
theorem dX9_refuseMoment_21 : decode cX9_refuseMoment 21 = .ok (.ldc 98, 2) := by decide +kernel
theorem dX9_refuseMoment_23 : decode cX9_refuseMoment 23 = .ok (.ireturn, 1) := by decide +kernel
theorem dX9_refuseVisit_0 : decode cX9_refuseVisit 0 = .ok (.iload_n 0, 1) := by decide +kernel
theorem dX9_refuseVisit_1 : decode cX9_refuseVisit 1 = .ok (.invokestatic 86, 3) := by decide +kernel
theorem dX9_refuseVisit_4 : decode cX9_refuseVisit 4 = .ok (.ifCond .ne 6, 3) := by decide +kernel
theorem dX9_refuseVisit_7 : decode cX9_refuseVisit 7 = .ok (.ldc 90, 2) := by decide +kernel
theorem dX9_refuseVisit_9 : decode cX9_refuseVisit 9 = .ok (.ireturn, 1) := by decide +kernel
theorem dX9_refuseVisit_10 : decode cX9_refuseVisit 10 = .ok (.iload_n 1, 1) := by decide +kernel
theorem dX9_refuseVisit_11 : decode cX9_refuseVisit 11 = .ok (.iload_n 2, 1) := by decide +kernel
theorem dX9_refuseVisit_12 : decode cX9_refuseVisit 12 = .ok (.iload_n 3, 1) := by decide +kernel
theorem dX9_refuseVisit_13 : decode cX9_refuseVisit 13 = .ok (.iload 4, 2) := by decide +kernel
theorem dX9_refuseVisit_15 : decode cX9_refuseVisit 15 = .ok (.invokestatic 153, 3) := by decide +kernel
theorem dX9_refuseVisit_18 : decode cX9_refuseVisit 18 = .ok (.ifCond .eq 7, 3) := by decide +kernel
theorem dX9_refuseVisit_21 : decode cX9_refuseVisit 21 = .ok (.iconst 0, 1) := by decide +kernel
theorem dX9_refuseVisit_22 : decode cX9_refuseVisit 22 = .ok (.goto 5, 3) := by decide +kernel
theorem dX9_refuseVisit_25 : decode cX9_refuseVisit 25 = .ok (.ldc 98, 2) := by decide +kernel
theorem dX9_refuseVisit_27 : decode cX9_refuseVisit 27 = .ok (.ireturn, 1) := by decide +kernel
theorem dX9_refuseThinning_0 : decode cX9_refuseThinning 0 = .ok (.iload_n 0, 1) := by decide +kernel
theorem dX9_refuseThinning_1 : decode cX9_refuseThinning 1 = .ok (.invokestatic 86, 3) := by decide +kernel
theorem dX9_refuseThinning_4 : decode cX9_refuseThinning 4 = .ok (.ifCond .ne 6, 3) := by decide +kernel
theorem dX9_refuseThinning_7 : decode cX9_refuseThinning 7 = .ok (.ldc 90, 2) := by decide +kernel
theorem dX9_refuseThinning_9 : decode cX9_refuseThinning 9 = .ok (.ireturn, 1) := by decide +kernel
theorem dX9_refuseThinning_10 : decode cX9_refuseThinning 10 = .ok (.iload_n 1, 1) := by decide +kernel
theorem dX9_refuseThinning_11 : decode cX9_refuseThinning 11 = .ok (.iconst 0, 1) := by decide +kernel
theorem dX9_refuseThinning_12 : decode cX9_refuseThinning 12 = .ok (.bipush 99, 2) := by decide +kernel
theorem dX9_refuseThinning_14 : decode cX9_refuseThinning 14 = .ok (.invokestatic 94, 3) := by decide +kernel
theorem dX9_refuseThinning_17 : decode cX9_refuseThinning 17 = .ok (.ifCond .eq 7, 3) := by decide +kernel
theorem dX9_refuseThinning_20 : decode cX9_refuseThinning 20 = .ok (.iconst 0, 1) := by decide +kernel
theorem dX9_refuseThinning_21 : decode cX9_refuseThinning 21 = .ok (.goto 5, 3) := by decide +kernel
theorem dX9_refuseThinning_24 : decode cX9_refuseThinning 24 = .ok (.ldc 98, 2) := by decide +kernel
theorem dX9_refuseThinning_26 : decode cX9_refuseThinning 26 = .ok (.ireturn, 1) := by decide +kernel
theorem dX9_refuseChange_0 : decode cX9_refuseChange 0 = .ok (.aload_n 0, 1) := by decide +kernel
theorem dX9_refuseChange_1 : decode cX9_refuseChange 1 = .ok (.iload_n 1, 1) := by decide +kernel
theorem dX9_refuseChange_2 : decode cX9_refuseChange 2 = .ok (.invokevirtual 274, 3) := by decide +kernel
theorem dX9_refuseChange_5 : decode cX9_refuseChange 5 = .ok (.ifCond .ne 6, 3) := by decide +kernel
theorem dX9_refuseChange_8 : decode cX9_refuseChange 8 = .ok (.ldc 90, 2) := by decide +kernel
theorem dX9_refuseChange_10 : decode cX9_refuseChange 10 = .ok (.ireturn, 1) := by decide +kernel
theorem dX9_refuseChange_11 : decode cX9_refuseChange 11 = .ok (.iload_n 2, 1) := by decide +kernel
theorem dX9_refuseChange_12 : decode cX9_refuseChange 12 = .ok (.invokestatic 91, 3) := by decide +kernel
theorem dX9_refuseChange_15 : decode cX9_refuseChange 15 = .ok (.ifCond .eq 7, 3) := by decide +kernel
theorem dX9_refuseChange_18 : decode cX9_refuseChange 18 = .ok (.iconst 0, 1) := by decide +kernel
theorem dX9_refuseChange_19 : decode cX9_refuseChange 19 = .ok (.goto 5, 3) := by decide +kernel
theorem dX9_refuseChange_22 : decode cX9_refuseChange 22 = .ok (.ldc 98, 2) := by decide +kernel
theorem dX9_refuseChange_24 : decode cX9_refuseChange 24 = .ok (.ireturn, 1) := by decide +kernel
theorem dX9_refuseMeeting_0 : decode cX9_refuseMeeting 0 = .ok (.iload_n 0, 1) := by decide +kernel
theorem dX9_refuseMeeting_1 : decode cX9_refuseMeeting 1 = .ok (.invokestatic 86, 3) := by decide +kernel
theorem dX9_refuseMeeting_4 : decode cX9_refuseMeeting 4 = .ok (.ifCond .eq 10, 3) := by decide +kernel
theorem dX9_refuseMeeting_7 : decode cX9_refuseMeeting 7 = .ok (.iload_n 1, 1) := by decide +kernel
theorem dX9_refuseMeeting_8 : decode cX9_refuseMeeting 8 = .ok (.invokestatic 86, 3) := by decide +kernel
theorem dX9_refuseMeeting_11 : decode cX9_refuseMeeting 11 = .ok (.ifCond .ne 6, 3) := by decide +kernel
theorem dX9_refuseMeeting_14 : decode cX9_refuseMeeting 14 = .ok (.ldc 90, 2) := by decide +kernel
theorem dX9_refuseMeeting_16 : decode cX9_refuseMeeting 16 = .ok (.ireturn, 1) := by decide +kernel
theorem dX9_refuseMeeting_17 : decode cX9_refuseMeeting 17 = .ok (.iload_n 2, 1) := by decide +kernel
theorem dX9_refuseMeeting_18 : decode cX9_refuseMeeting 18 = .ok (.iconst 0, 1) := by decide +kernel
theorem dX9_refuseMeeting_19 : decode cX9_refuseMeeting 19 = .ok (.sipush 200, 3) := by decide +kernel
theorem dX9_refuseMeeting_22 : decode cX9_refuseMeeting 22 = .ok (.invokestatic 94, 3) := by decide +kernel
theorem dX9_refuseMeeting_25 : decode cX9_refuseMeeting 25 = .ok (.ifCond .ne 6, 3) := by decide +kernel
theorem dX9_refuseMeeting_28 : decode cX9_refuseMeeting 28 = .ok (.ldc 98, 2) := by decide +kernel
theorem dX9_refuseMeeting_30 : decode cX9_refuseMeeting 30 = .ok (.ireturn, 1) := by decide +kernel
theorem dX9_refuseMeeting_31 : decode cX9_refuseMeeting 31 = .ok (.iload_n 0, 1) := by decide +kernel
theorem dX9_refuseMeeting_32 : decode cX9_refuseMeeting 32 = .ok (.iload_n 1, 1) := by decide +kernel
theorem dX9_refuseMeeting_33 : decode cX9_refuseMeeting 33 = .ok (.if_icmp .ne 8, 3) := by decide +kernel
theorem dX9_refuseMeeting_36 : decode cX9_refuseMeeting 36 = .ok (.ldc 139, 2) := by decide +kernel
theorem dX9_refuseMeeting_38 : decode cX9_refuseMeeting 38 = .ok (.goto 4, 3) := by decide +kernel
theorem dX9_refuseMeeting_41 : decode cX9_refuseMeeting 41 = .ok (.iconst 0, 1) := by decide +kernel
theorem dX9_refuseMeeting_42 : decode cX9_refuseMeeting 42 = .ok (.ireturn, 1) := by decide +kernel
theorem dX9_leastTerm_0 : decode cX9_leastTerm 0 = .ok (.lload_n 0, 1) := by decide +kernel
theorem dX9_leastTerm_1 : decode cX9_leastTerm 1 = .ok (.invokestatic 307, 3) := by decide +kernel
theorem dX9_leastTerm_4 : decode cX9_leastTerm 4 = .ok (.lload_n 2, 1) := by decide +kernel
theorem dX9_leastTerm_5 : decode cX9_leastTerm 5 = .ok (.invokestatic 313, 3) := by decide +kernel
theorem dX9_leastTerm_8 : decode cX9_leastTerm 8 = .ok (.lstore 5, 2) := by decide +kernel
theorem dX9_leastTerm_10 : decode cX9_leastTerm 10 = .ok (.iload 4, 2) := by decide +kernel
theorem dX9_leastTerm_12 : decode cX9_leastTerm 12 = .ok (.ifCond .eq 7, 3) := by decide +kernel
theorem dX9_leastTerm_15 : decode cX9_leastTerm 15 = .ok (.lload_n 0, 1) := by decide +kernel
theorem dX9_leastTerm_16 : decode cX9_leastTerm 16 = .ok (.goto 4, 3) := by decide +kernel
theorem dX9_leastTerm_19 : decode cX9_leastTerm 19 = .ok (.lload_n 2, 1) := by decide +kernel
theorem dX9_leastTerm_20 : decode cX9_leastTerm 20 = .ok (.lstore 7, 2) := by decide +kernel
theorem dX9_leastTerm_22 : decode cX9_leastTerm 22 = .ok (.lload 5, 2) := by decide +kernel
theorem dX9_leastTerm_24 : decode cX9_leastTerm 24 = .ok (.lconst 0, 1) := by decide +kernel
theorem dX9_leastTerm_25 : decode cX9_leastTerm 25 = .ok (.lcmp, 1) := by decide +kernel
theorem dX9_leastTerm_26 : decode cX9_leastTerm 26 = .ok (.ifCond .le 11, 3) := by decide +kernel
theorem dX9_leastTerm_29 : decode cX9_leastTerm 29 = .ok (.lload 7, 2) := by decide +kernel
theorem dX9_leastTerm_31 : decode cX9_leastTerm 31 = .ok (.lload 5, 2) := by decide +kernel
theorem dX9_leastTerm_33 : decode cX9_leastTerm 33 = .ok (.ldiv, 1) := by decide +kernel
theorem dX9_leastTerm_34 : decode cX9_leastTerm 34 = .ok (.goto 5, 3) := by decide +kernel
theorem dX9_leastTerm_37 : decode cX9_leastTerm 37 = .ok (.lload 7, 2) := by decide +kernel
theorem dX9_leastTerm_39 : decode cX9_leastTerm 39 = .ok (.lreturn, 1) := by decide +kernel
theorem dX9_commonMeasure_0 : decode cX9_commonMeasure 0 = .ok (.lload_n 0, 1) := by decide +kernel
theorem dX9_commonMeasure_1 : decode cX9_commonMeasure 1 = .ok (.lstore 4, 2) := by decide +kernel
theorem dX9_commonMeasure_3 : decode cX9_commonMeasure 3 = .ok (.lload_n 2, 1) := by decide +kernel
theorem dX9_commonMeasure_4 : decode cX9_commonMeasure 4 = .ok (.lstore 6, 2) := by decide +kernel
theorem dX9_commonMeasure_6 : decode cX9_commonMeasure 6 = .ok (.iconst 0, 1) := by decide +kernel
theorem dX9_commonMeasure_7 : decode cX9_commonMeasure 7 = .ok (.istore 8, 2) := by decide +kernel
theorem dX9_commonMeasure_9 : decode cX9_commonMeasure 9 = .ok (.iload 8, 2) := by decide +kernel
theorem dX9_commonMeasure_11 : decode cX9_commonMeasure 11 = .ok (.bipush 100, 2) := by decide +kernel
theorem dX9_commonMeasure_13 : decode cX9_commonMeasure 13 = .ok (.if_icmp .ge 31, 3) := by decide +kernel
theorem dX9_commonMeasure_16 : decode cX9_commonMeasure 16 = .ok (.lload 6, 2) := by decide +kernel
theorem dX9_commonMeasure_18 : decode cX9_commonMeasure 18 = .ok (.lconst 0, 1) := by decide +kernel
theorem dX9_commonMeasure_19 : decode cX9_commonMeasure 19 = .ok (.lcmp, 1) := by decide +kernel
theorem dX9_commonMeasure_20 : decode cX9_commonMeasure 20 = .ok (.ifCond .eq 24, 3) := by decide +kernel
theorem dX9_commonMeasure_23 : decode cX9_commonMeasure 23 = .ok (.lload 4, 2) := by decide +kernel
theorem dX9_commonMeasure_25 : decode cX9_commonMeasure 25 = .ok (.lload 6, 2) := by decide +kernel
theorem dX9_commonMeasure_27 : decode cX9_commonMeasure 27 = .ok (.lrem, 1) := by decide +kernel
theorem dX9_commonMeasure_28 : decode cX9_commonMeasure 28 = .ok (.lstore 9, 2) := by decide +kernel
theorem dX9_commonMeasure_30 : decode cX9_commonMeasure 30 = .ok (.lload 6, 2) := by decide +kernel
theorem dX9_commonMeasure_32 : decode cX9_commonMeasure 32 = .ok (.lstore 4, 2) := by decide +kernel
theorem dX9_commonMeasure_34 : decode cX9_commonMeasure 34 = .ok (.lload 9, 2) := by decide +kernel
theorem dX9_commonMeasure_36 : decode cX9_commonMeasure 36 = .ok (.lstore 6, 2) := by decide +kernel
theorem dX9_commonMeasure_38 : decode cX9_commonMeasure 38 = .ok (.iinc 8 1, 3) := by decide +kernel
theorem dX9_commonMeasure_41 : decode cX9_commonMeasure 41 = .ok (.goto (-32), 3) := by decide +kernel
theorem dX9_commonMeasure_44 : decode cX9_commonMeasure 44 = .ok (.lload 4, 2) := by decide +kernel
theorem dX9_commonMeasure_46 : decode cX9_commonMeasure 46 = .ok (.lreturn, 1) := by decide +kernel
theorem dX9_farAbove_0 : decode cX9_farAbove 0 = .ok (.aload_n 0, 1) := by decide +kernel
theorem dX9_farAbove_1 : decode cX9_farAbove 1 = .ok (.getfield 143, 3) := by decide +kernel
theorem dX9_farAbove_4 : decode cX9_farAbove 4 = .ok (.i2l, 1) := by decide +kernel
theorem dX9_farAbove_5 : decode cX9_farAbove 5 = .ok (.aload_n 1, 1) := by decide +kernel
theorem dX9_farAbove_6 : decode cX9_farAbove 6 = .ok (.getfield 146, 3) := by decide +kernel
theorem dX9_farAbove_9 : decode cX9_farAbove 9 = .ok (.i2l, 1) := by decide +kernel
theorem dX9_farAbove_10 : decode cX9_farAbove 10 = .ok (.lmul, 1) := by decide +kernel
theorem dX9_farAbove_11 : decode cX9_farAbove 11 = .ok (.aload_n 1, 1) := by decide +kernel
theorem dX9_farAbove_12 : decode cX9_farAbove 12 = .ok (.getfield 143, 3) := by decide +kernel
theorem dX9_farAbove_15 : decode cX9_farAbove 15 = .ok (.i2l, 1) := by decide +kernel
theorem dX9_farAbove_16 : decode cX9_farAbove 16 = .ok (.aload_n 0, 1) := by decide +kernel
theorem dX9_farAbove_17 : decode cX9_farAbove 17 = .ok (.getfield 146, 3) := by decide +kernel
theorem dX9_farAbove_20 : decode cX9_farAbove 20 = .ok (.i2l, 1) := by decide +kernel
theorem dX9_farAbove_21 : decode cX9_farAbove 21 = .ok (.lmul, 1) := by decide +kernel
theorem dX9_farAbove_22 : decode cX9_farAbove 22 = .ok (.lsub, 1) := by decide +kernel
theorem dX9_farAbove_23 : decode cX9_farAbove 23 = .ok (.lstore_n 2, 1) := by decide +kernel
theorem dX9_farAbove_24 : decode cX9_farAbove 24 = .ok (.aload_n 0, 1) := by decide +kernel
theorem dX9_farAbove_25 : decode cX9_farAbove 25 = .ok (.getfield 140, 3) := by decide +kernel
theorem dX9_farAbove_28 : decode cX9_farAbove 28 = .ok (.i2l, 1) := by decide +kernel
theorem dX9_farAbove_29 : decode cX9_farAbove 29 = .ok (.aload_n 1, 1) := by decide +kernel
theorem dX9_farAbove_30 : decode cX9_farAbove 30 = .ok (.getfield 146, 3) := by decide +kernel
theorem dX9_farAbove_33 : decode cX9_farAbove 33 = .ok (.i2l, 1) := by decide +kernel
theorem dX9_farAbove_34 : decode cX9_farAbove 34 = .ok (.lmul, 1) := by decide +kernel
theorem dX9_farAbove_35 : decode cX9_farAbove 35 = .ok (.aload_n 1, 1) := by decide +kernel
theorem dX9_farAbove_36 : decode cX9_farAbove 36 = .ok (.getfield 140, 3) := by decide +kernel
theorem dX9_farAbove_39 : decode cX9_farAbove 39 = .ok (.i2l, 1) := by decide +kernel
theorem dX9_farAbove_40 : decode cX9_farAbove 40 = .ok (.aload_n 0, 1) := by decide +kernel
theorem dX9_farAbove_41 : decode cX9_farAbove 41 = .ok (.getfield 146, 3) := by decide +kernel
theorem dX9_farAbove_44 : decode cX9_farAbove 44 = .ok (.i2l, 1) := by decide +kernel
theorem dX9_farAbove_45 : decode cX9_farAbove 45 = .ok (.lmul, 1) := by decide +kernel
theorem dX9_farAbove_46 : decode cX9_farAbove 46 = .ok (.lsub, 1) := by decide +kernel
theorem dX9_farAbove_47 : decode cX9_farAbove 47 = .ok (.lstore 4, 2) := by decide +kernel
theorem dX9_farAbove_49 : decode cX9_farAbove 49 = .ok (.lload_n 2, 1) := by decide +kernel
theorem dX9_farAbove_50 : decode cX9_farAbove 50 = .ok (.lload_n 2, 1) := by decide +kernel
theorem dX9_farAbove_51 : decode cX9_farAbove 51 = .ok (.lmul, 1) := by decide +kernel
theorem dX9_farAbove_52 : decode cX9_farAbove 52 = .ok (.lload 4, 2) := by decide +kernel
theorem dX9_farAbove_54 : decode cX9_farAbove 54 = .ok (.lload 4, 2) := by decide +kernel
theorem dX9_farAbove_56 : decode cX9_farAbove 56 = .ok (.lmul, 1) := by decide +kernel
theorem dX9_farAbove_57 : decode cX9_farAbove 57 = .ok (.ladd, 1) := by decide +kernel
theorem dX9_farAbove_58 : decode cX9_farAbove 58 = .ok (.lreturn, 1) := by decide +kernel
theorem dX9_farBelow_0 : decode cX9_farBelow 0 = .ok (.aload_n 0, 1) := by decide +kernel
theorem dX9_farBelow_1 : decode cX9_farBelow 1 = .ok (.getfield 146, 3) := by decide +kernel
theorem dX9_farBelow_4 : decode cX9_farBelow 4 = .ok (.i2l, 1) := by decide +kernel
theorem dX9_farBelow_5 : decode cX9_farBelow 5 = .ok (.aload_n 1, 1) := by decide +kernel
theorem dX9_farBelow_6 : decode cX9_farBelow 6 = .ok (.getfield 146, 3) := by decide +kernel
theorem dX9_farBelow_9 : decode cX9_farBelow 9 = .ok (.i2l, 1) := by decide +kernel
theorem dX9_farBelow_10 : decode cX9_farBelow 10 = .ok (.lmul, 1) := by decide +kernel
theorem dX9_farBelow_11 : decode cX9_farBelow 11 = .ok (.lstore_n 2, 1) := by decide +kernel
theorem dX9_farBelow_12 : decode cX9_farBelow 12 = .ok (.lload_n 2, 1) := by decide +kernel
theorem dX9_farBelow_13 : decode cX9_farBelow 13 = .ok (.lload_n 2, 1) := by decide +kernel
theorem dX9_farBelow_14 : decode cX9_farBelow 14 = .ok (.lmul, 1) := by decide +kernel
theorem dX9_farBelow_15 : decode cX9_farBelow 15 = .ok (.lreturn, 1) := by decide +kernel
theorem dX9_isIn_0 : decode cX9_isIn 0 = .ok (.aload_n 0, 1) := by decide +kernel
theorem dX9_isIn_1 : decode cX9_isIn 1 = .ok (.getfield 11, 3) := by decide +kernel
theorem dX9_isIn_4 : decode cX9_isIn 4 = .ok (.iload_n 2, 1) := by decide +kernel
theorem dX9_isIn_5 : decode cX9_isIn 5 = .ok (.aaload, 1) := by decide +kernel
theorem dX9_isIn_6 : decode cX9_isIn 6 = .ok (.iload_n 3, 1) := by decide +kernel
theorem dX9_isIn_7 : decode cX9_isIn 7 = .ok (.aload_n 0, 1) := by decide +kernel
theorem dX9_isIn_8 : decode cX9_isIn 8 = .ok (.getfield 29, 3) := by decide +kernel
theorem dX9_isIn_11 : decode cX9_isIn 11 = .ok (.invokevirtual 135, 3) := by decide +kernel
theorem dX9_isIn_14 : decode cX9_isIn 14 = .ok (.ifCond .eq 18, 3) := by decide +kernel
theorem dX9_isIn_17 : decode cX9_isIn 17 = .ok (.aload_n 1, 1) := by decide +kernel
theorem dX9_isIn_18 : decode cX9_isIn 18 = .ok (.aload_n 0, 1) := by decide +kernel
theorem dX9_isIn_19 : decode cX9_isIn 19 = .ok (.getfield 29, 3) := by decide +kernel
theorem dX9_isIn_22 : decode cX9_isIn 22 = .ok (.invokevirtual 317, 3) := by decide +kernel
theorem dX9_isIn_25 : decode cX9_isIn 25 = .ok (.ifCond .eq 7, 3) := by decide +kernel
theorem dX9_isIn_28 : decode cX9_isIn 28 = .ok (.iconst 1, 1) := by decide +kernel
theorem dX9_isIn_29 : decode cX9_isIn 29 = .ok (.goto 4, 3) := by decide +kernel
theorem dX9_isIn_32 : decode cX9_isIn 32 = .ok (.iconst 0, 1) := by decide +kernel
theorem dX9_isIn_33 : decode cX9_isIn 33 = .ok (.ireturn, 1) := by decide +kernel
theorem dX9_isChange_0 : decode cX9_isChange 0 = .ok (.iload_n 3, 1) := by decide +kernel
theorem dX9_isChange_1 : decode cX9_isChange 1 = .ok (.ifCond .le 19, 3) := by decide +kernel
theorem dX9_isChange_4 : decode cX9_isChange 4 = .ok (.aload_n 0, 1) := by decide +kernel
theorem dX9_isChange_5 : decode cX9_isChange 5 = .ok (.aload_n 1, 1) := by decide +kernel
theorem dX9_isChange_6 : decode cX9_isChange 6 = .ok (.iload_n 2, 1) := by decide +kernel
theorem dX9_isChange_7 : decode cX9_isChange 7 = .ok (.iload_n 3, 1) := by decide +kernel
theorem dX9_isChange_8 : decode cX9_isChange 8 = .ok (.iconst 1, 1) := by decide +kernel
theorem dX9_isChange_9 : decode cX9_isChange 9 = .ok (.isub, 1) := by decide +kernel
theorem dX9_isChange_10 : decode cX9_isChange 10 = .ok (.invokevirtual 161, 3) := by decide +kernel
theorem dX9_isChange_13 : decode cX9_isChange 13 = .ok (.ifCond .eq 7, 3) := by decide +kernel
theorem dX9_isChange_16 : decode cX9_isChange 16 = .ok (.iconst 1, 1) := by decide +kernel
theorem dX9_isChange_17 : decode cX9_isChange 17 = .ok (.goto 4, 3) := by decide +kernel
theorem dX9_isChange_20 : decode cX9_isChange 20 = .ok (.iconst 0, 1) := by decide +kernel
theorem dX9_isChange_21 : decode cX9_isChange 21 = .ok (.istore 4, 2) := by decide +kernel
theorem dX9_isChange_23 : decode cX9_isChange 23 = .ok (.iload 4, 2) := by decide +kernel
theorem dX9_isChange_25 : decode cX9_isChange 25 = .ok (.aload_n 0, 1) := by decide +kernel
theorem dX9_isChange_26 : decode cX9_isChange 26 = .ok (.aload_n 1, 1) := by decide +kernel
theorem dX9_isChange_27 : decode cX9_isChange 27 = .ok (.iload_n 2, 1) := by decide +kernel
theorem dX9_isChange_28 : decode cX9_isChange 28 = .ok (.iload_n 3, 1) := by decide +kernel
theorem dX9_isChange_29 : decode cX9_isChange 29 = .ok (.invokevirtual 161, 3) := by decide +kernel
theorem dX9_isChange_32 : decode cX9_isChange 32 = .ok (.if_icmp .eq 7, 3) := by decide +kernel
theorem dX9_isChange_35 : decode cX9_isChange 35 = .ok (.iconst 1, 1) := by decide +kernel
theorem dX9_isChange_36 : decode cX9_isChange 36 = .ok (.goto 4, 3) := by decide +kernel
theorem dX9_isChange_39 : decode cX9_isChange 39 = .ok (.iconst 0, 1) := by decide +kernel
theorem dX9_isChange_40 : decode cX9_isChange 40 = .ok (.ireturn, 1) := by decide +kernel
theorem dX9_locateBoth_0 : decode cX9_locateBoth 0 = .ok (.aload_n 0, 1) := by decide +kernel
theorem dX9_locateBoth_1 : decode cX9_locateBoth 1 = .ok (.getfield 11, 3) := by decide +kernel
theorem dX9_locateBoth_4 : decode cX9_locateBoth 4 = .ok (.iload_n 1, 1) := by decide +kernel
theorem dX9_locateBoth_5 : decode cX9_locateBoth 5 = .ok (.aaload, 1) := by decide +kernel
theorem dX9_locateBoth_6 : decode cX9_locateBoth 6 = .ok (.iload_n 3, 1) := by decide +kernel
theorem dX9_locateBoth_7 : decode cX9_locateBoth 7 = .ok (.aload_n 0, 1) := by decide +kernel
theorem dX9_locateBoth_8 : decode cX9_locateBoth 8 = .ok (.getfield 29, 3) := by decide +kernel
theorem dX9_locateBoth_11 : decode cX9_locateBoth 11 = .ok (.invokevirtual 135, 3) := by decide +kernel
theorem dX9_locateBoth_14 : decode cX9_locateBoth 14 = .ok (.ifCond .eq 24, 3) := by decide +kernel
theorem dX9_locateBoth_17 : decode cX9_locateBoth 17 = .ok (.aload_n 0, 1) := by decide +kernel
theorem dX9_locateBoth_18 : decode cX9_locateBoth 18 = .ok (.getfield 11, 3) := by decide +kernel
theorem dX9_locateBoth_21 : decode cX9_locateBoth 21 = .ok (.iload_n 2, 1) := by decide +kernel
theorem dX9_locateBoth_22 : decode cX9_locateBoth 22 = .ok (.aaload, 1) := by decide +kernel
theorem dX9_locateBoth_23 : decode cX9_locateBoth 23 = .ok (.iload_n 3, 1) := by decide +kernel
theorem dX9_locateBoth_24 : decode cX9_locateBoth 24 = .ok (.aload_n 0, 1) := by decide +kernel
theorem dX9_locateBoth_25 : decode cX9_locateBoth 25 = .ok (.getfield 33, 3) := by decide +kernel
theorem dX9_locateBoth_28 : decode cX9_locateBoth 28 = .ok (.invokevirtual 135, 3) := by decide +kernel
theorem dX9_locateBoth_31 : decode cX9_locateBoth 31 = .ok (.ifCond .eq 7, 3) := by decide +kernel
theorem dX9_locateBoth_34 : decode cX9_locateBoth 34 = .ok (.iconst 1, 1) := by decide +kernel
theorem dX9_locateBoth_35 : decode cX9_locateBoth 35 = .ok (.goto 4, 3) := by decide +kernel
theorem dX9_locateBoth_38 : decode cX9_locateBoth 38 = .ok (.iconst 0, 1) := by decide +kernel
theorem dX9_locateBoth_39 : decode cX9_locateBoth 39 = .ok (.ireturn, 1) := by decide +kernel
theorem dX9_isMeeting_0 : decode cX9_isMeeting 0 = .ok (.aload_n 0, 1) := by decide +kernel
theorem dX9_isMeeting_1 : decode cX9_isMeeting 1 = .ok (.iload_n 1, 1) := by decide +kernel
theorem dX9_isMeeting_2 : decode cX9_isMeeting 2 = .ok (.iload_n 2, 1) := by decide +kernel
theorem dX9_isMeeting_3 : decode cX9_isMeeting 3 = .ok (.iload 4, 2) := by decide +kernel
theorem dX9_isMeeting_5 : decode cX9_isMeeting 5 = .ok (.invokevirtual 186, 3) := by decide +kernel
theorem dX9_isMeeting_8 : decode cX9_isMeeting 8 = .ok (.ifCond .eq 39, 3) := by decide +kernel
theorem dX9_isMeeting_11 : decode cX9_isMeeting 11 = .ok (.aload_n 0, 1) := by decide +kernel
theorem dX9_isMeeting_12 : decode cX9_isMeeting 12 = .ok (.getfield 29, 3) := by decide +kernel
theorem dX9_isMeeting_15 : decode cX9_isMeeting 15 = .ok (.aload_n 0, 1) := by decide +kernel
theorem dX9_isMeeting_16 : decode cX9_isMeeting 16 = .ok (.getfield 33, 3) := by decide +kernel
theorem dX9_isMeeting_19 : decode cX9_isMeeting 19 = .ok (.invokestatic 191, 3) := by decide +kernel
theorem dX9_isMeeting_22 : decode cX9_isMeeting 22 = .ok (.iload_n 3, 1) := by decide +kernel
theorem dX9_isMeeting_23 : decode cX9_isMeeting 23 = .ok (.i2l, 1) := by decide +kernel
theorem dX9_isMeeting_24 : decode cX9_isMeeting 24 = .ok (.iload_n 3, 1) := by decide +kernel
theorem dX9_isMeeting_25 : decode cX9_isMeeting 25 = .ok (.i2l, 1) := by decide +kernel
theorem dX9_isMeeting_26 : decode cX9_isMeeting 26 = .ok (.lmul, 1) := by decide +kernel
theorem dX9_isMeeting_27 : decode cX9_isMeeting 27 = .ok (.aload_n 0, 1) := by decide +kernel
theorem dX9_isMeeting_28 : decode cX9_isMeeting 28 = .ok (.getfield 29, 3) := by decide +kernel
theorem dX9_isMeeting_31 : decode cX9_isMeeting 31 = .ok (.aload_n 0, 1) := by decide +kernel
theorem dX9_isMeeting_32 : decode cX9_isMeeting 32 = .ok (.getfield 33, 3) := by decide +kernel
theorem dX9_isMeeting_35 : decode cX9_isMeeting 35 = .ok (.invokestatic 195, 3) := by decide +kernel
theorem dX9_isMeeting_38 : decode cX9_isMeeting 38 = .ok (.lmul, 1) := by decide +kernel
theorem dX9_isMeeting_39 : decode cX9_isMeeting 39 = .ok (.lcmp, 1) := by decide +kernel
theorem dX9_isMeeting_40 : decode cX9_isMeeting 40 = .ok (.ifCond .gt 7, 3) := by decide +kernel
theorem dX9_isMeeting_43 : decode cX9_isMeeting 43 = .ok (.iconst 1, 1) := by decide +kernel
theorem dX9_isMeeting_44 : decode cX9_isMeeting 44 = .ok (.goto 4, 3) := by decide +kernel
theorem dX9_isMeeting_47 : decode cX9_isMeeting 47 = .ok (.iconst 0, 1) := by decide +kernel
theorem dX9_isMeeting_48 : decode cX9_isMeeting 48 = .ok (.ireturn, 1) := by decide +kernel
theorem dX9_gatherVisits_0 : decode cX9_gatherVisits 0 = .ok (.aload_n 0, 1) := by decide +kernel
theorem dX9_gatherVisits_1 : decode cX9_gatherVisits 1 = .ok (.getfield 39, 3) := by decide +kernel
theorem dX9_gatherVisits_4 : decode cX9_gatherVisits 4 = .ok (.invokevirtual 321, 3) := by decide +kernel
theorem dX9_gatherVisits_7 : decode cX9_gatherVisits 7 = .ok (.iconst 0, 1) := by decide +kernel
theorem dX9_gatherVisits_8 : decode cX9_gatherVisits 8 = .ok (.istore_n 2, 1) := by decide +kernel
theorem dX9_gatherVisits_9 : decode cX9_gatherVisits 9 = .ok (.iload_n 2, 1) := by decide +kernel
theorem dX9_gatherVisits_10 : decode cX9_gatherVisits 10 = .ok (.sipush 200, 3) := by decide +kernel
theorem dX9_gatherVisits_13 : decode cX9_gatherVisits 13 = .ok (.if_icmp .ge 30, 3) := by decide +kernel
theorem dX9_gatherVisits_16 : decode cX9_gatherVisits 16 = .ok (.aload_n 0, 1) := by decide +kernel
theorem dX9_gatherVisits_17 : decode cX9_gatherVisits 17 = .ok (.aload_n 0, 1) := by decide +kernel
theorem dX9_gatherVisits_18 : decode cX9_gatherVisits 18 = .ok (.getfield 22, 3) := by decide +kernel
theorem dX9_gatherVisits_21 : decode cX9_gatherVisits 21 = .ok (.iload_n 1, 1) := by decide +kernel
theorem dX9_gatherVisits_22 : decode cX9_gatherVisits 22 = .ok (.iload_n 2, 1) := by decide +kernel
theorem dX9_gatherVisits_23 : decode cX9_gatherVisits 23 = .ok (.invokevirtual 161, 3) := by decide +kernel
theorem dX9_gatherVisits_26 : decode cX9_gatherVisits 26 = .ok (.ifCond .eq 11, 3) := by decide +kernel
theorem dX9_gatherVisits_29 : decode cX9_gatherVisits 29 = .ok (.aload_n 0, 1) := by decide +kernel
theorem dX9_gatherVisits_30 : decode cX9_gatherVisits 30 = .ok (.getfield 39, 3) := by decide +kernel
theorem dX9_gatherVisits_33 : decode cX9_gatherVisits 33 = .ok (.iload_n 2, 1) := by decide +kernel
theorem dX9_gatherVisits_34 : decode cX9_gatherVisits 34 = .ok (.invokevirtual 322, 3) := by decide +kernel
theorem dX9_gatherVisits_37 : decode cX9_gatherVisits 37 = .ok (.iinc 2 1, 3) := by decide +kernel
theorem dX9_gatherVisits_40 : decode cX9_gatherVisits 40 = .ok (.goto (-31), 3) := by decide +kernel
theorem dX9_gatherVisits_43 : decode cX9_gatherVisits 43 = .ok (.return_, 1) := by decide +kernel
theorem dX9_gatherMeetings_0 : decode cX9_gatherMeetings 0 = .ok (.aload_n 0, 1) := by decide +kernel
theorem dX9_gatherMeetings_1 : decode cX9_gatherMeetings 1 = .ok (.getfield 39, 3) := by decide +kernel
theorem dX9_gatherMeetings_4 : decode cX9_gatherMeetings 4 = .ok (.invokevirtual 321, 3) := by decide +kernel
theorem dX9_gatherMeetings_7 : decode cX9_gatherMeetings 7 = .ok (.iconst 0, 1) := by decide +kernel
theorem dX9_gatherMeetings_8 : decode cX9_gatherMeetings 8 = .ok (.istore 4, 2) := by decide +kernel
theorem dX9_gatherMeetings_10 : decode cX9_gatherMeetings 10 = .ok (.iload 4, 2) := by decide +kernel
theorem dX9_gatherMeetings_12 : decode cX9_gatherMeetings 12 = .ok (.sipush 200, 3) := by decide +kernel
theorem dX9_gatherMeetings_15 : decode cX9_gatherMeetings 15 = .ok (.if_icmp .ge 30, 3) := by decide +kernel
theorem dX9_gatherMeetings_18 : decode cX9_gatherMeetings 18 = .ok (.aload_n 0, 1) := by decide +kernel
theorem dX9_gatherMeetings_19 : decode cX9_gatherMeetings 19 = .ok (.iload_n 1, 1) := by decide +kernel
theorem dX9_gatherMeetings_20 : decode cX9_gatherMeetings 20 = .ok (.iload_n 2, 1) := by decide +kernel
theorem dX9_gatherMeetings_21 : decode cX9_gatherMeetings 21 = .ok (.iload_n 3, 1) := by decide +kernel
theorem dX9_gatherMeetings_22 : decode cX9_gatherMeetings 22 = .ok (.iload 4, 2) := by decide +kernel
theorem dX9_gatherMeetings_24 : decode cX9_gatherMeetings 24 = .ok (.invokevirtual 325, 3) := by decide +kernel
theorem dX9_gatherMeetings_27 : decode cX9_gatherMeetings 27 = .ok (.ifCond .eq 12, 3) := by decide +kernel
theorem dX9_gatherMeetings_30 : decode cX9_gatherMeetings 30 = .ok (.aload_n 0, 1) := by decide +kernel
theorem dX9_gatherMeetings_31 : decode cX9_gatherMeetings 31 = .ok (.getfield 39, 3) := by decide +kernel
theorem dX9_gatherMeetings_34 : decode cX9_gatherMeetings 34 = .ok (.iload 4, 2) := by decide +kernel
theorem dX9_gatherMeetings_36 : decode cX9_gatherMeetings 36 = .ok (.invokevirtual 322, 3) := by decide +kernel
theorem dX9_gatherMeetings_39 : decode cX9_gatherMeetings 39 = .ok (.iinc 4 1, 3) := by decide +kernel
theorem dX9_gatherMeetings_42 : decode cX9_gatherMeetings 42 = .ok (.goto (-32), 3) := by decide +kernel
theorem dX9_gatherMeetings_45 : decode cX9_gatherMeetings 45 = .ok (.return_, 1) := by decide +kernel
theorem dX9_allRows_0 : decode cX9_allRows 0 = .ok (.iconst 0, 1) := by decide +kernel
theorem dX9_allRows_1 : decode cX9_allRows 1 = .ok (.istore_n 1, 1) := by decide +kernel
theorem dX9_allRows_2 : decode cX9_allRows 2 = .ok (.iconst 0, 1) := by decide +kernel
theorem dX9_allRows_3 : decode cX9_allRows 3 = .ok (.istore_n 2, 1) := by decide +kernel
theorem dX9_allRows_4 : decode cX9_allRows 4 = .ok (.iload_n 2, 1) := by decide +kernel
theorem dX9_allRows_5 : decode cX9_allRows 5 = .ok (.bipush 10, 2) := by decide +kernel
theorem dX9_allRows_7 : decode cX9_allRows 7 = .ok (.if_icmp .ge 21, 3) := by decide +kernel
theorem dX9_allRows_10 : decode cX9_allRows 10 = .ok (.iload_n 1, 1) := by decide +kernel
theorem dX9_allRows_11 : decode cX9_allRows 11 = .ok (.aload_n 0, 1) := by decide +kernel
theorem dX9_allRows_12 : decode cX9_allRows 12 = .ok (.getfield 11, 3) := by decide +kernel
theorem dX9_allRows_15 : decode cX9_allRows 15 = .ok (.iload_n 2, 1) := by decide +kernel
theorem dX9_allRows_16 : decode cX9_allRows 16 = .ok (.aaload, 1) := by decide +kernel
theorem dX9_allRows_17 : decode cX9_allRows 17 = .ok (.getfield 102, 3) := by decide +kernel
theorem dX9_allRows_20 : decode cX9_allRows 20 = .ok (.iadd, 1) := by decide +kernel
theorem dX9_allRows_21 : decode cX9_allRows 21 = .ok (.istore_n 1, 1) := by decide +kernel
theorem dX9_allRows_22 : decode cX9_allRows 22 = .ok (.iinc 2 1, 3) := by decide +kernel
theorem dX9_allRows_25 : decode cX9_allRows 25 = .ok (.goto (-21), 3) := by decide +kernel
theorem dX9_allRows_28 : decode cX9_allRows 28 = .ok (.iload_n 1, 1) := by decide +kernel
theorem dX9_allRows_29 : decode cX9_allRows 29 = .ok (.ireturn, 1) := by decide +kernel
theorem dX9_thingsWithRows_0 : decode cX9_thingsWithRows 0 = .ok (.iconst 0, 1) := by decide +kernel
theorem dX9_thingsWithRows_1 : decode cX9_thingsWithRows 1 = .ok (.istore_n 1, 1) := by decide +kernel
theorem dX9_thingsWithRows_2 : decode cX9_thingsWithRows 2 = .ok (.iconst 0, 1) := by decide +kernel
theorem dX9_thingsWithRows_3 : decode cX9_thingsWithRows 3 = .ok (.istore_n 2, 1) := by decide +kernel
theorem dX9_thingsWithRows_4 : decode cX9_thingsWithRows 4 = .ok (.iload_n 2, 1) := by decide +kernel
theorem dX9_thingsWithRows_5 : decode cX9_thingsWithRows 5 = .ok (.bipush 10, 2) := by decide +kernel
theorem dX9_thingsWithRows_7 : decode cX9_thingsWithRows 7 = .ok (.if_icmp .ge 24, 3) := by decide +kernel
theorem dX9_thingsWithRows_10 : decode cX9_thingsWithRows 10 = .ok (.aload_n 0, 1) := by decide +kernel
theorem dX9_thingsWithRows_11 : decode cX9_thingsWithRows 11 = .ok (.getfield 11, 3) := by decide +kernel
theorem dX9_thingsWithRows_14 : decode cX9_thingsWithRows 14 = .ok (.iload_n 2, 1) := by decide +kernel
theorem dX9_thingsWithRows_15 : decode cX9_thingsWithRows 15 = .ok (.aaload, 1) := by decide +kernel
theorem dX9_thingsWithRows_16 : decode cX9_thingsWithRows 16 = .ok (.getfield 102, 3) := by decide +kernel
theorem dX9_thingsWithRows_19 : decode cX9_thingsWithRows 19 = .ok (.ifCond .le 6, 3) := by decide +kernel
theorem dX9_thingsWithRows_22 : decode cX9_thingsWithRows 22 = .ok (.iinc 1 1, 3) := by decide +kernel
theorem dX9_thingsWithRows_25 : decode cX9_thingsWithRows 25 = .ok (.iinc 2 1, 3) := by decide +kernel
theorem dX9_thingsWithRows_28 : decode cX9_thingsWithRows 28 = .ok (.goto (-24), 3) := by decide +kernel
theorem dX9_thingsWithRows_31 : decode cX9_thingsWithRows 31 = .ok (.iload_n 1, 1) := by decide +kernel
theorem dX9_thingsWithRows_32 : decode cX9_thingsWithRows 32 = .ok (.ireturn, 1) := by decide +kernel
theorem dX9_thingsThere_0 : decode cX9_thingsThere 0 = .ok (.iconst 0, 1) := by decide +kernel
theorem dX9_thingsThere_1 : decode cX9_thingsThere 1 = .ok (.istore_n 1, 1) := by decide +kernel
theorem dX9_thingsThere_2 : decode cX9_thingsThere 2 = .ok (.iconst 0, 1) := by decide +kernel
theorem dX9_thingsThere_3 : decode cX9_thingsThere 3 = .ok (.istore_n 2, 1) := by decide +kernel
theorem dX9_thingsThere_4 : decode cX9_thingsThere 4 = .ok (.iload_n 2, 1) := by decide +kernel
theorem dX9_thingsThere_5 : decode cX9_thingsThere 5 = .ok (.bipush 10, 2) := by decide +kernel
theorem dX9_thingsThere_7 : decode cX9_thingsThere 7 = .ok (.if_icmp .ge 32, 3) := by decide +kernel
theorem dX9_thingsThere_10 : decode cX9_thingsThere 10 = .ok (.aload_n 0, 1) := by decide +kernel
theorem dX9_thingsThere_11 : decode cX9_thingsThere 11 = .ok (.getfield 11, 3) := by decide +kernel
theorem dX9_thingsThere_14 : decode cX9_thingsThere 14 = .ok (.iload_n 2, 1) := by decide +kernel
theorem dX9_thingsThere_15 : decode cX9_thingsThere 15 = .ok (.aaload, 1) := by decide +kernel
theorem dX9_thingsThere_16 : decode cX9_thingsThere 16 = .ok (.aload_n 0, 1) := by decide +kernel
theorem dX9_thingsThere_17 : decode cX9_thingsThere 17 = .ok (.getfield 82, 3) := by decide +kernel
theorem dX9_thingsThere_20 : decode cX9_thingsThere 20 = .ok (.aload_n 0, 1) := by decide +kernel
theorem dX9_thingsThere_21 : decode cX9_thingsThere 21 = .ok (.getfield 29, 3) := by decide +kernel
theorem dX9_thingsThere_24 : decode cX9_thingsThere 24 = .ok (.invokevirtual 135, 3) := by decide +kernel
theorem dX9_thingsThere_27 : decode cX9_thingsThere 27 = .ok (.ifCond .eq 6, 3) := by decide +kernel
theorem dX9_thingsThere_30 : decode cX9_thingsThere 30 = .ok (.iinc 1 1, 3) := by decide +kernel
theorem dX9_thingsThere_33 : decode cX9_thingsThere 33 = .ok (.iinc 2 1, 3) := by decide +kernel
theorem dX9_thingsThere_36 : decode cX9_thingsThere 36 = .ok (.goto (-32), 3) := by decide +kernel
theorem dX9_thingsThere_39 : decode cX9_thingsThere 39 = .ok (.iload_n 1, 1) := by decide +kernel
theorem dX9_thingsThere_40 : decode cX9_thingsThere 40 = .ok (.ireturn, 1) := by decide +kernel
theorem dX9_refreshTree_0 : decode cX9_refreshTree 0 = .ok (.aload_n 0, 1) := by decide +kernel
theorem dX9_refreshTree_1 : decode cX9_refreshTree 1 = .ok (.getfield 71, 3) := by decide +kernel
theorem dX9_refreshTree_4 : decode cX9_refreshTree 4 = .ok (.ifCond .ne 4, 3) := by decide +kernel
theorem dX9_refreshTree_7 : decode cX9_refreshTree 7 = .ok (.return_, 1) := by decide +kernel
theorem dX9_refreshTree_8 : decode cX9_refreshTree 8 = .ok (.aload_n 0, 1) := by decide +kernel
theorem dX9_refreshTree_9 : decode cX9_refreshTree 9 = .ok (.getfield 53, 3) := by decide +kernel
theorem dX9_refreshTree_12 : decode cX9_refreshTree 12 = .ok (.invokevirtual 328, 3) := by decide +kernel
theorem dX9_refreshTree_15 : decode cX9_refreshTree 15 = .ok (.iconst 0, 1) := by decide +kernel
theorem dX9_refreshTree_16 : decode cX9_refreshTree 16 = .ok (.istore_n 1, 1) := by decide +kernel
theorem dX9_refreshTree_17 : decode cX9_refreshTree 17 = .ok (.iload_n 1, 1) := by decide +kernel
theorem dX9_refreshTree_18 : decode cX9_refreshTree 18 = .ok (.bipush 10, 2) := by decide +kernel
theorem dX9_refreshTree_20 : decode cX9_refreshTree 20 = .ok (.if_icmp .ge 62, 3) := by decide +kernel
theorem dX9_refreshTree_23 : decode cX9_refreshTree 23 = .ok (.aload_n 0, 1) := by decide +kernel
theorem dX9_refreshTree_24 : decode cX9_refreshTree 24 = .ok (.getfield 11, 3) := by decide +kernel
theorem dX9_refreshTree_27 : decode cX9_refreshTree 27 = .ok (.iload_n 1, 1) := by decide +kernel
theorem dX9_refreshTree_28 : decode cX9_refreshTree 28 = .ok (.aaload, 1) := by decide +kernel
theorem dX9_refreshTree_29 : decode cX9_refreshTree 29 = .ok (.astore_n 2, 1) := by decide +kernel
theorem dX9_refreshTree_30 : decode cX9_refreshTree 30 = .ok (.iconst 0, 1) := by decide +kernel
theorem dX9_refreshTree_31 : decode cX9_refreshTree 31 = .ok (.istore_n 3, 1) := by decide +kernel
theorem dX9_refreshTree_32 : decode cX9_refreshTree 32 = .ok (.iload_n 3, 1) := by decide +kernel
theorem dX9_refreshTree_33 : decode cX9_refreshTree 33 = .ok (.iconst 1, 1) := by decide +kernel
theorem dX9_refreshTree_34 : decode cX9_refreshTree 34 = .ok (.iadd, 1) := by decide +kernel
theorem dX9_refreshTree_35 : decode cX9_refreshTree 35 = .ok (.aload_n 2, 1) := by decide +kernel
theorem dX9_refreshTree_36 : decode cX9_refreshTree 36 = .ok (.getfield 102, 3) := by decide +kernel
theorem dX9_refreshTree_39 : decode cX9_refreshTree 39 = .ok (.if_icmp .ge 37, 3) := by decide +kernel
theorem dX9_refreshTree_42 : decode cX9_refreshTree 42 = .ok (.aload_n 2, 1) := by decide +kernel
theorem dX9_refreshTree_43 : decode cX9_refreshTree 43 = .ok (.iload_n 3, 1) := by decide +kernel
theorem dX9_refreshTree_44 : decode cX9_refreshTree 44 = .ok (.invokevirtual 329, 3) := by decide +kernel
theorem dX9_refreshTree_47 : decode cX9_refreshTree 47 = .ok (.ifCond .eq 23, 3) := by decide +kernel
theorem dX9_refreshTree_50 : decode cX9_refreshTree 50 = .ok (.aload_n 0, 1) := by decide +kernel
theorem dX9_refreshTree_51 : decode cX9_refreshTree 51 = .ok (.getfield 53, 3) := by decide +kernel
theorem dX9_refreshTree_54 : decode cX9_refreshTree 54 = .ok (.aload_n 2, 1) := by decide +kernel
theorem dX9_refreshTree_55 : decode cX9_refreshTree 55 = .ok (.iload_n 3, 1) := by decide +kernel
theorem dX9_refreshTree_56 : decode cX9_refreshTree 56 = .ok (.invokevirtual 332, 3) := by decide +kernel
theorem dX9_refreshTree_59 : decode cX9_refreshTree 59 = .ok (.istore 4, 2) := by decide +kernel
theorem dX9_refreshTree_61 : decode cX9_refreshTree 61 = .ok (.aload_n 0, 1) := by decide +kernel
theorem dX9_refreshTree_62 : decode cX9_refreshTree 62 = .ok (.getfield 53, 3) := by decide +kernel
theorem dX9_refreshTree_65 : decode cX9_refreshTree 65 = .ok (.iload 4, 2) := by decide +kernel
theorem dX9_refreshTree_67 : decode cX9_refreshTree 67 = .ok (.invokevirtual 336, 3) := by decide +kernel
theorem dX9_refreshTree_70 : decode cX9_refreshTree 70 = .ok (.iinc 3 1, 3) := by decide +kernel
theorem dX9_refreshTree_73 : decode cX9_refreshTree 73 = .ok (.goto (-41), 3) := by decide +kernel
theorem dX9_refreshTree_76 : decode cX9_refreshTree 76 = .ok (.iinc 1 1, 3) := by decide +kernel
theorem dX9_refreshTree_79 : decode cX9_refreshTree 79 = .ok (.goto (-62), 3) := by decide +kernel
theorem dX9_refreshTree_82 : decode cX9_refreshTree 82 = .ok (.aload_n 0, 1) := by decide +kernel
theorem dX9_refreshTree_83 : decode cX9_refreshTree 83 = .ok (.iconst 0, 1) := by decide +kernel
theorem dX9_refreshTree_84 : decode cX9_refreshTree 84 = .ok (.putfield 71, 3) := by decide +kernel
theorem dX9_refreshTree_87 : decode cX9_refreshTree 87 = .ok (.return_, 1) := by decide +kernel
theorem dX9_countColumns_0 : decode cX9_countColumns 0 = .ok (.aload_n 0, 1) := by decide +kernel
theorem dX9_countColumns_1 : decode cX9_countColumns 1 = .ok (.getfield 67, 3) := by decide +kernel
theorem dX9_countColumns_4 : decode cX9_countColumns 4 = .ok (.invokevirtual 339, 3) := by decide +kernel
theorem dX9_countColumns_7 : decode cX9_countColumns 7 = .ok (.iconst 0, 1) := by decide +kernel
theorem dX9_countColumns_8 : decode cX9_countColumns 8 = .ok (.istore_n 1, 1) := by decide +kernel
theorem dX9_countColumns_9 : decode cX9_countColumns 9 = .ok (.iload_n 1, 1) := by decide +kernel
theorem dX9_countColumns_10 : decode cX9_countColumns 10 = .ok (.bipush 10, 2) := by decide +kernel
theorem dX9_countColumns_12 : decode cX9_countColumns 12 = .ok (.if_icmp .ge 48, 3) := by decide +kernel
theorem dX9_countColumns_15 : decode cX9_countColumns 15 = .ok (.aload_n 0, 1) := by decide +kernel
theorem dX9_countColumns_16 : decode cX9_countColumns 16 = .ok (.getfield 11, 3) := by decide +kernel
theorem dX9_countColumns_19 : decode cX9_countColumns 19 = .ok (.iload_n 1, 1) := by decide +kernel
theorem dX9_countColumns_20 : decode cX9_countColumns 20 = .ok (.aaload, 1) := by decide +kernel
theorem dX9_countColumns_21 : decode cX9_countColumns 21 = .ok (.astore_n 2, 1) := by decide +kernel
theorem dX9_countColumns_22 : decode cX9_countColumns 22 = .ok (.iconst 0, 1) := by decide +kernel
theorem dX9_countColumns_23 : decode cX9_countColumns 23 = .ok (.istore_n 3, 1) := by decide +kernel
theorem dX9_countColumns_24 : decode cX9_countColumns 24 = .ok (.iload_n 3, 1) := by decide +kernel
theorem dX9_countColumns_25 : decode cX9_countColumns 25 = .ok (.aload_n 2, 1) := by decide +kernel
theorem dX9_countColumns_26 : decode cX9_countColumns 26 = .ok (.getfield 102, 3) := by decide +kernel
theorem dX9_countColumns_29 : decode cX9_countColumns 29 = .ok (.if_icmp .ge 25, 3) := by decide +kernel
theorem dX9_countColumns_32 : decode cX9_countColumns 32 = .ok (.aload_n 0, 1) := by decide +kernel
theorem dX9_countColumns_33 : decode cX9_countColumns 33 = .ok (.getfield 67, 3) := by decide +kernel
theorem dX9_countColumns_36 : decode cX9_countColumns 36 = .ok (.aload_n 2, 1) := by decide +kernel
theorem dX9_countColumns_37 : decode cX9_countColumns 37 = .ok (.getfield 125, 3) := by decide +kernel
theorem dX9_countColumns_40 : decode cX9_countColumns 40 = .ok (.iload_n 3, 1) := by decide +kernel
theorem dX9_countColumns_41 : decode cX9_countColumns 41 = .ok (.iaload, 1) := by decide +kernel
theorem dX9_countColumns_42 : decode cX9_countColumns 42 = .ok (.bipush 10, 2) := by decide +kernel
theorem dX9_countColumns_44 : decode cX9_countColumns 44 = .ok (.idiv, 1) := by decide +kernel
theorem dX9_countColumns_45 : decode cX9_countColumns 45 = .ok (.invokevirtual 340, 3) := by decide +kernel
theorem dX9_countColumns_48 : decode cX9_countColumns 48 = .ok (.iinc 3 1, 3) := by decide +kernel
theorem dX9_countColumns_51 : decode cX9_countColumns 51 = .ok (.goto (-27), 3) := by decide +kernel
theorem dX9_countColumns_54 : decode cX9_countColumns 54 = .ok (.iinc 1 1, 3) := by decide +kernel
theorem dX9_countColumns_57 : decode cX9_countColumns 57 = .ok (.goto (-48), 3) := by decide +kernel
theorem dX9_countColumns_60 : decode cX9_countColumns 60 = .ok (.return_, 1) := by decide +kernel
theorem dX9_agreeing_0 : decode cX9_agreeing 0 = .ok (.iload_n 1, 1) := by decide +kernel
theorem dX9_agreeing_1 : decode cX9_agreeing 1 = .ok (.iconst 1, 1) := by decide +kernel
theorem dX9_agreeing_2 : decode cX9_agreeing 2 = .ok (.if_icmp .lt 8, 3) := by decide +kernel
theorem dX9_agreeing_5 : decode cX9_agreeing 5 = .ok (.iload_n 3, 1) := by decide +kernel
theorem dX9_agreeing_6 : decode cX9_agreeing 6 = .ok (.iconst 1, 1) := by decide +kernel
theorem dX9_agreeing_7 : decode cX9_agreeing 7 = .ok (.if_icmp .ge 5, 3) := by decide +kernel
theorem dX9_agreeing_10 : decode cX9_agreeing 10 = .ok (.iconst 0, 1) := by decide +kernel
theorem dX9_agreeing_11 : decode cX9_agreeing 11 = .ok (.ireturn, 1) := by decide +kernel
theorem dX9_agreeing_12 : decode cX9_agreeing 12 = .ok (.iload_n 0, 1) := by decide +kernel
theorem dX9_agreeing_13 : decode cX9_agreeing 13 = .ok (.iload_n 2, 1) := by decide +kernel
theorem dX9_agreeing_14 : decode cX9_agreeing 14 = .ok (.iadd, 1) := by decide +kernel
theorem dX9_agreeing_15 : decode cX9_agreeing 15 = .ok (.iload_n 1, 1) := by decide +kernel
theorem dX9_agreeing_16 : decode cX9_agreeing 16 = .ok (.idiv, 1) := by decide +kernel
theorem dX9_agreeing_17 : decode cX9_agreeing 17 = .ok (.iload_n 1, 1) := by decide +kernel
theorem dX9_agreeing_18 : decode cX9_agreeing 18 = .ok (.imul, 1) := by decide +kernel
theorem dX9_agreeing_19 : decode cX9_agreeing 19 = .ok (.iload_n 2, 1) := by decide +kernel
theorem dX9_agreeing_20 : decode cX9_agreeing 20 = .ok (.isub, 1) := by decide +kernel
theorem dX9_agreeing_21 : decode cX9_agreeing 21 = .ok (.istore 5, 2) := by decide +kernel
theorem dX9_agreeing_23 : decode cX9_agreeing 23 = .ok (.iload_n 0, 1) := by decide +kernel
theorem dX9_agreeing_24 : decode cX9_agreeing 24 = .ok (.iload 4, 2) := by decide +kernel
theorem dX9_agreeing_26 : decode cX9_agreeing 26 = .ok (.iadd, 1) := by decide +kernel
theorem dX9_agreeing_27 : decode cX9_agreeing 27 = .ok (.iload_n 3, 1) := by decide +kernel
theorem dX9_agreeing_28 : decode cX9_agreeing 28 = .ok (.idiv, 1) := by decide +kernel
theorem dX9_agreeing_29 : decode cX9_agreeing 29 = .ok (.iload_n 3, 1) := by decide +kernel
theorem dX9_agreeing_30 : decode cX9_agreeing 30 = .ok (.imul, 1) := by decide +kernel
theorem dX9_agreeing_31 : decode cX9_agreeing 31 = .ok (.iload 4, 2) := by decide +kernel
theorem dX9_agreeing_33 : decode cX9_agreeing 33 = .ok (.isub, 1) := by decide +kernel
theorem dX9_agreeing_34 : decode cX9_agreeing 34 = .ok (.istore 6, 2) := by decide +kernel
theorem dX9_agreeing_36 : decode cX9_agreeing 36 = .ok (.iconst 0, 1) := by decide +kernel
theorem dX9_agreeing_37 : decode cX9_agreeing 37 = .ok (.iload 5, 2) := by decide +kernel
theorem dX9_agreeing_39 : decode cX9_agreeing 39 = .ok (.iload 6, 2) := by decide +kernel
theorem dX9_agreeing_41 : decode cX9_agreeing 41 = .ok (.invokestatic 341, 3) := by decide +kernel
theorem dX9_agreeing_44 : decode cX9_agreeing 44 = .ok (.invokestatic 341, 3) := by decide +kernel
theorem dX9_agreeing_47 : decode cX9_agreeing 47 = .ok (.istore 7, 2) := by decide +kernel
theorem dX9_agreeing_49 : decode cX9_agreeing 49 = .ok (.bipush 100, 2) := by decide +kernel
theorem dX9_agreeing_51 : decode cX9_agreeing 51 = .ok (.iload 5, 2) := by decide +kernel
theorem dX9_agreeing_53 : decode cX9_agreeing 53 = .ok (.iload_n 1, 1) := by decide +kernel
theorem dX9_agreeing_54 : decode cX9_agreeing 54 = .ok (.iadd, 1) := by decide +kernel
theorem dX9_agreeing_55 : decode cX9_agreeing 55 = .ok (.iload 6, 2) := by decide +kernel
theorem dX9_agreeing_57 : decode cX9_agreeing 57 = .ok (.iload_n 3, 1) := by decide +kernel
theorem dX9_agreeing_58 : decode cX9_agreeing 58 = .ok (.iadd, 1) := by decide +kernel
theorem dX9_agreeing_59 : decode cX9_agreeing 59 = .ok (.invokestatic 344, 3) := by decide +kernel
theorem dX9_agreeing_62 : decode cX9_agreeing 62 = .ok (.invokestatic 344, 3) := by decide +kernel
theorem dX9_agreeing_65 : decode cX9_agreeing 65 = .ok (.istore 8, 2) := by decide +kernel
theorem dX9_agreeing_67 : decode cX9_agreeing 67 = .ok (.iconst 0, 1) := by decide +kernel
theorem dX9_agreeing_68 : decode cX9_agreeing 68 = .ok (.iload 8, 2) := by decide +kernel
theorem dX9_agreeing_70 : decode cX9_agreeing 70 = .ok (.iload 7, 2) := by decide +kernel
theorem dX9_agreeing_72 : decode cX9_agreeing 72 = .ok (.isub, 1) := by decide +kernel
theorem dX9_agreeing_73 : decode cX9_agreeing 73 = .ok (.invokestatic 341, 3) := by decide +kernel
theorem dX9_agreeing_76 : decode cX9_agreeing 76 = .ok (.ireturn, 1) := by decide +kernel
