theorem dX0_init_0 : decode cX0_init 0 = .ok (.aload_n 0, 1) := by decide +kernel
theorem dX0_init_1 : decode cX0_init 1 = .ok (.invokespecial 3, 3) := by decide +kernel
theorem dX0_init_4 : decode cX0_init 4 = .ok (.aload_n 0, 1) := by decide +kernel
theorem dX0_init_5 : decode cX0_init 5 = .ok (.bipush 48, 2) := by decide +kernel
theorem dX0_init_7 : decode cX0_init 7 = .ok (.newarray .int, 2) := by decide +kernel
theorem dX0_init_9 : decode cX0_init 9 = .ok (.putfield 9, 3) := by decide +kernel
theorem dX0_init_12 : decode cX0_init 12 = .ok (.aload_n 0, 1) := by decide +kernel
theorem dX0_init_13 : decode cX0_init 13 = .ok (.bipush 6, 2) := by decide +kernel
theorem dX0_init_15 : decode cX0_init 15 = .ok (.newarray .int, 2) := by decide +kernel
theorem dX0_init_17 : decode cX0_init 17 = .ok (.putfield 15, 3) := by decide +kernel
theorem dX0_init_20 : decode cX0_init 20 = .ok (.return_, 1) := by decide +kernel
theorem dX0_begin_0 : decode cX0_begin 0 = .ok (.aload_n 0, 1) := by decide +kernel
theorem dX0_begin_1 : decode cX0_begin 1 = .ok (.iconst 0, 1) := by decide +kernel
theorem dX0_begin_2 : decode cX0_begin 2 = .ok (.putfield 18, 3) := by decide +kernel
theorem dX0_begin_5 : decode cX0_begin 5 = .ok (.aload_n 0, 1) := by decide +kernel
theorem dX0_begin_6 : decode cX0_begin 6 = .ok (.iconst 0, 1) := by decide +kernel
theorem dX0_begin_7 : decode cX0_begin 7 = .ok (.putfield 22, 3) := by decide +kernel
theorem dX0_begin_10 : decode cX0_begin 10 = .ok (.aload_n 0, 1) := by decide +kernel
theorem dX0_begin_11 : decode cX0_begin 11 = .ok (.iconst 1, 1) := by decide +kernel
theorem dX0_begin_12 : decode cX0_begin 12 = .ok (.putfield 25, 3) := by decide +kernel
theorem dX0_begin_15 : decode cX0_begin 15 = .ok (.aload_n 0, 1) := by decide +kernel
theorem dX0_begin_16 : decode cX0_begin 16 = .ok (.iconst 1, 1) := by decide +kernel
theorem dX0_begin_17 : decode cX0_begin 17 = .ok (.putfield 28, 3) := by decide +kernel
theorem dX0_begin_20 : decode cX0_begin 20 = .ok (.aload_n 0, 1) := by decide +kernel
theorem dX0_begin_21 : decode cX0_begin 21 = .ok (.iconst 0, 1) := by decide +kernel
theorem dX0_begin_22 : decode cX0_begin 22 = .ok (.putfield 31, 3) := by decide +kernel
theorem dX0_begin_25 : decode cX0_begin 25 = .ok (.aload_n 0, 1) := by decide +kernel
theorem dX0_begin_26 : decode cX0_begin 26 = .ok (.iconst 0, 1) := by decide +kernel
theorem dX0_begin_27 : decode cX0_begin 27 = .ok (.putfield 34, 3) := by decide +kernel
theorem dX0_begin_30 : decode cX0_begin 30 = .ok (.return_, 1) := by decide +kernel
theorem dX0_copyFrom_0 : decode cX0_copyFrom 0 = .ok (.aload_n 1, 1) := by decide +kernel
theorem dX0_copyFrom_1 : decode cX0_copyFrom 1 = .ok (.getfield 9, 3) := by decide +kernel
theorem dX0_copyFrom_4 : decode cX0_copyFrom 4 = .ok (.aload_n 0, 1) := by decide +kernel
theorem dX0_copyFrom_5 : decode cX0_copyFrom 5 = .ok (.getfield 9, 3) := by decide +kernel
theorem dX0_copyFrom_8 : decode cX0_copyFrom 8 = .ok (.aload_n 1, 1) := by decide +kernel
theorem dX0_copyFrom_9 : decode cX0_copyFrom 9 = .ok (.getfield 18, 3) := by decide +kernel
theorem dX0_copyFrom_12 : decode cX0_copyFrom 12 = .ok (.invokestatic 38, 3) := by decide +kernel
theorem dX0_copyFrom_15 : decode cX0_copyFrom 15 = .ok (.aload_n 1, 1) := by decide +kernel
theorem dX0_copyFrom_16 : decode cX0_copyFrom 16 = .ok (.getfield 15, 3) := by decide +kernel
theorem dX0_copyFrom_19 : decode cX0_copyFrom 19 = .ok (.aload_n 0, 1) := by decide +kernel
theorem dX0_copyFrom_20 : decode cX0_copyFrom 20 = .ok (.getfield 15, 3) := by decide +kernel
theorem dX0_copyFrom_23 : decode cX0_copyFrom 23 = .ok (.aload_n 1, 1) := by decide +kernel
theorem dX0_copyFrom_24 : decode cX0_copyFrom 24 = .ok (.getfield 22, 3) := by decide +kernel
theorem dX0_copyFrom_27 : decode cX0_copyFrom 27 = .ok (.invokestatic 38, 3) := by decide +kernel
theorem dX0_copyFrom_30 : decode cX0_copyFrom 30 = .ok (.aload_n 0, 1) := by decide +kernel
theorem dX0_copyFrom_31 : decode cX0_copyFrom 31 = .ok (.aload_n 1, 1) := by decide +kernel
theorem dX0_copyFrom_32 : decode cX0_copyFrom 32 = .ok (.getfield 18, 3) := by decide +kernel
theorem dX0_copyFrom_35 : decode cX0_copyFrom 35 = .ok (.putfield 18, 3) := by decide +kernel
theorem dX0_copyFrom_38 : decode cX0_copyFrom 38 = .ok (.aload_n 0, 1) := by decide +kernel
theorem dX0_copyFrom_39 : decode cX0_copyFrom 39 = .ok (.aload_n 1, 1) := by decide +kernel
theorem dX0_copyFrom_40 : decode cX0_copyFrom 40 = .ok (.getfield 22, 3) := by decide +kernel
theorem dX0_copyFrom_43 : decode cX0_copyFrom 43 = .ok (.putfield 22, 3) := by decide +kernel
theorem dX0_copyFrom_46 : decode cX0_copyFrom 46 = .ok (.aload_n 0, 1) := by decide +kernel
theorem dX0_copyFrom_47 : decode cX0_copyFrom 47 = .ok (.aload_n 1, 1) := by decide +kernel
theorem dX0_copyFrom_48 : decode cX0_copyFrom 48 = .ok (.getfield 25, 3) := by decide +kernel
theorem dX0_copyFrom_51 : decode cX0_copyFrom 51 = .ok (.putfield 25, 3) := by decide +kernel
theorem dX0_copyFrom_54 : decode cX0_copyFrom 54 = .ok (.aload_n 0, 1) := by decide +kernel
theorem dX0_copyFrom_55 : decode cX0_copyFrom 55 = .ok (.aload_n 1, 1) := by decide +kernel
theorem dX0_copyFrom_56 : decode cX0_copyFrom 56 = .ok (.getfield 28, 3) := by decide +kernel
theorem dX0_copyFrom_59 : decode cX0_copyFrom 59 = .ok (.putfield 28, 3) := by decide +kernel
theorem dX0_copyFrom_62 : decode cX0_copyFrom 62 = .ok (.aload_n 0, 1) := by decide +kernel
theorem dX0_copyFrom_63 : decode cX0_copyFrom 63 = .ok (.aload_n 1, 1) := by decide +kernel
theorem dX0_copyFrom_64 : decode cX0_copyFrom 64 = .ok (.getfield 31, 3) := by decide +kernel
theorem dX0_copyFrom_67 : decode cX0_copyFrom 67 = .ok (.putfield 31, 3) := by decide +kernel
theorem dX0_copyFrom_70 : decode cX0_copyFrom 70 = .ok (.aload_n 0, 1) := by decide +kernel
theorem dX0_copyFrom_71 : decode cX0_copyFrom 71 = .ok (.aload_n 1, 1) := by decide +kernel
theorem dX0_copyFrom_72 : decode cX0_copyFrom 72 = .ok (.getfield 34, 3) := by decide +kernel
theorem dX0_copyFrom_75 : decode cX0_copyFrom 75 = .ok (.putfield 34, 3) := by decide +kernel
theorem dX0_copyFrom_78 : decode cX0_copyFrom 78 = .ok (.return_, 1) := by decide +kernel
theorem dX0_isEmpty_0 : decode cX0_isEmpty 0 = .ok (.aload_n 0, 1) := by decide +kernel
theorem dX0_isEmpty_1 : decode cX0_isEmpty 1 = .ok (.getfield 18, 3) := by decide +kernel
theorem dX0_isEmpty_4 : decode cX0_isEmpty 4 = .ok (.ifCond .ne 7, 3) := by decide +kernel
theorem dX0_isEmpty_7 : decode cX0_isEmpty 7 = .ok (.iconst 1, 1) := by decide +kernel
theorem dX0_isEmpty_8 : decode cX0_isEmpty 8 = .ok (.goto 4, 3) := by decide +kernel
theorem dX0_isEmpty_11 : decode cX0_isEmpty 11 = .ok (.iconst 0, 1) := by decide +kernel
theorem dX0_isEmpty_12 : decode cX0_isEmpty 12 = .ok (.ireturn, 1) := by decide +kernel
theorem dX0_phaseBehind_0 : decode cX0_phaseBehind 0 = .ok (.aload_n 0, 1) := by decide +kernel
theorem dX0_phaseBehind_1 : decode cX0_phaseBehind 1 = .ok (.getfield 18, 3) := by decide +kernel
theorem dX0_phaseBehind_4 : decode cX0_phaseBehind 4 = .ok (.aload_n 0, 1) := by decide +kernel
theorem dX0_phaseBehind_5 : decode cX0_phaseBehind 5 = .ok (.getfield 28, 3) := by decide +kernel
theorem dX0_phaseBehind_8 : decode cX0_phaseBehind 8 = .ok (.imul, 1) := by decide +kernel
theorem dX0_phaseBehind_9 : decode cX0_phaseBehind 9 = .ok (.istore_n 2, 1) := by decide +kernel
theorem dX0_phaseBehind_10 : decode cX0_phaseBehind 10 = .ok (.iload_n 2, 1) := by decide +kernel
theorem dX0_phaseBehind_11 : decode cX0_phaseBehind 11 = .ok (.ifCond .gt 7, 3) := by decide +kernel
theorem dX0_phaseBehind_14 : decode cX0_phaseBehind 14 = .ok (.iconst 0, 1) := by decide +kernel
theorem dX0_phaseBehind_15 : decode cX0_phaseBehind 15 = .ok (.goto 16, 3) := by decide +kernel
theorem dX0_phaseBehind_18 : decode cX0_phaseBehind 18 = .ok (.aload_n 0, 1) := by decide +kernel
theorem dX0_phaseBehind_19 : decode cX0_phaseBehind 19 = .ok (.getfield 31, 3) := by decide +kernel
theorem dX0_phaseBehind_22 : decode cX0_phaseBehind 22 = .ok (.iload_n 1, 1) := by decide +kernel
theorem dX0_phaseBehind_23 : decode cX0_phaseBehind 23 = .ok (.aload_n 0, 1) := by decide +kernel
theorem dX0_phaseBehind_24 : decode cX0_phaseBehind 24 = .ok (.getfield 25, 3) := by decide +kernel
theorem dX0_phaseBehind_27 : decode cX0_phaseBehind 27 = .ok (.imul, 1) := by decide +kernel
theorem dX0_phaseBehind_28 : decode cX0_phaseBehind 28 = .ok (.iadd, 1) := by decide +kernel
theorem dX0_phaseBehind_29 : decode cX0_phaseBehind 29 = .ok (.iload_n 2, 1) := by decide +kernel
theorem dX0_phaseBehind_30 : decode cX0_phaseBehind 30 = .ok (.irem, 1) := by decide +kernel
theorem dX0_phaseBehind_31 : decode cX0_phaseBehind 31 = .ok (.ireturn, 1) := by decide +kernel
theorem dX0_headIn_0 : decode cX0_headIn 0 = .ok (.aload_n 0, 1) := by decide +kernel
theorem dX0_headIn_1 : decode cX0_headIn 1 = .ok (.getfield 18, 3) := by decide +kernel
theorem dX0_headIn_4 : decode cX0_headIn 4 = .ok (.ifCond .eq 10, 3) := by decide +kernel
theorem dX0_headIn_7 : decode cX0_headIn 7 = .ok (.aload_n 0, 1) := by decide +kernel
theorem dX0_headIn_8 : decode cX0_headIn 8 = .ok (.getfield 28, 3) := by decide +kernel
theorem dX0_headIn_11 : decode cX0_headIn 11 = .ok (.ifCond .gt 7, 3) := by decide +kernel
theorem dX0_headIn_14 : decode cX0_headIn 14 = .ok (.iconst (-1), 1) := by decide +kernel
theorem dX0_headIn_15 : decode cX0_headIn 15 = .ok (.goto 9, 3) := by decide +kernel
theorem dX0_headIn_18 : decode cX0_headIn 18 = .ok (.iload_n 1, 1) := by decide +kernel
theorem dX0_headIn_19 : decode cX0_headIn 19 = .ok (.aload_n 0, 1) := by decide +kernel
theorem dX0_headIn_20 : decode cX0_headIn 20 = .ok (.getfield 28, 3) := by decide +kernel
theorem dX0_headIn_23 : decode cX0_headIn 23 = .ok (.idiv, 1) := by decide +kernel
theorem dX0_headIn_24 : decode cX0_headIn 24 = .ok (.ireturn, 1) := by decide +kernel
theorem dX0_heardBehind_0 : decode cX0_heardBehind 0 = .ok (.aload_n 0, 1) := by decide +kernel
theorem dX0_heardBehind_1 : decode cX0_heardBehind 1 = .ok (.getfield 34, 3) := by decide +kernel
theorem dX0_heardBehind_4 : decode cX0_heardBehind 4 = .ok (.ifCond .eq 7, 3) := by decide +kernel
theorem dX0_heardBehind_7 : decode cX0_heardBehind 7 = .ok (.iconst 0, 1) := by decide +kernel
theorem dX0_heardBehind_8 : decode cX0_heardBehind 8 = .ok (.goto 19, 3) := by decide +kernel
theorem dX0_heardBehind_11 : decode cX0_heardBehind 11 = .ok (.aload_n 0, 1) := by decide +kernel
theorem dX0_heardBehind_12 : decode cX0_heardBehind 12 = .ok (.getfield 9, 3) := by decide +kernel
theorem dX0_heardBehind_15 : decode cX0_heardBehind 15 = .ok (.aload_n 0, 1) := by decide +kernel
theorem dX0_heardBehind_16 : decode cX0_heardBehind 16 = .ok (.aload_n 0, 1) := by decide +kernel
theorem dX0_heardBehind_17 : decode cX0_heardBehind 17 = .ok (.iload_n 1, 1) := by decide +kernel
theorem dX0_heardBehind_18 : decode cX0_heardBehind 18 = .ok (.invokevirtual 42, 3) := by decide +kernel
theorem dX0_heardBehind_21 : decode cX0_heardBehind 21 = .ok (.invokevirtual 46, 3) := by decide +kernel
theorem dX0_heardBehind_24 : decode cX0_heardBehind 24 = .ok (.invokestatic 49, 3) := by decide +kernel
theorem dX0_heardBehind_27 : decode cX0_heardBehind 27 = .ok (.ireturn, 1) := by decide +kernel
theorem dX0_period_0 : decode cX0_period 0 = .ok (.aload_n 0, 1) := by decide +kernel
theorem dX0_period_1 : decode cX0_period 1 = .ok (.getfield 18, 3) := by decide +kernel
theorem dX0_period_4 : decode cX0_period 4 = .ok (.aload_n 0, 1) := by decide +kernel
theorem dX0_period_5 : decode cX0_period 5 = .ok (.getfield 28, 3) := by decide +kernel
theorem dX0_period_8 : decode cX0_period 8 = .ok (.imul, 1) := by decide +kernel
theorem dX0_period_9 : decode cX0_period 9 = .ok (.istore_n 1, 1) := by decide +kernel
theorem dX0_period_10 : decode cX0_period 10 = .ok (.iload_n 1, 1) := by decide +kernel
theorem dX0_period_11 : decode cX0_period 11 = .ok (.i2l, 1) := by decide +kernel
theorem dX0_period_12 : decode cX0_period 12 = .ok (.aload_n 0, 1) := by decide +kernel
theorem dX0_period_13 : decode cX0_period 13 = .ok (.getfield 25, 3) := by decide +kernel
theorem dX0_period_16 : decode cX0_period 16 = .ok (.i2l, 1) := by decide +kernel
theorem dX0_period_17 : decode cX0_period 17 = .ok (.invokestatic 53, 3) := by decide +kernel
theorem dX0_period_20 : decode cX0_period 20 = .ok (.l2i, 1) := by decide +kernel
theorem dX0_period_21 : decode cX0_period 21 = .ok (.istore_n 2, 1) := by decide +kernel
theorem dX0_period_22 : decode cX0_period 22 = .ok (.aload_n 0, 1) := by decide +kernel
theorem dX0_period_23 : decode cX0_period 23 = .ok (.invokevirtual 59, 3) := by decide +kernel
theorem dX0_period_26 : decode cX0_period 26 = .ok (.ifCond .ne 7, 3) := by decide +kernel
theorem dX0_period_29 : decode cX0_period 29 = .ok (.iload_n 2, 1) := by decide +kernel
theorem dX0_period_30 : decode cX0_period 30 = .ok (.ifCond .gt 7, 3) := by decide +kernel
theorem dX0_period_33 : decode cX0_period 33 = .ok (.iconst (-1), 1) := by decide +kernel
theorem dX0_period_34 : decode cX0_period 34 = .ok (.goto 6, 3) := by decide +kernel
theorem dX0_period_37 : decode cX0_period 37 = .ok (.iload_n 1, 1) := by decide +kernel
theorem dX0_period_38 : decode cX0_period 38 = .ok (.iload_n 2, 1) := by decide +kernel
theorem dX0_period_39 : decode cX0_period 39 = .ok (.idiv, 1) := by decide +kernel
theorem dX0_period_40 : decode cX0_period 40 = .ok (.ireturn, 1) := by decide +kernel
theorem dX0_zeroFrom_0 : decode cX0_zeroFrom 0 = .ok (.aload_n 0, 1) := by decide +kernel
theorem dX0_zeroFrom_1 : decode cX0_zeroFrom 1 = .ok (.invokevirtual 63, 3) := by decide +kernel
theorem dX0_zeroFrom_4 : decode cX0_zeroFrom 4 = .ok (.istore 5, 2) := by decide +kernel
theorem dX0_zeroFrom_6 : decode cX0_zeroFrom 6 = .ok (.lload_n 1, 1) := by decide +kernel
theorem dX0_zeroFrom_7 : decode cX0_zeroFrom 7 = .ok (.lstore 6, 2) := by decide +kernel
theorem dX0_zeroFrom_9 : decode cX0_zeroFrom 9 = .ok (.iconst 0, 1) := by decide +kernel
theorem dX0_zeroFrom_10 : decode cX0_zeroFrom 10 = .ok (.istore 8, 2) := by decide +kernel
theorem dX0_zeroFrom_12 : decode cX0_zeroFrom 12 = .ok (.iload 8, 2) := by decide +kernel
theorem dX0_zeroFrom_14 : decode cX0_zeroFrom 14 = .ok (.iload 5, 2) := by decide +kernel
theorem dX0_zeroFrom_16 : decode cX0_zeroFrom 16 = .ok (.if_icmp .ge 38, 3) := by decide +kernel
theorem dX0_zeroFrom_19 : decode cX0_zeroFrom 19 = .ok (.lload 6, 2) := by decide +kernel
theorem dX0_zeroFrom_21 : decode cX0_zeroFrom 21 = .ok (.ldc2_w 67, 3) := by decide +kernel
theorem dX0_zeroFrom_24 : decode cX0_zeroFrom 24 = .ok (.lcmp, 1) := by decide +kernel
theorem dX0_zeroFrom_25 : decode cX0_zeroFrom 25 = .ok (.ifCond .gt 29, 3) := by decide +kernel
theorem dX0_zeroFrom_28 : decode cX0_zeroFrom 28 = .ok (.aload_n 0, 1) := by decide +kernel
theorem dX0_zeroFrom_29 : decode cX0_zeroFrom 29 = .ok (.lload 6, 2) := by decide +kernel
theorem dX0_zeroFrom_31 : decode cX0_zeroFrom 31 = .ok (.l2i, 1) := by decide +kernel
theorem dX0_zeroFrom_32 : decode cX0_zeroFrom 32 = .ok (.invokevirtual 42, 3) := by decide +kernel
theorem dX0_zeroFrom_35 : decode cX0_zeroFrom 35 = .ok (.ifCond .ne 7, 3) := by decide +kernel
theorem dX0_zeroFrom_38 : decode cX0_zeroFrom 38 = .ok (.lload 6, 2) := by decide +kernel
theorem dX0_zeroFrom_40 : decode cX0_zeroFrom 40 = .ok (.l2i, 1) := by decide +kernel
theorem dX0_zeroFrom_41 : decode cX0_zeroFrom 41 = .ok (.ireturn, 1) := by decide +kernel
theorem dX0_zeroFrom_42 : decode cX0_zeroFrom 42 = .ok (.lload 6, 2) := by decide +kernel
theorem dX0_zeroFrom_44 : decode cX0_zeroFrom 44 = .ok (.lload_n 3, 1) := by decide +kernel
theorem dX0_zeroFrom_45 : decode cX0_zeroFrom 45 = .ok (.ladd, 1) := by decide +kernel
theorem dX0_zeroFrom_46 : decode cX0_zeroFrom 46 = .ok (.lstore 6, 2) := by decide +kernel
theorem dX0_zeroFrom_48 : decode cX0_zeroFrom 48 = .ok (.iinc 8 1, 3) := by decide +kernel
theorem dX0_zeroFrom_51 : decode cX0_zeroFrom 51 = .ok (.goto (-39), 3) := by decide +kernel
theorem dX0_zeroFrom_54 : decode cX0_zeroFrom 54 = .ok (.iconst (-1), 1) := by decide +kernel
theorem dX0_zeroFrom_55 : decode cX0_zeroFrom 55 = .ok (.ireturn, 1) := by decide +kernel
theorem dX0_isTurned_0 : decode cX0_isTurned 0 = .ok (.iconst 0, 1) := by decide +kernel
theorem dX0_isTurned_1 : decode cX0_isTurned 1 = .ok (.istore_n 3, 1) := by decide +kernel
theorem dX0_isTurned_2 : decode cX0_isTurned 2 = .ok (.iload_n 3, 1) := by decide +kernel
theorem dX0_isTurned_3 : decode cX0_isTurned 3 = .ok (.aload_n 0, 1) := by decide +kernel
theorem dX0_isTurned_4 : decode cX0_isTurned 4 = .ok (.getfield 18, 3) := by decide +kernel
theorem dX0_isTurned_7 : decode cX0_isTurned 7 = .ok (.if_icmp .ge 57, 3) := by decide +kernel
theorem dX0_isTurned_10 : decode cX0_isTurned 10 = .ok (.iload_n 3, 1) := by decide +kernel
theorem dX0_isTurned_11 : decode cX0_isTurned 11 = .ok (.iload_n 2, 1) := by decide +kernel
theorem dX0_isTurned_12 : decode cX0_isTurned 12 = .ok (.iadd, 1) := by decide +kernel
theorem dX0_isTurned_13 : decode cX0_isTurned 13 = .ok (.aload_n 0, 1) := by decide +kernel
theorem dX0_isTurned_14 : decode cX0_isTurned 14 = .ok (.getfield 18, 3) := by decide +kernel
theorem dX0_isTurned_17 : decode cX0_isTurned 17 = .ok (.if_icmp .ge 9, 3) := by decide +kernel
theorem dX0_isTurned_20 : decode cX0_isTurned 20 = .ok (.iload_n 3, 1) := by decide +kernel
theorem dX0_isTurned_21 : decode cX0_isTurned 21 = .ok (.iload_n 2, 1) := by decide +kernel
theorem dX0_isTurned_22 : decode cX0_isTurned 22 = .ok (.iadd, 1) := by decide +kernel
theorem dX0_isTurned_23 : decode cX0_isTurned 23 = .ok (.goto 11, 3) := by decide +kernel
theorem dX0_isTurned_26 : decode cX0_isTurned 26 = .ok (.iload_n 3, 1) := by decide +kernel
theorem dX0_isTurned_27 : decode cX0_isTurned 27 = .ok (.iload_n 2, 1) := by decide +kernel
theorem dX0_isTurned_28 : decode cX0_isTurned 28 = .ok (.iadd, 1) := by decide +kernel
theorem dX0_isTurned_29 : decode cX0_isTurned 29 = .ok (.aload_n 0, 1) := by decide +kernel
theorem dX0_isTurned_30 : decode cX0_isTurned 30 = .ok (.getfield 18, 3) := by decide +kernel
theorem dX0_isTurned_33 : decode cX0_isTurned 33 = .ok (.isub, 1) := by decide +kernel
theorem dX0_isTurned_34 : decode cX0_isTurned 34 = .ok (.istore 4, 2) := by decide +kernel
theorem dX0_isTurned_36 : decode cX0_isTurned 36 = .ok (.aload_n 0, 1) := by decide +kernel
theorem dX0_isTurned_37 : decode cX0_isTurned 37 = .ok (.getfield 9, 3) := by decide +kernel
theorem dX0_isTurned_40 : decode cX0_isTurned 40 = .ok (.iload_n 3, 1) := by decide +kernel
theorem dX0_isTurned_41 : decode cX0_isTurned 41 = .ok (.invokestatic 49, 3) := by decide +kernel
theorem dX0_isTurned_44 : decode cX0_isTurned 44 = .ok (.aload_n 1, 1) := by decide +kernel
theorem dX0_isTurned_45 : decode cX0_isTurned 45 = .ok (.getfield 9, 3) := by decide +kernel
theorem dX0_isTurned_48 : decode cX0_isTurned 48 = .ok (.iload 4, 2) := by decide +kernel
theorem dX0_isTurned_50 : decode cX0_isTurned 50 = .ok (.invokestatic 49, 3) := by decide +kernel
theorem dX0_isTurned_53 : decode cX0_isTurned 53 = .ok (.if_icmp .eq 5, 3) := by decide +kernel
theorem dX0_isTurned_56 : decode cX0_isTurned 56 = .ok (.iconst 0, 1) := by decide +kernel
theorem dX0_isTurned_57 : decode cX0_isTurned 57 = .ok (.ireturn, 1) := by decide +kernel
theorem dX0_isTurned_58 : decode cX0_isTurned 58 = .ok (.iinc 3 1, 3) := by decide +kernel
theorem dX0_isTurned_61 : decode cX0_isTurned 61 = .ok (.goto (-59), 3) := by decide +kernel
theorem dX0_isTurned_64 : decode cX0_isTurned 64 = .ok (.iconst 1, 1) := by decide +kernel
theorem dX0_isTurned_65 : decode cX0_isTurned 65 = .ok (.ireturn, 1) := by decide +kernel
theorem dX0_join_0 : decode cX0_join 0 = .ok (.iload_n 2, 1) := by decide +kernel
theorem dX0_join_1 : decode cX0_join 1 = .ok (.istore 4, 2) := by decide +kernel
theorem dX0_join_3 : decode cX0_join 3 = .ok (.iload 4, 2) := by decide +kernel
theorem dX0_join_5 : decode cX0_join 5 = .ok (.iload_n 3, 1) := by decide +kernel
theorem dX0_join_6 : decode cX0_join 6 = .ok (.if_icmp .ge 34, 3) := by decide +kernel
theorem dX0_join_9 : decode cX0_join 9 = .ok (.aload_n 0, 1) := by decide +kernel
theorem dX0_join_10 : decode cX0_join 10 = .ok (.getfield 9, 3) := by decide +kernel
theorem dX0_join_13 : decode cX0_join 13 = .ok (.aload_n 0, 1) := by decide +kernel
theorem dX0_join_14 : decode cX0_join 14 = .ok (.getfield 18, 3) := by decide +kernel
theorem dX0_join_17 : decode cX0_join 17 = .ok (.iload 4, 2) := by decide +kernel
theorem dX0_join_19 : decode cX0_join 19 = .ok (.iadd, 1) := by decide +kernel
theorem dX0_join_20 : decode cX0_join 20 = .ok (.iload_n 2, 1) := by decide +kernel
theorem dX0_join_21 : decode cX0_join 21 = .ok (.isub, 1) := by decide +kernel
theorem dX0_join_22 : decode cX0_join 22 = .ok (.aload_n 1, 1) := by decide +kernel
theorem dX0_join_23 : decode cX0_join 23 = .ok (.getfield 69, 3) := by decide +kernel
theorem dX0_join_26 : decode cX0_join 26 = .ok (.iload 4, 2) := by decide +kernel
theorem dX0_join_28 : decode cX0_join 28 = .ok (.invokestatic 49, 3) := by decide +kernel
theorem dX0_join_31 : decode cX0_join 31 = .ok (.invokestatic 72, 3) := by decide +kernel
theorem dX0_join_34 : decode cX0_join 34 = .ok (.iinc 4 1, 3) := by decide +kernel
theorem dX0_join_37 : decode cX0_join 37 = .ok (.goto (-34), 3) := by decide +kernel
theorem dX0_join_40 : decode cX0_join 40 = .ok (.aload_n 0, 1) := by decide +kernel
theorem dX0_join_41 : decode cX0_join 41 = .ok (.getfield 15, 3) := by decide +kernel
theorem dX0_join_44 : decode cX0_join 44 = .ok (.aload_n 0, 1) := by decide +kernel
theorem dX0_join_45 : decode cX0_join 45 = .ok (.getfield 22, 3) := by decide +kernel
theorem dX0_join_48 : decode cX0_join 48 = .ok (.iload_n 3, 1) := by decide +kernel
theorem dX0_join_49 : decode cX0_join 49 = .ok (.iload_n 2, 1) := by decide +kernel
theorem dX0_join_50 : decode cX0_join 50 = .ok (.isub, 1) := by decide +kernel
theorem dX0_join_51 : decode cX0_join 51 = .ok (.invokestatic 72, 3) := by decide +kernel
theorem dX0_join_54 : decode cX0_join 54 = .ok (.aload_n 0, 1) := by decide +kernel
theorem dX0_join_55 : decode cX0_join 55 = .ok (.dup, 1) := by decide +kernel
theorem dX0_join_56 : decode cX0_join 56 = .ok (.getfield 18, 3) := by decide +kernel
theorem dX0_join_59 : decode cX0_join 59 = .ok (.iload_n 3, 1) := by decide +kernel
theorem dX0_join_60 : decode cX0_join 60 = .ok (.iload_n 2, 1) := by decide +kernel
theorem dX0_join_61 : decode cX0_join 61 = .ok (.isub, 1) := by decide +kernel
theorem dX0_join_62 : decode cX0_join 62 = .ok (.iadd, 1) := by decide +kernel
theorem dX0_join_63 : decode cX0_join 63 = .ok (.putfield 18, 3) := by decide +kernel
theorem dX0_join_66 : decode cX0_join 66 = .ok (.aload_n 0, 1) := by decide +kernel
theorem dX0_join_67 : decode cX0_join 67 = .ok (.dup, 1) := by decide +kernel
theorem dX0_join_68 : decode cX0_join 68 = .ok (.getfield 22, 3) := by decide +kernel
theorem dX0_join_71 : decode cX0_join 71 = .ok (.iconst 1, 1) := by decide +kernel
theorem dX0_join_72 : decode cX0_join 72 = .ok (.iadd, 1) := by decide +kernel
theorem dX0_join_73 : decode cX0_join 73 = .ok (.putfield 22, 3) := by decide +kernel
theorem dX0_join_76 : decode cX0_join 76 = .ok (.aload_n 0, 1) := by decide +kernel
theorem dX0_join_77 : decode cX0_join 77 = .ok (.iconst 0, 1) := by decide +kernel
theorem dX0_join_78 : decode cX0_join 78 = .ok (.putfield 31, 3) := by decide +kernel
theorem dX0_join_81 : decode cX0_join 81 = .ok (.return_, 1) := by decide +kernel
theorem dX0_takeOff_0 : decode cX0_takeOff 0 = .ok (.aload_n 0, 1) := by decide +kernel
theorem dX0_takeOff_1 : decode cX0_takeOff 1 = .ok (.dup, 1) := by decide +kernel
theorem dX0_takeOff_2 : decode cX0_takeOff 2 = .ok (.getfield 22, 3) := by decide +kernel
theorem dX0_takeOff_5 : decode cX0_takeOff 5 = .ok (.iconst 1, 1) := by decide +kernel
theorem dX0_takeOff_6 : decode cX0_takeOff 6 = .ok (.isub, 1) := by decide +kernel
theorem dX0_takeOff_7 : decode cX0_takeOff 7 = .ok (.putfield 22, 3) := by decide +kernel
theorem dX0_takeOff_10 : decode cX0_takeOff 10 = .ok (.aload_n 0, 1) := by decide +kernel
theorem dX0_takeOff_11 : decode cX0_takeOff 11 = .ok (.dup, 1) := by decide +kernel
theorem dX0_takeOff_12 : decode cX0_takeOff 12 = .ok (.getfield 18, 3) := by decide +kernel
theorem dX0_takeOff_15 : decode cX0_takeOff 15 = .ok (.aload_n 0, 1) := by decide +kernel
theorem dX0_takeOff_16 : decode cX0_takeOff 16 = .ok (.getfield 15, 3) := by decide +kernel
theorem dX0_takeOff_19 : decode cX0_takeOff 19 = .ok (.aload_n 0, 1) := by decide +kernel
theorem dX0_takeOff_20 : decode cX0_takeOff 20 = .ok (.getfield 22, 3) := by decide +kernel
theorem dX0_takeOff_23 : decode cX0_takeOff 23 = .ok (.invokestatic 49, 3) := by decide +kernel
theorem dX0_takeOff_26 : decode cX0_takeOff 26 = .ok (.isub, 1) := by decide +kernel
theorem dX0_takeOff_27 : decode cX0_takeOff 27 = .ok (.putfield 18, 3) := by decide +kernel
theorem dX0_takeOff_30 : decode cX0_takeOff 30 = .ok (.aload_n 0, 1) := by decide +kernel
theorem dX0_takeOff_31 : decode cX0_takeOff 31 = .ok (.iconst 0, 1) := by decide +kernel
theorem dX0_takeOff_32 : decode cX0_takeOff 32 = .ok (.putfield 31, 3) := by decide +kernel
theorem dX0_takeOff_35 : decode cX0_takeOff 35 = .ok (.aload_n 0, 1) := by decide +kernel
theorem dX0_takeOff_36 : decode cX0_takeOff 36 = .ok (.getfield 18, 3) := by decide +kernel
theorem dX0_takeOff_39 : decode cX0_takeOff 39 = .ok (.ireturn, 1) := by decide +kernel
theorem dX0_changeSpeed_0 : decode cX0_changeSpeed 0 = .ok (.aload_n 0, 1) := by decide +kernel
theorem dX0_changeSpeed_1 : decode cX0_changeSpeed 1 = .ok (.aload_n 0, 1) := by decide +kernel
theorem dX0_changeSpeed_2 : decode cX0_changeSpeed 2 = .ok (.invokevirtual 59, 3) := by decide +kernel
theorem dX0_changeSpeed_5 : decode cX0_changeSpeed 5 = .ok (.ifCond .eq 7, 3) := by decide +kernel
theorem dX0_changeSpeed_8 : decode cX0_changeSpeed 8 = .ok (.iconst 0, 1) := by decide +kernel
theorem dX0_changeSpeed_9 : decode cX0_changeSpeed 9 = .ok (.goto 13, 3) := by decide +kernel
theorem dX0_changeSpeed_12 : decode cX0_changeSpeed 12 = .ok (.aload_n 0, 1) := by decide +kernel
theorem dX0_changeSpeed_13 : decode cX0_changeSpeed 13 = .ok (.aload_n 0, 1) := by decide +kernel
theorem dX0_changeSpeed_14 : decode cX0_changeSpeed 14 = .ok (.getfield 31, 3) := by decide +kernel
theorem dX0_changeSpeed_17 : decode cX0_changeSpeed 17 = .ok (.invokevirtual 46, 3) := by decide +kernel
theorem dX0_changeSpeed_20 : decode cX0_changeSpeed 20 = .ok (.iload_n 2, 1) := by decide +kernel
theorem dX0_changeSpeed_21 : decode cX0_changeSpeed 21 = .ok (.imul, 1) := by decide +kernel
theorem dX0_changeSpeed_22 : decode cX0_changeSpeed 22 = .ok (.putfield 31, 3) := by decide +kernel
theorem dX0_changeSpeed_25 : decode cX0_changeSpeed 25 = .ok (.aload_n 0, 1) := by decide +kernel
theorem dX0_changeSpeed_26 : decode cX0_changeSpeed 26 = .ok (.iload_n 1, 1) := by decide +kernel
theorem dX0_changeSpeed_27 : decode cX0_changeSpeed 27 = .ok (.putfield 25, 3) := by decide +kernel
theorem dX0_changeSpeed_30 : decode cX0_changeSpeed 30 = .ok (.aload_n 0, 1) := by decide +kernel
theorem dX0_changeSpeed_31 : decode cX0_changeSpeed 31 = .ok (.iload_n 2, 1) := by decide +kernel
theorem dX0_changeSpeed_32 : decode cX0_changeSpeed 32 = .ok (.putfield 28, 3) := by decide +kernel
theorem dX0_changeSpeed_35 : decode cX0_changeSpeed 35 = .ok (.aload_n 0, 1) := by decide +kernel
theorem dX0_changeSpeed_36 : decode cX0_changeSpeed 36 = .ok (.getfield 31, 3) := by decide +kernel
theorem dX0_changeSpeed_39 : decode cX0_changeSpeed 39 = .ok (.ireturn, 1) := by decide +kernel
theorem dX1_greatestDivisor_0 : decode cX1_greatestDivisor 0 = .ok (.lload_n 0, 1) := by decide +kernel
theorem dX1_greatestDivisor_1 : decode cX1_greatestDivisor 1 = .ok (.lstore 4, 2) := by decide +kernel
theorem dX1_greatestDivisor_3 : decode cX1_greatestDivisor 3 = .ok (.lload_n 2, 1) := by decide +kernel
theorem dX1_greatestDivisor_4 : decode cX1_greatestDivisor 4 = .ok (.lstore 6, 2) := by decide +kernel
theorem dX1_greatestDivisor_6 : decode cX1_greatestDivisor 6 = .ok (.iconst 0, 1) := by decide +kernel
theorem dX1_greatestDivisor_7 : decode cX1_greatestDivisor 7 = .ok (.istore 8, 2) := by decide +kernel
theorem dX1_greatestDivisor_9 : decode cX1_greatestDivisor 9 = .ok (.iload 8, 2) := by decide +kernel
theorem dX1_greatestDivisor_11 : decode cX1_greatestDivisor 11 = .ok (.sipush 200, 3) := by decide +kernel
theorem dX1_greatestDivisor_14 : decode cX1_greatestDivisor 14 = .ok (.if_icmp .ge 31, 3) := by decide +kernel
theorem dX1_greatestDivisor_17 : decode cX1_greatestDivisor 17 = .ok (.lload 6, 2) := by decide +kernel
theorem dX1_greatestDivisor_19 : decode cX1_greatestDivisor 19 = .ok (.lconst 0, 1) := by decide +kernel
theorem dX1_greatestDivisor_20 : decode cX1_greatestDivisor 20 = .ok (.lcmp, 1) := by decide +kernel
theorem dX1_greatestDivisor_21 : decode cX1_greatestDivisor 21 = .ok (.ifCond .eq 24, 3) := by decide +kernel
theorem dX1_greatestDivisor_24 : decode cX1_greatestDivisor 24 = .ok (.lload 4, 2) := by decide +kernel
theorem dX1_greatestDivisor_26 : decode cX1_greatestDivisor 26 = .ok (.lload 6, 2) := by decide +kernel
theorem dX1_greatestDivisor_28 : decode cX1_greatestDivisor 28 = .ok (.lrem, 1) := by decide +kernel
theorem dX1_greatestDivisor_29 : decode cX1_greatestDivisor 29 = .ok (.lstore 9, 2) := by decide +kernel
theorem dX1_greatestDivisor_31 : decode cX1_greatestDivisor 31 = .ok (.lload 6, 2) := by decide +kernel
theorem dX1_greatestDivisor_33 : decode cX1_greatestDivisor 33 = .ok (.lstore 4, 2) := by decide +kernel
theorem dX1_greatestDivisor_35 : decode cX1_greatestDivisor 35 = .ok (.lload 9, 2) := by decide +kernel
theorem dX1_greatestDivisor_37 : decode cX1_greatestDivisor 37 = .ok (.lstore 6, 2) := by decide +kernel
theorem dX1_greatestDivisor_39 : decode cX1_greatestDivisor 39 = .ok (.iinc 8 1, 3) := by decide +kernel
theorem dX1_greatestDivisor_42 : decode cX1_greatestDivisor 42 = .ok (.goto (-33), 3) := by decide +kernel
theorem dX1_greatestDivisor_45 : decode cX1_greatestDivisor 45 = .ok (.lload 4, 2) := by decide +kernel
theorem dX1_greatestDivisor_47 : decode cX1_greatestDivisor 47 = .ok (.lreturn, 1) := by decide +kernel
theorem dX1_byGoing_0 : decode cX1_byGoing 0 = .ok (.aload_n 0, 1) := by decide +kernel
theorem dX1_byGoing_1 : decode cX1_byGoing 1 = .ok (.lconst 0, 1) := by decide +kernel
theorem dX1_byGoing_2 : decode cX1_byGoing 2 = .ok (.lconst 1, 1) := by decide +kernel
theorem dX1_byGoing_3 : decode cX1_byGoing 3 = .ok (.invokevirtual 9, 3) := by decide +kernel
theorem dX1_byGoing_6 : decode cX1_byGoing 6 = .ok (.istore_n 2, 1) := by decide +kernel
theorem dX1_byGoing_7 : decode cX1_byGoing 7 = .ok (.iload_n 2, 1) := by decide +kernel
theorem dX1_byGoing_8 : decode cX1_byGoing 8 = .ok (.iconst (-1), 1) := by decide +kernel
theorem dX1_byGoing_9 : decode cX1_byGoing 9 = .ok (.if_icmp .ne 7, 3) := by decide +kernel
theorem dX1_byGoing_12 : decode cX1_byGoing 12 = .ok (.iconst (-1), 1) := by decide +kernel
theorem dX1_byGoing_13 : decode cX1_byGoing 13 = .ok (.goto 14, 3) := by decide +kernel
theorem dX1_byGoing_16 : decode cX1_byGoing 16 = .ok (.aload_n 1, 1) := by decide +kernel
theorem dX1_byGoing_17 : decode cX1_byGoing 17 = .ok (.iload_n 2, 1) := by decide +kernel
theorem dX1_byGoing_18 : decode cX1_byGoing 18 = .ok (.i2l, 1) := by decide +kernel
theorem dX1_byGoing_19 : decode cX1_byGoing 19 = .ok (.aload_n 0, 1) := by decide +kernel
theorem dX1_byGoing_20 : decode cX1_byGoing 20 = .ok (.invokevirtual 15, 3) := by decide +kernel
theorem dX1_byGoing_23 : decode cX1_byGoing 23 = .ok (.i2l, 1) := by decide +kernel
theorem dX1_byGoing_24 : decode cX1_byGoing 24 = .ok (.invokevirtual 9, 3) := by decide +kernel
theorem dX1_byGoing_27 : decode cX1_byGoing 27 = .ok (.ireturn, 1) := by decide +kernel
theorem dX1_byDivisor_0 : decode cX1_byDivisor 0 = .ok (.aload_n 0, 1) := by decide +kernel
theorem dX1_byDivisor_1 : decode cX1_byDivisor 1 = .ok (.lconst 0, 1) := by decide +kernel
theorem dX1_byDivisor_2 : decode cX1_byDivisor 2 = .ok (.lconst 1, 1) := by decide +kernel
theorem dX1_byDivisor_3 : decode cX1_byDivisor 3 = .ok (.invokevirtual 9, 3) := by decide +kernel
theorem dX1_byDivisor_6 : decode cX1_byDivisor 6 = .ok (.istore_n 2, 1) := by decide +kernel
theorem dX1_byDivisor_7 : decode cX1_byDivisor 7 = .ok (.aload_n 1, 1) := by decide +kernel
theorem dX1_byDivisor_8 : decode cX1_byDivisor 8 = .ok (.lconst 0, 1) := by decide +kernel
theorem dX1_byDivisor_9 : decode cX1_byDivisor 9 = .ok (.lconst 1, 1) := by decide +kernel
theorem dX1_byDivisor_10 : decode cX1_byDivisor 10 = .ok (.invokevirtual 9, 3) := by decide +kernel
theorem dX1_byDivisor_13 : decode cX1_byDivisor 13 = .ok (.istore_n 3, 1) := by decide +kernel
theorem dX1_byDivisor_14 : decode cX1_byDivisor 14 = .ok (.aload_n 0, 1) := by decide +kernel
theorem dX1_byDivisor_15 : decode cX1_byDivisor 15 = .ok (.invokevirtual 15, 3) := by decide +kernel
theorem dX1_byDivisor_18 : decode cX1_byDivisor 18 = .ok (.i2l, 1) := by decide +kernel
theorem dX1_byDivisor_19 : decode cX1_byDivisor 19 = .ok (.aload_n 1, 1) := by decide +kernel
theorem dX1_byDivisor_20 : decode cX1_byDivisor 20 = .ok (.invokevirtual 15, 3) := by decide +kernel
theorem dX1_byDivisor_23 : decode cX1_byDivisor 23 = .ok (.i2l, 1) := by decide +kernel
theorem dX1_byDivisor_24 : decode cX1_byDivisor 24 = .ok (.invokestatic 19, 3) := by decide +kernel
theorem dX1_byDivisor_27 : decode cX1_byDivisor 27 = .ok (.l2i, 1) := by decide +kernel
theorem dX1_byDivisor_28 : decode cX1_byDivisor 28 = .ok (.istore 4, 2) := by decide +kernel
theorem dX1_byDivisor_30 : decode cX1_byDivisor 30 = .ok (.iload_n 2, 1) := by decide +kernel
theorem dX1_byDivisor_31 : decode cX1_byDivisor 31 = .ok (.iconst (-1), 1) := by decide +kernel
theorem dX1_byDivisor_32 : decode cX1_byDivisor 32 = .ok (.if_icmp .eq 22, 3) := by decide +kernel
theorem dX1_byDivisor_35 : decode cX1_byDivisor 35 = .ok (.iload_n 3, 1) := by decide +kernel
theorem dX1_byDivisor_36 : decode cX1_byDivisor 36 = .ok (.iconst (-1), 1) := by decide +kernel
theorem dX1_byDivisor_37 : decode cX1_byDivisor 37 = .ok (.if_icmp .eq 17, 3) := by decide +kernel
theorem dX1_byDivisor_40 : decode cX1_byDivisor 40 = .ok (.iload 4, 2) := by decide +kernel
theorem dX1_byDivisor_42 : decode cX1_byDivisor 42 = .ok (.ifCond .le 12, 3) := by decide +kernel
theorem dX1_byDivisor_45 : decode cX1_byDivisor 45 = .ok (.iload_n 3, 1) := by decide +kernel
theorem dX1_byDivisor_46 : decode cX1_byDivisor 46 = .ok (.iload_n 2, 1) := by decide +kernel
theorem dX1_byDivisor_47 : decode cX1_byDivisor 47 = .ok (.isub, 1) := by decide +kernel
theorem dX1_byDivisor_48 : decode cX1_byDivisor 48 = .ok (.iload 4, 2) := by decide +kernel
theorem dX1_byDivisor_50 : decode cX1_byDivisor 50 = .ok (.irem, 1) := by decide +kernel
theorem dX1_byDivisor_51 : decode cX1_byDivisor 51 = .ok (.ifCond .eq 5, 3) := by decide +kernel
theorem dX1_byDivisor_54 : decode cX1_byDivisor 54 = .ok (.iconst (-1), 1) := by decide +kernel
theorem dX1_byDivisor_55 : decode cX1_byDivisor 55 = .ok (.ireturn, 1) := by decide +kernel
theorem dX1_byDivisor_56 : decode cX1_byDivisor 56 = .ok (.aload_n 1, 1) := by decide +kernel
theorem dX1_byDivisor_57 : decode cX1_byDivisor 57 = .ok (.invokevirtual 15, 3) := by decide +kernel
theorem dX1_byDivisor_60 : decode cX1_byDivisor 60 = .ok (.iload 4, 2) := by decide +kernel
theorem dX1_byDivisor_62 : decode cX1_byDivisor 62 = .ok (.idiv, 1) := by decide +kernel
theorem dX1_byDivisor_63 : decode cX1_byDivisor 63 = .ok (.istore 5, 2) := by decide +kernel
theorem dX1_byDivisor_65 : decode cX1_byDivisor 65 = .ok (.iload 5, 2) := by decide +kernel
theorem dX1_byDivisor_67 : decode cX1_byDivisor 67 = .ok (.ifCond .gt 5, 3) := by decide +kernel
theorem dX1_byDivisor_70 : decode cX1_byDivisor 70 = .ok (.iconst (-1), 1) := by decide +kernel
theorem dX1_byDivisor_71 : decode cX1_byDivisor 71 = .ok (.ireturn, 1) := by decide +kernel
theorem dX1_byDivisor_72 : decode cX1_byDivisor 72 = .ok (.iload_n 3, 1) := by decide +kernel
theorem dX1_byDivisor_73 : decode cX1_byDivisor 73 = .ok (.iload_n 2, 1) := by decide +kernel
theorem dX1_byDivisor_74 : decode cX1_byDivisor 74 = .ok (.isub, 1) := by decide +kernel
theorem dX1_byDivisor_75 : decode cX1_byDivisor 75 = .ok (.iload 4, 2) := by decide +kernel
theorem dX1_byDivisor_77 : decode cX1_byDivisor 77 = .ok (.idiv, 1) := by decide +kernel
theorem dX1_byDivisor_78 : decode cX1_byDivisor 78 = .ok (.iload 5, 2) := by decide +kernel
theorem dX1_byDivisor_80 : decode cX1_byDivisor 80 = .ok (.invokestatic 25, 3) := by decide +kernel
theorem dX1_byDivisor_83 : decode cX1_byDivisor 83 = .ok (.istore 6, 2) := by decide +kernel
theorem dX1_byDivisor_85 : decode cX1_byDivisor 85 = .ok (.aload_n 0, 1) := by decide +kernel
theorem dX1_byDivisor_86 : decode cX1_byDivisor 86 = .ok (.invokevirtual 15, 3) := by decide +kernel
theorem dX1_byDivisor_89 : decode cX1_byDivisor 89 = .ok (.iload 4, 2) := by decide +kernel
theorem dX1_byDivisor_91 : decode cX1_byDivisor 91 = .ok (.idiv, 1) := by decide +kernel
theorem dX1_byDivisor_92 : decode cX1_byDivisor 92 = .ok (.iload 5, 2) := by decide +kernel
theorem dX1_byDivisor_94 : decode cX1_byDivisor 94 = .ok (.irem, 1) := by decide +kernel
theorem dX1_byDivisor_95 : decode cX1_byDivisor 95 = .ok (.istore 7, 2) := by decide +kernel
theorem dX1_byDivisor_97 : decode cX1_byDivisor 97 = .ok (.iload_n 2, 1) := by decide +kernel
theorem dX1_byDivisor_98 : decode cX1_byDivisor 98 = .ok (.aload_n 0, 1) := by decide +kernel
theorem dX1_byDivisor_99 : decode cX1_byDivisor 99 = .ok (.invokevirtual 15, 3) := by decide +kernel
theorem dX1_byDivisor_102 : decode cX1_byDivisor 102 = .ok (.iload 6, 2) := by decide +kernel
theorem dX1_byDivisor_104 : decode cX1_byDivisor 104 = .ok (.iload 7, 2) := by decide +kernel
theorem dX1_byDivisor_106 : decode cX1_byDivisor 106 = .ok (.iload 5, 2) := by decide +kernel
theorem dX1_byDivisor_108 : decode cX1_byDivisor 108 = .ok (.invokestatic 31, 3) := by decide +kernel
theorem dX1_byDivisor_111 : decode cX1_byDivisor 111 = .ok (.imul, 1) := by decide +kernel
theorem dX1_byDivisor_112 : decode cX1_byDivisor 112 = .ok (.iload 5, 2) := by decide +kernel
theorem dX1_byDivisor_114 : decode cX1_byDivisor 114 = .ok (.irem, 1) := by decide +kernel
theorem dX1_byDivisor_115 : decode cX1_byDivisor 115 = .ok (.imul, 1) := by decide +kernel
theorem dX1_byDivisor_116 : decode cX1_byDivisor 116 = .ok (.iadd, 1) := by decide +kernel
theorem dX1_byDivisor_117 : decode cX1_byDivisor 117 = .ok (.ireturn, 1) := by decide +kernel
theorem dX1_inverse_0 : decode cX1_inverse 0 = .ok (.iconst 1, 1) := by decide +kernel
theorem dX1_inverse_1 : decode cX1_inverse 1 = .ok (.istore_n 2, 1) := by decide +kernel
theorem dX1_inverse_2 : decode cX1_inverse 2 = .ok (.iload_n 2, 1) := by decide +kernel
theorem dX1_inverse_3 : decode cX1_inverse 3 = .ok (.iload_n 1, 1) := by decide +kernel
theorem dX1_inverse_4 : decode cX1_inverse 4 = .ok (.if_icmp .ge 20, 3) := by decide +kernel
theorem dX1_inverse_7 : decode cX1_inverse 7 = .ok (.iload_n 0, 1) := by decide +kernel
theorem dX1_inverse_8 : decode cX1_inverse 8 = .ok (.iload_n 2, 1) := by decide +kernel
theorem dX1_inverse_9 : decode cX1_inverse 9 = .ok (.imul, 1) := by decide +kernel
theorem dX1_inverse_10 : decode cX1_inverse 10 = .ok (.iload_n 1, 1) := by decide +kernel
theorem dX1_inverse_11 : decode cX1_inverse 11 = .ok (.irem, 1) := by decide +kernel
theorem dX1_inverse_12 : decode cX1_inverse 12 = .ok (.iconst 1, 1) := by decide +kernel
theorem dX1_inverse_13 : decode cX1_inverse 13 = .ok (.if_icmp .ne 5, 3) := by decide +kernel
theorem dX1_inverse_16 : decode cX1_inverse 16 = .ok (.iload_n 2, 1) := by decide +kernel
theorem dX1_inverse_17 : decode cX1_inverse 17 = .ok (.ireturn, 1) := by decide +kernel
theorem dX1_inverse_18 : decode cX1_inverse 18 = .ok (.iinc 2 1, 3) := by decide +kernel
theorem dX1_inverse_21 : decode cX1_inverse 21 = .ok (.goto (-19), 3) := by decide +kernel
theorem dX1_inverse_24 : decode cX1_inverse 24 = .ok (.iconst 0, 1) := by decide +kernel
theorem dX1_inverse_25 : decode cX1_inverse 25 = .ok (.ireturn, 1) := by decide +kernel
theorem dX1_ofAll_0 : decode cX1_ofAll 0 = .ok (.iconst (-1), 1) := by decide +kernel
theorem dX1_ofAll_1 : decode cX1_ofAll 1 = .ok (.istore_n 1, 1) := by decide +kernel
theorem dX1_ofAll_2 : decode cX1_ofAll 2 = .ok (.lconst 1, 1) := by decide +kernel
theorem dX1_ofAll_3 : decode cX1_ofAll 3 = .ok (.lstore_n 2, 1) := by decide +kernel
theorem dX1_ofAll_4 : decode cX1_ofAll 4 = .ok (.iconst 0, 1) := by decide +kernel
theorem dX1_ofAll_5 : decode cX1_ofAll 5 = .ok (.istore 4, 2) := by decide +kernel
theorem dX1_ofAll_7 : decode cX1_ofAll 7 = .ok (.iload 4, 2) := by decide +kernel
theorem dX1_ofAll_9 : decode cX1_ofAll 9 = .ok (.aload_n 0, 1) := by decide +kernel
theorem dX1_ofAll_10 : decode cX1_ofAll 10 = .ok (.getfield 34, 3) := by decide +kernel
theorem dX1_ofAll_13 : decode cX1_ofAll 13 = .ok (.if_icmp .ge 61, 3) := by decide +kernel
theorem dX1_ofAll_16 : decode cX1_ofAll 16 = .ok (.aload_n 0, 1) := by decide +kernel
theorem dX1_ofAll_17 : decode cX1_ofAll 17 = .ok (.iload 4, 2) := by decide +kernel
theorem dX1_ofAll_19 : decode cX1_ofAll 19 = .ok (.invokevirtual 40, 3) := by decide +kernel
theorem dX1_ofAll_22 : decode cX1_ofAll 22 = .ok (.astore 5, 2) := by decide +kernel
theorem dX1_ofAll_24 : decode cX1_ofAll 24 = .ok (.aload 5, 2) := by decide +kernel
theorem dX1_ofAll_26 : decode cX1_ofAll 26 = .ok (.ifnull 42, 3) := by decide +kernel
theorem dX1_ofAll_29 : decode cX1_ofAll 29 = .ok (.aload 5, 2) := by decide +kernel
theorem dX1_ofAll_31 : decode cX1_ofAll 31 = .ok (.invokevirtual 44, 3) := by decide +kernel
theorem dX1_ofAll_34 : decode cX1_ofAll 34 = .ok (.ifCond .ne 34, 3) := by decide +kernel
theorem dX1_ofAll_37 : decode cX1_ofAll 37 = .ok (.aload 5, 2) := by decide +kernel
theorem dX1_ofAll_39 : decode cX1_ofAll 39 = .ok (.iload_n 1, 1) := by decide +kernel
theorem dX1_ofAll_40 : decode cX1_ofAll 40 = .ok (.iconst 0, 1) := by decide +kernel
theorem dX1_ofAll_41 : decode cX1_ofAll 41 = .ok (.invokestatic 48, 3) := by decide +kernel
theorem dX1_ofAll_44 : decode cX1_ofAll 44 = .ok (.i2l, 1) := by decide +kernel
theorem dX1_ofAll_45 : decode cX1_ofAll 45 = .ok (.lload_n 2, 1) := by decide +kernel
theorem dX1_ofAll_46 : decode cX1_ofAll 46 = .ok (.invokevirtual 9, 3) := by decide +kernel
theorem dX1_ofAll_49 : decode cX1_ofAll 49 = .ok (.istore_n 1, 1) := by decide +kernel
theorem dX1_ofAll_50 : decode cX1_ofAll 50 = .ok (.iload_n 1, 1) := by decide +kernel
theorem dX1_ofAll_51 : decode cX1_ofAll 51 = .ok (.iconst (-1), 1) := by decide +kernel
theorem dX1_ofAll_52 : decode cX1_ofAll 52 = .ok (.if_icmp .ne 5, 3) := by decide +kernel
theorem dX1_ofAll_55 : decode cX1_ofAll 55 = .ok (.iconst (-1), 1) := by decide +kernel
theorem dX1_ofAll_56 : decode cX1_ofAll 56 = .ok (.ireturn, 1) := by decide +kernel
theorem dX1_ofAll_57 : decode cX1_ofAll 57 = .ok (.lload_n 2, 1) := by decide +kernel
theorem dX1_ofAll_58 : decode cX1_ofAll 58 = .ok (.aload 5, 2) := by decide +kernel
theorem dX1_ofAll_60 : decode cX1_ofAll 60 = .ok (.invokevirtual 15, 3) := by decide +kernel
theorem dX1_ofAll_63 : decode cX1_ofAll 63 = .ok (.i2l, 1) := by decide +kernel
theorem dX1_ofAll_64 : decode cX1_ofAll 64 = .ok (.invokestatic 51, 3) := by decide +kernel
theorem dX1_ofAll_67 : decode cX1_ofAll 67 = .ok (.lstore_n 2, 1) := by decide +kernel
theorem dX1_ofAll_68 : decode cX1_ofAll 68 = .ok (.iinc 4 1, 3) := by decide +kernel
theorem dX1_ofAll_71 : decode cX1_ofAll 71 = .ok (.goto (-64), 3) := by decide +kernel
theorem dX1_ofAll_74 : decode cX1_ofAll 74 = .ok (.iload_n 1, 1) := by decide +kernel
theorem dX1_ofAll_75 : decode cX1_ofAll 75 = .ok (.ireturn, 1) := by decide +kernel
theorem dX1_leastMultiple_0 : decode cX1_leastMultiple 0 = .ok (.lload_n 0, 1) := by decide +kernel
theorem dX1_leastMultiple_1 : decode cX1_leastMultiple 1 = .ok (.lload_n 2, 1) := by decide +kernel
theorem dX1_leastMultiple_2 : decode cX1_leastMultiple 2 = .ok (.invokestatic 19, 3) := by decide +kernel
theorem dX1_leastMultiple_5 : decode cX1_leastMultiple 5 = .ok (.lstore 4, 2) := by decide +kernel
theorem dX1_leastMultiple_7 : decode cX1_leastMultiple 7 = .ok (.lload 4, 2) := by decide +kernel
theorem dX1_leastMultiple_9 : decode cX1_leastMultiple 9 = .ok (.lconst 0, 1) := by decide +kernel
theorem dX1_leastMultiple_10 : decode cX1_leastMultiple 10 = .ok (.lcmp, 1) := by decide +kernel
theorem dX1_leastMultiple_11 : decode cX1_leastMultiple 11 = .ok (.ifCond .gt 7, 3) := by decide +kernel
theorem dX1_leastMultiple_14 : decode cX1_leastMultiple 14 = .ok (.lconst 0, 1) := by decide +kernel
theorem dX1_leastMultiple_15 : decode cX1_leastMultiple 15 = .ok (.goto 9, 3) := by decide +kernel
theorem dX1_leastMultiple_18 : decode cX1_leastMultiple 18 = .ok (.lload_n 0, 1) := by decide +kernel
theorem dX1_leastMultiple_19 : decode cX1_leastMultiple 19 = .ok (.lload 4, 2) := by decide +kernel
theorem dX1_leastMultiple_21 : decode cX1_leastMultiple 21 = .ok (.ldiv, 1) := by decide +kernel
theorem dX1_leastMultiple_22 : decode cX1_leastMultiple 22 = .ok (.lload_n 2, 1) := by decide +kernel
theorem dX1_leastMultiple_23 : decode cX1_leastMultiple 23 = .ok (.lmul, 1) := by decide +kernel
theorem dX1_leastMultiple_24 : decode cX1_leastMultiple 24 = .ok (.lreturn, 1) := by decide +kernel
theorem dX2_init_0 : decode cX2_init 0 = .ok (.aload_n 0, 1) := by decide +kernel
theorem dX2_init_1 : decode cX2_init 1 = .ok (.invokespecial 3, 3) := by decide +kernel
theorem dX2_init_4 : decode cX2_init 4 = .ok (.aload_n 0, 1) := by decide +kernel
theorem dX2_init_5 : decode cX2_init 5 = .ok (.bipush 12, 2) := by decide +kernel
theorem dX2_init_7 : decode cX2_init 7 = .ok (.anewarray 9, 3) := by decide +kernel
theorem dX2_init_10 : decode cX2_init 10 = .ok (.putfield 11, 3) := by decide +kernel
theorem dX2_init_13 : decode cX2_init 13 = .ok (.iconst 0, 1) := by decide +kernel
theorem dX2_init_14 : decode cX2_init 14 = .ok (.istore_n 1, 1) := by decide +kernel
theorem dX2_init_15 : decode cX2_init 15 = .ok (.iload_n 1, 1) := by decide +kernel
theorem dX2_init_16 : decode cX2_init 16 = .ok (.aload_n 0, 1) := by decide +kernel
theorem dX2_init_17 : decode cX2_init 17 = .ok (.getfield 11, 3) := by decide +kernel
theorem dX2_init_20 : decode cX2_init 20 = .ok (.arraylength, 1) := by decide +kernel
theorem dX2_init_21 : decode cX2_init 21 = .ok (.if_icmp .ge 22, 3) := by decide +kernel
theorem dX2_init_24 : decode cX2_init 24 = .ok (.aload_n 0, 1) := by decide +kernel
theorem dX2_init_25 : decode cX2_init 25 = .ok (.getfield 11, 3) := by decide +kernel
theorem dX2_init_28 : decode cX2_init 28 = .ok (.iload_n 1, 1) := by decide +kernel
theorem dX2_init_29 : decode cX2_init 29 = .ok (.new 9, 3) := by decide +kernel
theorem dX2_init_32 : decode cX2_init 32 = .ok (.dup, 1) := by decide +kernel
theorem dX2_init_33 : decode cX2_init 33 = .ok (.invokespecial 17, 3) := by decide +kernel
theorem dX2_init_36 : decode cX2_init 36 = .ok (.aastore, 1) := by decide +kernel
theorem dX2_init_37 : decode cX2_init 37 = .ok (.iinc 1 1, 3) := by decide +kernel
theorem dX2_init_40 : decode cX2_init 40 = .ok (.goto (-25), 3) := by decide +kernel
theorem dX2_init_43 : decode cX2_init 43 = .ok (.return_, 1) := by decide +kernel
theorem dX2_forget_0 : decode cX2_forget 0 = .ok (.aload_n 0, 1) := by decide +kernel
theorem dX2_forget_1 : decode cX2_forget 1 = .ok (.iconst 0, 1) := by decide +kernel
theorem dX2_forget_2 : decode cX2_forget 2 = .ok (.putfield 18, 3) := by decide +kernel
theorem dX2_forget_5 : decode cX2_forget 5 = .ok (.return_, 1) := by decide +kernel
theorem dX2_stateAt_0 : decode cX2_stateAt 0 = .ok (.iload_n 1, 1) := by decide +kernel
theorem dX2_stateAt_1 : decode cX2_stateAt 1 = .ok (.iconst 0, 1) := by decide +kernel
theorem dX2_stateAt_2 : decode cX2_stateAt 2 = .ok (.aload_n 0, 1) := by decide +kernel
theorem dX2_stateAt_3 : decode cX2_stateAt 3 = .ok (.getfield 11, 3) := by decide +kernel
theorem dX2_stateAt_6 : decode cX2_stateAt 6 = .ok (.arraylength, 1) := by decide +kernel
theorem dX2_stateAt_7 : decode cX2_stateAt 7 = .ok (.iconst 1, 1) := by decide +kernel
theorem dX2_stateAt_8 : decode cX2_stateAt 8 = .ok (.isub, 1) := by decide +kernel
theorem dX2_stateAt_9 : decode cX2_stateAt 9 = .ok (.invokestatic 22, 3) := by decide +kernel
theorem dX2_stateAt_12 : decode cX2_stateAt 12 = .ok (.ifCond .eq 7, 3) := by decide +kernel
theorem dX2_stateAt_15 : decode cX2_stateAt 15 = .ok (.aconst_null, 1) := by decide +kernel
theorem dX2_stateAt_16 : decode cX2_stateAt 16 = .ok (.goto 9, 3) := by decide +kernel
theorem dX2_stateAt_19 : decode cX2_stateAt 19 = .ok (.aload_n 0, 1) := by decide +kernel
theorem dX2_stateAt_20 : decode cX2_stateAt 20 = .ok (.getfield 11, 3) := by decide +kernel
theorem dX2_stateAt_23 : decode cX2_stateAt 23 = .ok (.iload_n 1, 1) := by decide +kernel
theorem dX2_stateAt_24 : decode cX2_stateAt 24 = .ok (.aaload, 1) := by decide +kernel
theorem dX2_stateAt_25 : decode cX2_stateAt 25 = .ok (.areturn, 1) := by decide +kernel
theorem dX2_remember_0 : decode cX2_remember 0 = .ok (.aload_n 0, 1) := by decide +kernel
theorem dX2_remember_1 : decode cX2_remember 1 = .ok (.aload_n 0, 1) := by decide +kernel
theorem dX2_remember_2 : decode cX2_remember 2 = .ok (.getfield 26, 3) := by decide +kernel
theorem dX2_remember_5 : decode cX2_remember 5 = .ok (.invokevirtual 29, 3) := by decide +kernel
theorem dX2_remember_8 : decode cX2_remember 8 = .ok (.astore_n 2, 1) := by decide +kernel
theorem dX2_remember_9 : decode cX2_remember 9 = .ok (.aload_n 2, 1) := by decide +kernel
theorem dX2_remember_10 : decode cX2_remember 10 = .ok (.ifnull 8, 3) := by decide +kernel
theorem dX2_remember_13 : decode cX2_remember 13 = .ok (.aload_n 2, 1) := by decide +kernel
theorem dX2_remember_14 : decode cX2_remember 14 = .ok (.aload_n 1, 1) := by decide +kernel
theorem dX2_remember_15 : decode cX2_remember 15 = .ok (.invokevirtual 33, 3) := by decide +kernel
theorem dX2_remember_18 : decode cX2_remember 18 = .ok (.aload_n 0, 1) := by decide +kernel
theorem dX2_remember_19 : decode cX2_remember 19 = .ok (.aload_n 0, 1) := by decide +kernel
theorem dX2_remember_20 : decode cX2_remember 20 = .ok (.getfield 26, 3) := by decide +kernel
theorem dX2_remember_23 : decode cX2_remember 23 = .ok (.iconst 1, 1) := by decide +kernel
theorem dX2_remember_24 : decode cX2_remember 24 = .ok (.iadd, 1) := by decide +kernel
theorem dX2_remember_25 : decode cX2_remember 25 = .ok (.bipush 12, 2) := by decide +kernel
theorem dX2_remember_27 : decode cX2_remember 27 = .ok (.if_icmp .ge 12, 3) := by decide +kernel
theorem dX2_remember_30 : decode cX2_remember 30 = .ok (.aload_n 0, 1) := by decide +kernel
theorem dX2_remember_31 : decode cX2_remember 31 = .ok (.getfield 26, 3) := by decide +kernel
theorem dX2_remember_34 : decode cX2_remember 34 = .ok (.iconst 1, 1) := by decide +kernel
theorem dX2_remember_35 : decode cX2_remember 35 = .ok (.iadd, 1) := by decide +kernel
theorem dX2_remember_36 : decode cX2_remember 36 = .ok (.goto 4, 3) := by decide +kernel
theorem dX2_remember_39 : decode cX2_remember 39 = .ok (.iconst 0, 1) := by decide +kernel
theorem dX2_remember_40 : decode cX2_remember 40 = .ok (.putfield 26, 3) := by decide +kernel
theorem dX2_remember_43 : decode cX2_remember 43 = .ok (.aload_n 0, 1) := by decide +kernel
theorem dX2_remember_44 : decode cX2_remember 44 = .ok (.aload_n 0, 1) := by decide +kernel
theorem dX2_remember_45 : decode cX2_remember 45 = .ok (.getfield 18, 3) := by decide +kernel
theorem dX2_remember_48 : decode cX2_remember 48 = .ok (.iconst 1, 1) := by decide +kernel
theorem dX2_remember_49 : decode cX2_remember 49 = .ok (.iadd, 1) := by decide +kernel
theorem dX2_remember_50 : decode cX2_remember 50 = .ok (.bipush 12, 2) := by decide +kernel
theorem dX2_remember_52 : decode cX2_remember 52 = .ok (.invokestatic 37, 3) := by decide +kernel
theorem dX2_remember_55 : decode cX2_remember 55 = .ok (.putfield 18, 3) := by decide +kernel
theorem dX2_remember_58 : decode cX2_remember 58 = .ok (.return_, 1) := by decide +kernel
theorem dX2_takeBack_0 : decode cX2_takeBack 0 = .ok (.aload_n 0, 1) := by decide +kernel
theorem dX2_takeBack_1 : decode cX2_takeBack 1 = .ok (.aload_n 0, 1) := by decide +kernel
theorem dX2_takeBack_2 : decode cX2_takeBack 2 = .ok (.getfield 26, 3) := by decide +kernel
theorem dX2_takeBack_5 : decode cX2_takeBack 5 = .ok (.ifCond .le 12, 3) := by decide +kernel
theorem dX2_takeBack_8 : decode cX2_takeBack 8 = .ok (.aload_n 0, 1) := by decide +kernel
theorem dX2_takeBack_9 : decode cX2_takeBack 9 = .ok (.getfield 26, 3) := by decide +kernel
theorem dX2_takeBack_12 : decode cX2_takeBack 12 = .ok (.iconst 1, 1) := by decide +kernel
theorem dX2_takeBack_13 : decode cX2_takeBack 13 = .ok (.isub, 1) := by decide +kernel
theorem dX2_takeBack_14 : decode cX2_takeBack 14 = .ok (.goto 5, 3) := by decide +kernel
theorem dX2_takeBack_17 : decode cX2_takeBack 17 = .ok (.bipush 11, 2) := by decide +kernel
theorem dX2_takeBack_19 : decode cX2_takeBack 19 = .ok (.putfield 26, 3) := by decide +kernel
theorem dX2_takeBack_22 : decode cX2_takeBack 22 = .ok (.aload_n 0, 1) := by decide +kernel
theorem dX2_takeBack_23 : decode cX2_takeBack 23 = .ok (.dup, 1) := by decide +kernel
theorem dX2_takeBack_24 : decode cX2_takeBack 24 = .ok (.getfield 18, 3) := by decide +kernel
theorem dX2_takeBack_27 : decode cX2_takeBack 27 = .ok (.iconst 1, 1) := by decide +kernel
theorem dX2_takeBack_28 : decode cX2_takeBack 28 = .ok (.isub, 1) := by decide +kernel
theorem dX2_takeBack_29 : decode cX2_takeBack 29 = .ok (.putfield 18, 3) := by decide +kernel
theorem dX2_takeBack_32 : decode cX2_takeBack 32 = .ok (.aload_n 0, 1) := by decide +kernel
theorem dX2_takeBack_33 : decode cX2_takeBack 33 = .ok (.aload_n 0, 1) := by decide +kernel
theorem dX2_takeBack_34 : decode cX2_takeBack 34 = .ok (.getfield 26, 3) := by decide +kernel
theorem dX2_takeBack_37 : decode cX2_takeBack 37 = .ok (.invokevirtual 29, 3) := by decide +kernel
theorem dX2_takeBack_40 : decode cX2_takeBack 40 = .ok (.astore_n 2, 1) := by decide +kernel
theorem dX2_takeBack_41 : decode cX2_takeBack 41 = .ok (.aload_n 2, 1) := by decide +kernel
theorem dX2_takeBack_42 : decode cX2_takeBack 42 = .ok (.ifnull 8, 3) := by decide +kernel
theorem dX2_takeBack_45 : decode cX2_takeBack 45 = .ok (.aload_n 1, 1) := by decide +kernel
theorem dX2_takeBack_46 : decode cX2_takeBack 46 = .ok (.aload_n 2, 1) := by decide +kernel
theorem dX2_takeBack_47 : decode cX2_takeBack 47 = .ok (.invokevirtual 33, 3) := by decide +kernel
theorem dX2_takeBack_50 : decode cX2_takeBack 50 = .ok (.aload_n 0, 1) := by decide +kernel
theorem dX2_takeBack_51 : decode cX2_takeBack 51 = .ok (.getfield 18, 3) := by decide +kernel
theorem dX2_takeBack_54 : decode cX2_takeBack 54 = .ok (.ireturn, 1) := by decide +kernel
theorem dX3_init_0 : decode cX3_init 0 = .ok (.aload_n 0, 1) := by decide +kernel
theorem dX3_init_1 : decode cX3_init 1 = .ok (.invokespecial 3, 3) := by decide +kernel
theorem dX3_init_4 : decode cX3_init 4 = .ok (.aload_n 0, 1) := by decide +kernel
theorem dX3_init_5 : decode cX3_init 5 = .ok (.bipush 60, 2) := by decide +kernel
theorem dX3_init_7 : decode cX3_init 7 = .ok (.newarray .int, 2) := by decide +kernel
theorem dX3_init_9 : decode cX3_init 9 = .ok (.putfield 9, 3) := by decide +kernel
theorem dX3_init_12 : decode cX3_init 12 = .ok (.return_, 1) := by decide +kernel
theorem dX3_begin_0 : decode cX3_begin 0 = .ok (.aload_n 0, 1) := by decide +kernel
theorem dX3_begin_1 : decode cX3_begin 1 = .ok (.iload_n 1, 1) := by decide +kernel
theorem dX3_begin_2 : decode cX3_begin 2 = .ok (.putfield 15, 3) := by decide +kernel
theorem dX3_begin_5 : decode cX3_begin 5 = .ok (.iconst 0, 1) := by decide +kernel
theorem dX3_begin_6 : decode cX3_begin 6 = .ok (.istore_n 2, 1) := by decide +kernel
theorem dX3_begin_7 : decode cX3_begin 7 = .ok (.iload_n 2, 1) := by decide +kernel
theorem dX3_begin_8 : decode cX3_begin 8 = .ok (.aload_n 0, 1) := by decide +kernel
theorem dX3_begin_9 : decode cX3_begin 9 = .ok (.getfield 9, 3) := by decide +kernel
theorem dX3_begin_12 : decode cX3_begin 12 = .ok (.arraylength, 1) := by decide +kernel
theorem dX3_begin_13 : decode cX3_begin 13 = .ok (.if_icmp .ge 16, 3) := by decide +kernel
theorem dX3_begin_16 : decode cX3_begin 16 = .ok (.aload_n 0, 1) := by decide +kernel
theorem dX3_begin_17 : decode cX3_begin 17 = .ok (.getfield 9, 3) := by decide +kernel
theorem dX3_begin_20 : decode cX3_begin 20 = .ok (.iload_n 2, 1) := by decide +kernel
theorem dX3_begin_21 : decode cX3_begin 21 = .ok (.iconst 0, 1) := by decide +kernel
theorem dX3_begin_22 : decode cX3_begin 22 = .ok (.iastore, 1) := by decide +kernel
theorem dX3_begin_23 : decode cX3_begin 23 = .ok (.iinc 2 1, 3) := by decide +kernel
theorem dX3_begin_26 : decode cX3_begin 26 = .ok (.goto (-19), 3) := by decide +kernel
theorem dX3_begin_29 : decode cX3_begin 29 = .ok (.return_, 1) := by decide +kernel
theorem dX3_copyFrom_0 : decode cX3_copyFrom 0 = .ok (.aload_n 0, 1) := by decide +kernel
theorem dX3_copyFrom_1 : decode cX3_copyFrom 1 = .ok (.aload_n 1, 1) := by decide +kernel
theorem dX3_copyFrom_2 : decode cX3_copyFrom 2 = .ok (.getfield 15, 3) := by decide +kernel
theorem dX3_copyFrom_5 : decode cX3_copyFrom 5 = .ok (.putfield 15, 3) := by decide +kernel
theorem dX3_copyFrom_8 : decode cX3_copyFrom 8 = .ok (.aload_n 1, 1) := by decide +kernel
theorem dX3_copyFrom_9 : decode cX3_copyFrom 9 = .ok (.getfield 9, 3) := by decide +kernel
theorem dX3_copyFrom_12 : decode cX3_copyFrom 12 = .ok (.aload_n 0, 1) := by decide +kernel
theorem dX3_copyFrom_13 : decode cX3_copyFrom 13 = .ok (.getfield 9, 3) := by decide +kernel
theorem dX3_copyFrom_16 : decode cX3_copyFrom 16 = .ok (.aload_n 1, 1) := by decide +kernel
theorem dX3_copyFrom_17 : decode cX3_copyFrom 17 = .ok (.getfield 15, 3) := by decide +kernel
theorem dX3_copyFrom_20 : decode cX3_copyFrom 20 = .ok (.invokestatic 19, 3) := by decide +kernel
theorem dX3_copyFrom_23 : decode cX3_copyFrom 23 = .ok (.return_, 1) := by decide +kernel
theorem dX3_hasCell_0 : decode cX3_hasCell 0 = .ok (.iload_n 1, 1) := by decide +kernel
theorem dX3_hasCell_1 : decode cX3_hasCell 1 = .ok (.iconst 0, 1) := by decide +kernel
theorem dX3_hasCell_2 : decode cX3_hasCell 2 = .ok (.aload_n 0, 1) := by decide +kernel
theorem dX3_hasCell_3 : decode cX3_hasCell 3 = .ok (.getfield 15, 3) := by decide +kernel
theorem dX3_hasCell_6 : decode cX3_hasCell 6 = .ok (.iconst 1, 1) := by decide +kernel
theorem dX3_hasCell_7 : decode cX3_hasCell 7 = .ok (.isub, 1) := by decide +kernel
theorem dX3_hasCell_8 : decode cX3_hasCell 8 = .ok (.invokestatic 23, 3) := by decide +kernel
theorem dX3_hasCell_11 : decode cX3_hasCell 11 = .ok (.ifCond .ne 7, 3) := by decide +kernel
theorem dX3_hasCell_14 : decode cX3_hasCell 14 = .ok (.iconst 1, 1) := by decide +kernel
theorem dX3_hasCell_15 : decode cX3_hasCell 15 = .ok (.goto 4, 3) := by decide +kernel
theorem dX3_hasCell_18 : decode cX3_hasCell 18 = .ok (.iconst 0, 1) := by decide +kernel
theorem dX3_hasCell_19 : decode cX3_hasCell 19 = .ok (.ireturn, 1) := by decide +kernel
theorem dX3_hasPlace_0 : decode cX3_hasPlace 0 = .ok (.iload_n 1, 1) := by decide +kernel
theorem dX3_hasPlace_1 : decode cX3_hasPlace 1 = .ok (.iconst 0, 1) := by decide +kernel
theorem dX3_hasPlace_2 : decode cX3_hasPlace 2 = .ok (.aload_n 0, 1) := by decide +kernel
theorem dX3_hasPlace_3 : decode cX3_hasPlace 3 = .ok (.getfield 15, 3) := by decide +kernel
theorem dX3_hasPlace_6 : decode cX3_hasPlace 6 = .ok (.invokestatic 23, 3) := by decide +kernel
theorem dX3_hasPlace_9 : decode cX3_hasPlace 9 = .ok (.ifCond .ne 7, 3) := by decide +kernel
theorem dX3_hasPlace_12 : decode cX3_hasPlace 12 = .ok (.iconst 1, 1) := by decide +kernel
theorem dX3_hasPlace_13 : decode cX3_hasPlace 13 = .ok (.goto 4, 3) := by decide +kernel
theorem dX3_hasPlace_16 : decode cX3_hasPlace 16 = .ok (.iconst 0, 1) := by decide +kernel
theorem dX3_hasPlace_17 : decode cX3_hasPlace 17 = .ok (.ireturn, 1) := by decide +kernel
theorem dX3_isSilent_0 : decode cX3_isSilent 0 = .ok (.aload_n 0, 1) := by decide +kernel
theorem dX3_isSilent_1 : decode cX3_isSilent 1 = .ok (.getfield 9, 3) := by decide +kernel
theorem dX3_isSilent_4 : decode cX3_isSilent 4 = .ok (.iload_n 1, 1) := by decide +kernel
theorem dX3_isSilent_5 : decode cX3_isSilent 5 = .ok (.invokestatic 27, 3) := by decide +kernel
theorem dX3_isSilent_8 : decode cX3_isSilent 8 = .ok (.ifCond .ne 7, 3) := by decide +kernel
theorem dX3_isSilent_11 : decode cX3_isSilent 11 = .ok (.iconst 1, 1) := by decide +kernel
theorem dX3_isSilent_12 : decode cX3_isSilent 12 = .ok (.goto 4, 3) := by decide +kernel
theorem dX3_isSilent_15 : decode cX3_isSilent 15 = .ok (.iconst 0, 1) := by decide +kernel
theorem dX3_isSilent_16 : decode cX3_isSilent 16 = .ok (.ireturn, 1) := by decide +kernel
theorem dX3_isQuiet_0 : decode cX3_isQuiet 0 = .ok (.iload_n 1, 1) := by decide +kernel
theorem dX3_isQuiet_1 : decode cX3_isQuiet 1 = .ok (.ifCond .eq 35, 3) := by decide +kernel
theorem dX3_isQuiet_4 : decode cX3_isQuiet 4 = .ok (.iload_n 1, 1) := by decide +kernel
theorem dX3_isQuiet_5 : decode cX3_isQuiet 5 = .ok (.aload_n 0, 1) := by decide +kernel
theorem dX3_isQuiet_6 : decode cX3_isQuiet 6 = .ok (.getfield 15, 3) := by decide +kernel
theorem dX3_isQuiet_9 : decode cX3_isQuiet 9 = .ok (.if_icmp .eq 27, 3) := by decide +kernel
theorem dX3_isQuiet_12 : decode cX3_isQuiet 12 = .ok (.aload_n 0, 1) := by decide +kernel
theorem dX3_isQuiet_13 : decode cX3_isQuiet 13 = .ok (.getfield 9, 3) := by decide +kernel
theorem dX3_isQuiet_16 : decode cX3_isQuiet 16 = .ok (.iload_n 1, 1) := by decide +kernel
theorem dX3_isQuiet_17 : decode cX3_isQuiet 17 = .ok (.iconst 1, 1) := by decide +kernel
theorem dX3_isQuiet_18 : decode cX3_isQuiet 18 = .ok (.isub, 1) := by decide +kernel
theorem dX3_isQuiet_19 : decode cX3_isQuiet 19 = .ok (.invokestatic 27, 3) := by decide +kernel
theorem dX3_isQuiet_22 : decode cX3_isQuiet 22 = .ok (.ifCond .ne 18, 3) := by decide +kernel
theorem dX3_isQuiet_25 : decode cX3_isQuiet 25 = .ok (.aload_n 0, 1) := by decide +kernel
theorem dX3_isQuiet_26 : decode cX3_isQuiet 26 = .ok (.getfield 9, 3) := by decide +kernel
theorem dX3_isQuiet_29 : decode cX3_isQuiet 29 = .ok (.iload_n 1, 1) := by decide +kernel
theorem dX3_isQuiet_30 : decode cX3_isQuiet 30 = .ok (.invokestatic 27, 3) := by decide +kernel
theorem dX3_isQuiet_33 : decode cX3_isQuiet 33 = .ok (.ifCond .ne 7, 3) := by decide +kernel
theorem dX3_isQuiet_36 : decode cX3_isQuiet 36 = .ok (.iconst 1, 1) := by decide +kernel
theorem dX3_isQuiet_37 : decode cX3_isQuiet 37 = .ok (.goto 4, 3) := by decide +kernel
theorem dX3_isQuiet_40 : decode cX3_isQuiet 40 = .ok (.iconst 0, 1) := by decide +kernel
theorem dX3_isQuiet_41 : decode cX3_isQuiet 41 = .ok (.ireturn, 1) := by decide +kernel
theorem dX3_startsRow_0 : decode cX3_startsRow 0 = .ok (.aload_n 0, 1) := by decide +kernel
theorem dX3_startsRow_1 : decode cX3_startsRow 1 = .ok (.iload_n 1, 1) := by decide +kernel
theorem dX3_startsRow_2 : decode cX3_startsRow 2 = .ok (.invokevirtual 31, 3) := by decide +kernel
theorem dX3_startsRow_5 : decode cX3_startsRow 5 = .ok (.iload_n 2, 1) := by decide +kernel
theorem dX3_startsRow_6 : decode cX3_startsRow 6 = .ok (.if_icmp .ne 22, 3) := by decide +kernel
theorem dX3_startsRow_9 : decode cX3_startsRow 9 = .ok (.iload_n 1, 1) := by decide +kernel
theorem dX3_startsRow_10 : decode cX3_startsRow 10 = .ok (.ifCond .eq 14, 3) := by decide +kernel
theorem dX3_startsRow_13 : decode cX3_startsRow 13 = .ok (.aload_n 0, 1) := by decide +kernel
theorem dX3_startsRow_14 : decode cX3_startsRow 14 = .ok (.iload_n 1, 1) := by decide +kernel
theorem dX3_startsRow_15 : decode cX3_startsRow 15 = .ok (.iconst 1, 1) := by decide +kernel
theorem dX3_startsRow_16 : decode cX3_startsRow 16 = .ok (.isub, 1) := by decide +kernel
theorem dX3_startsRow_17 : decode cX3_startsRow 17 = .ok (.invokevirtual 31, 3) := by decide +kernel
theorem dX3_startsRow_20 : decode cX3_startsRow 20 = .ok (.iload_n 2, 1) := by decide +kernel
theorem dX3_startsRow_21 : decode cX3_startsRow 21 = .ok (.if_icmp .eq 7, 3) := by decide +kernel
theorem dX3_startsRow_24 : decode cX3_startsRow 24 = .ok (.iconst 1, 1) := by decide +kernel
theorem dX3_startsRow_25 : decode cX3_startsRow 25 = .ok (.goto 4, 3) := by decide +kernel
theorem dX3_startsRow_28 : decode cX3_startsRow 28 = .ok (.iconst 0, 1) := by decide +kernel
theorem dX3_startsRow_29 : decode cX3_startsRow 29 = .ok (.ireturn, 1) := by decide +kernel
theorem dX3_countRows_0 : decode cX3_countRows 0 = .ok (.iconst 0, 1) := by decide +kernel
theorem dX3_countRows_1 : decode cX3_countRows 1 = .ok (.istore_n 2, 1) := by decide +kernel
theorem dX3_countRows_2 : decode cX3_countRows 2 = .ok (.iconst 0, 1) := by decide +kernel
theorem dX3_countRows_3 : decode cX3_countRows 3 = .ok (.istore_n 3, 1) := by decide +kernel
theorem dX3_countRows_4 : decode cX3_countRows 4 = .ok (.iload_n 3, 1) := by decide +kernel
theorem dX3_countRows_5 : decode cX3_countRows 5 = .ok (.aload_n 0, 1) := by decide +kernel
theorem dX3_countRows_6 : decode cX3_countRows 6 = .ok (.getfield 15, 3) := by decide +kernel
theorem dX3_countRows_9 : decode cX3_countRows 9 = .ok (.if_icmp .ge 21, 3) := by decide +kernel
theorem dX3_countRows_12 : decode cX3_countRows 12 = .ok (.aload_n 0, 1) := by decide +kernel
theorem dX3_countRows_13 : decode cX3_countRows 13 = .ok (.iload_n 3, 1) := by decide +kernel
theorem dX3_countRows_14 : decode cX3_countRows 14 = .ok (.iload_n 1, 1) := by decide +kernel
theorem dX3_countRows_15 : decode cX3_countRows 15 = .ok (.invokevirtual 35, 3) := by decide +kernel
theorem dX3_countRows_18 : decode cX3_countRows 18 = .ok (.ifCond .eq 6, 3) := by decide +kernel
theorem dX3_countRows_21 : decode cX3_countRows 21 = .ok (.iinc 2 1, 3) := by decide +kernel
theorem dX3_countRows_24 : decode cX3_countRows 24 = .ok (.iinc 3 1, 3) := by decide +kernel
theorem dX3_countRows_27 : decode cX3_countRows 27 = .ok (.goto (-23), 3) := by decide +kernel
theorem dX3_countRows_30 : decode cX3_countRows 30 = .ok (.iload_n 2, 1) := by decide +kernel
theorem dX3_countRows_31 : decode cX3_countRows 31 = .ok (.ireturn, 1) := by decide +kernel
theorem dX3_startOfRow_0 : decode cX3_startOfRow 0 = .ok (.iconst 0, 1) := by decide +kernel
theorem dX3_startOfRow_1 : decode cX3_startOfRow 1 = .ok (.istore_n 3, 1) := by decide +kernel
theorem dX3_startOfRow_2 : decode cX3_startOfRow 2 = .ok (.iconst 0, 1) := by decide +kernel
theorem dX3_startOfRow_3 : decode cX3_startOfRow 3 = .ok (.istore 4, 2) := by decide +kernel
theorem dX3_startOfRow_5 : decode cX3_startOfRow 5 = .ok (.iload 4, 2) := by decide +kernel
theorem dX3_startOfRow_7 : decode cX3_startOfRow 7 = .ok (.aload_n 0, 1) := by decide +kernel
theorem dX3_startOfRow_8 : decode cX3_startOfRow 8 = .ok (.getfield 15, 3) := by decide +kernel
theorem dX3_startOfRow_11 : decode cX3_startOfRow 11 = .ok (.if_icmp .ge 30, 3) := by decide +kernel
theorem dX3_startOfRow_14 : decode cX3_startOfRow 14 = .ok (.aload_n 0, 1) := by decide +kernel
theorem dX3_startOfRow_15 : decode cX3_startOfRow 15 = .ok (.iload 4, 2) := by decide +kernel
theorem dX3_startOfRow_17 : decode cX3_startOfRow 17 = .ok (.iload_n 2, 1) := by decide +kernel
theorem dX3_startOfRow_18 : decode cX3_startOfRow 18 = .ok (.invokevirtual 35, 3) := by decide +kernel
theorem dX3_startOfRow_21 : decode cX3_startOfRow 21 = .ok (.ifCond .eq 14, 3) := by decide +kernel
theorem dX3_startOfRow_24 : decode cX3_startOfRow 24 = .ok (.iload_n 3, 1) := by decide +kernel
theorem dX3_startOfRow_25 : decode cX3_startOfRow 25 = .ok (.iload_n 1, 1) := by decide +kernel
theorem dX3_startOfRow_26 : decode cX3_startOfRow 26 = .ok (.if_icmp .ne 6, 3) := by decide +kernel
theorem dX3_startOfRow_29 : decode cX3_startOfRow 29 = .ok (.iload 4, 2) := by decide +kernel
theorem dX3_startOfRow_31 : decode cX3_startOfRow 31 = .ok (.ireturn, 1) := by decide +kernel
theorem dX3_startOfRow_32 : decode cX3_startOfRow 32 = .ok (.iinc 3 1, 3) := by decide +kernel
theorem dX3_startOfRow_35 : decode cX3_startOfRow 35 = .ok (.iinc 4 1, 3) := by decide +kernel
theorem dX3_startOfRow_38 : decode cX3_startOfRow 38 = .ok (.goto (-33), 3) := by decide +kernel
theorem dX3_startOfRow_41 : decode cX3_startOfRow 41 = .ok (.iconst (-1), 1) := by decide +kernel
theorem dX3_startOfRow_42 : decode cX3_startOfRow 42 = .ok (.ireturn, 1) := by decide +kernel
theorem dX3_rowLength_0 : decode cX3_rowLength 0 = .ok (.iload_n 1, 1) := by decide +kernel
theorem dX3_rowLength_1 : decode cX3_rowLength 1 = .ok (.istore_n 2, 1) := by decide +kernel
theorem dX3_rowLength_2 : decode cX3_rowLength 2 = .ok (.iload_n 2, 1) := by decide +kernel
theorem dX3_rowLength_3 : decode cX3_rowLength 3 = .ok (.aload_n 0, 1) := by decide +kernel
theorem dX3_rowLength_4 : decode cX3_rowLength 4 = .ok (.getfield 15, 3) := by decide +kernel
theorem dX3_rowLength_7 : decode cX3_rowLength 7 = .ok (.if_icmp .ge 22, 3) := by decide +kernel
theorem dX3_rowLength_10 : decode cX3_rowLength 10 = .ok (.aload_n 0, 1) := by decide +kernel
theorem dX3_rowLength_11 : decode cX3_rowLength 11 = .ok (.iload_n 2, 1) := by decide +kernel
theorem dX3_rowLength_12 : decode cX3_rowLength 12 = .ok (.invokevirtual 31, 3) := by decide +kernel
theorem dX3_rowLength_15 : decode cX3_rowLength 15 = .ok (.aload_n 0, 1) := by decide +kernel
theorem dX3_rowLength_16 : decode cX3_rowLength 16 = .ok (.iload_n 1, 1) := by decide +kernel
theorem dX3_rowLength_17 : decode cX3_rowLength 17 = .ok (.invokevirtual 31, 3) := by decide +kernel
theorem dX3_rowLength_20 : decode cX3_rowLength 20 = .ok (.if_icmp .ne 9, 3) := by decide +kernel
theorem dX3_rowLength_23 : decode cX3_rowLength 23 = .ok (.iinc 2 1, 3) := by decide +kernel
theorem dX3_rowLength_26 : decode cX3_rowLength 26 = .ok (.goto (-24), 3) := by decide +kernel
theorem dX3_rowLength_29 : decode cX3_rowLength 29 = .ok (.iload_n 2, 1) := by decide +kernel
theorem dX3_rowLength_30 : decode cX3_rowLength 30 = .ok (.iload_n 1, 1) := by decide +kernel
theorem dX3_rowLength_31 : decode cX3_rowLength 31 = .ok (.isub, 1) := by decide +kernel
theorem dX3_rowLength_32 : decode cX3_rowLength 32 = .ok (.ireturn, 1) := by decide +kernel
theorem dX3_firstQuiet_0 : decode cX3_firstQuiet 0 = .ok (.iload_n 1, 1) := by decide +kernel
theorem dX3_firstQuiet_1 : decode cX3_firstQuiet 1 = .ok (.aload_n 0, 1) := by decide +kernel
theorem dX3_firstQuiet_2 : decode cX3_firstQuiet 2 = .ok (.iload_n 1, 1) := by decide +kernel
theorem dX3_firstQuiet_3 : decode cX3_firstQuiet 3 = .ok (.invokevirtual 39, 3) := by decide +kernel
theorem dX3_firstQuiet_6 : decode cX3_firstQuiet 6 = .ok (.iadd, 1) := by decide +kernel
theorem dX3_firstQuiet_7 : decode cX3_firstQuiet 7 = .ok (.istore_n 2, 1) := by decide +kernel
theorem dX3_firstQuiet_8 : decode cX3_firstQuiet 8 = .ok (.iload_n 1, 1) := by decide +kernel
theorem dX3_firstQuiet_9 : decode cX3_firstQuiet 9 = .ok (.istore_n 3, 1) := by decide +kernel
theorem dX3_firstQuiet_10 : decode cX3_firstQuiet 10 = .ok (.iload_n 3, 1) := by decide +kernel
theorem dX3_firstQuiet_11 : decode cX3_firstQuiet 11 = .ok (.iload_n 2, 1) := by decide +kernel
theorem dX3_firstQuiet_12 : decode cX3_firstQuiet 12 = .ok (.if_icmp .gt 19, 3) := by decide +kernel
theorem dX3_firstQuiet_15 : decode cX3_firstQuiet 15 = .ok (.aload_n 0, 1) := by decide +kernel
theorem dX3_firstQuiet_16 : decode cX3_firstQuiet 16 = .ok (.iload_n 3, 1) := by decide +kernel
theorem dX3_firstQuiet_17 : decode cX3_firstQuiet 17 = .ok (.invokevirtual 43, 3) := by decide +kernel
theorem dX3_firstQuiet_20 : decode cX3_firstQuiet 20 = .ok (.ifCond .eq 5, 3) := by decide +kernel
theorem dX3_firstQuiet_23 : decode cX3_firstQuiet 23 = .ok (.iload_n 3, 1) := by decide +kernel
theorem dX3_firstQuiet_24 : decode cX3_firstQuiet 24 = .ok (.ireturn, 1) := by decide +kernel
theorem dX3_firstQuiet_25 : decode cX3_firstQuiet 25 = .ok (.iinc 3 1, 3) := by decide +kernel
theorem dX3_firstQuiet_28 : decode cX3_firstQuiet 28 = .ok (.goto (-18), 3) := by decide +kernel
theorem dX3_firstQuiet_31 : decode cX3_firstQuiet 31 = .ok (.iconst (-1), 1) := by decide +kernel
theorem dX3_firstQuiet_32 : decode cX3_firstQuiet 32 = .ok (.ireturn, 1) := by decide +kernel
theorem dX3_greatestSound_0 : decode cX3_greatestSound 0 = .ok (.iload_n 1, 1) := by decide +kernel
theorem dX3_greatestSound_1 : decode cX3_greatestSound 1 = .ok (.aload_n 0, 1) := by decide +kernel
theorem dX3_greatestSound_2 : decode cX3_greatestSound 2 = .ok (.iload_n 1, 1) := by decide +kernel
theorem dX3_greatestSound_3 : decode cX3_greatestSound 3 = .ok (.invokevirtual 39, 3) := by decide +kernel
theorem dX3_greatestSound_6 : decode cX3_greatestSound 6 = .ok (.iadd, 1) := by decide +kernel
theorem dX3_greatestSound_7 : decode cX3_greatestSound 7 = .ok (.istore_n 2, 1) := by decide +kernel
theorem dX3_greatestSound_8 : decode cX3_greatestSound 8 = .ok (.iconst 0, 1) := by decide +kernel
theorem dX3_greatestSound_9 : decode cX3_greatestSound 9 = .ok (.istore_n 3, 1) := by decide +kernel
theorem dX3_greatestSound_10 : decode cX3_greatestSound 10 = .ok (.iload_n 1, 1) := by decide +kernel
theorem dX3_greatestSound_11 : decode cX3_greatestSound 11 = .ok (.istore 4, 2) := by decide +kernel
theorem dX3_greatestSound_13 : decode cX3_greatestSound 13 = .ok (.iload 4, 2) := by decide +kernel
theorem dX3_greatestSound_15 : decode cX3_greatestSound 15 = .ok (.iload_n 2, 1) := by decide +kernel
theorem dX3_greatestSound_16 : decode cX3_greatestSound 16 = .ok (.if_icmp .ge 23, 3) := by decide +kernel
theorem dX3_greatestSound_19 : decode cX3_greatestSound 19 = .ok (.iload_n 3, 1) := by decide +kernel
theorem dX3_greatestSound_20 : decode cX3_greatestSound 20 = .ok (.aload_n 0, 1) := by decide +kernel
theorem dX3_greatestSound_21 : decode cX3_greatestSound 21 = .ok (.getfield 9, 3) := by decide +kernel
theorem dX3_greatestSound_24 : decode cX3_greatestSound 24 = .ok (.iload 4, 2) := by decide +kernel
theorem dX3_greatestSound_26 : decode cX3_greatestSound 26 = .ok (.invokestatic 27, 3) := by decide +kernel
theorem dX3_greatestSound_29 : decode cX3_greatestSound 29 = .ok (.invokestatic 46, 3) := by decide +kernel
theorem dX3_greatestSound_32 : decode cX3_greatestSound 32 = .ok (.istore_n 3, 1) := by decide +kernel
theorem dX3_greatestSound_33 : decode cX3_greatestSound 33 = .ok (.iinc 4 1, 3) := by decide +kernel
theorem dX3_greatestSound_36 : decode cX3_greatestSound 36 = .ok (.goto (-23), 3) := by decide +kernel
theorem dX3_greatestSound_39 : decode cX3_greatestSound 39 = .ok (.iload_n 3, 1) := by decide +kernel
theorem dX3_greatestSound_40 : decode cX3_greatestSound 40 = .ok (.ireturn, 1) := by decide +kernel
theorem dX3_longestSilence_0 : decode cX3_longestSilence 0 = .ok (.iconst 0, 1) := by decide +kernel
theorem dX3_longestSilence_1 : decode cX3_longestSilence 1 = .ok (.istore_n 1, 1) := by decide +kernel
theorem dX3_longestSilence_2 : decode cX3_longestSilence 2 = .ok (.iconst 0, 1) := by decide +kernel
theorem dX3_longestSilence_3 : decode cX3_longestSilence 3 = .ok (.istore_n 2, 1) := by decide +kernel
theorem dX3_longestSilence_4 : decode cX3_longestSilence 4 = .ok (.iload_n 2, 1) := by decide +kernel
theorem dX3_longestSilence_5 : decode cX3_longestSilence 5 = .ok (.aload_n 0, 1) := by decide +kernel
theorem dX3_longestSilence_6 : decode cX3_longestSilence 6 = .ok (.getfield 15, 3) := by decide +kernel
theorem dX3_longestSilence_9 : decode cX3_longestSilence 9 = .ok (.if_icmp .ge 28, 3) := by decide +kernel
theorem dX3_longestSilence_12 : decode cX3_longestSilence 12 = .ok (.aload_n 0, 1) := by decide +kernel
theorem dX3_longestSilence_13 : decode cX3_longestSilence 13 = .ok (.iload_n 2, 1) := by decide +kernel
theorem dX3_longestSilence_14 : decode cX3_longestSilence 14 = .ok (.iconst 1, 1) := by decide +kernel
theorem dX3_longestSilence_15 : decode cX3_longestSilence 15 = .ok (.invokevirtual 35, 3) := by decide +kernel
theorem dX3_longestSilence_18 : decode cX3_longestSilence 18 = .ok (.ifCond .eq 13, 3) := by decide +kernel
theorem dX3_longestSilence_21 : decode cX3_longestSilence 21 = .ok (.iload_n 1, 1) := by decide +kernel
theorem dX3_longestSilence_22 : decode cX3_longestSilence 22 = .ok (.aload_n 0, 1) := by decide +kernel
theorem dX3_longestSilence_23 : decode cX3_longestSilence 23 = .ok (.iload_n 2, 1) := by decide +kernel
theorem dX3_longestSilence_24 : decode cX3_longestSilence 24 = .ok (.invokevirtual 39, 3) := by decide +kernel
theorem dX3_longestSilence_27 : decode cX3_longestSilence 27 = .ok (.invokestatic 46, 3) := by decide +kernel
theorem dX3_longestSilence_30 : decode cX3_longestSilence 30 = .ok (.istore_n 1, 1) := by decide +kernel
theorem dX3_longestSilence_31 : decode cX3_longestSilence 31 = .ok (.iinc 2 1, 3) := by decide +kernel
theorem dX3_longestSilence_34 : decode cX3_longestSilence 34 = .ok (.goto (-30), 3) := by decide +kernel
theorem dX3_longestSilence_37 : decode cX3_longestSilence 37 = .ok (.iload_n 1, 1) := by decide +kernel
theorem dX3_longestSilence_38 : decode cX3_longestSilence 38 = .ok (.ireturn, 1) := by decide +kernel
theorem dX3_sumOfSounds_0 : decode cX3_sumOfSounds 0 = .ok (.iconst 0, 1) := by decide +kernel
theorem dX3_sumOfSounds_1 : decode cX3_sumOfSounds 1 = .ok (.istore_n 1, 1) := by decide +kernel
theorem dX3_sumOfSounds_2 : decode cX3_sumOfSounds 2 = .ok (.iconst 0, 1) := by decide +kernel
theorem dX3_sumOfSounds_3 : decode cX3_sumOfSounds 3 = .ok (.istore_n 2, 1) := by decide +kernel
theorem dX3_sumOfSounds_4 : decode cX3_sumOfSounds 4 = .ok (.iload_n 2, 1) := by decide +kernel
theorem dX3_sumOfSounds_5 : decode cX3_sumOfSounds 5 = .ok (.aload_n 0, 1) := by decide +kernel
theorem dX3_sumOfSounds_6 : decode cX3_sumOfSounds 6 = .ok (.getfield 15, 3) := by decide +kernel
theorem dX3_sumOfSounds_9 : decode cX3_sumOfSounds 9 = .ok (.if_icmp .ge 20, 3) := by decide +kernel
theorem dX3_sumOfSounds_12 : decode cX3_sumOfSounds 12 = .ok (.iload_n 1, 1) := by decide +kernel
theorem dX3_sumOfSounds_13 : decode cX3_sumOfSounds 13 = .ok (.aload_n 0, 1) := by decide +kernel
theorem dX3_sumOfSounds_14 : decode cX3_sumOfSounds 14 = .ok (.getfield 9, 3) := by decide +kernel
theorem dX3_sumOfSounds_17 : decode cX3_sumOfSounds 17 = .ok (.iload_n 2, 1) := by decide +kernel
theorem dX3_sumOfSounds_18 : decode cX3_sumOfSounds 18 = .ok (.invokestatic 27, 3) := by decide +kernel
theorem dX3_sumOfSounds_21 : decode cX3_sumOfSounds 21 = .ok (.iadd, 1) := by decide +kernel
theorem dX3_sumOfSounds_22 : decode cX3_sumOfSounds 22 = .ok (.istore_n 1, 1) := by decide +kernel
theorem dX3_sumOfSounds_23 : decode cX3_sumOfSounds 23 = .ok (.iinc 2 1, 3) := by decide +kernel
theorem dX3_sumOfSounds_26 : decode cX3_sumOfSounds 26 = .ok (.goto (-22), 3) := by decide +kernel
theorem dX3_sumOfSounds_29 : decode cX3_sumOfSounds 29 = .ok (.iload_n 1, 1) := by decide +kernel
theorem dX3_sumOfSounds_30 : decode cX3_sumOfSounds 30 = .ok (.ireturn, 1) := by decide +kernel
theorem dX3_lay_0 : decode cX3_lay 0 = .ok (.iconst 0, 1) := by decide +kernel
theorem dX3_lay_1 : decode cX3_lay 1 = .ok (.istore 4, 2) := by decide +kernel
theorem dX3_lay_3 : decode cX3_lay 3 = .ok (.iload_n 1, 1) := by decide +kernel
theorem dX3_lay_4 : decode cX3_lay 4 = .ok (.istore 5, 2) := by decide +kernel
theorem dX3_lay_6 : decode cX3_lay 6 = .ok (.iload 5, 2) := by decide +kernel
theorem dX3_lay_8 : decode cX3_lay 8 = .ok (.iload_n 2, 1) := by decide +kernel
theorem dX3_lay_9 : decode cX3_lay 9 = .ok (.if_icmp .gt 35, 3) := by decide +kernel
theorem dX3_lay_12 : decode cX3_lay 12 = .ok (.aload_n 0, 1) := by decide +kernel
theorem dX3_lay_13 : decode cX3_lay 13 = .ok (.getfield 9, 3) := by decide +kernel
theorem dX3_lay_16 : decode cX3_lay 16 = .ok (.iload 5, 2) := by decide +kernel
theorem dX3_lay_18 : decode cX3_lay 18 = .ok (.invokestatic 27, 3) := by decide +kernel
theorem dX3_lay_21 : decode cX3_lay 21 = .ok (.iload_n 3, 1) := by decide +kernel
theorem dX3_lay_22 : decode cX3_lay 22 = .ok (.if_icmp .eq 16, 3) := by decide +kernel
theorem dX3_lay_25 : decode cX3_lay 25 = .ok (.aload_n 0, 1) := by decide +kernel
theorem dX3_lay_26 : decode cX3_lay 26 = .ok (.getfield 9, 3) := by decide +kernel
theorem dX3_lay_29 : decode cX3_lay 29 = .ok (.iload 5, 2) := by decide +kernel
theorem dX3_lay_31 : decode cX3_lay 31 = .ok (.iload_n 3, 1) := by decide +kernel
theorem dX3_lay_32 : decode cX3_lay 32 = .ok (.invokestatic 52, 3) := by decide +kernel
theorem dX3_lay_35 : decode cX3_lay 35 = .ok (.iinc 4 1, 3) := by decide +kernel
theorem dX3_lay_38 : decode cX3_lay 38 = .ok (.iinc 5 1, 3) := by decide +kernel
theorem dX3_lay_41 : decode cX3_lay 41 = .ok (.goto (-35), 3) := by decide +kernel
theorem dX3_lay_44 : decode cX3_lay 44 = .ok (.iload 4, 2) := by decide +kernel
theorem dX3_lay_46 : decode cX3_lay 46 = .ok (.ireturn, 1) := by decide +kernel
theorem dX4_init_0 : decode cX4_init 0 = .ok (.aload_n 0, 1) := by decide +kernel
theorem dX4_init_1 : decode cX4_init 1 = .ok (.invokespecial 1, 3) := by decide +kernel
theorem dX4_init_4 : decode cX4_init 4 = .ok (.aload_n 0, 1) := by decide +kernel
theorem dX4_init_5 : decode cX4_init 5 = .ok (.new 7, 3) := by decide +kernel
theorem dX4_init_8 : decode cX4_init 8 = .ok (.dup, 1) := by decide +kernel
theorem dX4_init_9 : decode cX4_init 9 = .ok (.invokespecial 9, 3) := by decide +kernel
theorem dX4_init_12 : decode cX4_init 12 = .ok (.putfield 10, 3) := by decide +kernel
theorem dX4_init_15 : decode cX4_init 15 = .ok (.return_, 1) := by decide +kernel
theorem dX5_init_0 : decode cX5_init 0 = .ok (.aload_n 0, 1) := by decide +kernel
theorem dX5_init_1 : decode cX5_init 1 = .ok (.invokespecial 3, 3) := by decide +kernel
theorem dX5_init_4 : decode cX5_init 4 = .ok (.aload_n 0, 1) := by decide +kernel
theorem dX5_init_5 : decode cX5_init 5 = .ok (.iconst 3, 1) := by decide +kernel
theorem dX5_init_6 : decode cX5_init 6 = .ok (.anewarray 9, 3) := by decide +kernel
theorem dX5_init_9 : decode cX5_init 9 = .ok (.dup, 1) := by decide +kernel
theorem dX5_init_10 : decode cX5_init 10 = .ok (.iconst 0, 1) := by decide +kernel
theorem dX5_init_11 : decode cX5_init 11 = .ok (.new 9, 3) := by decide +kernel
theorem dX5_init_14 : decode cX5_init 14 = .ok (.dup, 1) := by decide +kernel
theorem dX5_init_15 : decode cX5_init 15 = .ok (.invokespecial 11, 3) := by decide +kernel
theorem dX5_init_18 : decode cX5_init 18 = .ok (.aastore, 1) := by decide +kernel
theorem dX5_init_19 : decode cX5_init 19 = .ok (.dup, 1) := by decide +kernel
theorem dX5_init_20 : decode cX5_init 20 = .ok (.iconst 1, 1) := by decide +kernel
theorem dX5_init_21 : decode cX5_init 21 = .ok (.new 9, 3) := by decide +kernel
theorem dX5_init_24 : decode cX5_init 24 = .ok (.dup, 1) := by decide +kernel
theorem dX5_init_25 : decode cX5_init 25 = .ok (.invokespecial 11, 3) := by decide +kernel
theorem dX5_init_28 : decode cX5_init 28 = .ok (.aastore, 1) := by decide +kernel
theorem dX5_init_29 : decode cX5_init 29 = .ok (.dup, 1) := by decide +kernel
theorem dX5_init_30 : decode cX5_init 30 = .ok (.iconst 2, 1) := by decide +kernel
theorem dX5_init_31 : decode cX5_init 31 = .ok (.new 9, 3) := by decide +kernel
theorem dX5_init_34 : decode cX5_init 34 = .ok (.dup, 1) := by decide +kernel
theorem dX5_init_35 : decode cX5_init 35 = .ok (.invokespecial 11, 3) := by decide +kernel
theorem dX5_init_38 : decode cX5_init 38 = .ok (.aastore, 1) := by decide +kernel
theorem dX5_init_39 : decode cX5_init 39 = .ok (.putfield 12, 3) := by decide +kernel
theorem dX5_init_42 : decode cX5_init 42 = .ok (.aload_n 0, 1) := by decide +kernel
theorem dX5_init_43 : decode cX5_init 43 = .ok (.iconst 4, 1) := by decide +kernel
theorem dX5_init_44 : decode cX5_init 44 = .ok (.anewarray 18, 3) := by decide +kernel
theorem dX5_init_47 : decode cX5_init 47 = .ok (.dup, 1) := by decide +kernel
theorem dX5_init_48 : decode cX5_init 48 = .ok (.iconst 0, 1) := by decide +kernel
theorem dX5_init_49 : decode cX5_init 49 = .ok (.new 18, 3) := by decide +kernel
theorem dX5_init_52 : decode cX5_init 52 = .ok (.dup, 1) := by decide +kernel
theorem dX5_init_53 : decode cX5_init 53 = .ok (.invokespecial 20, 3) := by decide +kernel
theorem dX5_init_56 : decode cX5_init 56 = .ok (.aastore, 1) := by decide +kernel
theorem dX5_init_57 : decode cX5_init 57 = .ok (.dup, 1) := by decide +kernel
theorem dX5_init_58 : decode cX5_init 58 = .ok (.iconst 1, 1) := by decide +kernel
theorem dX5_init_59 : decode cX5_init 59 = .ok (.new 18, 3) := by decide +kernel
theorem dX5_init_62 : decode cX5_init 62 = .ok (.dup, 1) := by decide +kernel
theorem dX5_init_63 : decode cX5_init 63 = .ok (.invokespecial 20, 3) := by decide +kernel
theorem dX5_init_66 : decode cX5_init 66 = .ok (.aastore, 1) := by decide +kernel
theorem dX5_init_67 : decode cX5_init 67 = .ok (.dup, 1) := by decide +kernel
theorem dX5_init_68 : decode cX5_init 68 = .ok (.iconst 2, 1) := by decide +kernel
theorem dX5_init_69 : decode cX5_init 69 = .ok (.new 18, 3) := by decide +kernel
theorem dX5_init_72 : decode cX5_init 72 = .ok (.dup, 1) := by decide +kernel
theorem dX5_init_73 : decode cX5_init 73 = .ok (.invokespecial 20, 3) := by decide +kernel
theorem dX5_init_76 : decode cX5_init 76 = .ok (.aastore, 1) := by decide +kernel
theorem dX5_init_77 : decode cX5_init 77 = .ok (.dup, 1) := by decide +kernel
theorem dX5_init_78 : decode cX5_init 78 = .ok (.iconst 3, 1) := by decide +kernel
theorem dX5_init_79 : decode cX5_init 79 = .ok (.new 18, 3) := by decide +kernel
theorem dX5_init_82 : decode cX5_init 82 = .ok (.dup, 1) := by decide +kernel
theorem dX5_init_83 : decode cX5_init 83 = .ok (.invokespecial 20, 3) := by decide +kernel
theorem dX5_init_86 : decode cX5_init 86 = .ok (.aastore, 1) := by decide +kernel
theorem dX5_init_87 : decode cX5_init 87 = .ok (.putfield 21, 3) := by decide +kernel
theorem dX5_init_90 : decode cX5_init 90 = .ok (.return_, 1) := by decide +kernel
theorem dX5_clear_0 : decode cX5_clear 0 = .ok (.aload_n 0, 1) := by decide +kernel
theorem dX5_clear_1 : decode cX5_clear 1 = .ok (.iconst 0, 1) := by decide +kernel
theorem dX5_clear_2 : decode cX5_clear 2 = .ok (.putfield 25, 3) := by decide +kernel
theorem dX5_clear_5 : decode cX5_clear 5 = .ok (.aload_n 0, 1) := by decide +kernel
theorem dX5_clear_6 : decode cX5_clear 6 = .ok (.iconst 0, 1) := by decide +kernel
theorem dX5_clear_7 : decode cX5_clear 7 = .ok (.putfield 29, 3) := by decide +kernel
theorem dX5_clear_10 : decode cX5_clear 10 = .ok (.aload_n 0, 1) := by decide +kernel
theorem dX5_clear_11 : decode cX5_clear 11 = .ok (.iconst 0, 1) := by decide +kernel
theorem dX5_clear_12 : decode cX5_clear 12 = .ok (.putfield 32, 3) := by decide +kernel
theorem dX5_clear_15 : decode cX5_clear 15 = .ok (.aload_n 0, 1) := by decide +kernel
theorem dX5_clear_16 : decode cX5_clear 16 = .ok (.iconst 0, 1) := by decide +kernel
theorem dX5_clear_17 : decode cX5_clear 17 = .ok (.putfield 35, 3) := by decide +kernel
theorem dX5_clear_20 : decode cX5_clear 20 = .ok (.return_, 1) := by decide +kernel
theorem dX5_copyFrom_0 : decode cX5_copyFrom 0 = .ok (.aload_n 0, 1) := by decide +kernel
theorem dX5_copyFrom_1 : decode cX5_copyFrom 1 = .ok (.aload_n 1, 1) := by decide +kernel
theorem dX5_copyFrom_2 : decode cX5_copyFrom 2 = .ok (.getfield 25, 3) := by decide +kernel
theorem dX5_copyFrom_5 : decode cX5_copyFrom 5 = .ok (.putfield 25, 3) := by decide +kernel
theorem dX5_copyFrom_8 : decode cX5_copyFrom 8 = .ok (.aload_n 0, 1) := by decide +kernel
theorem dX5_copyFrom_9 : decode cX5_copyFrom 9 = .ok (.aload_n 1, 1) := by decide +kernel
theorem dX5_copyFrom_10 : decode cX5_copyFrom 10 = .ok (.getfield 29, 3) := by decide +kernel
theorem dX5_copyFrom_13 : decode cX5_copyFrom 13 = .ok (.putfield 29, 3) := by decide +kernel
theorem dX5_copyFrom_16 : decode cX5_copyFrom 16 = .ok (.aload_n 0, 1) := by decide +kernel
theorem dX5_copyFrom_17 : decode cX5_copyFrom 17 = .ok (.aload_n 1, 1) := by decide +kernel
theorem dX5_copyFrom_18 : decode cX5_copyFrom 18 = .ok (.getfield 32, 3) := by decide +kernel
theorem dX5_copyFrom_21 : decode cX5_copyFrom 21 = .ok (.putfield 32, 3) := by decide +kernel
theorem dX5_copyFrom_24 : decode cX5_copyFrom 24 = .ok (.aload_n 0, 1) := by decide +kernel
theorem dX5_copyFrom_25 : decode cX5_copyFrom 25 = .ok (.aload_n 1, 1) := by decide +kernel
theorem dX5_copyFrom_26 : decode cX5_copyFrom 26 = .ok (.getfield 35, 3) := by decide +kernel
theorem dX5_copyFrom_29 : decode cX5_copyFrom 29 = .ok (.putfield 35, 3) := by decide +kernel
theorem dX5_copyFrom_32 : decode cX5_copyFrom 32 = .ok (.iconst 0, 1) := by decide +kernel
theorem dX5_copyFrom_33 : decode cX5_copyFrom 33 = .ok (.istore_n 2, 1) := by decide +kernel
theorem dX5_copyFrom_34 : decode cX5_copyFrom 34 = .ok (.iload_n 2, 1) := by decide +kernel
theorem dX5_copyFrom_35 : decode cX5_copyFrom 35 = .ok (.aload_n 0, 1) := by decide +kernel
theorem dX5_copyFrom_36 : decode cX5_copyFrom 36 = .ok (.getfield 25, 3) := by decide +kernel
theorem dX5_copyFrom_39 : decode cX5_copyFrom 39 = .ok (.if_icmp .ge 37, 3) := by decide +kernel
theorem dX5_copyFrom_42 : decode cX5_copyFrom 42 = .ok (.aload_n 0, 1) := by decide +kernel
theorem dX5_copyFrom_43 : decode cX5_copyFrom 43 = .ok (.iload_n 2, 1) := by decide +kernel
theorem dX5_copyFrom_44 : decode cX5_copyFrom 44 = .ok (.invokevirtual 38, 3) := by decide +kernel
theorem dX5_copyFrom_47 : decode cX5_copyFrom 47 = .ok (.astore_n 3, 1) := by decide +kernel
theorem dX5_copyFrom_48 : decode cX5_copyFrom 48 = .ok (.aload_n 1, 1) := by decide +kernel
theorem dX5_copyFrom_49 : decode cX5_copyFrom 49 = .ok (.iload_n 2, 1) := by decide +kernel
theorem dX5_copyFrom_50 : decode cX5_copyFrom 50 = .ok (.invokevirtual 38, 3) := by decide +kernel
theorem dX5_copyFrom_53 : decode cX5_copyFrom 53 = .ok (.astore 4, 2) := by decide +kernel
theorem dX5_copyFrom_55 : decode cX5_copyFrom 55 = .ok (.aload_n 3, 1) := by decide +kernel
theorem dX5_copyFrom_56 : decode cX5_copyFrom 56 = .ok (.ifnull 14, 3) := by decide +kernel
theorem dX5_copyFrom_59 : decode cX5_copyFrom 59 = .ok (.aload 4, 2) := by decide +kernel
theorem dX5_copyFrom_61 : decode cX5_copyFrom 61 = .ok (.ifnull 9, 3) := by decide +kernel
theorem dX5_copyFrom_64 : decode cX5_copyFrom 64 = .ok (.aload_n 3, 1) := by decide +kernel
theorem dX5_copyFrom_65 : decode cX5_copyFrom 65 = .ok (.aload 4, 2) := by decide +kernel
theorem dX5_copyFrom_67 : decode cX5_copyFrom 67 = .ok (.invokevirtual 42, 3) := by decide +kernel
theorem dX5_copyFrom_70 : decode cX5_copyFrom 70 = .ok (.iinc 2 1, 3) := by decide +kernel
theorem dX5_copyFrom_73 : decode cX5_copyFrom 73 = .ok (.goto (-39), 3) := by decide +kernel
theorem dX5_copyFrom_76 : decode cX5_copyFrom 76 = .ok (.iconst 0, 1) := by decide +kernel
theorem dX5_copyFrom_77 : decode cX5_copyFrom 77 = .ok (.istore_n 2, 1) := by decide +kernel
theorem dX5_copyFrom_78 : decode cX5_copyFrom 78 = .ok (.iload_n 2, 1) := by decide +kernel
theorem dX5_copyFrom_79 : decode cX5_copyFrom 79 = .ok (.aload_n 0, 1) := by decide +kernel
theorem dX5_copyFrom_80 : decode cX5_copyFrom 80 = .ok (.getfield 29, 3) := by decide +kernel
theorem dX5_copyFrom_83 : decode cX5_copyFrom 83 = .ok (.if_icmp .ge 37, 3) := by decide +kernel
theorem dX5_copyFrom_86 : decode cX5_copyFrom 86 = .ok (.aload_n 0, 1) := by decide +kernel
theorem dX5_copyFrom_87 : decode cX5_copyFrom 87 = .ok (.iload_n 2, 1) := by decide +kernel
theorem dX5_copyFrom_88 : decode cX5_copyFrom 88 = .ok (.invokevirtual 46, 3) := by decide +kernel
theorem dX5_copyFrom_91 : decode cX5_copyFrom 91 = .ok (.astore_n 3, 1) := by decide +kernel
theorem dX5_copyFrom_92 : decode cX5_copyFrom 92 = .ok (.aload_n 1, 1) := by decide +kernel
theorem dX5_copyFrom_93 : decode cX5_copyFrom 93 = .ok (.iload_n 2, 1) := by decide +kernel
theorem dX5_copyFrom_94 : decode cX5_copyFrom 94 = .ok (.invokevirtual 46, 3) := by decide +kernel
theorem dX5_copyFrom_97 : decode cX5_copyFrom 97 = .ok (.astore 4, 2) := by decide +kernel
theorem dX5_copyFrom_99 : decode cX5_copyFrom 99 = .ok (.aload_n 3, 1) := by decide +kernel
theorem dX5_copyFrom_100 : decode cX5_copyFrom 100 = .ok (.ifnull 14, 3) := by decide +kernel
theorem dX5_copyFrom_103 : decode cX5_copyFrom 103 = .ok (.aload 4, 2) := by decide +kernel
theorem dX5_copyFrom_105 : decode cX5_copyFrom 105 = .ok (.ifnull 9, 3) := by decide +kernel
theorem dX5_copyFrom_108 : decode cX5_copyFrom 108 = .ok (.aload_n 3, 1) := by decide +kernel
theorem dX5_copyFrom_109 : decode cX5_copyFrom 109 = .ok (.aload 4, 2) := by decide +kernel
theorem dX5_copyFrom_111 : decode cX5_copyFrom 111 = .ok (.invokevirtual 50, 3) := by decide +kernel
theorem dX5_copyFrom_114 : decode cX5_copyFrom 114 = .ok (.iinc 2 1, 3) := by decide +kernel
theorem dX5_copyFrom_117 : decode cX5_copyFrom 117 = .ok (.goto (-39), 3) := by decide +kernel
theorem dX5_copyFrom_120 : decode cX5_copyFrom 120 = .ok (.return_, 1) := by decide +kernel
theorem dX5_reelAt_0 : decode cX5_reelAt 0 = .ok (.iload_n 1, 1) := by decide +kernel
theorem dX5_reelAt_1 : decode cX5_reelAt 1 = .ok (.iconst 0, 1) := by decide +kernel
theorem dX5_reelAt_2 : decode cX5_reelAt 2 = .ok (.aload_n 0, 1) := by decide +kernel
theorem dX5_reelAt_3 : decode cX5_reelAt 3 = .ok (.getfield 25, 3) := by decide +kernel
theorem dX5_reelAt_6 : decode cX5_reelAt 6 = .ok (.iconst 1, 1) := by decide +kernel
theorem dX5_reelAt_7 : decode cX5_reelAt 7 = .ok (.isub, 1) := by decide +kernel
theorem dX5_reelAt_8 : decode cX5_reelAt 8 = .ok (.invokestatic 53, 3) := by decide +kernel
theorem dX5_reelAt_11 : decode cX5_reelAt 11 = .ok (.ifCond .ne 12, 3) := by decide +kernel
theorem dX5_reelAt_14 : decode cX5_reelAt 14 = .ok (.iload_n 1, 1) := by decide +kernel
theorem dX5_reelAt_15 : decode cX5_reelAt 15 = .ok (.aload_n 0, 1) := by decide +kernel
theorem dX5_reelAt_16 : decode cX5_reelAt 16 = .ok (.getfield 12, 3) := by decide +kernel
theorem dX5_reelAt_19 : decode cX5_reelAt 19 = .ok (.arraylength, 1) := by decide +kernel
theorem dX5_reelAt_20 : decode cX5_reelAt 20 = .ok (.if_icmp .lt 7, 3) := by decide +kernel
theorem dX5_reelAt_23 : decode cX5_reelAt 23 = .ok (.aconst_null, 1) := by decide +kernel
theorem dX5_reelAt_24 : decode cX5_reelAt 24 = .ok (.goto 9, 3) := by decide +kernel
theorem dX5_reelAt_27 : decode cX5_reelAt 27 = .ok (.aload_n 0, 1) := by decide +kernel
theorem dX5_reelAt_28 : decode cX5_reelAt 28 = .ok (.getfield 12, 3) := by decide +kernel
theorem dX5_reelAt_31 : decode cX5_reelAt 31 = .ok (.iload_n 1, 1) := by decide +kernel
theorem dX5_reelAt_32 : decode cX5_reelAt 32 = .ok (.aaload, 1) := by decide +kernel
theorem dX5_reelAt_33 : decode cX5_reelAt 33 = .ok (.areturn, 1) := by decide +kernel
theorem dX5_loopAt_0 : decode cX5_loopAt 0 = .ok (.iload_n 1, 1) := by decide +kernel
theorem dX5_loopAt_1 : decode cX5_loopAt 1 = .ok (.iconst 0, 1) := by decide +kernel
theorem dX5_loopAt_2 : decode cX5_loopAt 2 = .ok (.aload_n 0, 1) := by decide +kernel
theorem dX5_loopAt_3 : decode cX5_loopAt 3 = .ok (.getfield 29, 3) := by decide +kernel
theorem dX5_loopAt_6 : decode cX5_loopAt 6 = .ok (.iconst 1, 1) := by decide +kernel
theorem dX5_loopAt_7 : decode cX5_loopAt 7 = .ok (.isub, 1) := by decide +kernel
theorem dX5_loopAt_8 : decode cX5_loopAt 8 = .ok (.invokestatic 53, 3) := by decide +kernel
theorem dX5_loopAt_11 : decode cX5_loopAt 11 = .ok (.ifCond .ne 12, 3) := by decide +kernel
theorem dX5_loopAt_14 : decode cX5_loopAt 14 = .ok (.iload_n 1, 1) := by decide +kernel
theorem dX5_loopAt_15 : decode cX5_loopAt 15 = .ok (.aload_n 0, 1) := by decide +kernel
theorem dX5_loopAt_16 : decode cX5_loopAt 16 = .ok (.getfield 21, 3) := by decide +kernel
theorem dX5_loopAt_19 : decode cX5_loopAt 19 = .ok (.arraylength, 1) := by decide +kernel
theorem dX5_loopAt_20 : decode cX5_loopAt 20 = .ok (.if_icmp .lt 7, 3) := by decide +kernel
theorem dX5_loopAt_23 : decode cX5_loopAt 23 = .ok (.aconst_null, 1) := by decide +kernel
theorem dX5_loopAt_24 : decode cX5_loopAt 24 = .ok (.goto 9, 3) := by decide +kernel
theorem dX5_loopAt_27 : decode cX5_loopAt 27 = .ok (.aload_n 0, 1) := by decide +kernel
theorem dX5_loopAt_28 : decode cX5_loopAt 28 = .ok (.getfield 21, 3) := by decide +kernel
theorem dX5_loopAt_31 : decode cX5_loopAt 31 = .ok (.iload_n 1, 1) := by decide +kernel
theorem dX5_loopAt_32 : decode cX5_loopAt 32 = .ok (.aaload, 1) := by decide +kernel
theorem dX5_loopAt_33 : decode cX5_loopAt 33 = .ok (.areturn, 1) := by decide +kernel
theorem dX5_soundBehind_0 : decode cX5_soundBehind 0 = .ok (.iconst 0, 1) := by decide +kernel
theorem dX5_soundBehind_1 : decode cX5_soundBehind 1 = .ok (.istore_n 2, 1) := by decide +kernel
theorem dX5_soundBehind_2 : decode cX5_soundBehind 2 = .ok (.iconst 0, 1) := by decide +kernel
theorem dX5_soundBehind_3 : decode cX5_soundBehind 3 = .ok (.istore_n 3, 1) := by decide +kernel
theorem dX5_soundBehind_4 : decode cX5_soundBehind 4 = .ok (.iload_n 3, 1) := by decide +kernel
theorem dX5_soundBehind_5 : decode cX5_soundBehind 5 = .ok (.aload_n 0, 1) := by decide +kernel
theorem dX5_soundBehind_6 : decode cX5_soundBehind 6 = .ok (.getfield 29, 3) := by decide +kernel
theorem dX5_soundBehind_9 : decode cX5_soundBehind 9 = .ok (.if_icmp .ge 30, 3) := by decide +kernel
theorem dX5_soundBehind_12 : decode cX5_soundBehind 12 = .ok (.aload_n 0, 1) := by decide +kernel
theorem dX5_soundBehind_13 : decode cX5_soundBehind 13 = .ok (.iload_n 3, 1) := by decide +kernel
theorem dX5_soundBehind_14 : decode cX5_soundBehind 14 = .ok (.invokevirtual 46, 3) := by decide +kernel
theorem dX5_soundBehind_17 : decode cX5_soundBehind 17 = .ok (.astore 4, 2) := by decide +kernel
theorem dX5_soundBehind_19 : decode cX5_soundBehind 19 = .ok (.aload 4, 2) := by decide +kernel
theorem dX5_soundBehind_21 : decode cX5_soundBehind 21 = .ok (.ifnull 12, 3) := by decide +kernel
theorem dX5_soundBehind_24 : decode cX5_soundBehind 24 = .ok (.iload_n 2, 1) := by decide +kernel
theorem dX5_soundBehind_25 : decode cX5_soundBehind 25 = .ok (.aload 4, 2) := by decide +kernel
theorem dX5_soundBehind_27 : decode cX5_soundBehind 27 = .ok (.iload_n 1, 1) := by decide +kernel
theorem dX5_soundBehind_28 : decode cX5_soundBehind 28 = .ok (.invokevirtual 57, 3) := by decide +kernel
theorem dX5_soundBehind_31 : decode cX5_soundBehind 31 = .ok (.iadd, 1) := by decide +kernel
theorem dX5_soundBehind_32 : decode cX5_soundBehind 32 = .ok (.istore_n 2, 1) := by decide +kernel
theorem dX5_soundBehind_33 : decode cX5_soundBehind 33 = .ok (.iinc 3 1, 3) := by decide +kernel
theorem dX5_soundBehind_36 : decode cX5_soundBehind 36 = .ok (.goto (-32), 3) := by decide +kernel
theorem dX5_soundBehind_39 : decode cX5_soundBehind 39 = .ok (.iload_n 2, 1) := by decide +kernel
theorem dX5_soundBehind_40 : decode cX5_soundBehind 40 = .ok (.ireturn, 1) := by decide +kernel
theorem dX5_loopsWithTape_0 : decode cX5_loopsWithTape 0 = .ok (.iconst 0, 1) := by decide +kernel
theorem dX5_loopsWithTape_1 : decode cX5_loopsWithTape 1 = .ok (.istore_n 1, 1) := by decide +kernel
theorem dX5_loopsWithTape_2 : decode cX5_loopsWithTape 2 = .ok (.iconst 0, 1) := by decide +kernel
theorem dX5_loopsWithTape_3 : decode cX5_loopsWithTape 3 = .ok (.istore_n 2, 1) := by decide +kernel
theorem dX5_loopsWithTape_4 : decode cX5_loopsWithTape 4 = .ok (.iload_n 2, 1) := by decide +kernel
theorem dX5_loopsWithTape_5 : decode cX5_loopsWithTape 5 = .ok (.aload_n 0, 1) := by decide +kernel
theorem dX5_loopsWithTape_6 : decode cX5_loopsWithTape 6 = .ok (.getfield 29, 3) := by decide +kernel
theorem dX5_loopsWithTape_9 : decode cX5_loopsWithTape 9 = .ok (.if_icmp .ge 29, 3) := by decide +kernel
theorem dX5_loopsWithTape_12 : decode cX5_loopsWithTape 12 = .ok (.aload_n 0, 1) := by decide +kernel
theorem dX5_loopsWithTape_13 : decode cX5_loopsWithTape 13 = .ok (.iload_n 2, 1) := by decide +kernel
theorem dX5_loopsWithTape_14 : decode cX5_loopsWithTape 14 = .ok (.invokevirtual 46, 3) := by decide +kernel
theorem dX5_loopsWithTape_17 : decode cX5_loopsWithTape 17 = .ok (.astore_n 3, 1) := by decide +kernel
theorem dX5_loopsWithTape_18 : decode cX5_loopsWithTape 18 = .ok (.aload_n 3, 1) := by decide +kernel
theorem dX5_loopsWithTape_19 : decode cX5_loopsWithTape 19 = .ok (.ifnull 13, 3) := by decide +kernel
theorem dX5_loopsWithTape_22 : decode cX5_loopsWithTape 22 = .ok (.aload_n 3, 1) := by decide +kernel
theorem dX5_loopsWithTape_23 : decode cX5_loopsWithTape 23 = .ok (.invokevirtual 61, 3) := by decide +kernel
theorem dX5_loopsWithTape_26 : decode cX5_loopsWithTape 26 = .ok (.ifCond .ne 6, 3) := by decide +kernel
theorem dX5_loopsWithTape_29 : decode cX5_loopsWithTape 29 = .ok (.iinc 1 1, 3) := by decide +kernel
theorem dX5_loopsWithTape_32 : decode cX5_loopsWithTape 32 = .ok (.iinc 2 1, 3) := by decide +kernel
theorem dX5_loopsWithTape_35 : decode cX5_loopsWithTape 35 = .ok (.goto (-31), 3) := by decide +kernel
theorem dX5_loopsWithTape_38 : decode cX5_loopsWithTape 38 = .ok (.iload_n 1, 1) := by decide +kernel
theorem dX5_loopsWithTape_39 : decode cX5_loopsWithTape 39 = .ok (.ireturn, 1) := by decide +kernel
theorem dX5_mutedLoops_0 : decode cX5_mutedLoops 0 = .ok (.iconst 0, 1) := by decide +kernel
theorem dX5_mutedLoops_1 : decode cX5_mutedLoops 1 = .ok (.istore_n 1, 1) := by decide +kernel
theorem dX5_mutedLoops_2 : decode cX5_mutedLoops 2 = .ok (.iconst 0, 1) := by decide +kernel
theorem dX5_mutedLoops_3 : decode cX5_mutedLoops 3 = .ok (.istore_n 2, 1) := by decide +kernel
theorem dX5_mutedLoops_4 : decode cX5_mutedLoops 4 = .ok (.iload_n 2, 1) := by decide +kernel
theorem dX5_mutedLoops_5 : decode cX5_mutedLoops 5 = .ok (.aload_n 0, 1) := by decide +kernel
theorem dX5_mutedLoops_6 : decode cX5_mutedLoops 6 = .ok (.getfield 29, 3) := by decide +kernel
theorem dX5_mutedLoops_9 : decode cX5_mutedLoops 9 = .ok (.if_icmp .ge 32, 3) := by decide +kernel
theorem dX5_mutedLoops_12 : decode cX5_mutedLoops 12 = .ok (.aload_n 0, 1) := by decide +kernel
theorem dX5_mutedLoops_13 : decode cX5_mutedLoops 13 = .ok (.iload_n 2, 1) := by decide +kernel
theorem dX5_mutedLoops_14 : decode cX5_mutedLoops 14 = .ok (.invokevirtual 46, 3) := by decide +kernel
theorem dX5_mutedLoops_17 : decode cX5_mutedLoops 17 = .ok (.astore_n 3, 1) := by decide +kernel
theorem dX5_mutedLoops_18 : decode cX5_mutedLoops 18 = .ok (.aload_n 3, 1) := by decide +kernel
theorem dX5_mutedLoops_19 : decode cX5_mutedLoops 19 = .ok (.ifnull 16, 3) := by decide +kernel
theorem dX5_mutedLoops_22 : decode cX5_mutedLoops 22 = .ok (.aload_n 3, 1) := by decide +kernel
theorem dX5_mutedLoops_23 : decode cX5_mutedLoops 23 = .ok (.getfield 65, 3) := by decide +kernel
theorem dX5_mutedLoops_26 : decode cX5_mutedLoops 26 = .ok (.ifCond .eq 9, 3) := by decide +kernel
theorem dX5_mutedLoops_29 : decode cX5_mutedLoops 29 = .ok (.iload_n 1, 1) := by decide +kernel
theorem dX5_mutedLoops_30 : decode cX5_mutedLoops 30 = .ok (.iconst 1, 1) := by decide +kernel
theorem dX5_mutedLoops_31 : decode cX5_mutedLoops 31 = .ok (.iload_n 2, 1) := by decide +kernel
theorem dX5_mutedLoops_32 : decode cX5_mutedLoops 32 = .ok (.ishl, 1) := by decide +kernel
theorem dX5_mutedLoops_33 : decode cX5_mutedLoops 33 = .ok (.ior, 1) := by decide +kernel
theorem dX5_mutedLoops_34 : decode cX5_mutedLoops 34 = .ok (.istore_n 1, 1) := by decide +kernel
theorem dX5_mutedLoops_35 : decode cX5_mutedLoops 35 = .ok (.iinc 2 1, 3) := by decide +kernel
theorem dX5_mutedLoops_38 : decode cX5_mutedLoops 38 = .ok (.goto (-34), 3) := by decide +kernel
theorem dX5_mutedLoops_41 : decode cX5_mutedLoops 41 = .ok (.iload_n 1, 1) := by decide +kernel
theorem dX5_mutedLoops_42 : decode cX5_mutedLoops 42 = .ok (.ireturn, 1) := by decide +kernel
theorem dX5_loopCells_0 : decode cX5_loopCells 0 = .ok (.iconst 0, 1) := by decide +kernel
theorem dX5_loopCells_1 : decode cX5_loopCells 1 = .ok (.istore_n 1, 1) := by decide +kernel
theorem dX5_loopCells_2 : decode cX5_loopCells 2 = .ok (.iconst 0, 1) := by decide +kernel
theorem dX5_loopCells_3 : decode cX5_loopCells 3 = .ok (.istore_n 2, 1) := by decide +kernel
theorem dX5_loopCells_4 : decode cX5_loopCells 4 = .ok (.iload_n 2, 1) := by decide +kernel
theorem dX5_loopCells_5 : decode cX5_loopCells 5 = .ok (.aload_n 0, 1) := by decide +kernel
theorem dX5_loopCells_6 : decode cX5_loopCells 6 = .ok (.getfield 29, 3) := by decide +kernel
theorem dX5_loopCells_9 : decode cX5_loopCells 9 = .ok (.if_icmp .ge 26, 3) := by decide +kernel
theorem dX5_loopCells_12 : decode cX5_loopCells 12 = .ok (.aload_n 0, 1) := by decide +kernel
theorem dX5_loopCells_13 : decode cX5_loopCells 13 = .ok (.iload_n 2, 1) := by decide +kernel
theorem dX5_loopCells_14 : decode cX5_loopCells 14 = .ok (.invokevirtual 46, 3) := by decide +kernel
theorem dX5_loopCells_17 : decode cX5_loopCells 17 = .ok (.astore_n 3, 1) := by decide +kernel
theorem dX5_loopCells_18 : decode cX5_loopCells 18 = .ok (.aload_n 3, 1) := by decide +kernel
theorem dX5_loopCells_19 : decode cX5_loopCells 19 = .ok (.ifnull 10, 3) := by decide +kernel
theorem dX5_loopCells_22 : decode cX5_loopCells 22 = .ok (.iload_n 1, 1) := by decide +kernel
theorem dX5_loopCells_23 : decode cX5_loopCells 23 = .ok (.aload_n 3, 1) := by decide +kernel
theorem dX5_loopCells_24 : decode cX5_loopCells 24 = .ok (.getfield 69, 3) := by decide +kernel
theorem dX5_loopCells_27 : decode cX5_loopCells 27 = .ok (.iadd, 1) := by decide +kernel
theorem dX5_loopCells_28 : decode cX5_loopCells 28 = .ok (.istore_n 1, 1) := by decide +kernel
theorem dX5_loopCells_29 : decode cX5_loopCells 29 = .ok (.iinc 2 1, 3) := by decide +kernel
theorem dX5_loopCells_32 : decode cX5_loopCells 32 = .ok (.goto (-28), 3) := by decide +kernel
theorem dX5_loopCells_35 : decode cX5_loopCells 35 = .ok (.iload_n 1, 1) := by decide +kernel
theorem dX5_loopCells_36 : decode cX5_loopCells 36 = .ok (.ireturn, 1) := by decide +kernel
theorem dX5_whyNot_0 : decode cX5_whyNot 0 = .ok (.iload_n 1, 1) := by decide +kernel
theorem dX5_whyNot_1 : decode cX5_whyNot 1 = .ok (.tableswitch 262 99 119 #[155, 262, 262, 262, 262, 262, 262, 262, 262, 141, 221, 262, 262, 127, 262, 99, 262, 235, 173, 182, 252], 99) := by decide +kernel
theorem dX5_whyNot_100 : decode cX5_whyNot 100 = .ok (.iload_n 2, 1) := by decide +kernel
theorem dX5_whyNot_101 : decode cX5_whyNot 101 = .ok (.iconst 2, 1) := by decide +kernel
theorem dX5_whyNot_102 : decode cX5_whyNot 102 = .ok (.bipush 60, 2) := by decide +kernel
theorem dX5_whyNot_104 : decode cX5_whyNot 104 = .ok (.invokestatic 53, 3) := by decide +kernel
theorem dX5_whyNot_107 : decode cX5_whyNot 107 = .ok (.ifCond .eq 7, 3) := by decide +kernel
theorem dX5_whyNot_110 : decode cX5_whyNot 110 = .ok (.iconst 2, 1) := by decide +kernel
theorem dX5_whyNot_111 : decode cX5_whyNot 111 = .ok (.goto 16, 3) := by decide +kernel
theorem dX5_whyNot_114 : decode cX5_whyNot 114 = .ok (.aload_n 0, 1) := by decide +kernel
theorem dX5_whyNot_115 : decode cX5_whyNot 115 = .ok (.getfield 25, 3) := by decide +kernel
theorem dX5_whyNot_118 : decode cX5_whyNot 118 = .ok (.iconst 3, 1) := by decide +kernel
theorem dX5_whyNot_119 : decode cX5_whyNot 119 = .ok (.if_icmp .ge 7, 3) := by decide +kernel
theorem dX5_whyNot_122 : decode cX5_whyNot 122 = .ok (.iconst 0, 1) := by decide +kernel
theorem dX5_whyNot_123 : decode cX5_whyNot 123 = .ok (.goto 4, 3) := by decide +kernel
theorem dX5_whyNot_126 : decode cX5_whyNot 126 = .ok (.iconst 3, 1) := by decide +kernel
theorem dX5_whyNot_127 : decode cX5_whyNot 127 = .ok (.ireturn, 1) := by decide +kernel
theorem dX5_whyNot_128 : decode cX5_whyNot 128 = .ok (.aload_n 0, 1) := by decide +kernel
theorem dX5_whyNot_129 : decode cX5_whyNot 129 = .ok (.iload_n 2, 1) := by decide +kernel
theorem dX5_whyNot_130 : decode cX5_whyNot 130 = .ok (.invokevirtual 38, 3) := by decide +kernel
theorem dX5_whyNot_133 : decode cX5_whyNot 133 = .ok (.iload_n 3, 1) := by decide +kernel
theorem dX5_whyNot_134 : decode cX5_whyNot 134 = .ok (.iload 4, 2) := by decide +kernel
theorem dX5_whyNot_136 : decode cX5_whyNot 136 = .ok (.iload 5, 2) := by decide +kernel
theorem dX5_whyNot_138 : decode cX5_whyNot 138 = .ok (.invokestatic 72, 3) := by decide +kernel
theorem dX5_whyNot_141 : decode cX5_whyNot 141 = .ok (.ireturn, 1) := by decide +kernel
theorem dX5_whyNot_142 : decode cX5_whyNot 142 = .ok (.aload_n 0, 1) := by decide +kernel
theorem dX5_whyNot_143 : decode cX5_whyNot 143 = .ok (.getfield 29, 3) := by decide +kernel
theorem dX5_whyNot_146 : decode cX5_whyNot 146 = .ok (.iconst 4, 1) := by decide +kernel
theorem dX5_whyNot_147 : decode cX5_whyNot 147 = .ok (.if_icmp .ge 7, 3) := by decide +kernel
theorem dX5_whyNot_150 : decode cX5_whyNot 150 = .ok (.iconst 0, 1) := by decide +kernel
theorem dX5_whyNot_151 : decode cX5_whyNot 151 = .ok (.goto 4, 3) := by decide +kernel
theorem dX5_whyNot_154 : decode cX5_whyNot 154 = .ok (.iconst 3, 1) := by decide +kernel
theorem dX5_whyNot_155 : decode cX5_whyNot 155 = .ok (.ireturn, 1) := by decide +kernel
theorem dX5_whyNot_156 : decode cX5_whyNot 156 = .ok (.aload_n 0, 1) := by decide +kernel
theorem dX5_whyNot_157 : decode cX5_whyNot 157 = .ok (.iload_n 2, 1) := by decide +kernel
theorem dX5_whyNot_158 : decode cX5_whyNot 158 = .ok (.invokevirtual 46, 3) := by decide +kernel
theorem dX5_whyNot_161 : decode cX5_whyNot 161 = .ok (.aload_n 0, 1) := by decide +kernel
theorem dX5_whyNot_162 : decode cX5_whyNot 162 = .ok (.iload_n 3, 1) := by decide +kernel
theorem dX5_whyNot_163 : decode cX5_whyNot 163 = .ok (.invokevirtual 38, 3) := by decide +kernel
theorem dX5_whyNot_166 : decode cX5_whyNot 166 = .ok (.iload 4, 2) := by decide +kernel
theorem dX5_whyNot_168 : decode cX5_whyNot 168 = .ok (.iload 5, 2) := by decide +kernel
theorem dX5_whyNot_170 : decode cX5_whyNot 170 = .ok (.invokestatic 76, 3) := by decide +kernel
theorem dX5_whyNot_173 : decode cX5_whyNot 173 = .ok (.ireturn, 1) := by decide +kernel
theorem dX5_whyNot_174 : decode cX5_whyNot 174 = .ok (.aload_n 0, 1) := by decide +kernel
theorem dX5_whyNot_175 : decode cX5_whyNot 175 = .ok (.iload_n 2, 1) := by decide +kernel
theorem dX5_whyNot_176 : decode cX5_whyNot 176 = .ok (.invokevirtual 46, 3) := by decide +kernel
theorem dX5_whyNot_179 : decode cX5_whyNot 179 = .ok (.invokestatic 80, 3) := by decide +kernel
theorem dX5_whyNot_182 : decode cX5_whyNot 182 = .ok (.ireturn, 1) := by decide +kernel
theorem dX5_whyNot_183 : decode cX5_whyNot 183 = .ok (.aload_n 0, 1) := by decide +kernel
theorem dX5_whyNot_184 : decode cX5_whyNot 184 = .ok (.iload_n 2, 1) := by decide +kernel
theorem dX5_whyNot_185 : decode cX5_whyNot 185 = .ok (.invokevirtual 46, 3) := by decide +kernel
theorem dX5_whyNot_188 : decode cX5_whyNot 188 = .ok (.ifnonnull 7, 3) := by decide +kernel
theorem dX5_whyNot_191 : decode cX5_whyNot 191 = .ok (.iconst 1, 1) := by decide +kernel
theorem dX5_whyNot_192 : decode cX5_whyNot 192 = .ok (.goto 29, 3) := by decide +kernel
theorem dX5_whyNot_195 : decode cX5_whyNot 195 = .ok (.iload_n 3, 1) := by decide +kernel
theorem dX5_whyNot_196 : decode cX5_whyNot 196 = .ok (.iconst 1, 1) := by decide +kernel
theorem dX5_whyNot_197 : decode cX5_whyNot 197 = .ok (.bipush 9, 2) := by decide +kernel
theorem dX5_whyNot_199 : decode cX5_whyNot 199 = .ok (.invokestatic 53, 3) := by decide +kernel
theorem dX5_whyNot_202 : decode cX5_whyNot 202 = .ok (.ifCond .ne 14, 3) := by decide +kernel
theorem dX5_whyNot_205 : decode cX5_whyNot 205 = .ok (.iload 4, 2) := by decide +kernel
theorem dX5_whyNot_207 : decode cX5_whyNot 207 = .ok (.iconst 1, 1) := by decide +kernel
theorem dX5_whyNot_208 : decode cX5_whyNot 208 = .ok (.bipush 9, 2) := by decide +kernel
theorem dX5_whyNot_210 : decode cX5_whyNot 210 = .ok (.invokestatic 53, 3) := by decide +kernel
theorem dX5_whyNot_213 : decode cX5_whyNot 213 = .ok (.ifCond .eq 7, 3) := by decide +kernel
theorem dX5_whyNot_216 : decode cX5_whyNot 216 = .ok (.iconst 2, 1) := by decide +kernel
theorem dX5_whyNot_217 : decode cX5_whyNot 217 = .ok (.goto 4, 3) := by decide +kernel
theorem dX5_whyNot_220 : decode cX5_whyNot 220 = .ok (.iconst 0, 1) := by decide +kernel
theorem dX5_whyNot_221 : decode cX5_whyNot 221 = .ok (.ireturn, 1) := by decide +kernel
theorem dX5_whyNot_222 : decode cX5_whyNot 222 = .ok (.aload_n 0, 1) := by decide +kernel
theorem dX5_whyNot_223 : decode cX5_whyNot 223 = .ok (.iload_n 2, 1) := by decide +kernel
theorem dX5_whyNot_224 : decode cX5_whyNot 224 = .ok (.invokevirtual 46, 3) := by decide +kernel
theorem dX5_whyNot_227 : decode cX5_whyNot 227 = .ok (.ifnonnull 7, 3) := by decide +kernel
theorem dX5_whyNot_230 : decode cX5_whyNot 230 = .ok (.iconst 1, 1) := by decide +kernel
theorem dX5_whyNot_231 : decode cX5_whyNot 231 = .ok (.goto 4, 3) := by decide +kernel
theorem dX5_whyNot_234 : decode cX5_whyNot 234 = .ok (.iconst 0, 1) := by decide +kernel
theorem dX5_whyNot_235 : decode cX5_whyNot 235 = .ok (.ireturn, 1) := by decide +kernel
theorem dX5_whyNot_236 : decode cX5_whyNot 236 = .ok (.iload_n 2, 1) := by decide +kernel
theorem dX5_whyNot_237 : decode cX5_whyNot 237 = .ok (.iconst 1, 1) := by decide +kernel
theorem dX5_whyNot_238 : decode cX5_whyNot 238 = .ok (.sipush 999, 3) := by decide +kernel
theorem dX5_whyNot_241 : decode cX5_whyNot 241 = .ok (.invokestatic 53, 3) := by decide +kernel
theorem dX5_whyNot_244 : decode cX5_whyNot 244 = .ok (.ifCond .eq 7, 3) := by decide +kernel
theorem dX5_whyNot_247 : decode cX5_whyNot 247 = .ok (.iconst 2, 1) := by decide +kernel
theorem dX5_whyNot_248 : decode cX5_whyNot 248 = .ok (.goto 4, 3) := by decide +kernel
theorem dX5_whyNot_251 : decode cX5_whyNot 251 = .ok (.iconst 0, 1) := by decide +kernel
theorem dX5_whyNot_252 : decode cX5_whyNot 252 = .ok (.ireturn, 1) := by decide +kernel
theorem dX5_whyNot_253 : decode cX5_whyNot 253 = .ok (.aload_n 0, 1) := by decide +kernel
theorem dX5_whyNot_254 : decode cX5_whyNot 254 = .ok (.iload_n 2, 1) := by decide +kernel
theorem dX5_whyNot_255 : decode cX5_whyNot 255 = .ok (.invokevirtual 38, 3) := by decide +kernel
theorem dX5_whyNot_258 : decode cX5_whyNot 258 = .ok (.iload_n 3, 1) := by decide +kernel
theorem dX5_whyNot_259 : decode cX5_whyNot 259 = .ok (.invokestatic 84, 3) := by decide +kernel
theorem dX5_whyNot_262 : decode cX5_whyNot 262 = .ok (.ireturn, 1) := by decide +kernel
theorem dX5_whyNot_263 : decode cX5_whyNot 263 = .ok (.iconst 3, 1) := by decide +kernel
theorem dX5_whyNot_264 : decode cX5_whyNot 264 = .ok (.ireturn, 1) := by decide +kernel
theorem dX5_whyNotPaint_0 : decode cX5_whyNotPaint 0 = .ok (.aload_n 0, 1) := by decide +kernel
theorem dX5_whyNotPaint_1 : decode cX5_whyNotPaint 1 = .ok (.ifnull 19, 3) := by decide +kernel
theorem dX5_whyNotPaint_4 : decode cX5_whyNotPaint 4 = .ok (.aload_n 0, 1) := by decide +kernel
theorem dX5_whyNotPaint_5 : decode cX5_whyNotPaint 5 = .ok (.iload_n 1, 1) := by decide +kernel
theorem dX5_whyNotPaint_6 : decode cX5_whyNotPaint 6 = .ok (.invokevirtual 88, 3) := by decide +kernel
theorem dX5_whyNotPaint_9 : decode cX5_whyNotPaint 9 = .ok (.ifCond .eq 11, 3) := by decide +kernel
theorem dX5_whyNotPaint_12 : decode cX5_whyNotPaint 12 = .ok (.aload_n 0, 1) := by decide +kernel
theorem dX5_whyNotPaint_13 : decode cX5_whyNotPaint 13 = .ok (.iload_n 2, 1) := by decide +kernel
theorem dX5_whyNotPaint_14 : decode cX5_whyNotPaint 14 = .ok (.invokevirtual 88, 3) := by decide +kernel
theorem dX5_whyNotPaint_17 : decode cX5_whyNotPaint 17 = .ok (.ifCond .ne 5, 3) := by decide +kernel
theorem dX5_whyNotPaint_20 : decode cX5_whyNotPaint 20 = .ok (.iconst 1, 1) := by decide +kernel
theorem dX5_whyNotPaint_21 : decode cX5_whyNotPaint 21 = .ok (.ireturn, 1) := by decide +kernel
theorem dX5_whyNotPaint_22 : decode cX5_whyNotPaint 22 = .ok (.iload_n 2, 1) := by decide +kernel
theorem dX5_whyNotPaint_23 : decode cX5_whyNotPaint 23 = .ok (.iload_n 1, 1) := by decide +kernel
theorem dX5_whyNotPaint_24 : decode cX5_whyNotPaint 24 = .ok (.if_icmp .lt 13, 3) := by decide +kernel
theorem dX5_whyNotPaint_27 : decode cX5_whyNotPaint 27 = .ok (.iload_n 3, 1) := by decide +kernel
theorem dX5_whyNotPaint_28 : decode cX5_whyNotPaint 28 = .ok (.iconst 0, 1) := by decide +kernel
theorem dX5_whyNotPaint_29 : decode cX5_whyNotPaint 29 = .ok (.bipush 9, 2) := by decide +kernel
theorem dX5_whyNotPaint_31 : decode cX5_whyNotPaint 31 = .ok (.invokestatic 53, 3) := by decide +kernel
theorem dX5_whyNotPaint_34 : decode cX5_whyNotPaint 34 = .ok (.ifCond .eq 7, 3) := by decide +kernel
theorem dX5_whyNotPaint_37 : decode cX5_whyNotPaint 37 = .ok (.iconst 2, 1) := by decide +kernel
theorem dX5_whyNotPaint_38 : decode cX5_whyNotPaint 38 = .ok (.goto 4, 3) := by decide +kernel
theorem dX5_whyNotPaint_41 : decode cX5_whyNotPaint 41 = .ok (.iconst 0, 1) := by decide +kernel
theorem dX5_whyNotPaint_42 : decode cX5_whyNotPaint 42 = .ok (.ireturn, 1) := by decide +kernel
theorem dX5_whyNotSplice_0 : decode cX5_whyNotSplice 0 = .ok (.aload_n 0, 1) := by decide +kernel
theorem dX5_whyNotSplice_1 : decode cX5_whyNotSplice 1 = .ok (.ifnull 23, 3) := by decide +kernel
theorem dX5_whyNotSplice_4 : decode cX5_whyNotSplice 4 = .ok (.aload_n 1, 1) := by decide +kernel
theorem dX5_whyNotSplice_5 : decode cX5_whyNotSplice 5 = .ok (.ifnull 19, 3) := by decide +kernel
theorem dX5_whyNotSplice_8 : decode cX5_whyNotSplice 8 = .ok (.aload_n 1, 1) := by decide +kernel
theorem dX5_whyNotSplice_9 : decode cX5_whyNotSplice 9 = .ok (.iload_n 2, 1) := by decide +kernel
theorem dX5_whyNotSplice_10 : decode cX5_whyNotSplice 10 = .ok (.invokevirtual 92, 3) := by decide +kernel
theorem dX5_whyNotSplice_13 : decode cX5_whyNotSplice 13 = .ok (.ifCond .eq 11, 3) := by decide +kernel
theorem dX5_whyNotSplice_16 : decode cX5_whyNotSplice 16 = .ok (.aload_n 1, 1) := by decide +kernel
theorem dX5_whyNotSplice_17 : decode cX5_whyNotSplice 17 = .ok (.iload_n 3, 1) := by decide +kernel
theorem dX5_whyNotSplice_18 : decode cX5_whyNotSplice 18 = .ok (.invokevirtual 92, 3) := by decide +kernel
theorem dX5_whyNotSplice_21 : decode cX5_whyNotSplice 21 = .ok (.ifCond .ne 7, 3) := by decide +kernel
theorem dX5_whyNotSplice_24 : decode cX5_whyNotSplice 24 = .ok (.iconst 1, 1) := by decide +kernel
theorem dX5_whyNotSplice_25 : decode cX5_whyNotSplice 25 = .ok (.goto 4, 3) := by decide +kernel
theorem dX5_whyNotSplice_28 : decode cX5_whyNotSplice 28 = .ok (.iconst 0, 1) := by decide +kernel
theorem dX5_whyNotSplice_29 : decode cX5_whyNotSplice 29 = .ok (.ireturn, 1) := by decide +kernel
theorem dX5_whyNotUnsplice_0 : decode cX5_whyNotUnsplice 0 = .ok (.aload_n 0, 1) := by decide +kernel
theorem dX5_whyNotUnsplice_1 : decode cX5_whyNotUnsplice 1 = .ok (.ifnonnull 7, 3) := by decide +kernel
theorem dX5_whyNotUnsplice_4 : decode cX5_whyNotUnsplice 4 = .ok (.iconst 1, 1) := by decide +kernel
theorem dX5_whyNotUnsplice_5 : decode cX5_whyNotUnsplice 5 = .ok (.goto 15, 3) := by decide +kernel
theorem dX5_whyNotUnsplice_8 : decode cX5_whyNotUnsplice 8 = .ok (.aload_n 0, 1) := by decide +kernel
theorem dX5_whyNotUnsplice_9 : decode cX5_whyNotUnsplice 9 = .ok (.invokevirtual 61, 3) := by decide +kernel
theorem dX5_whyNotUnsplice_12 : decode cX5_whyNotUnsplice 12 = .ok (.ifCond .eq 7, 3) := by decide +kernel
theorem dX5_whyNotUnsplice_15 : decode cX5_whyNotUnsplice 15 = .ok (.iconst 3, 1) := by decide +kernel
theorem dX5_whyNotUnsplice_16 : decode cX5_whyNotUnsplice 16 = .ok (.goto 4, 3) := by decide +kernel
theorem dX5_whyNotUnsplice_19 : decode cX5_whyNotUnsplice 19 = .ok (.iconst 0, 1) := by decide +kernel
theorem dX5_whyNotUnsplice_20 : decode cX5_whyNotUnsplice 20 = .ok (.ireturn, 1) := by decide +kernel
theorem dX5_whyNotRecord_0 : decode cX5_whyNotRecord 0 = .ok (.aload_n 0, 1) := by decide +kernel
theorem dX5_whyNotRecord_1 : decode cX5_whyNotRecord 1 = .ok (.ifnonnull 7, 3) := by decide +kernel
theorem dX5_whyNotRecord_4 : decode cX5_whyNotRecord 4 = .ok (.iconst 1, 1) := by decide +kernel
theorem dX5_whyNotRecord_5 : decode cX5_whyNotRecord 5 = .ok (.goto 20, 3) := by decide +kernel
theorem dX5_whyNotRecord_8 : decode cX5_whyNotRecord 8 = .ok (.iload_n 1, 1) := by decide +kernel
theorem dX5_whyNotRecord_9 : decode cX5_whyNotRecord 9 = .ok (.iconst 1, 1) := by decide +kernel
theorem dX5_whyNotRecord_10 : decode cX5_whyNotRecord 10 = .ok (.aload_n 0, 1) := by decide +kernel
theorem dX5_whyNotRecord_11 : decode cX5_whyNotRecord 11 = .ok (.getfield 95, 3) := by decide +kernel
theorem dX5_whyNotRecord_14 : decode cX5_whyNotRecord 14 = .ok (.invokestatic 53, 3) := by decide +kernel
theorem dX5_whyNotRecord_17 : decode cX5_whyNotRecord 17 = .ok (.ifCond .eq 7, 3) := by decide +kernel
theorem dX5_whyNotRecord_20 : decode cX5_whyNotRecord 20 = .ok (.iconst 2, 1) := by decide +kernel
theorem dX5_whyNotRecord_21 : decode cX5_whyNotRecord 21 = .ok (.goto 4, 3) := by decide +kernel
theorem dX5_whyNotRecord_24 : decode cX5_whyNotRecord 24 = .ok (.iconst 0, 1) := by decide +kernel
theorem dX5_whyNotRecord_25 : decode cX5_whyNotRecord 25 = .ok (.ireturn, 1) := by decide +kernel
theorem dX5_carryOut_0 : decode cX5_carryOut 0 = .ok (.iload_n 1, 1) := by decide +kernel
theorem dX5_carryOut_1 : decode cX5_carryOut 1 = .ok (.tableswitch 206 99 119 #[124, 206, 206, 206, 206, 206, 206, 206, 206, 119, 164, 206, 206, 105, 206, 99, 206, 184, 143, 152, 195], 99) := by decide +kernel
theorem dX5_carryOut_100 : decode cX5_carryOut 100 = .ok (.aload_n 0, 1) := by decide +kernel
theorem dX5_carryOut_101 : decode cX5_carryOut 101 = .ok (.iload_n 2, 1) := by decide +kernel
theorem dX5_carryOut_102 : decode cX5_carryOut 102 = .ok (.invokevirtual 96, 3) := by decide +kernel
theorem dX5_carryOut_105 : decode cX5_carryOut 105 = .ok (.ireturn, 1) := by decide +kernel
theorem dX5_carryOut_106 : decode cX5_carryOut 106 = .ok (.aload_n 0, 1) := by decide +kernel
theorem dX5_carryOut_107 : decode cX5_carryOut 107 = .ok (.iload_n 2, 1) := by decide +kernel
theorem dX5_carryOut_108 : decode cX5_carryOut 108 = .ok (.invokevirtual 38, 3) := by decide +kernel
theorem dX5_carryOut_111 : decode cX5_carryOut 111 = .ok (.iload_n 3, 1) := by decide +kernel
theorem dX5_carryOut_112 : decode cX5_carryOut 112 = .ok (.iload 4, 2) := by decide +kernel
theorem dX5_carryOut_114 : decode cX5_carryOut 114 = .ok (.iload 5, 2) := by decide +kernel
theorem dX5_carryOut_116 : decode cX5_carryOut 116 = .ok (.invokestatic 99, 3) := by decide +kernel
theorem dX5_carryOut_119 : decode cX5_carryOut 119 = .ok (.ireturn, 1) := by decide +kernel
theorem dX5_carryOut_120 : decode cX5_carryOut 120 = .ok (.aload_n 0, 1) := by decide +kernel
theorem dX5_carryOut_121 : decode cX5_carryOut 121 = .ok (.invokevirtual 102, 3) := by decide +kernel
theorem dX5_carryOut_124 : decode cX5_carryOut 124 = .ok (.ireturn, 1) := by decide +kernel
theorem dX5_carryOut_125 : decode cX5_carryOut 125 = .ok (.aload_n 0, 1) := by decide +kernel
theorem dX5_carryOut_126 : decode cX5_carryOut 126 = .ok (.aload_n 0, 1) := by decide +kernel
theorem dX5_carryOut_127 : decode cX5_carryOut 127 = .ok (.iload_n 2, 1) := by decide +kernel
theorem dX5_carryOut_128 : decode cX5_carryOut 128 = .ok (.invokevirtual 46, 3) := by decide +kernel
theorem dX5_carryOut_131 : decode cX5_carryOut 131 = .ok (.aload_n 0, 1) := by decide +kernel
theorem dX5_carryOut_132 : decode cX5_carryOut 132 = .ok (.iload_n 3, 1) := by decide +kernel
theorem dX5_carryOut_133 : decode cX5_carryOut 133 = .ok (.invokevirtual 38, 3) := by decide +kernel
theorem dX5_carryOut_136 : decode cX5_carryOut 136 = .ok (.iload 4, 2) := by decide +kernel
theorem dX5_carryOut_138 : decode cX5_carryOut 138 = .ok (.iload 5, 2) := by decide +kernel
theorem dX5_carryOut_140 : decode cX5_carryOut 140 = .ok (.invokevirtual 106, 3) := by decide +kernel
theorem dX5_carryOut_143 : decode cX5_carryOut 143 = .ok (.ireturn, 1) := by decide +kernel
theorem dX5_carryOut_144 : decode cX5_carryOut 144 = .ok (.aload_n 0, 1) := by decide +kernel
theorem dX5_carryOut_145 : decode cX5_carryOut 145 = .ok (.iload_n 2, 1) := by decide +kernel
theorem dX5_carryOut_146 : decode cX5_carryOut 146 = .ok (.invokevirtual 46, 3) := by decide +kernel
theorem dX5_carryOut_149 : decode cX5_carryOut 149 = .ok (.invokestatic 109, 3) := by decide +kernel
theorem dX5_carryOut_152 : decode cX5_carryOut 152 = .ok (.ireturn, 1) := by decide +kernel
theorem dX5_carryOut_153 : decode cX5_carryOut 153 = .ok (.aload_n 0, 1) := by decide +kernel
theorem dX5_carryOut_154 : decode cX5_carryOut 154 = .ok (.iload_n 2, 1) := by decide +kernel
theorem dX5_carryOut_155 : decode cX5_carryOut 155 = .ok (.invokevirtual 46, 3) := by decide +kernel
theorem dX5_carryOut_158 : decode cX5_carryOut 158 = .ok (.iload_n 3, 1) := by decide +kernel
theorem dX5_carryOut_159 : decode cX5_carryOut 159 = .ok (.iload 4, 2) := by decide +kernel
theorem dX5_carryOut_161 : decode cX5_carryOut 161 = .ok (.invokestatic 112, 3) := by decide +kernel
theorem dX5_carryOut_164 : decode cX5_carryOut 164 = .ok (.ireturn, 1) := by decide +kernel
theorem dX5_carryOut_165 : decode cX5_carryOut 165 = .ok (.aload_n 0, 1) := by decide +kernel
theorem dX5_carryOut_166 : decode cX5_carryOut 166 = .ok (.aload_n 0, 1) := by decide +kernel
theorem dX5_carryOut_167 : decode cX5_carryOut 167 = .ok (.iload_n 2, 1) := by decide +kernel
theorem dX5_carryOut_168 : decode cX5_carryOut 168 = .ok (.invokevirtual 46, 3) := by decide +kernel
theorem dX5_carryOut_171 : decode cX5_carryOut 171 = .ok (.iload_n 3, 1) := by decide +kernel
theorem dX5_carryOut_172 : decode cX5_carryOut 172 = .ok (.iconst 1, 1) := by decide +kernel
theorem dX5_carryOut_173 : decode cX5_carryOut 173 = .ok (.if_icmp .ne 7, 3) := by decide +kernel
theorem dX5_carryOut_176 : decode cX5_carryOut 176 = .ok (.iconst 1, 1) := by decide +kernel
theorem dX5_carryOut_177 : decode cX5_carryOut 177 = .ok (.goto 4, 3) := by decide +kernel
theorem dX5_carryOut_180 : decode cX5_carryOut 180 = .ok (.iconst 0, 1) := by decide +kernel
theorem dX5_carryOut_181 : decode cX5_carryOut 181 = .ok (.invokevirtual 116, 3) := by decide +kernel
theorem dX5_carryOut_184 : decode cX5_carryOut 184 = .ok (.ireturn, 1) := by decide +kernel
theorem dX5_carryOut_185 : decode cX5_carryOut 185 = .ok (.aload_n 0, 1) := by decide +kernel
theorem dX5_carryOut_186 : decode cX5_carryOut 186 = .ok (.iload_n 2, 1) := by decide +kernel
theorem dX5_carryOut_187 : decode cX5_carryOut 187 = .ok (.invokevirtual 120, 3) := by decide +kernel
theorem dX5_carryOut_190 : decode cX5_carryOut 190 = .ok (.aload_n 0, 1) := by decide +kernel
theorem dX5_carryOut_191 : decode cX5_carryOut 191 = .ok (.iconst 0, 1) := by decide +kernel
theorem dX5_carryOut_192 : decode cX5_carryOut 192 = .ok (.invokevirtual 124, 3) := by decide +kernel
theorem dX5_carryOut_195 : decode cX5_carryOut 195 = .ok (.ireturn, 1) := by decide +kernel
theorem dX5_carryOut_196 : decode cX5_carryOut 196 = .ok (.aload_n 0, 1) := by decide +kernel
theorem dX5_carryOut_197 : decode cX5_carryOut 197 = .ok (.aload_n 0, 1) := by decide +kernel
theorem dX5_carryOut_198 : decode cX5_carryOut 198 = .ok (.iload_n 2, 1) := by decide +kernel
theorem dX5_carryOut_199 : decode cX5_carryOut 199 = .ok (.invokevirtual 38, 3) := by decide +kernel
theorem dX5_carryOut_202 : decode cX5_carryOut 202 = .ok (.iload_n 3, 1) := by decide +kernel
theorem dX5_carryOut_203 : decode cX5_carryOut 203 = .ok (.invokevirtual 127, 3) := by decide +kernel
theorem dX5_carryOut_206 : decode cX5_carryOut 206 = .ok (.ireturn, 1) := by decide +kernel
theorem dX5_carryOut_207 : decode cX5_carryOut 207 = .ok (.iconst (-1), 1) := by decide +kernel
theorem dX5_carryOut_208 : decode cX5_carryOut 208 = .ok (.ireturn, 1) := by decide +kernel
theorem dX5_perform_0 : decode cX5_perform 0 = .ok (.aload_n 0, 1) := by decide +kernel
theorem dX5_perform_1 : decode cX5_perform 1 = .ok (.iload_n 1, 1) := by decide +kernel
theorem dX5_perform_2 : decode cX5_perform 2 = .ok (.iload_n 2, 1) := by decide +kernel
theorem dX5_perform_3 : decode cX5_perform 3 = .ok (.iload_n 3, 1) := by decide +kernel
theorem dX5_perform_4 : decode cX5_perform 4 = .ok (.iload 4, 2) := by decide +kernel
theorem dX5_perform_6 : decode cX5_perform 6 = .ok (.iload 5, 2) := by decide +kernel
theorem dX5_perform_8 : decode cX5_perform 8 = .ok (.invokevirtual 130, 3) := by decide +kernel
theorem dX5_perform_11 : decode cX5_perform 11 = .ok (.ifCond .eq 5, 3) := by decide +kernel
theorem dX5_perform_14 : decode cX5_perform 14 = .ok (.iconst 0, 1) := by decide +kernel
theorem dX5_perform_15 : decode cX5_perform 15 = .ok (.ireturn, 1) := by decide +kernel
theorem dX5_perform_16 : decode cX5_perform 16 = .ok (.iload_n 1, 1) := by decide +kernel
theorem dX5_perform_17 : decode cX5_perform 17 = .ok (.bipush 99, 2) := by decide +kernel
theorem dX5_perform_19 : decode cX5_perform 19 = .ok (.if_icmp .ne 25, 3) := by decide +kernel
theorem dX5_perform_22 : decode cX5_perform 22 = .ok (.aload_n 0, 1) := by decide +kernel
theorem dX5_perform_23 : decode cX5_perform 23 = .ok (.iload_n 2, 1) := by decide +kernel
theorem dX5_perform_24 : decode cX5_perform 24 = .ok (.invokevirtual 46, 3) := by decide +kernel
theorem dX5_perform_27 : decode cX5_perform 27 = .ok (.aload_n 0, 1) := by decide +kernel
theorem dX5_perform_28 : decode cX5_perform 28 = .ok (.iload_n 3, 1) := by decide +kernel
theorem dX5_perform_29 : decode cX5_perform 29 = .ok (.invokevirtual 38, 3) := by decide +kernel
theorem dX5_perform_32 : decode cX5_perform 32 = .ok (.iload 4, 2) := by decide +kernel
theorem dX5_perform_34 : decode cX5_perform 34 = .ok (.iload 5, 2) := by decide +kernel
theorem dX5_perform_36 : decode cX5_perform 36 = .ok (.invokestatic 134, 3) := by decide +kernel
theorem dX5_perform_39 : decode cX5_perform 39 = .ok (.ifCond .eq 5, 3) := by decide +kernel
theorem dX5_perform_42 : decode cX5_perform 42 = .ok (.iconst 0, 1) := by decide +kernel
theorem dX5_perform_43 : decode cX5_perform 43 = .ok (.ireturn, 1) := by decide +kernel
theorem dX5_perform_44 : decode cX5_perform 44 = .ok (.aload_n 0, 1) := by decide +kernel
theorem dX5_perform_45 : decode cX5_perform 45 = .ok (.iload_n 1, 1) := by decide +kernel
theorem dX5_perform_46 : decode cX5_perform 46 = .ok (.iload_n 2, 1) := by decide +kernel
theorem dX5_perform_47 : decode cX5_perform 47 = .ok (.iload_n 3, 1) := by decide +kernel
theorem dX5_perform_48 : decode cX5_perform 48 = .ok (.iload 4, 2) := by decide +kernel
theorem dX5_perform_50 : decode cX5_perform 50 = .ok (.iload 5, 2) := by decide +kernel
theorem dX5_perform_52 : decode cX5_perform 52 = .ok (.invokevirtual 137, 3) := by decide +kernel
theorem dX5_perform_55 : decode cX5_perform 55 = .ok (.pop, 1) := by decide +kernel
theorem dX5_perform_56 : decode cX5_perform 56 = .ok (.iconst 1, 1) := by decide +kernel
theorem dX5_perform_57 : decode cX5_perform 57 = .ok (.ireturn, 1) := by decide +kernel
theorem dX5_addReel_0 : decode cX5_addReel 0 = .ok (.aload_n 0, 1) := by decide +kernel
theorem dX5_addReel_1 : decode cX5_addReel 1 = .ok (.dup, 1) := by decide +kernel
theorem dX5_addReel_2 : decode cX5_addReel 2 = .ok (.getfield 25, 3) := by decide +kernel
theorem dX5_addReel_5 : decode cX5_addReel 5 = .ok (.iconst 1, 1) := by decide +kernel
theorem dX5_addReel_6 : decode cX5_addReel 6 = .ok (.iadd, 1) := by decide +kernel
theorem dX5_addReel_7 : decode cX5_addReel 7 = .ok (.putfield 25, 3) := by decide +kernel
theorem dX5_addReel_10 : decode cX5_addReel 10 = .ok (.aload_n 0, 1) := by decide +kernel
theorem dX5_addReel_11 : decode cX5_addReel 11 = .ok (.aload_n 0, 1) := by decide +kernel
theorem dX5_addReel_12 : decode cX5_addReel 12 = .ok (.getfield 25, 3) := by decide +kernel
theorem dX5_addReel_15 : decode cX5_addReel 15 = .ok (.iconst 1, 1) := by decide +kernel
theorem dX5_addReel_16 : decode cX5_addReel 16 = .ok (.isub, 1) := by decide +kernel
theorem dX5_addReel_17 : decode cX5_addReel 17 = .ok (.invokevirtual 38, 3) := by decide +kernel
theorem dX5_addReel_20 : decode cX5_addReel 20 = .ok (.astore_n 2, 1) := by decide +kernel
theorem dX5_addReel_21 : decode cX5_addReel 21 = .ok (.aload_n 2, 1) := by decide +kernel
theorem dX5_addReel_22 : decode cX5_addReel 22 = .ok (.ifnull 8, 3) := by decide +kernel
theorem dX5_addReel_25 : decode cX5_addReel 25 = .ok (.aload_n 2, 1) := by decide +kernel
theorem dX5_addReel_26 : decode cX5_addReel 26 = .ok (.iload_n 1, 1) := by decide +kernel
theorem dX5_addReel_27 : decode cX5_addReel 27 = .ok (.invokevirtual 140, 3) := by decide +kernel
theorem dX5_addReel_30 : decode cX5_addReel 30 = .ok (.aload_n 0, 1) := by decide +kernel
theorem dX5_addReel_31 : decode cX5_addReel 31 = .ok (.getfield 25, 3) := by decide +kernel
theorem dX5_addReel_34 : decode cX5_addReel 34 = .ok (.iconst 1, 1) := by decide +kernel
theorem dX5_addReel_35 : decode cX5_addReel 35 = .ok (.isub, 1) := by decide +kernel
theorem dX5_addReel_36 : decode cX5_addReel 36 = .ok (.ireturn, 1) := by decide +kernel
theorem dX5_layOn_0 : decode cX5_layOn 0 = .ok (.aload_n 0, 1) := by decide +kernel
theorem dX5_layOn_1 : decode cX5_layOn 1 = .ok (.ifnonnull 7, 3) := by decide +kernel
theorem dX5_layOn_4 : decode cX5_layOn 4 = .ok (.iconst 0, 1) := by decide +kernel
theorem dX5_layOn_5 : decode cX5_layOn 5 = .ok (.goto 10, 3) := by decide +kernel
theorem dX5_layOn_8 : decode cX5_layOn 8 = .ok (.aload_n 0, 1) := by decide +kernel
theorem dX5_layOn_9 : decode cX5_layOn 9 = .ok (.iload_n 1, 1) := by decide +kernel
theorem dX5_layOn_10 : decode cX5_layOn 10 = .ok (.iload_n 2, 1) := by decide +kernel
theorem dX5_layOn_11 : decode cX5_layOn 11 = .ok (.iload_n 3, 1) := by decide +kernel
theorem dX5_layOn_12 : decode cX5_layOn 12 = .ok (.invokevirtual 143, 3) := by decide +kernel
theorem dX5_layOn_15 : decode cX5_layOn 15 = .ok (.ireturn, 1) := by decide +kernel
theorem dX5_addLoop_0 : decode cX5_addLoop 0 = .ok (.aload_n 0, 1) := by decide +kernel
theorem dX5_addLoop_1 : decode cX5_addLoop 1 = .ok (.dup, 1) := by decide +kernel
theorem dX5_addLoop_2 : decode cX5_addLoop 2 = .ok (.getfield 29, 3) := by decide +kernel
theorem dX5_addLoop_5 : decode cX5_addLoop 5 = .ok (.iconst 1, 1) := by decide +kernel
theorem dX5_addLoop_6 : decode cX5_addLoop 6 = .ok (.iadd, 1) := by decide +kernel
theorem dX5_addLoop_7 : decode cX5_addLoop 7 = .ok (.putfield 29, 3) := by decide +kernel
theorem dX5_addLoop_10 : decode cX5_addLoop 10 = .ok (.aload_n 0, 1) := by decide +kernel
theorem dX5_addLoop_11 : decode cX5_addLoop 11 = .ok (.aload_n 0, 1) := by decide +kernel
theorem dX5_addLoop_12 : decode cX5_addLoop 12 = .ok (.getfield 29, 3) := by decide +kernel
theorem dX5_addLoop_15 : decode cX5_addLoop 15 = .ok (.iconst 1, 1) := by decide +kernel
theorem dX5_addLoop_16 : decode cX5_addLoop 16 = .ok (.isub, 1) := by decide +kernel
theorem dX5_addLoop_17 : decode cX5_addLoop 17 = .ok (.invokevirtual 46, 3) := by decide +kernel
theorem dX5_addLoop_20 : decode cX5_addLoop 20 = .ok (.astore_n 1, 1) := by decide +kernel
theorem dX5_addLoop_21 : decode cX5_addLoop 21 = .ok (.aload_n 1, 1) := by decide +kernel
theorem dX5_addLoop_22 : decode cX5_addLoop 22 = .ok (.ifnull 7, 3) := by decide +kernel
theorem dX5_addLoop_25 : decode cX5_addLoop 25 = .ok (.aload_n 1, 1) := by decide +kernel
theorem dX5_addLoop_26 : decode cX5_addLoop 26 = .ok (.invokevirtual 147, 3) := by decide +kernel
theorem dX5_addLoop_29 : decode cX5_addLoop 29 = .ok (.aload_n 0, 1) := by decide +kernel
theorem dX5_addLoop_30 : decode cX5_addLoop 30 = .ok (.getfield 29, 3) := by decide +kernel
theorem dX5_addLoop_33 : decode cX5_addLoop 33 = .ok (.iconst 1, 1) := by decide +kernel
theorem dX5_addLoop_34 : decode cX5_addLoop 34 = .ok (.isub, 1) := by decide +kernel
theorem dX5_addLoop_35 : decode cX5_addLoop 35 = .ok (.ireturn, 1) := by decide +kernel
theorem dX5_joinTo_0 : decode cX5_joinTo 0 = .ok (.aload_n 1, 1) := by decide +kernel
theorem dX5_joinTo_1 : decode cX5_joinTo 1 = .ok (.aload_n 2, 1) := by decide +kernel
theorem dX5_joinTo_2 : decode cX5_joinTo 2 = .ok (.iload_n 3, 1) := by decide +kernel
theorem dX5_joinTo_3 : decode cX5_joinTo 3 = .ok (.iload 4, 2) := by decide +kernel
theorem dX5_joinTo_5 : decode cX5_joinTo 5 = .ok (.invokestatic 134, 3) := by decide +kernel
theorem dX5_joinTo_8 : decode cX5_joinTo 8 = .ok (.istore 5, 2) := by decide +kernel
theorem dX5_joinTo_10 : decode cX5_joinTo 10 = .ok (.iload 5, 2) := by decide +kernel
theorem dX5_joinTo_12 : decode cX5_joinTo 12 = .ok (.ifCond .eq 16, 3) := by decide +kernel
theorem dX5_joinTo_15 : decode cX5_joinTo 15 = .ok (.aload_n 0, 1) := by decide +kernel
theorem dX5_joinTo_16 : decode cX5_joinTo 16 = .ok (.dup, 1) := by decide +kernel
theorem dX5_joinTo_17 : decode cX5_joinTo 17 = .ok (.getfield 35, 3) := by decide +kernel
theorem dX5_joinTo_20 : decode cX5_joinTo 20 = .ok (.iconst 1, 1) := by decide +kernel
theorem dX5_joinTo_21 : decode cX5_joinTo 21 = .ok (.iadd, 1) := by decide +kernel
theorem dX5_joinTo_22 : decode cX5_joinTo 22 = .ok (.putfield 35, 3) := by decide +kernel
theorem dX5_joinTo_25 : decode cX5_joinTo 25 = .ok (.goto 19, 3) := by decide +kernel
theorem dX5_joinTo_28 : decode cX5_joinTo 28 = .ok (.aload_n 1, 1) := by decide +kernel
theorem dX5_joinTo_29 : decode cX5_joinTo 29 = .ok (.ifnull 15, 3) := by decide +kernel
theorem dX5_joinTo_32 : decode cX5_joinTo 32 = .ok (.aload_n 2, 1) := by decide +kernel
theorem dX5_joinTo_33 : decode cX5_joinTo 33 = .ok (.ifnull 11, 3) := by decide +kernel
theorem dX5_joinTo_36 : decode cX5_joinTo 36 = .ok (.aload_n 1, 1) := by decide +kernel
theorem dX5_joinTo_37 : decode cX5_joinTo 37 = .ok (.aload_n 2, 1) := by decide +kernel
theorem dX5_joinTo_38 : decode cX5_joinTo 38 = .ok (.iload_n 3, 1) := by decide +kernel
theorem dX5_joinTo_39 : decode cX5_joinTo 39 = .ok (.iload 4, 2) := by decide +kernel
theorem dX5_joinTo_41 : decode cX5_joinTo 41 = .ok (.invokevirtual 149, 3) := by decide +kernel
theorem dX5_joinTo_44 : decode cX5_joinTo 44 = .ok (.iload 5, 2) := by decide +kernel
theorem dX5_joinTo_46 : decode cX5_joinTo 46 = .ok (.ireturn, 1) := by decide +kernel
theorem dX5_reasonAgainst_0 : decode cX5_reasonAgainst 0 = .ok (.aload_n 0, 1) := by decide +kernel
theorem dX5_reasonAgainst_1 : decode cX5_reasonAgainst 1 = .ok (.ifnull 12, 3) := by decide +kernel
theorem dX5_reasonAgainst_4 : decode cX5_reasonAgainst 4 = .ok (.aload_n 1, 1) := by decide +kernel
theorem dX5_reasonAgainst_5 : decode cX5_reasonAgainst 5 = .ok (.ifnull 8, 3) := by decide +kernel
theorem dX5_reasonAgainst_8 : decode cX5_reasonAgainst 8 = .ok (.iload_n 3, 1) := by decide +kernel
theorem dX5_reasonAgainst_9 : decode cX5_reasonAgainst 9 = .ok (.iload_n 2, 1) := by decide +kernel
theorem dX5_reasonAgainst_10 : decode cX5_reasonAgainst 10 = .ok (.if_icmp .gt 5, 3) := by decide +kernel
theorem dX5_reasonAgainst_13 : decode cX5_reasonAgainst 13 = .ok (.iconst 1, 1) := by decide +kernel
theorem dX5_reasonAgainst_14 : decode cX5_reasonAgainst 14 = .ok (.ireturn, 1) := by decide +kernel
theorem dX5_reasonAgainst_15 : decode cX5_reasonAgainst 15 = .ok (.aload_n 1, 1) := by decide +kernel
theorem dX5_reasonAgainst_16 : decode cX5_reasonAgainst 16 = .ok (.iload_n 2, 1) := by decide +kernel
theorem dX5_reasonAgainst_17 : decode cX5_reasonAgainst 17 = .ok (.invokevirtual 153, 3) := by decide +kernel
theorem dX5_reasonAgainst_20 : decode cX5_reasonAgainst 20 = .ok (.ifCond .ne 5, 3) := by decide +kernel
theorem dX5_reasonAgainst_23 : decode cX5_reasonAgainst 23 = .ok (.iconst 2, 1) := by decide +kernel
theorem dX5_reasonAgainst_24 : decode cX5_reasonAgainst 24 = .ok (.ireturn, 1) := by decide +kernel
theorem dX5_reasonAgainst_25 : decode cX5_reasonAgainst 25 = .ok (.aload_n 1, 1) := by decide +kernel
theorem dX5_reasonAgainst_26 : decode cX5_reasonAgainst 26 = .ok (.iload_n 3, 1) := by decide +kernel
theorem dX5_reasonAgainst_27 : decode cX5_reasonAgainst 27 = .ok (.invokevirtual 153, 3) := by decide +kernel
theorem dX5_reasonAgainst_30 : decode cX5_reasonAgainst 30 = .ok (.ifCond .ne 5, 3) := by decide +kernel
theorem dX5_reasonAgainst_33 : decode cX5_reasonAgainst 33 = .ok (.iconst 3, 1) := by decide +kernel
theorem dX5_reasonAgainst_34 : decode cX5_reasonAgainst 34 = .ok (.ireturn, 1) := by decide +kernel
theorem dX5_reasonAgainst_35 : decode cX5_reasonAgainst 35 = .ok (.aload_n 0, 1) := by decide +kernel
theorem dX5_reasonAgainst_36 : decode cX5_reasonAgainst 36 = .ok (.getfield 69, 3) := by decide +kernel
theorem dX5_reasonAgainst_39 : decode cX5_reasonAgainst 39 = .ok (.iload_n 3, 1) := by decide +kernel
theorem dX5_reasonAgainst_40 : decode cX5_reasonAgainst 40 = .ok (.iadd, 1) := by decide +kernel
theorem dX5_reasonAgainst_41 : decode cX5_reasonAgainst 41 = .ok (.iload_n 2, 1) := by decide +kernel
theorem dX5_reasonAgainst_42 : decode cX5_reasonAgainst 42 = .ok (.isub, 1) := by decide +kernel
theorem dX5_reasonAgainst_43 : decode cX5_reasonAgainst 43 = .ok (.bipush 48, 2) := by decide +kernel
theorem dX5_reasonAgainst_45 : decode cX5_reasonAgainst 45 = .ok (.if_icmp .le 5, 3) := by decide +kernel
theorem dX5_reasonAgainst_48 : decode cX5_reasonAgainst 48 = .ok (.iconst 4, 1) := by decide +kernel
theorem dX5_reasonAgainst_49 : decode cX5_reasonAgainst 49 = .ok (.ireturn, 1) := by decide +kernel
theorem dX5_reasonAgainst_50 : decode cX5_reasonAgainst 50 = .ok (.aload_n 0, 1) := by decide +kernel
theorem dX5_reasonAgainst_51 : decode cX5_reasonAgainst 51 = .ok (.getfield 156, 3) := by decide +kernel
theorem dX5_reasonAgainst_54 : decode cX5_reasonAgainst 54 = .ok (.bipush 6, 2) := by decide +kernel
theorem dX5_reasonAgainst_56 : decode cX5_reasonAgainst 56 = .ok (.if_icmp .lt 7, 3) := by decide +kernel
theorem dX5_reasonAgainst_59 : decode cX5_reasonAgainst 59 = .ok (.iconst 5, 1) := by decide +kernel
theorem dX5_reasonAgainst_60 : decode cX5_reasonAgainst 60 = .ok (.goto 4, 3) := by decide +kernel
theorem dX5_reasonAgainst_63 : decode cX5_reasonAgainst 63 = .ok (.iconst 0, 1) := by decide +kernel
theorem dX5_reasonAgainst_64 : decode cX5_reasonAgainst 64 = .ok (.ireturn, 1) := by decide +kernel
theorem dX5_takeOff_0 : decode cX5_takeOff 0 = .ok (.aload_n 0, 1) := by decide +kernel
theorem dX5_takeOff_1 : decode cX5_takeOff 1 = .ok (.ifnonnull 7, 3) := by decide +kernel
theorem dX5_takeOff_4 : decode cX5_takeOff 4 = .ok (.iconst 0, 1) := by decide +kernel
theorem dX5_takeOff_5 : decode cX5_takeOff 5 = .ok (.goto 7, 3) := by decide +kernel
theorem dX5_takeOff_8 : decode cX5_takeOff 8 = .ok (.aload_n 0, 1) := by decide +kernel
theorem dX5_takeOff_9 : decode cX5_takeOff 9 = .ok (.invokevirtual 159, 3) := by decide +kernel
theorem dX5_takeOff_12 : decode cX5_takeOff 12 = .ok (.ireturn, 1) := by decide +kernel
theorem dX5_changeSpeed_0 : decode cX5_changeSpeed 0 = .ok (.aload_n 0, 1) := by decide +kernel
theorem dX5_changeSpeed_1 : decode cX5_changeSpeed 1 = .ok (.ifnonnull 7, 3) := by decide +kernel
theorem dX5_changeSpeed_4 : decode cX5_changeSpeed 4 = .ok (.iconst 0, 1) := by decide +kernel
theorem dX5_changeSpeed_5 : decode cX5_changeSpeed 5 = .ok (.goto 9, 3) := by decide +kernel
theorem dX5_changeSpeed_8 : decode cX5_changeSpeed 8 = .ok (.aload_n 0, 1) := by decide +kernel
theorem dX5_changeSpeed_9 : decode cX5_changeSpeed 9 = .ok (.iload_n 1, 1) := by decide +kernel
theorem dX5_changeSpeed_10 : decode cX5_changeSpeed 10 = .ok (.iload_n 2, 1) := by decide +kernel
theorem dX5_changeSpeed_11 : decode cX5_changeSpeed 11 = .ok (.invokevirtual 161, 3) := by decide +kernel
theorem dX5_changeSpeed_14 : decode cX5_changeSpeed 14 = .ok (.ireturn, 1) := by decide +kernel
theorem dX5_changeMuted_0 : decode cX5_changeMuted 0 = .ok (.aload_n 1, 1) := by decide +kernel
theorem dX5_changeMuted_1 : decode cX5_changeMuted 1 = .ok (.ifnull 8, 3) := by decide +kernel
theorem dX5_changeMuted_4 : decode cX5_changeMuted 4 = .ok (.aload_n 1, 1) := by decide +kernel
theorem dX5_changeMuted_5 : decode cX5_changeMuted 5 = .ok (.iload_n 2, 1) := by decide +kernel
theorem dX5_changeMuted_6 : decode cX5_changeMuted 6 = .ok (.putfield 65, 3) := by decide +kernel
theorem dX5_changeMuted_9 : decode cX5_changeMuted 9 = .ok (.aload_n 0, 1) := by decide +kernel
theorem dX5_changeMuted_10 : decode cX5_changeMuted 10 = .ok (.iconst 0, 1) := by decide +kernel
theorem dX5_changeMuted_11 : decode cX5_changeMuted 11 = .ok (.invokevirtual 124, 3) := by decide +kernel
theorem dX5_changeMuted_14 : decode cX5_changeMuted 14 = .ok (.ireturn, 1) := by decide +kernel
theorem dX5_goOn_0 : decode cX5_goOn 0 = .ok (.iconst 0, 1) := by decide +kernel
theorem dX5_goOn_1 : decode cX5_goOn 1 = .ok (.istore_n 2, 1) := by decide +kernel
theorem dX5_goOn_2 : decode cX5_goOn 2 = .ok (.iload_n 2, 1) := by decide +kernel
theorem dX5_goOn_3 : decode cX5_goOn 3 = .ok (.aload_n 0, 1) := by decide +kernel
theorem dX5_goOn_4 : decode cX5_goOn 4 = .ok (.getfield 29, 3) := by decide +kernel
theorem dX5_goOn_7 : decode cX5_goOn 7 = .ok (.if_icmp .ge 28, 3) := by decide +kernel
theorem dX5_goOn_10 : decode cX5_goOn 10 = .ok (.aload_n 0, 1) := by decide +kernel
theorem dX5_goOn_11 : decode cX5_goOn 11 = .ok (.iload_n 2, 1) := by decide +kernel
theorem dX5_goOn_12 : decode cX5_goOn 12 = .ok (.invokevirtual 46, 3) := by decide +kernel
theorem dX5_goOn_15 : decode cX5_goOn 15 = .ok (.astore_n 3, 1) := by decide +kernel
theorem dX5_goOn_16 : decode cX5_goOn 16 = .ok (.aload_n 3, 1) := by decide +kernel
theorem dX5_goOn_17 : decode cX5_goOn 17 = .ok (.ifnull 12, 3) := by decide +kernel
theorem dX5_goOn_20 : decode cX5_goOn 20 = .ok (.aload_n 3, 1) := by decide +kernel
theorem dX5_goOn_21 : decode cX5_goOn 21 = .ok (.aload_n 3, 1) := by decide +kernel
theorem dX5_goOn_22 : decode cX5_goOn 22 = .ok (.iload_n 1, 1) := by decide +kernel
theorem dX5_goOn_23 : decode cX5_goOn 23 = .ok (.invokevirtual 164, 3) := by decide +kernel
theorem dX5_goOn_26 : decode cX5_goOn 26 = .ok (.putfield 167, 3) := by decide +kernel
theorem dX5_goOn_29 : decode cX5_goOn 29 = .ok (.iinc 2 1, 3) := by decide +kernel
theorem dX5_goOn_32 : decode cX5_goOn 32 = .ok (.goto (-30), 3) := by decide +kernel
theorem dX5_goOn_35 : decode cX5_goOn 35 = .ok (.aload_n 0, 1) := by decide +kernel
theorem dX5_goOn_36 : decode cX5_goOn 36 = .ok (.dup, 1) := by decide +kernel
theorem dX5_goOn_37 : decode cX5_goOn 37 = .ok (.getfield 32, 3) := by decide +kernel
theorem dX5_goOn_40 : decode cX5_goOn 40 = .ok (.iload_n 1, 1) := by decide +kernel
theorem dX5_goOn_41 : decode cX5_goOn 41 = .ok (.iadd, 1) := by decide +kernel
theorem dX5_goOn_42 : decode cX5_goOn 42 = .ok (.putfield 32, 3) := by decide +kernel
theorem dX5_goOn_45 : decode cX5_goOn 45 = .ok (.return_, 1) := by decide +kernel
theorem dX5_recordOn_0 : decode cX5_recordOn 0 = .ok (.iconst 0, 1) := by decide +kernel
theorem dX5_recordOn_1 : decode cX5_recordOn 1 = .ok (.istore_n 3, 1) := by decide +kernel
theorem dX5_recordOn_2 : decode cX5_recordOn 2 = .ok (.iconst 0, 1) := by decide +kernel
theorem dX5_recordOn_3 : decode cX5_recordOn 3 = .ok (.istore 4, 2) := by decide +kernel
theorem dX5_recordOn_5 : decode cX5_recordOn 5 = .ok (.iload 4, 2) := by decide +kernel
theorem dX5_recordOn_7 : decode cX5_recordOn 7 = .ok (.iload_n 2, 1) := by decide +kernel
theorem dX5_recordOn_8 : decode cX5_recordOn 8 = .ok (.if_icmp .ge 42, 3) := by decide +kernel
theorem dX5_recordOn_11 : decode cX5_recordOn 11 = .ok (.aload_n 0, 1) := by decide +kernel
theorem dX5_recordOn_12 : decode cX5_recordOn 12 = .ok (.iload 4, 2) := by decide +kernel
theorem dX5_recordOn_14 : decode cX5_recordOn 14 = .ok (.invokevirtual 124, 3) := by decide +kernel
theorem dX5_recordOn_17 : decode cX5_recordOn 17 = .ok (.bipush 9, 2) := by decide +kernel
theorem dX5_recordOn_19 : decode cX5_recordOn 19 = .ok (.invokestatic 170, 3) := by decide +kernel
theorem dX5_recordOn_22 : decode cX5_recordOn 22 = .ok (.istore 5, 2) := by decide +kernel
theorem dX5_recordOn_24 : decode cX5_recordOn 24 = .ok (.aload_n 1, 1) := by decide +kernel
theorem dX5_recordOn_25 : decode cX5_recordOn 25 = .ok (.ifnull 14, 3) := by decide +kernel
theorem dX5_recordOn_28 : decode cX5_recordOn 28 = .ok (.aload_n 1, 1) := by decide +kernel
theorem dX5_recordOn_29 : decode cX5_recordOn 29 = .ok (.getfield 175, 3) := by decide +kernel
theorem dX5_recordOn_32 : decode cX5_recordOn 32 = .ok (.iload 4, 2) := by decide +kernel
theorem dX5_recordOn_34 : decode cX5_recordOn 34 = .ok (.iload 5, 2) := by decide +kernel
theorem dX5_recordOn_36 : decode cX5_recordOn 36 = .ok (.invokestatic 179, 3) := by decide +kernel
theorem dX5_recordOn_39 : decode cX5_recordOn 39 = .ok (.iload_n 3, 1) := by decide +kernel
theorem dX5_recordOn_40 : decode cX5_recordOn 40 = .ok (.iload 5, 2) := by decide +kernel
theorem dX5_recordOn_42 : decode cX5_recordOn 42 = .ok (.iadd, 1) := by decide +kernel
theorem dX5_recordOn_43 : decode cX5_recordOn 43 = .ok (.istore_n 3, 1) := by decide +kernel
theorem dX5_recordOn_44 : decode cX5_recordOn 44 = .ok (.iinc 4 1, 3) := by decide +kernel
theorem dX5_recordOn_47 : decode cX5_recordOn 47 = .ok (.goto (-42), 3) := by decide +kernel
theorem dX5_recordOn_50 : decode cX5_recordOn 50 = .ok (.aload_n 0, 1) := by decide +kernel
theorem dX5_recordOn_51 : decode cX5_recordOn 51 = .ok (.iload_n 2, 1) := by decide +kernel
theorem dX5_recordOn_52 : decode cX5_recordOn 52 = .ok (.invokevirtual 120, 3) := by decide +kernel
theorem dX5_recordOn_55 : decode cX5_recordOn 55 = .ok (.iload_n 3, 1) := by decide +kernel
theorem dX5_recordOn_56 : decode cX5_recordOn 56 = .ok (.ireturn, 1) := by decide +kernel
theorem dX5_obeys_0 : decode cX5_obeys 0 = .ok (.iload_n 1, 1) := by decide +kernel
theorem dX5_obeys_1 : decode cX5_obeys 1 = .ok (.ldc 183, 2) := by decide +kernel
theorem dX5_obeys_3 : decode cX5_obeys 3 = .ok (.idiv, 1) := by decide +kernel
theorem dX5_obeys_4 : decode cX5_obeys 4 = .ok (.bipush 10, 2) := by decide +kernel
theorem dX5_obeys_6 : decode cX5_obeys 6 = .ok (.irem, 1) := by decide +kernel
theorem dX5_obeys_7 : decode cX5_obeys 7 = .ok (.istore_n 2, 1) := by decide +kernel
theorem dX5_obeys_8 : decode cX5_obeys 8 = .ok (.iload_n 1, 1) := by decide +kernel
theorem dX5_obeys_9 : decode cX5_obeys 9 = .ok (.sipush 10000, 3) := by decide +kernel
theorem dX5_obeys_12 : decode cX5_obeys 12 = .ok (.idiv, 1) := by decide +kernel
theorem dX5_obeys_13 : decode cX5_obeys 13 = .ok (.bipush 10, 2) := by decide +kernel
theorem dX5_obeys_15 : decode cX5_obeys 15 = .ok (.irem, 1) := by decide +kernel
theorem dX5_obeys_16 : decode cX5_obeys 16 = .ok (.istore_n 3, 1) := by decide +kernel
theorem dX5_obeys_17 : decode cX5_obeys 17 = .ok (.iload_n 1, 1) := by decide +kernel
theorem dX5_obeys_18 : decode cX5_obeys 18 = .ok (.sipush 1000, 3) := by decide +kernel
theorem dX5_obeys_21 : decode cX5_obeys 21 = .ok (.idiv, 1) := by decide +kernel
theorem dX5_obeys_22 : decode cX5_obeys 22 = .ok (.bipush 10, 2) := by decide +kernel
theorem dX5_obeys_24 : decode cX5_obeys 24 = .ok (.irem, 1) := by decide +kernel
theorem dX5_obeys_25 : decode cX5_obeys 25 = .ok (.istore 4, 2) := by decide +kernel
theorem dX5_obeys_27 : decode cX5_obeys 27 = .ok (.iload_n 1, 1) := by decide +kernel
theorem dX5_obeys_28 : decode cX5_obeys 28 = .ok (.ldc 184, 2) := by decide +kernel
theorem dX5_obeys_30 : decode cX5_obeys 30 = .ok (.idiv, 1) := by decide +kernel
theorem dX5_obeys_31 : decode cX5_obeys 31 = .ok (.tableswitch 343 1 9 #[49, 84, 104, 132, 173, 206, 235, 268, 304], 49) := by decide +kernel
theorem dX5_obeys_80 : decode cX5_obeys 80 = .ok (.iload_n 1, 1) := by decide +kernel
theorem dX5_obeys_81 : decode cX5_obeys 81 = .ok (.sipush 1000, 3) := by decide +kernel
theorem dX5_obeys_84 : decode cX5_obeys 84 = .ok (.idiv, 1) := by decide +kernel
theorem dX5_obeys_85 : decode cX5_obeys 85 = .ok (.sipush 1000, 3) := by decide +kernel
theorem dX5_obeys_88 : decode cX5_obeys 88 = .ok (.irem, 1) := by decide +kernel
theorem dX5_obeys_89 : decode cX5_obeys 89 = .ok (.ifCond .ne 24, 3) := by decide +kernel
theorem dX5_obeys_92 : decode cX5_obeys 92 = .ok (.aload_n 0, 1) := by decide +kernel
theorem dX5_obeys_93 : decode cX5_obeys 93 = .ok (.bipush 116, 2) := by decide +kernel
theorem dX5_obeys_95 : decode cX5_obeys 95 = .ok (.iload_n 1, 1) := by decide +kernel
theorem dX5_obeys_96 : decode cX5_obeys 96 = .ok (.sipush 1000, 3) := by decide +kernel
theorem dX5_obeys_99 : decode cX5_obeys 99 = .ok (.irem, 1) := by decide +kernel
theorem dX5_obeys_100 : decode cX5_obeys 100 = .ok (.iconst 0, 1) := by decide +kernel
theorem dX5_obeys_101 : decode cX5_obeys 101 = .ok (.iconst 0, 1) := by decide +kernel
theorem dX5_obeys_102 : decode cX5_obeys 102 = .ok (.iconst 0, 1) := by decide +kernel
theorem dX5_obeys_103 : decode cX5_obeys 103 = .ok (.invokevirtual 185, 3) := by decide +kernel
theorem dX5_obeys_106 : decode cX5_obeys 106 = .ok (.ifCond .eq 7, 3) := by decide +kernel
theorem dX5_obeys_109 : decode cX5_obeys 109 = .ok (.iconst 1, 1) := by decide +kernel
theorem dX5_obeys_110 : decode cX5_obeys 110 = .ok (.goto 4, 3) := by decide +kernel
theorem dX5_obeys_113 : decode cX5_obeys 113 = .ok (.iconst 0, 1) := by decide +kernel
theorem dX5_obeys_114 : decode cX5_obeys 114 = .ok (.ireturn, 1) := by decide +kernel
theorem dX5_obeys_115 : decode cX5_obeys 115 = .ok (.aload_n 0, 1) := by decide +kernel
theorem dX5_obeys_116 : decode cX5_obeys 116 = .ok (.bipush 99, 2) := by decide +kernel
theorem dX5_obeys_118 : decode cX5_obeys 118 = .ok (.iload_n 2, 1) := by decide +kernel
theorem dX5_obeys_119 : decode cX5_obeys 119 = .ok (.iload_n 3, 1) := by decide +kernel
theorem dX5_obeys_120 : decode cX5_obeys 120 = .ok (.iload_n 1, 1) := by decide +kernel
theorem dX5_obeys_121 : decode cX5_obeys 121 = .ok (.bipush 100, 2) := by decide +kernel
theorem dX5_obeys_123 : decode cX5_obeys 123 = .ok (.idiv, 1) := by decide +kernel
theorem dX5_obeys_124 : decode cX5_obeys 124 = .ok (.bipush 100, 2) := by decide +kernel
theorem dX5_obeys_126 : decode cX5_obeys 126 = .ok (.irem, 1) := by decide +kernel
theorem dX5_obeys_127 : decode cX5_obeys 127 = .ok (.iload_n 1, 1) := by decide +kernel
theorem dX5_obeys_128 : decode cX5_obeys 128 = .ok (.bipush 100, 2) := by decide +kernel
theorem dX5_obeys_130 : decode cX5_obeys 130 = .ok (.irem, 1) := by decide +kernel
theorem dX5_obeys_131 : decode cX5_obeys 131 = .ok (.invokevirtual 185, 3) := by decide +kernel
theorem dX5_obeys_134 : decode cX5_obeys 134 = .ok (.ireturn, 1) := by decide +kernel
theorem dX5_obeys_135 : decode cX5_obeys 135 = .ok (.iload_n 1, 1) := by decide +kernel
theorem dX5_obeys_136 : decode cX5_obeys 136 = .ok (.sipush 1000, 3) := by decide +kernel
theorem dX5_obeys_139 : decode cX5_obeys 139 = .ok (.irem, 1) := by decide +kernel
theorem dX5_obeys_140 : decode cX5_obeys 140 = .ok (.ifCond .ne 21, 3) := by decide +kernel
theorem dX5_obeys_143 : decode cX5_obeys 143 = .ok (.aload_n 0, 1) := by decide +kernel
theorem dX5_obeys_144 : decode cX5_obeys 144 = .ok (.bipush 118, 2) := by decide +kernel
theorem dX5_obeys_146 : decode cX5_obeys 146 = .ok (.iload_n 2, 1) := by decide +kernel
theorem dX5_obeys_147 : decode cX5_obeys 147 = .ok (.iload_n 3, 1) := by decide +kernel
theorem dX5_obeys_148 : decode cX5_obeys 148 = .ok (.iload 4, 2) := by decide +kernel
theorem dX5_obeys_150 : decode cX5_obeys 150 = .ok (.iconst 0, 1) := by decide +kernel
theorem dX5_obeys_151 : decode cX5_obeys 151 = .ok (.invokevirtual 185, 3) := by decide +kernel
theorem dX5_obeys_154 : decode cX5_obeys 154 = .ok (.ifCond .eq 7, 3) := by decide +kernel
theorem dX5_obeys_157 : decode cX5_obeys 157 = .ok (.iconst 1, 1) := by decide +kernel
theorem dX5_obeys_158 : decode cX5_obeys 158 = .ok (.goto 4, 3) := by decide +kernel
theorem dX5_obeys_161 : decode cX5_obeys 161 = .ok (.iconst 0, 1) := by decide +kernel
theorem dX5_obeys_162 : decode cX5_obeys 162 = .ok (.ireturn, 1) := by decide +kernel
theorem dX5_obeys_163 : decode cX5_obeys 163 = .ok (.iload_n 1, 1) := by decide +kernel
theorem dX5_obeys_164 : decode cX5_obeys 164 = .ok (.bipush 10, 2) := by decide +kernel
theorem dX5_obeys_166 : decode cX5_obeys 166 = .ok (.idiv, 1) := by decide +kernel
theorem dX5_obeys_167 : decode cX5_obeys 167 = .ok (.sipush 10000, 3) := by decide +kernel
theorem dX5_obeys_170 : decode cX5_obeys 170 = .ok (.irem, 1) := by decide +kernel
theorem dX5_obeys_171 : decode cX5_obeys 171 = .ok (.ifCond .ne 31, 3) := by decide +kernel
theorem dX5_obeys_174 : decode cX5_obeys 174 = .ok (.iload_n 1, 1) := by decide +kernel
theorem dX5_obeys_175 : decode cX5_obeys 175 = .ok (.bipush 10, 2) := by decide +kernel
theorem dX5_obeys_177 : decode cX5_obeys 177 = .ok (.irem, 1) := by decide +kernel
theorem dX5_obeys_178 : decode cX5_obeys 178 = .ok (.iconst 1, 1) := by decide +kernel
theorem dX5_obeys_179 : decode cX5_obeys 179 = .ok (.if_icmp .gt 23, 3) := by decide +kernel
theorem dX5_obeys_182 : decode cX5_obeys 182 = .ok (.aload_n 0, 1) := by decide +kernel
theorem dX5_obeys_183 : decode cX5_obeys 183 = .ok (.bipush 109, 2) := by decide +kernel
theorem dX5_obeys_185 : decode cX5_obeys 185 = .ok (.iload_n 2, 1) := by decide +kernel
theorem dX5_obeys_186 : decode cX5_obeys 186 = .ok (.iload_n 1, 1) := by decide +kernel
theorem dX5_obeys_187 : decode cX5_obeys 187 = .ok (.bipush 10, 2) := by decide +kernel
theorem dX5_obeys_189 : decode cX5_obeys 189 = .ok (.irem, 1) := by decide +kernel
theorem dX5_obeys_190 : decode cX5_obeys 190 = .ok (.iconst 0, 1) := by decide +kernel
theorem dX5_obeys_191 : decode cX5_obeys 191 = .ok (.iconst 0, 1) := by decide +kernel
theorem dX5_obeys_192 : decode cX5_obeys 192 = .ok (.invokevirtual 185, 3) := by decide +kernel
theorem dX5_obeys_195 : decode cX5_obeys 195 = .ok (.ifCond .eq 7, 3) := by decide +kernel
theorem dX5_obeys_198 : decode cX5_obeys 198 = .ok (.iconst 1, 1) := by decide +kernel
theorem dX5_obeys_199 : decode cX5_obeys 199 = .ok (.goto 4, 3) := by decide +kernel
theorem dX5_obeys_202 : decode cX5_obeys 202 = .ok (.iconst 0, 1) := by decide +kernel
theorem dX5_obeys_203 : decode cX5_obeys 203 = .ok (.ireturn, 1) := by decide +kernel
theorem dX5_obeys_204 : decode cX5_obeys 204 = .ok (.iload_n 1, 1) := by decide +kernel
theorem dX5_obeys_205 : decode cX5_obeys 205 = .ok (.bipush 100, 2) := by decide +kernel
theorem dX5_obeys_207 : decode cX5_obeys 207 = .ok (.idiv, 1) := by decide +kernel
theorem dX5_obeys_208 : decode cX5_obeys 208 = .ok (.sipush 1000, 3) := by decide +kernel
theorem dX5_obeys_211 : decode cX5_obeys 211 = .ok (.irem, 1) := by decide +kernel
theorem dX5_obeys_212 : decode cX5_obeys 212 = .ok (.ifCond .ne 23, 3) := by decide +kernel
theorem dX5_obeys_215 : decode cX5_obeys 215 = .ok (.aload_n 0, 1) := by decide +kernel
theorem dX5_obeys_216 : decode cX5_obeys 216 = .ok (.bipush 119, 2) := by decide +kernel
theorem dX5_obeys_218 : decode cX5_obeys 218 = .ok (.iload_n 2, 1) := by decide +kernel
theorem dX5_obeys_219 : decode cX5_obeys 219 = .ok (.iload_n 1, 1) := by decide +kernel
theorem dX5_obeys_220 : decode cX5_obeys 220 = .ok (.bipush 100, 2) := by decide +kernel
theorem dX5_obeys_222 : decode cX5_obeys 222 = .ok (.irem, 1) := by decide +kernel
theorem dX5_obeys_223 : decode cX5_obeys 223 = .ok (.iconst 0, 1) := by decide +kernel
theorem dX5_obeys_224 : decode cX5_obeys 224 = .ok (.iconst 0, 1) := by decide +kernel
theorem dX5_obeys_225 : decode cX5_obeys 225 = .ok (.invokevirtual 185, 3) := by decide +kernel
theorem dX5_obeys_228 : decode cX5_obeys 228 = .ok (.ifCond .eq 7, 3) := by decide +kernel
theorem dX5_obeys_231 : decode cX5_obeys 231 = .ok (.iconst 1, 1) := by decide +kernel
theorem dX5_obeys_232 : decode cX5_obeys 232 = .ok (.goto 4, 3) := by decide +kernel
theorem dX5_obeys_235 : decode cX5_obeys 235 = .ok (.iconst 0, 1) := by decide +kernel
theorem dX5_obeys_236 : decode cX5_obeys 236 = .ok (.ireturn, 1) := by decide +kernel
theorem dX5_obeys_237 : decode cX5_obeys 237 = .ok (.iload_n 1, 1) := by decide +kernel
theorem dX5_obeys_238 : decode cX5_obeys 238 = .ok (.bipush 100, 2) := by decide +kernel
theorem dX5_obeys_240 : decode cX5_obeys 240 = .ok (.idiv, 1) := by decide +kernel
theorem dX5_obeys_241 : decode cX5_obeys 241 = .ok (.sipush 10000, 3) := by decide +kernel
theorem dX5_obeys_244 : decode cX5_obeys 244 = .ok (.irem, 1) := by decide +kernel
theorem dX5_obeys_245 : decode cX5_obeys 245 = .ok (.ifCond .ne 19, 3) := by decide +kernel
theorem dX5_obeys_248 : decode cX5_obeys 248 = .ok (.aload_n 0, 1) := by decide +kernel
theorem dX5_obeys_249 : decode cX5_obeys 249 = .ok (.iconst 0, 1) := by decide +kernel
theorem dX5_obeys_250 : decode cX5_obeys 250 = .ok (.invokevirtual 124, 3) := by decide +kernel
theorem dX5_obeys_253 : decode cX5_obeys 253 = .ok (.iload_n 1, 1) := by decide +kernel
theorem dX5_obeys_254 : decode cX5_obeys 254 = .ok (.bipush 100, 2) := by decide +kernel
theorem dX5_obeys_256 : decode cX5_obeys 256 = .ok (.irem, 1) := by decide +kernel
theorem dX5_obeys_257 : decode cX5_obeys 257 = .ok (.if_icmp .lt 7, 3) := by decide +kernel
theorem dX5_obeys_260 : decode cX5_obeys 260 = .ok (.iconst 1, 1) := by decide +kernel
theorem dX5_obeys_261 : decode cX5_obeys 261 = .ok (.goto 4, 3) := by decide +kernel
theorem dX5_obeys_264 : decode cX5_obeys 264 = .ok (.iconst 0, 1) := by decide +kernel
theorem dX5_obeys_265 : decode cX5_obeys 265 = .ok (.ireturn, 1) := by decide +kernel
theorem dX5_obeys_266 : decode cX5_obeys 266 = .ok (.iload_n 1, 1) := by decide +kernel
theorem dX5_obeys_267 : decode cX5_obeys 267 = .ok (.sipush 1000, 3) := by decide +kernel
theorem dX5_obeys_270 : decode cX5_obeys 270 = .ok (.idiv, 1) := by decide +kernel
theorem dX5_obeys_271 : decode cX5_obeys 271 = .ok (.bipush 100, 2) := by decide +kernel
theorem dX5_obeys_273 : decode cX5_obeys 273 = .ok (.irem, 1) := by decide +kernel
theorem dX5_obeys_274 : decode cX5_obeys 274 = .ok (.ifCond .ne 23, 3) := by decide +kernel
theorem dX5_obeys_277 : decode cX5_obeys 277 = .ok (.aload_n 0, 1) := by decide +kernel
theorem dX5_obeys_278 : decode cX5_obeys 278 = .ok (.iload_n 2, 1) := by decide +kernel
theorem dX5_obeys_279 : decode cX5_obeys 279 = .ok (.invokevirtual 46, 3) := by decide +kernel
theorem dX5_obeys_282 : decode cX5_obeys 282 = .ok (.iload_n 1, 1) := by decide +kernel
theorem dX5_obeys_283 : decode cX5_obeys 283 = .ok (.sipush 1000, 3) := by decide +kernel
theorem dX5_obeys_286 : decode cX5_obeys 286 = .ok (.irem, 1) := by decide +kernel
theorem dX5_obeys_287 : decode cX5_obeys 287 = .ok (.invokestatic 189, 3) := by decide +kernel
theorem dX5_obeys_290 : decode cX5_obeys 290 = .ok (.ifCond .eq 7, 3) := by decide +kernel
theorem dX5_obeys_293 : decode cX5_obeys 293 = .ok (.iconst 1, 1) := by decide +kernel
theorem dX5_obeys_294 : decode cX5_obeys 294 = .ok (.goto 4, 3) := by decide +kernel
theorem dX5_obeys_297 : decode cX5_obeys 297 = .ok (.iconst 0, 1) := by decide +kernel
theorem dX5_obeys_298 : decode cX5_obeys 298 = .ok (.ireturn, 1) := by decide +kernel
theorem dX5_obeys_299 : decode cX5_obeys 299 = .ok (.iload_n 1, 1) := by decide +kernel
theorem dX5_obeys_300 : decode cX5_obeys 300 = .ok (.sipush 10000, 3) := by decide +kernel
theorem dX5_obeys_303 : decode cX5_obeys 303 = .ok (.irem, 1) := by decide +kernel
theorem dX5_obeys_304 : decode cX5_obeys 304 = .ok (.ifCond .ne 29, 3) := by decide +kernel
theorem dX5_obeys_307 : decode cX5_obeys 307 = .ok (.aload_n 0, 1) := by decide +kernel
theorem dX5_obeys_308 : decode cX5_obeys 308 = .ok (.iload_n 2, 1) := by decide +kernel
theorem dX5_obeys_309 : decode cX5_obeys 309 = .ok (.invokevirtual 46, 3) := by decide +kernel
theorem dX5_obeys_312 : decode cX5_obeys 312 = .ok (.invokestatic 193, 3) := by decide +kernel
theorem dX5_obeys_315 : decode cX5_obeys 315 = .ok (.ifCond .eq 18, 3) := by decide +kernel
theorem dX5_obeys_318 : decode cX5_obeys 318 = .ok (.aload_n 0, 1) := by decide +kernel
theorem dX5_obeys_319 : decode cX5_obeys 319 = .ok (.iload_n 3, 1) := by decide +kernel
theorem dX5_obeys_320 : decode cX5_obeys 320 = .ok (.invokevirtual 46, 3) := by decide +kernel
theorem dX5_obeys_323 : decode cX5_obeys 323 = .ok (.invokestatic 193, 3) := by decide +kernel
theorem dX5_obeys_326 : decode cX5_obeys 326 = .ok (.ifCond .eq 7, 3) := by decide +kernel
theorem dX5_obeys_329 : decode cX5_obeys 329 = .ok (.iconst 1, 1) := by decide +kernel
theorem dX5_obeys_330 : decode cX5_obeys 330 = .ok (.goto 4, 3) := by decide +kernel
theorem dX5_obeys_333 : decode cX5_obeys 333 = .ok (.iconst 0, 1) := by decide +kernel
theorem dX5_obeys_334 : decode cX5_obeys 334 = .ok (.ireturn, 1) := by decide +kernel
theorem dX5_obeys_335 : decode cX5_obeys 335 = .ok (.iload_n 1, 1) := by decide +kernel
theorem dX5_obeys_336 : decode cX5_obeys 336 = .ok (.sipush 1000, 3) := by decide +kernel
theorem dX5_obeys_339 : decode cX5_obeys 339 = .ok (.idiv, 1) := by decide +kernel
theorem dX5_obeys_340 : decode cX5_obeys 340 = .ok (.bipush 100, 2) := by decide +kernel
theorem dX5_obeys_342 : decode cX5_obeys 342 = .ok (.irem, 1) := by decide +kernel
theorem dX5_obeys_343 : decode cX5_obeys 343 = .ok (.ifCond .ne 29, 3) := by decide +kernel
theorem dX5_obeys_346 : decode cX5_obeys 346 = .ok (.aload_n 0, 1) := by decide +kernel
theorem dX5_obeys_347 : decode cX5_obeys 347 = .ok (.iload_n 2, 1) := by decide +kernel
theorem dX5_obeys_348 : decode cX5_obeys 348 = .ok (.invokevirtual 38, 3) := by decide +kernel
theorem dX5_obeys_351 : decode cX5_obeys 351 = .ok (.iload_n 1, 1) := by decide +kernel
theorem dX5_obeys_352 : decode cX5_obeys 352 = .ok (.bipush 10, 2) := by decide +kernel
theorem dX5_obeys_354 : decode cX5_obeys 354 = .ok (.idiv, 1) := by decide +kernel
theorem dX5_obeys_355 : decode cX5_obeys 355 = .ok (.bipush 100, 2) := by decide +kernel
theorem dX5_obeys_357 : decode cX5_obeys 357 = .ok (.irem, 1) := by decide +kernel
theorem dX5_obeys_358 : decode cX5_obeys 358 = .ok (.iload_n 1, 1) := by decide +kernel
theorem dX5_obeys_359 : decode cX5_obeys 359 = .ok (.bipush 10, 2) := by decide +kernel
theorem dX5_obeys_361 : decode cX5_obeys 361 = .ok (.irem, 1) := by decide +kernel
theorem dX5_obeys_362 : decode cX5_obeys 362 = .ok (.invokestatic 197, 3) := by decide +kernel
theorem dX5_obeys_365 : decode cX5_obeys 365 = .ok (.ifCond .eq 7, 3) := by decide +kernel
theorem dX5_obeys_368 : decode cX5_obeys 368 = .ok (.iconst 1, 1) := by decide +kernel
theorem dX5_obeys_369 : decode cX5_obeys 369 = .ok (.goto 4, 3) := by decide +kernel
theorem dX5_obeys_372 : decode cX5_obeys 372 = .ok (.iconst 0, 1) := by decide +kernel
theorem dX5_obeys_373 : decode cX5_obeys 373 = .ok (.ireturn, 1) := by decide +kernel
theorem dX5_obeys_374 : decode cX5_obeys 374 = .ok (.iconst 0, 1) := by decide +kernel
theorem dX5_obeys_375 : decode cX5_obeys 375 = .ok (.ireturn, 1) := by decide +kernel
theorem dX5_hasPhase_0 : decode cX5_hasPhase 0 = .ok (.aload_n 0, 1) := by decide +kernel
theorem dX5_hasPhase_1 : decode cX5_hasPhase 1 = .ok (.ifnull 15, 3) := by decide +kernel
theorem dX5_hasPhase_4 : decode cX5_hasPhase 4 = .ok (.aload_n 0, 1) := by decide +kernel
theorem dX5_hasPhase_5 : decode cX5_hasPhase 5 = .ok (.getfield 167, 3) := by decide +kernel
theorem dX5_hasPhase_8 : decode cX5_hasPhase 8 = .ok (.iload_n 1, 1) := by decide +kernel
theorem dX5_hasPhase_9 : decode cX5_hasPhase 9 = .ok (.if_icmp .ne 7, 3) := by decide +kernel
theorem dX5_hasPhase_12 : decode cX5_hasPhase 12 = .ok (.iconst 1, 1) := by decide +kernel
theorem dX5_hasPhase_13 : decode cX5_hasPhase 13 = .ok (.goto 4, 3) := by decide +kernel
theorem dX5_hasPhase_16 : decode cX5_hasPhase 16 = .ok (.iconst 0, 1) := by decide +kernel
theorem dX5_hasPhase_17 : decode cX5_hasPhase 17 = .ok (.ireturn, 1) := by decide +kernel
theorem dX5_isAtZero_0 : decode cX5_isAtZero 0 = .ok (.aload_n 0, 1) := by decide +kernel
theorem dX5_isAtZero_1 : decode cX5_isAtZero 1 = .ok (.ifnull 21, 3) := by decide +kernel
theorem dX5_isAtZero_4 : decode cX5_isAtZero 4 = .ok (.aload_n 0, 1) := by decide +kernel
theorem dX5_isAtZero_5 : decode cX5_isAtZero 5 = .ok (.invokevirtual 61, 3) := by decide +kernel
theorem dX5_isAtZero_8 : decode cX5_isAtZero 8 = .ok (.ifCond .ne 14, 3) := by decide +kernel
theorem dX5_isAtZero_11 : decode cX5_isAtZero 11 = .ok (.aload_n 0, 1) := by decide +kernel
theorem dX5_isAtZero_12 : decode cX5_isAtZero 12 = .ok (.getfield 167, 3) := by decide +kernel
theorem dX5_isAtZero_15 : decode cX5_isAtZero 15 = .ok (.ifCond .ne 7, 3) := by decide +kernel
theorem dX5_isAtZero_18 : decode cX5_isAtZero 18 = .ok (.iconst 1, 1) := by decide +kernel
theorem dX5_isAtZero_19 : decode cX5_isAtZero 19 = .ok (.goto 4, 3) := by decide +kernel
theorem dX5_isAtZero_22 : decode cX5_isAtZero 22 = .ok (.iconst 0, 1) := by decide +kernel
theorem dX5_isAtZero_23 : decode cX5_isAtZero 23 = .ok (.ireturn, 1) := by decide +kernel
theorem dX5_hasSound_0 : decode cX5_hasSound 0 = .ok (.aload_n 0, 1) := by decide +kernel
theorem dX5_hasSound_1 : decode cX5_hasSound 1 = .ok (.ifnull 27, 3) := by decide +kernel
theorem dX5_hasSound_4 : decode cX5_hasSound 4 = .ok (.aload_n 0, 1) := by decide +kernel
theorem dX5_hasSound_5 : decode cX5_hasSound 5 = .ok (.iload_n 1, 1) := by decide +kernel
theorem dX5_hasSound_6 : decode cX5_hasSound 6 = .ok (.invokevirtual 88, 3) := by decide +kernel
theorem dX5_hasSound_9 : decode cX5_hasSound 9 = .ok (.ifCond .eq 19, 3) := by decide +kernel
theorem dX5_hasSound_12 : decode cX5_hasSound 12 = .ok (.aload_n 0, 1) := by decide +kernel
theorem dX5_hasSound_13 : decode cX5_hasSound 13 = .ok (.getfield 175, 3) := by decide +kernel
theorem dX5_hasSound_16 : decode cX5_hasSound 16 = .ok (.iload_n 1, 1) := by decide +kernel
theorem dX5_hasSound_17 : decode cX5_hasSound 17 = .ok (.invokestatic 201, 3) := by decide +kernel
theorem dX5_hasSound_20 : decode cX5_hasSound 20 = .ok (.iload_n 2, 1) := by decide +kernel
theorem dX5_hasSound_21 : decode cX5_hasSound 21 = .ok (.if_icmp .ne 7, 3) := by decide +kernel
theorem dX5_hasSound_24 : decode cX5_hasSound 24 = .ok (.iconst 1, 1) := by decide +kernel
theorem dX5_hasSound_25 : decode cX5_hasSound 25 = .ok (.goto 4, 3) := by decide +kernel
theorem dX5_hasSound_28 : decode cX5_hasSound 28 = .ok (.iconst 0, 1) := by decide +kernel
theorem dX5_hasSound_29 : decode cX5_hasSound 29 = .ok (.ireturn, 1) := by decide +kernel
theorem dX6_init_0 : decode cX6_init 0 = .ok (.aload_n 0, 1) := by decide +kernel
theorem dX6_init_1 : decode cX6_init 1 = .ok (.invokespecial 3, 3) := by decide +kernel
theorem dX6_init_4 : decode cX6_init 4 = .ok (.aload_n 0, 1) := by decide +kernel
theorem dX6_init_5 : decode cX6_init 5 = .ok (.bipush 120, 2) := by decide +kernel
theorem dX6_init_7 : decode cX6_init 7 = .ok (.newarray .int, 2) := by decide +kernel
theorem dX6_init_9 : decode cX6_init 9 = .ok (.putfield 9, 3) := by decide +kernel
theorem dX6_init_12 : decode cX6_init 12 = .ok (.aload_n 0, 1) := by decide +kernel
theorem dX6_init_13 : decode cX6_init 13 = .ok (.iconst 4, 1) := by decide +kernel
theorem dX6_init_14 : decode cX6_init 14 = .ok (.newarray .int, 2) := by decide +kernel
theorem dX6_init_16 : decode cX6_init 16 = .ok (.putfield 15, 3) := by decide +kernel
theorem dX6_init_19 : decode cX6_init 19 = .ok (.return_, 1) := by decide +kernel
theorem dX6_isFull_0 : decode cX6_isFull 0 = .ok (.aload_n 0, 1) := by decide +kernel
theorem dX6_isFull_1 : decode cX6_isFull 1 = .ok (.getfield 18, 3) := by decide +kernel
theorem dX6_isFull_4 : decode cX6_isFull 4 = .ok (.bipush 120, 2) := by decide +kernel
theorem dX6_isFull_6 : decode cX6_isFull 6 = .ok (.if_icmp .lt 7, 3) := by decide +kernel
theorem dX6_isFull_9 : decode cX6_isFull 9 = .ok (.iconst 1, 1) := by decide +kernel
theorem dX6_isFull_10 : decode cX6_isFull 10 = .ok (.goto 4, 3) := by decide +kernel
theorem dX6_isFull_13 : decode cX6_isFull 13 = .ok (.iconst 0, 1) := by decide +kernel
theorem dX6_isFull_14 : decode cX6_isFull 14 = .ok (.ireturn, 1) := by decide +kernel
theorem dX6_add_0 : decode cX6_add 0 = .ok (.aload_n 0, 1) := by decide +kernel
theorem dX6_add_1 : decode cX6_add 1 = .ok (.getfield 9, 3) := by decide +kernel
theorem dX6_add_4 : decode cX6_add 4 = .ok (.aload_n 0, 1) := by decide +kernel
theorem dX6_add_5 : decode cX6_add 5 = .ok (.getfield 18, 3) := by decide +kernel
theorem dX6_add_8 : decode cX6_add 8 = .ok (.iload_n 1, 1) := by decide +kernel
theorem dX6_add_9 : decode cX6_add 9 = .ok (.invokestatic 22, 3) := by decide +kernel
theorem dX6_add_12 : decode cX6_add 12 = .ok (.aload_n 0, 1) := by decide +kernel
theorem dX6_add_13 : decode cX6_add 13 = .ok (.dup, 1) := by decide +kernel
theorem dX6_add_14 : decode cX6_add 14 = .ok (.getfield 18, 3) := by decide +kernel
theorem dX6_add_17 : decode cX6_add 17 = .ok (.iconst 1, 1) := by decide +kernel
theorem dX6_add_18 : decode cX6_add 18 = .ok (.iadd, 1) := by decide +kernel
theorem dX6_add_19 : decode cX6_add 19 = .ok (.putfield 18, 3) := by decide +kernel
theorem dX6_add_22 : decode cX6_add 22 = .ok (.aload_n 0, 1) := by decide +kernel
theorem dX6_add_23 : decode cX6_add 23 = .ok (.getfield 18, 3) := by decide +kernel
theorem dX6_add_26 : decode cX6_add 26 = .ok (.ireturn, 1) := by decide +kernel
theorem dX6_empty_0 : decode cX6_empty 0 = .ok (.aload_n 0, 1) := by decide +kernel
theorem dX6_empty_1 : decode cX6_empty 1 = .ok (.getfield 18, 3) := by decide +kernel
theorem dX6_empty_4 : decode cX6_empty 4 = .ok (.istore_n 1, 1) := by decide +kernel
theorem dX6_empty_5 : decode cX6_empty 5 = .ok (.aload_n 0, 1) := by decide +kernel
theorem dX6_empty_6 : decode cX6_empty 6 = .ok (.iconst 0, 1) := by decide +kernel
theorem dX6_empty_7 : decode cX6_empty 7 = .ok (.putfield 18, 3) := by decide +kernel
theorem dX6_empty_10 : decode cX6_empty 10 = .ok (.iload_n 1, 1) := by decide +kernel
theorem dX6_empty_11 : decode cX6_empty 11 = .ok (.ireturn, 1) := by decide +kernel
theorem dX6_signAt_0 : decode cX6_signAt 0 = .ok (.iload_n 1, 1) := by decide +kernel
theorem dX6_signAt_1 : decode cX6_signAt 1 = .ok (.iconst 0, 1) := by decide +kernel
theorem dX6_signAt_2 : decode cX6_signAt 2 = .ok (.aload_n 0, 1) := by decide +kernel
theorem dX6_signAt_3 : decode cX6_signAt 3 = .ok (.getfield 18, 3) := by decide +kernel
theorem dX6_signAt_6 : decode cX6_signAt 6 = .ok (.iconst 1, 1) := by decide +kernel
theorem dX6_signAt_7 : decode cX6_signAt 7 = .ok (.isub, 1) := by decide +kernel
theorem dX6_signAt_8 : decode cX6_signAt 8 = .ok (.invokestatic 26, 3) := by decide +kernel
theorem dX6_signAt_11 : decode cX6_signAt 11 = .ok (.ifCond .eq 7, 3) := by decide +kernel
theorem dX6_signAt_14 : decode cX6_signAt 14 = .ok (.iconst (-1), 1) := by decide +kernel
theorem dX6_signAt_15 : decode cX6_signAt 15 = .ok (.goto 11, 3) := by decide +kernel
theorem dX6_signAt_18 : decode cX6_signAt 18 = .ok (.aload_n 0, 1) := by decide +kernel
theorem dX6_signAt_19 : decode cX6_signAt 19 = .ok (.getfield 9, 3) := by decide +kernel
theorem dX6_signAt_22 : decode cX6_signAt 22 = .ok (.iload_n 1, 1) := by decide +kernel
theorem dX6_signAt_23 : decode cX6_signAt 23 = .ok (.invokestatic 30, 3) := by decide +kernel
theorem dX6_signAt_26 : decode cX6_signAt 26 = .ok (.ireturn, 1) := by decide +kernel
theorem dX6_number_0 : decode cX6_number 0 = .ok (.aload_n 0, 1) := by decide +kernel
theorem dX6_number_1 : decode cX6_number 1 = .ok (.getfield 15, 3) := by decide +kernel
theorem dX6_number_4 : decode cX6_number 4 = .ok (.iload_n 1, 1) := by decide +kernel
theorem dX6_number_5 : decode cX6_number 5 = .ok (.invokestatic 30, 3) := by decide +kernel
theorem dX6_number_8 : decode cX6_number 8 = .ok (.ireturn, 1) := by decide +kernel
theorem dX6_begin_0 : decode cX6_begin 0 = .ok (.aload_n 0, 1) := by decide +kernel
theorem dX6_begin_1 : decode cX6_begin 1 = .ok (.iconst 1, 1) := by decide +kernel
theorem dX6_begin_2 : decode cX6_begin 2 = .ok (.putfield 34, 3) := by decide +kernel
theorem dX6_begin_5 : decode cX6_begin 5 = .ok (.return_, 1) := by decide +kernel
theorem dX6_firstError_0 : decode cX6_firstError 0 = .ok (.aload_n 0, 1) := by decide +kernel
theorem dX6_firstError_1 : decode cX6_firstError 1 = .ok (.iconst 0, 1) := by decide +kernel
theorem dX6_firstError_2 : decode cX6_firstError 2 = .ok (.invokevirtual 37, 3) := by decide +kernel
theorem dX6_firstError_5 : decode cX6_firstError 5 = .ok (.bipush 90, 2) := by decide +kernel
theorem dX6_firstError_7 : decode cX6_firstError 7 = .ok (.if_icmp .eq 5, 3) := by decide +kernel
theorem dX6_firstError_10 : decode cX6_firstError 10 = .ok (.iconst 0, 1) := by decide +kernel
theorem dX6_firstError_11 : decode cX6_firstError 11 = .ok (.ireturn, 1) := by decide +kernel
theorem dX6_firstError_12 : decode cX6_firstError 12 = .ok (.aload_n 0, 1) := by decide +kernel
theorem dX6_firstError_13 : decode cX6_firstError 13 = .ok (.invokevirtual 41, 3) := by decide +kernel
theorem dX6_firstError_16 : decode cX6_firstError 16 = .ok (.iconst 0, 1) := by decide +kernel
theorem dX6_firstError_17 : decode cX6_firstError 17 = .ok (.istore_n 1, 1) := by decide +kernel
theorem dX6_firstError_18 : decode cX6_firstError 18 = .ok (.iload_n 1, 1) := by decide +kernel
theorem dX6_firstError_19 : decode cX6_firstError 19 = .ok (.bipush 120, 2) := by decide +kernel
theorem dX6_firstError_21 : decode cX6_firstError 21 = .ok (.if_icmp .ge 32, 3) := by decide +kernel
theorem dX6_firstError_24 : decode cX6_firstError 24 = .ok (.aload_n 0, 1) := by decide +kernel
theorem dX6_firstError_25 : decode cX6_firstError 25 = .ok (.getfield 34, 3) := by decide +kernel
theorem dX6_firstError_28 : decode cX6_firstError 28 = .ok (.aload_n 0, 1) := by decide +kernel
theorem dX6_firstError_29 : decode cX6_firstError 29 = .ok (.getfield 18, 3) := by decide +kernel
theorem dX6_firstError_32 : decode cX6_firstError 32 = .ok (.if_icmp .ge 21, 3) := by decide +kernel
theorem dX6_firstError_35 : decode cX6_firstError 35 = .ok (.aload_n 0, 1) := by decide +kernel
theorem dX6_firstError_36 : decode cX6_firstError 36 = .ok (.invokevirtual 44, 3) := by decide +kernel
theorem dX6_firstError_39 : decode cX6_firstError 39 = .ok (.ifCond .ne 8, 3) := by decide +kernel
theorem dX6_firstError_42 : decode cX6_firstError 42 = .ok (.aload_n 0, 1) := by decide +kernel
theorem dX6_firstError_43 : decode cX6_firstError 43 = .ok (.getfield 34, 3) := by decide +kernel
theorem dX6_firstError_46 : decode cX6_firstError 46 = .ok (.ireturn, 1) := by decide +kernel
theorem dX6_firstError_47 : decode cX6_firstError 47 = .ok (.iinc 1 1, 3) := by decide +kernel
theorem dX6_firstError_50 : decode cX6_firstError 50 = .ok (.goto (-32), 3) := by decide +kernel
theorem dX6_firstError_53 : decode cX6_firstError 53 = .ok (.iconst (-1), 1) := by decide +kernel
theorem dX6_firstError_54 : decode cX6_firstError 54 = .ok (.ireturn, 1) := by decide +kernel
theorem dX6_readCommand_0 : decode cX6_readCommand 0 = .ok (.aload_n 0, 1) := by decide +kernel
theorem dX6_readCommand_1 : decode cX6_readCommand 1 = .ok (.aload_n 0, 1) := by decide +kernel
theorem dX6_readCommand_2 : decode cX6_readCommand 2 = .ok (.aload_n 0, 1) := by decide +kernel
theorem dX6_readCommand_3 : decode cX6_readCommand 3 = .ok (.getfield 34, 3) := by decide +kernel
theorem dX6_readCommand_6 : decode cX6_readCommand 6 = .ok (.invokevirtual 37, 3) := by decide +kernel
theorem dX6_readCommand_9 : decode cX6_readCommand 9 = .ok (.putfield 48, 3) := by decide +kernel
theorem dX6_readCommand_12 : decode cX6_readCommand 12 = .ok (.aload_n 0, 1) := by decide +kernel
theorem dX6_readCommand_13 : decode cX6_readCommand 13 = .ok (.getfield 48, 3) := by decide +kernel
theorem dX6_readCommand_16 : decode cX6_readCommand 16 = .ok (.invokestatic 51, 3) := by decide +kernel
theorem dX6_readCommand_19 : decode cX6_readCommand 19 = .ok (.ifCond .ne 5, 3) := by decide +kernel
theorem dX6_readCommand_22 : decode cX6_readCommand 22 = .ok (.iconst 0, 1) := by decide +kernel
theorem dX6_readCommand_23 : decode cX6_readCommand 23 = .ok (.ireturn, 1) := by decide +kernel
theorem dX6_readCommand_24 : decode cX6_readCommand 24 = .ok (.aload_n 0, 1) := by decide +kernel
theorem dX6_readCommand_25 : decode cX6_readCommand 25 = .ok (.dup, 1) := by decide +kernel
theorem dX6_readCommand_26 : decode cX6_readCommand 26 = .ok (.getfield 34, 3) := by decide +kernel
theorem dX6_readCommand_29 : decode cX6_readCommand 29 = .ok (.iconst 1, 1) := by decide +kernel
theorem dX6_readCommand_30 : decode cX6_readCommand 30 = .ok (.iadd, 1) := by decide +kernel
theorem dX6_readCommand_31 : decode cX6_readCommand 31 = .ok (.putfield 34, 3) := by decide +kernel
theorem dX6_readCommand_34 : decode cX6_readCommand 34 = .ok (.aload_n 0, 1) := by decide +kernel
theorem dX6_readCommand_35 : decode cX6_readCommand 35 = .ok (.getfield 48, 3) := by decide +kernel
theorem dX6_readCommand_38 : decode cX6_readCommand 38 = .ok (.invokestatic 55, 3) := by decide +kernel
theorem dX6_readCommand_41 : decode cX6_readCommand 41 = .ok (.astore_n 1, 1) := by decide +kernel
theorem dX6_readCommand_42 : decode cX6_readCommand 42 = .ok (.iconst 0, 1) := by decide +kernel
theorem dX6_readCommand_43 : decode cX6_readCommand 43 = .ok (.istore_n 2, 1) := by decide +kernel
theorem dX6_readCommand_44 : decode cX6_readCommand 44 = .ok (.iload_n 2, 1) := by decide +kernel
theorem dX6_readCommand_45 : decode cX6_readCommand 45 = .ok (.aload_n 1, 1) := by decide +kernel
theorem dX6_readCommand_46 : decode cX6_readCommand 46 = .ok (.invokevirtual 59, 3) := by decide +kernel
theorem dX6_readCommand_49 : decode cX6_readCommand 49 = .ok (.if_icmp .ge 24, 3) := by decide +kernel
theorem dX6_readCommand_52 : decode cX6_readCommand 52 = .ok (.aload_n 0, 1) := by decide +kernel
theorem dX6_readCommand_53 : decode cX6_readCommand 53 = .ok (.iload_n 2, 1) := by decide +kernel
theorem dX6_readCommand_54 : decode cX6_readCommand 54 = .ok (.aload_n 1, 1) := by decide +kernel
theorem dX6_readCommand_55 : decode cX6_readCommand 55 = .ok (.iload_n 2, 1) := by decide +kernel
theorem dX6_readCommand_56 : decode cX6_readCommand 56 = .ok (.invokevirtual 64, 3) := by decide +kernel
theorem dX6_readCommand_59 : decode cX6_readCommand 59 = .ok (.invokevirtual 68, 3) := by decide +kernel
theorem dX6_readCommand_62 : decode cX6_readCommand 62 = .ok (.ifCond .ne 5, 3) := by decide +kernel
theorem dX6_readCommand_65 : decode cX6_readCommand 65 = .ok (.iconst 0, 1) := by decide +kernel
theorem dX6_readCommand_66 : decode cX6_readCommand 66 = .ok (.ireturn, 1) := by decide +kernel
theorem dX6_readCommand_67 : decode cX6_readCommand 67 = .ok (.iinc 2 1, 3) := by decide +kernel
theorem dX6_readCommand_70 : decode cX6_readCommand 70 = .ok (.goto (-26), 3) := by decide +kernel
theorem dX6_readCommand_73 : decode cX6_readCommand 73 = .ok (.iconst 1, 1) := by decide +kernel
theorem dX6_readCommand_74 : decode cX6_readCommand 74 = .ok (.ireturn, 1) := by decide +kernel
theorem dX6_readNumber_0 : decode cX6_readNumber 0 = .ok (.iload_n 2, 1) := by decide +kernel
theorem dX6_readNumber_1 : decode cX6_readNumber 1 = .ok (.invokestatic 72, 3) := by decide +kernel
theorem dX6_readNumber_4 : decode cX6_readNumber 4 = .ok (.istore_n 3, 1) := by decide +kernel
theorem dX6_readNumber_5 : decode cX6_readNumber 5 = .ok (.iload_n 2, 1) := by decide +kernel
theorem dX6_readNumber_6 : decode cX6_readNumber 6 = .ok (.invokestatic 75, 3) := by decide +kernel
theorem dX6_readNumber_9 : decode cX6_readNumber 9 = .ok (.istore 4, 2) := by decide +kernel
theorem dX6_readNumber_11 : decode cX6_readNumber 11 = .ok (.iconst 0, 1) := by decide +kernel
theorem dX6_readNumber_12 : decode cX6_readNumber 12 = .ok (.istore 5, 2) := by decide +kernel
theorem dX6_readNumber_14 : decode cX6_readNumber 14 = .ok (.iload 4, 2) := by decide +kernel
theorem dX6_readNumber_16 : decode cX6_readNumber 16 = .ok (.bipush 99, 2) := by decide +kernel
theorem dX6_readNumber_18 : decode cX6_readNumber 18 = .ok (.if_icmp .le 8, 3) := by decide +kernel
theorem dX6_readNumber_21 : decode cX6_readNumber 21 = .ok (.bipush 100, 2) := by decide +kernel
theorem dX6_readNumber_23 : decode cX6_readNumber 23 = .ok (.goto 16, 3) := by decide +kernel
theorem dX6_readNumber_26 : decode cX6_readNumber 26 = .ok (.iload 4, 2) := by decide +kernel
theorem dX6_readNumber_28 : decode cX6_readNumber 28 = .ok (.bipush 9, 2) := by decide +kernel
theorem dX6_readNumber_30 : decode cX6_readNumber 30 = .ok (.if_icmp .le 8, 3) := by decide +kernel
theorem dX6_readNumber_33 : decode cX6_readNumber 33 = .ok (.bipush 10, 2) := by decide +kernel
theorem dX6_readNumber_35 : decode cX6_readNumber 35 = .ok (.goto 4, 3) := by decide +kernel
theorem dX6_readNumber_38 : decode cX6_readNumber 38 = .ok (.iconst 1, 1) := by decide +kernel
theorem dX6_readNumber_39 : decode cX6_readNumber 39 = .ok (.istore 6, 2) := by decide +kernel
theorem dX6_readNumber_41 : decode cX6_readNumber 41 = .ok (.iload 6, 2) := by decide +kernel
theorem dX6_readNumber_43 : decode cX6_readNumber 43 = .ok (.ifCond .le 79, 3) := by decide +kernel
theorem dX6_readNumber_46 : decode cX6_readNumber 46 = .ok (.aload_n 0, 1) := by decide +kernel
theorem dX6_readNumber_47 : decode cX6_readNumber 47 = .ok (.aload_n 0, 1) := by decide +kernel
theorem dX6_readNumber_48 : decode cX6_readNumber 48 = .ok (.getfield 34, 3) := by decide +kernel
theorem dX6_readNumber_51 : decode cX6_readNumber 51 = .ok (.invokevirtual 37, 3) := by decide +kernel
theorem dX6_readNumber_54 : decode cX6_readNumber 54 = .ok (.bipush 48, 2) := by decide +kernel
theorem dX6_readNumber_56 : decode cX6_readNumber 56 = .ok (.isub, 1) := by decide +kernel
theorem dX6_readNumber_57 : decode cX6_readNumber 57 = .ok (.istore 7, 2) := by decide +kernel
theorem dX6_readNumber_59 : decode cX6_readNumber 59 = .ok (.iload 7, 2) := by decide +kernel
theorem dX6_readNumber_61 : decode cX6_readNumber 61 = .ok (.iconst 0, 1) := by decide +kernel
theorem dX6_readNumber_62 : decode cX6_readNumber 62 = .ok (.bipush 9, 2) := by decide +kernel
theorem dX6_readNumber_64 : decode cX6_readNumber 64 = .ok (.invokestatic 26, 3) := by decide +kernel
theorem dX6_readNumber_67 : decode cX6_readNumber 67 = .ok (.ifCond .eq 5, 3) := by decide +kernel
theorem dX6_readNumber_70 : decode cX6_readNumber 70 = .ok (.iconst 0, 1) := by decide +kernel
theorem dX6_readNumber_71 : decode cX6_readNumber 71 = .ok (.ireturn, 1) := by decide +kernel
theorem dX6_readNumber_72 : decode cX6_readNumber 72 = .ok (.iload 5, 2) := by decide +kernel
theorem dX6_readNumber_74 : decode cX6_readNumber 74 = .ok (.iload 7, 2) := by decide +kernel
theorem dX6_readNumber_76 : decode cX6_readNumber 76 = .ok (.iload 6, 2) := by decide +kernel
theorem dX6_readNumber_78 : decode cX6_readNumber 78 = .ok (.imul, 1) := by decide +kernel
theorem dX6_readNumber_79 : decode cX6_readNumber 79 = .ok (.iadd, 1) := by decide +kernel
theorem dX6_readNumber_80 : decode cX6_readNumber 80 = .ok (.istore 5, 2) := by decide +kernel
theorem dX6_readNumber_82 : decode cX6_readNumber 82 = .ok (.iload 5, 2) := by decide +kernel
theorem dX6_readNumber_84 : decode cX6_readNumber 84 = .ok (.iload 4, 2) := by decide +kernel
theorem dX6_readNumber_86 : decode cX6_readNumber 86 = .ok (.if_icmp .gt 14, 3) := by decide +kernel
theorem dX6_readNumber_89 : decode cX6_readNumber 89 = .ok (.iload 5, 2) := by decide +kernel
theorem dX6_readNumber_91 : decode cX6_readNumber 91 = .ok (.iload 6, 2) := by decide +kernel
theorem dX6_readNumber_93 : decode cX6_readNumber 93 = .ok (.iadd, 1) := by decide +kernel
theorem dX6_readNumber_94 : decode cX6_readNumber 94 = .ok (.iconst 1, 1) := by decide +kernel
theorem dX6_readNumber_95 : decode cX6_readNumber 95 = .ok (.isub, 1) := by decide +kernel
theorem dX6_readNumber_96 : decode cX6_readNumber 96 = .ok (.iload_n 3, 1) := by decide +kernel
theorem dX6_readNumber_97 : decode cX6_readNumber 97 = .ok (.if_icmp .ge 5, 3) := by decide +kernel
theorem dX6_readNumber_100 : decode cX6_readNumber 100 = .ok (.iconst 0, 1) := by decide +kernel
theorem dX6_readNumber_101 : decode cX6_readNumber 101 = .ok (.ireturn, 1) := by decide +kernel
theorem dX6_readNumber_102 : decode cX6_readNumber 102 = .ok (.aload_n 0, 1) := by decide +kernel
theorem dX6_readNumber_103 : decode cX6_readNumber 103 = .ok (.dup, 1) := by decide +kernel
theorem dX6_readNumber_104 : decode cX6_readNumber 104 = .ok (.getfield 34, 3) := by decide +kernel
theorem dX6_readNumber_107 : decode cX6_readNumber 107 = .ok (.iconst 1, 1) := by decide +kernel
theorem dX6_readNumber_108 : decode cX6_readNumber 108 = .ok (.iadd, 1) := by decide +kernel
theorem dX6_readNumber_109 : decode cX6_readNumber 109 = .ok (.putfield 34, 3) := by decide +kernel
theorem dX6_readNumber_112 : decode cX6_readNumber 112 = .ok (.iload 6, 2) := by decide +kernel
theorem dX6_readNumber_114 : decode cX6_readNumber 114 = .ok (.bipush 10, 2) := by decide +kernel
theorem dX6_readNumber_116 : decode cX6_readNumber 116 = .ok (.idiv, 1) := by decide +kernel
theorem dX6_readNumber_117 : decode cX6_readNumber 117 = .ok (.istore 6, 2) := by decide +kernel
theorem dX6_readNumber_119 : decode cX6_readNumber 119 = .ok (.goto (-78), 3) := by decide +kernel
theorem dX6_readNumber_122 : decode cX6_readNumber 122 = .ok (.aload_n 0, 1) := by decide +kernel
theorem dX6_readNumber_123 : decode cX6_readNumber 123 = .ok (.getfield 15, 3) := by decide +kernel
theorem dX6_readNumber_126 : decode cX6_readNumber 126 = .ok (.iload_n 1, 1) := by decide +kernel
theorem dX6_readNumber_127 : decode cX6_readNumber 127 = .ok (.iload 5, 2) := by decide +kernel
theorem dX6_readNumber_129 : decode cX6_readNumber 129 = .ok (.invokestatic 22, 3) := by decide +kernel
theorem dX6_readNumber_132 : decode cX6_readNumber 132 = .ok (.iconst 1, 1) := by decide +kernel
theorem dX6_readNumber_133 : decode cX6_readNumber 133 = .ok (.ireturn, 1) := by decide +kernel
theorem dX6_isCommand_0 : decode cX6_isCommand 0 = .ok (.iload_n 0, 1) := by decide +kernel
theorem dX6_isCommand_1 : decode cX6_isCommand 1 = .ok (.tableswitch 101 99 119 #[99, 101, 101, 101, 101, 101, 101, 101, 101, 99, 99, 101, 101, 99, 101, 99, 101, 99, 101, 99, 99], 99) := by decide +kernel
theorem dX6_isCommand_100 : decode cX6_isCommand 100 = .ok (.iconst 1, 1) := by decide +kernel
theorem dX6_isCommand_101 : decode cX6_isCommand 101 = .ok (.ireturn, 1) := by decide +kernel
theorem dX6_isCommand_102 : decode cX6_isCommand 102 = .ok (.iconst 0, 1) := by decide +kernel
theorem dX6_isCommand_103 : decode cX6_isCommand 103 = .ok (.ireturn, 1) := by decide +kernel
theorem dX6_kindsOf_0 : decode cX6_kindsOf 0 = .ok (.iload_n 0, 1) := by decide +kernel
theorem dX6_kindsOf_1 : decode cX6_kindsOf 1 = .ok (.tableswitch 120 99 119 #[105, 120, 120, 120, 120, 120, 120, 120, 120, 120, 111, 120, 120, 102, 120, 99, 120, 114, 120, 108, 117], 99) := by decide +kernel
theorem dX6_kindsOf_100 : decode cX6_kindsOf 100 = .ok (.ldc 78, 2) := by decide +kernel
theorem dX6_kindsOf_102 : decode cX6_kindsOf 102 = .ok (.areturn, 1) := by decide +kernel
theorem dX6_kindsOf_103 : decode cX6_kindsOf 103 = .ok (.ldc 80, 2) := by decide +kernel
theorem dX6_kindsOf_105 : decode cX6_kindsOf 105 = .ok (.areturn, 1) := by decide +kernel
theorem dX6_kindsOf_106 : decode cX6_kindsOf 106 = .ok (.ldc 82, 2) := by decide +kernel
theorem dX6_kindsOf_108 : decode cX6_kindsOf 108 = .ok (.areturn, 1) := by decide +kernel
theorem dX6_kindsOf_109 : decode cX6_kindsOf 109 = .ok (.ldc 84, 2) := by decide +kernel
theorem dX6_kindsOf_111 : decode cX6_kindsOf 111 = .ok (.areturn, 1) := by decide +kernel
theorem dX6_kindsOf_112 : decode cX6_kindsOf 112 = .ok (.ldc 86, 2) := by decide +kernel
theorem dX6_kindsOf_114 : decode cX6_kindsOf 114 = .ok (.areturn, 1) := by decide +kernel
theorem dX6_kindsOf_115 : decode cX6_kindsOf 115 = .ok (.ldc 88, 2) := by decide +kernel
theorem dX6_kindsOf_117 : decode cX6_kindsOf 117 = .ok (.areturn, 1) := by decide +kernel
theorem dX6_kindsOf_118 : decode cX6_kindsOf 118 = .ok (.ldc 90, 2) := by decide +kernel
theorem dX6_kindsOf_120 : decode cX6_kindsOf 120 = .ok (.areturn, 1) := by decide +kernel
theorem dX6_kindsOf_121 : decode cX6_kindsOf 121 = .ok (.ldc 92, 2) := by decide +kernel
theorem dX6_kindsOf_123 : decode cX6_kindsOf 123 = .ok (.areturn, 1) := by decide +kernel
theorem dX6_leastOf_0 : decode cX6_leastOf 0 = .ok (.iload_n 0, 1) := by decide +kernel
theorem dX6_leastOf_1 : decode cX6_leastOf 1 = .ok (.tableswitch 43 114 119 #[39, 43, 41, 43, 41, 41], 39) := by decide +kernel
theorem dX6_leastOf_40 : decode cX6_leastOf 40 = .ok (.iconst 2, 1) := by decide +kernel
theorem dX6_leastOf_41 : decode cX6_leastOf 41 = .ok (.ireturn, 1) := by decide +kernel
theorem dX6_leastOf_42 : decode cX6_leastOf 42 = .ok (.iconst 1, 1) := by decide +kernel
theorem dX6_leastOf_43 : decode cX6_leastOf 43 = .ok (.ireturn, 1) := by decide +kernel
theorem dX6_leastOf_44 : decode cX6_leastOf 44 = .ok (.iconst 0, 1) := by decide +kernel
theorem dX6_leastOf_45 : decode cX6_leastOf 45 = .ok (.ireturn, 1) := by decide +kernel
theorem dX6_greatestOf_0 : decode cX6_greatestOf 0 = .ok (.iload_n 0, 1) := by decide +kernel
theorem dX6_greatestOf_1 : decode cX6_greatestOf 1 = .ok (.lookupswitch 90 #[(67, 79), (76, 77), (82, 75), (109, 88), (112, 82), (114, 79), (118, 85), (119, 79)], 75) := by decide +kernel
theorem dX6_greatestOf_76 : decode cX6_greatestOf 76 = .ok (.iconst 2, 1) := by decide +kernel
theorem dX6_greatestOf_77 : decode cX6_greatestOf 77 = .ok (.ireturn, 1) := by decide +kernel
theorem dX6_greatestOf_78 : decode cX6_greatestOf 78 = .ok (.iconst 3, 1) := by decide +kernel
theorem dX6_greatestOf_79 : decode cX6_greatestOf 79 = .ok (.ireturn, 1) := by decide +kernel
theorem dX6_greatestOf_80 : decode cX6_greatestOf 80 = .ok (.bipush 60, 2) := by decide +kernel
theorem dX6_greatestOf_82 : decode cX6_greatestOf 82 = .ok (.ireturn, 1) := by decide +kernel
theorem dX6_greatestOf_83 : decode cX6_greatestOf 83 = .ok (.bipush 9, 2) := by decide +kernel
theorem dX6_greatestOf_85 : decode cX6_greatestOf 85 = .ok (.ireturn, 1) := by decide +kernel
theorem dX6_greatestOf_86 : decode cX6_greatestOf 86 = .ok (.bipush 9, 2) := by decide +kernel
theorem dX6_greatestOf_88 : decode cX6_greatestOf 88 = .ok (.ireturn, 1) := by decide +kernel
theorem dX6_greatestOf_89 : decode cX6_greatestOf 89 = .ok (.iconst 1, 1) := by decide +kernel
theorem dX6_greatestOf_90 : decode cX6_greatestOf 90 = .ok (.ireturn, 1) := by decide +kernel
theorem dX6_greatestOf_91 : decode cX6_greatestOf 91 = .ok (.sipush 999, 3) := by decide +kernel
theorem dX6_greatestOf_94 : decode cX6_greatestOf 94 = .ok (.ireturn, 1) := by decide +kernel
