theorem dX8_init_0 : decode cX8_init 0 = .ok (.aload_n 0, 1) := by decide +kernel
theorem dX8_init_1 : decode cX8_init 1 = .ok (.invokespecial 1, 3) := by decide +kernel
theorem dX8_init_4 : decode cX8_init 4 = .ok (.aload_n 0, 1) := by decide +kernel
theorem dX8_init_5 : decode cX8_init 5 = .ok (.bipush 120, 2) := by decide +kernel
theorem dX8_init_7 : decode cX8_init 7 = .ok (.newarray .int, 2) := by decide +kernel
theorem dX8_init_9 : decode cX8_init 9 = .ok (.putfield 7, 3) := by decide +kernel
theorem dX8_init_12 : decode cX8_init 12 = .ok (.aload_n 0, 1) := by decide +kernel
theorem dX8_init_13 : decode cX8_init 13 = .ok (.sipush 427, 3) := by decide +kernel
theorem dX8_init_16 : decode cX8_init 16 = .ok (.newarray .int, 2) := by decide +kernel
theorem dX8_init_18 : decode cX8_init 18 = .ok (.putfield 13, 3) := by decide +kernel
theorem dX8_init_21 : decode cX8_init 21 = .ok (.aload_n 0, 1) := by decide +kernel
theorem dX8_init_22 : decode cX8_init 22 = .ok (.sipush 427, 3) := by decide +kernel
theorem dX8_init_25 : decode cX8_init 25 = .ok (.newarray .int, 2) := by decide +kernel
theorem dX8_init_27 : decode cX8_init 27 = .ok (.putfield 16, 3) := by decide +kernel
theorem dX8_init_30 : decode cX8_init 30 = .ok (.aload_n 0, 1) := by decide +kernel
theorem dX8_init_31 : decode cX8_init 31 = .ok (.sipush 5124, 3) := by decide +kernel
theorem dX8_init_34 : decode cX8_init 34 = .ok (.newarray .int, 2) := by decide +kernel
theorem dX8_init_36 : decode cX8_init 36 = .ok (.putfield 19, 3) := by decide +kernel
theorem dX8_init_39 : decode cX8_init 39 = .ok (.aload_n 0, 1) := by decide +kernel
theorem dX8_init_40 : decode cX8_init 40 = .ok (.sipush 854, 3) := by decide +kernel
theorem dX8_init_43 : decode cX8_init 43 = .ok (.newarray .int, 2) := by decide +kernel
theorem dX8_init_45 : decode cX8_init 45 = .ok (.putfield 22, 3) := by decide +kernel
theorem dX8_init_48 : decode cX8_init 48 = .ok (.aload_n 0, 1) := by decide +kernel
theorem dX8_init_49 : decode cX8_init 49 = .ok (.iconst 2, 1) := by decide +kernel
theorem dX8_init_50 : decode cX8_init 50 = .ok (.newarray .boolean, 2) := by decide +kernel
theorem dX8_init_52 : decode cX8_init 52 = .ok (.putfield 25, 3) := by decide +kernel
theorem dX8_init_55 : decode cX8_init 55 = .ok (.aload_n 0, 1) := by decide +kernel
theorem dX8_init_56 : decode cX8_init 56 = .ok (.getfield 13, 3) := by decide +kernel
theorem dX8_init_59 : decode cX8_init 59 = .ok (.invokestatic 29, 3) := by decide +kernel
theorem dX8_init_62 : decode cX8_init 62 = .ok (.return_, 1) := by decide +kernel
theorem dX8_thrown_0 : decode cX8_thrown 0 = .ok (.aload_n 0, 1) := by decide +kernel
theorem dX8_thrown_1 : decode cX8_thrown 1 = .ok (.getfield 33, 3) := by decide +kernel
theorem dX8_thrown_4 : decode cX8_thrown 4 = .ok (.ireturn, 1) := by decide +kernel
theorem dX8_refused_0 : decode cX8_refused 0 = .ok (.aload_n 0, 1) := by decide +kernel
theorem dX8_refused_1 : decode cX8_refused 1 = .ok (.iload_n 1, 1) := by decide +kernel
theorem dX8_refused_2 : decode cX8_refused 2 = .ok (.putfield 33, 3) := by decide +kernel
theorem dX8_refused_5 : decode cX8_refused 5 = .ok (.iload_n 1, 1) := by decide +kernel
theorem dX8_refused_6 : decode cX8_refused 6 = .ok (.ifCond .le 7, 3) := by decide +kernel
theorem dX8_refused_9 : decode cX8_refused 9 = .ok (.iconst 1, 1) := by decide +kernel
theorem dX8_refused_10 : decode cX8_refused 10 = .ok (.goto 4, 3) := by decide +kernel
theorem dX8_refused_13 : decode cX8_refused 13 = .ok (.iconst 0, 1) := by decide +kernel
theorem dX8_refused_14 : decode cX8_refused 14 = .ok (.ireturn, 1) := by decide +kernel
theorem dX8_in_0 : decode cX8_in 0 = .ok (.lload_n 0, 1) := by decide +kernel
theorem dX8_in_1 : decode cX8_in 1 = .ok (.lload_n 2, 1) := by decide +kernel
theorem dX8_in_2 : decode cX8_in 2 = .ok (.lcmp, 1) := by decide +kernel
theorem dX8_in_3 : decode cX8_in 3 = .ok (.ifCond .lt 14, 3) := by decide +kernel
theorem dX8_in_6 : decode cX8_in 6 = .ok (.lload_n 0, 1) := by decide +kernel
theorem dX8_in_7 : decode cX8_in 7 = .ok (.lload 4, 2) := by decide +kernel
theorem dX8_in_9 : decode cX8_in 9 = .ok (.lcmp, 1) := by decide +kernel
theorem dX8_in_10 : decode cX8_in 10 = .ok (.ifCond .gt 7, 3) := by decide +kernel
theorem dX8_in_13 : decode cX8_in 13 = .ok (.iconst 1, 1) := by decide +kernel
theorem dX8_in_14 : decode cX8_in 14 = .ok (.goto 4, 3) := by decide +kernel
theorem dX8_in_17 : decode cX8_in 17 = .ok (.iconst 0, 1) := by decide +kernel
theorem dX8_in_18 : decode cX8_in 18 = .ok (.ireturn, 1) := by decide +kernel
theorem dX8_copyState_0 : decode cX8_copyState 0 = .ok (.iconst 0, 1) := by decide +kernel
theorem dX8_copyState_1 : decode cX8_copyState 1 = .ok (.istore 4, 2) := by decide +kernel
theorem dX8_copyState_3 : decode cX8_copyState 3 = .ok (.iload 4, 2) := by decide +kernel
theorem dX8_copyState_5 : decode cX8_copyState 5 = .ok (.sipush 427, 3) := by decide +kernel
theorem dX8_copyState_8 : decode cX8_copyState 8 = .ok (.if_icmp .ge 21, 3) := by decide +kernel
theorem dX8_copyState_11 : decode cX8_copyState 11 = .ok (.aload_n 2, 1) := by decide +kernel
theorem dX8_copyState_12 : decode cX8_copyState 12 = .ok (.iload_n 3, 1) := by decide +kernel
theorem dX8_copyState_13 : decode cX8_copyState 13 = .ok (.iload 4, 2) := by decide +kernel
theorem dX8_copyState_15 : decode cX8_copyState 15 = .ok (.iadd, 1) := by decide +kernel
theorem dX8_copyState_16 : decode cX8_copyState 16 = .ok (.aload_n 0, 1) := by decide +kernel
theorem dX8_copyState_17 : decode cX8_copyState 17 = .ok (.iload_n 1, 1) := by decide +kernel
theorem dX8_copyState_18 : decode cX8_copyState 18 = .ok (.iload 4, 2) := by decide +kernel
theorem dX8_copyState_20 : decode cX8_copyState 20 = .ok (.iadd, 1) := by decide +kernel
theorem dX8_copyState_21 : decode cX8_copyState 21 = .ok (.iaload, 1) := by decide +kernel
theorem dX8_copyState_22 : decode cX8_copyState 22 = .ok (.iastore, 1) := by decide +kernel
theorem dX8_copyState_23 : decode cX8_copyState 23 = .ok (.iinc 4 1, 3) := by decide +kernel
theorem dX8_copyState_26 : decode cX8_copyState 26 = .ok (.goto (-23), 3) := by decide +kernel
theorem dX8_copyState_29 : decode cX8_copyState 29 = .ok (.return_, 1) := by decide +kernel
theorem dX8_clear_0 : decode cX8_clear 0 = .ok (.iconst 0, 1) := by decide +kernel
theorem dX8_clear_1 : decode cX8_clear 1 = .ok (.istore_n 1, 1) := by decide +kernel
theorem dX8_clear_2 : decode cX8_clear 2 = .ok (.iload_n 1, 1) := by decide +kernel
theorem dX8_clear_3 : decode cX8_clear 3 = .ok (.sipush 427, 3) := by decide +kernel
theorem dX8_clear_6 : decode cX8_clear 6 = .ok (.if_icmp .ge 13, 3) := by decide +kernel
theorem dX8_clear_9 : decode cX8_clear 9 = .ok (.aload_n 0, 1) := by decide +kernel
theorem dX8_clear_10 : decode cX8_clear 10 = .ok (.iload_n 1, 1) := by decide +kernel
theorem dX8_clear_11 : decode cX8_clear 11 = .ok (.iconst 0, 1) := by decide +kernel
theorem dX8_clear_12 : decode cX8_clear 12 = .ok (.iastore, 1) := by decide +kernel
theorem dX8_clear_13 : decode cX8_clear 13 = .ok (.iinc 1 1, 3) := by decide +kernel
theorem dX8_clear_16 : decode cX8_clear 16 = .ok (.goto (-14), 3) := by decide +kernel
theorem dX8_clear_19 : decode cX8_clear 19 = .ok (.return_, 1) := by decide +kernel
theorem dX8_cells_0 : decode cX8_cells 0 = .ok (.aload_n 0, 1) := by decide +kernel
theorem dX8_cells_1 : decode cX8_cells 1 = .ok (.iconst 4, 1) := by decide +kernel
theorem dX8_cells_2 : decode cX8_cells 2 = .ok (.bipush 61, 2) := by decide +kernel
theorem dX8_cells_4 : decode cX8_cells 4 = .ok (.iload_n 1, 1) := by decide +kernel
theorem dX8_cells_5 : decode cX8_cells 5 = .ok (.imul, 1) := by decide +kernel
theorem dX8_cells_6 : decode cX8_cells 6 = .ok (.iadd, 1) := by decide +kernel
theorem dX8_cells_7 : decode cX8_cells 7 = .ok (.iaload, 1) := by decide +kernel
theorem dX8_cells_8 : decode cX8_cells 8 = .ok (.ireturn, 1) := by decide +kernel
theorem dX8_soundAt_0 : decode cX8_soundAt 0 = .ok (.aload_n 0, 1) := by decide +kernel
theorem dX8_soundAt_1 : decode cX8_soundAt 1 = .ok (.iconst 4, 1) := by decide +kernel
theorem dX8_soundAt_2 : decode cX8_soundAt 2 = .ok (.bipush 61, 2) := by decide +kernel
theorem dX8_soundAt_4 : decode cX8_soundAt 4 = .ok (.iload_n 1, 1) := by decide +kernel
theorem dX8_soundAt_5 : decode cX8_soundAt 5 = .ok (.imul, 1) := by decide +kernel
theorem dX8_soundAt_6 : decode cX8_soundAt 6 = .ok (.iadd, 1) := by decide +kernel
theorem dX8_soundAt_7 : decode cX8_soundAt 7 = .ok (.iconst 1, 1) := by decide +kernel
theorem dX8_soundAt_8 : decode cX8_soundAt 8 = .ok (.iadd, 1) := by decide +kernel
theorem dX8_soundAt_9 : decode cX8_soundAt 9 = .ok (.iload_n 2, 1) := by decide +kernel
theorem dX8_soundAt_10 : decode cX8_soundAt 10 = .ok (.iadd, 1) := by decide +kernel
theorem dX8_soundAt_11 : decode cX8_soundAt 11 = .ok (.iaload, 1) := by decide +kernel
theorem dX8_soundAt_12 : decode cX8_soundAt 12 = .ok (.ireturn, 1) := by decide +kernel
theorem dX8_of_0 : decode cX8_of 0 = .ok (.aload_n 0, 1) := by decide +kernel
theorem dX8_of_1 : decode cX8_of 1 = .ok (.sipush 187, 3) := by decide +kernel
theorem dX8_of_4 : decode cX8_of 4 = .ok (.bipush 60, 2) := by decide +kernel
theorem dX8_of_6 : decode cX8_of 6 = .ok (.iload_n 1, 1) := by decide +kernel
theorem dX8_of_7 : decode cX8_of 7 = .ok (.imul, 1) := by decide +kernel
theorem dX8_of_8 : decode cX8_of 8 = .ok (.iadd, 1) := by decide +kernel
theorem dX8_of_9 : decode cX8_of 9 = .ok (.iload_n 2, 1) := by decide +kernel
theorem dX8_of_10 : decode cX8_of 10 = .ok (.iadd, 1) := by decide +kernel
theorem dX8_of_11 : decode cX8_of 11 = .ok (.iaload, 1) := by decide +kernel
theorem dX8_of_12 : decode cX8_of 12 = .ok (.ireturn, 1) := by decide +kernel
theorem dX8_lay_0 : decode cX8_lay 0 = .ok (.aload_n 0, 1) := by decide +kernel
theorem dX8_lay_1 : decode cX8_lay 1 = .ok (.sipush 187, 3) := by decide +kernel
theorem dX8_lay_4 : decode cX8_lay 4 = .ok (.bipush 60, 2) := by decide +kernel
theorem dX8_lay_6 : decode cX8_lay 6 = .ok (.iload_n 1, 1) := by decide +kernel
theorem dX8_lay_7 : decode cX8_lay 7 = .ok (.imul, 1) := by decide +kernel
theorem dX8_lay_8 : decode cX8_lay 8 = .ok (.iadd, 1) := by decide +kernel
theorem dX8_lay_9 : decode cX8_lay 9 = .ok (.iload_n 2, 1) := by decide +kernel
theorem dX8_lay_10 : decode cX8_lay 10 = .ok (.iadd, 1) := by decide +kernel
theorem dX8_lay_11 : decode cX8_lay 11 = .ok (.iload_n 3, 1) := by decide +kernel
theorem dX8_lay_12 : decode cX8_lay 12 = .ok (.iastore, 1) := by decide +kernel
theorem dX8_lay_13 : decode cX8_lay 13 = .ok (.return_, 1) := by decide +kernel
theorem dX8_isReel_0 : decode cX8_isReel 0 = .ok (.iload_n 1, 1) := by decide +kernel
theorem dX8_isReel_1 : decode cX8_isReel 1 = .ok (.i2l, 1) := by decide +kernel
theorem dX8_isReel_2 : decode cX8_isReel 2 = .ok (.lconst 0, 1) := by decide +kernel
theorem dX8_isReel_3 : decode cX8_isReel 3 = .ok (.aload_n 0, 1) := by decide +kernel
theorem dX8_isReel_4 : decode cX8_isReel 4 = .ok (.iconst 0, 1) := by decide +kernel
theorem dX8_isReel_5 : decode cX8_isReel 5 = .ok (.iaload, 1) := by decide +kernel
theorem dX8_isReel_6 : decode cX8_isReel 6 = .ok (.iconst 1, 1) := by decide +kernel
theorem dX8_isReel_7 : decode cX8_isReel 7 = .ok (.isub, 1) := by decide +kernel
theorem dX8_isReel_8 : decode cX8_isReel 8 = .ok (.i2l, 1) := by decide +kernel
theorem dX8_isReel_9 : decode cX8_isReel 9 = .ok (.invokestatic 37, 3) := by decide +kernel
theorem dX8_isReel_12 : decode cX8_isReel 12 = .ok (.ireturn, 1) := by decide +kernel
theorem dX8_isCell_0 : decode cX8_isCell 0 = .ok (.aload_n 0, 1) := by decide +kernel
theorem dX8_isCell_1 : decode cX8_isCell 1 = .ok (.iload_n 1, 1) := by decide +kernel
theorem dX8_isCell_2 : decode cX8_isCell 2 = .ok (.invokestatic 41, 3) := by decide +kernel
theorem dX8_isCell_5 : decode cX8_isCell 5 = .ok (.ifCond .eq 24, 3) := by decide +kernel
theorem dX8_isCell_8 : decode cX8_isCell 8 = .ok (.iload_n 2, 1) := by decide +kernel
theorem dX8_isCell_9 : decode cX8_isCell 9 = .ok (.i2l, 1) := by decide +kernel
theorem dX8_isCell_10 : decode cX8_isCell 10 = .ok (.lconst 0, 1) := by decide +kernel
theorem dX8_isCell_11 : decode cX8_isCell 11 = .ok (.aload_n 0, 1) := by decide +kernel
theorem dX8_isCell_12 : decode cX8_isCell 12 = .ok (.iload_n 1, 1) := by decide +kernel
theorem dX8_isCell_13 : decode cX8_isCell 13 = .ok (.invokestatic 45, 3) := by decide +kernel
theorem dX8_isCell_16 : decode cX8_isCell 16 = .ok (.iconst 1, 1) := by decide +kernel
theorem dX8_isCell_17 : decode cX8_isCell 17 = .ok (.isub, 1) := by decide +kernel
theorem dX8_isCell_18 : decode cX8_isCell 18 = .ok (.i2l, 1) := by decide +kernel
theorem dX8_isCell_19 : decode cX8_isCell 19 = .ok (.invokestatic 37, 3) := by decide +kernel
theorem dX8_isCell_22 : decode cX8_isCell 22 = .ok (.ifCond .eq 7, 3) := by decide +kernel
theorem dX8_isCell_25 : decode cX8_isCell 25 = .ok (.iconst 1, 1) := by decide +kernel
theorem dX8_isCell_26 : decode cX8_isCell 26 = .ok (.goto 4, 3) := by decide +kernel
theorem dX8_isCell_29 : decode cX8_isCell 29 = .ok (.iconst 0, 1) := by decide +kernel
theorem dX8_isCell_30 : decode cX8_isCell 30 = .ok (.ireturn, 1) := by decide +kernel
theorem dX8_isPlace_0 : decode cX8_isPlace 0 = .ok (.aload_n 0, 1) := by decide +kernel
theorem dX8_isPlace_1 : decode cX8_isPlace 1 = .ok (.iload_n 1, 1) := by decide +kernel
theorem dX8_isPlace_2 : decode cX8_isPlace 2 = .ok (.invokestatic 41, 3) := by decide +kernel
theorem dX8_isPlace_5 : decode cX8_isPlace 5 = .ok (.ifCond .eq 22, 3) := by decide +kernel
theorem dX8_isPlace_8 : decode cX8_isPlace 8 = .ok (.iload_n 2, 1) := by decide +kernel
theorem dX8_isPlace_9 : decode cX8_isPlace 9 = .ok (.i2l, 1) := by decide +kernel
theorem dX8_isPlace_10 : decode cX8_isPlace 10 = .ok (.lconst 0, 1) := by decide +kernel
theorem dX8_isPlace_11 : decode cX8_isPlace 11 = .ok (.aload_n 0, 1) := by decide +kernel
theorem dX8_isPlace_12 : decode cX8_isPlace 12 = .ok (.iload_n 1, 1) := by decide +kernel
theorem dX8_isPlace_13 : decode cX8_isPlace 13 = .ok (.invokestatic 45, 3) := by decide +kernel
theorem dX8_isPlace_16 : decode cX8_isPlace 16 = .ok (.i2l, 1) := by decide +kernel
theorem dX8_isPlace_17 : decode cX8_isPlace 17 = .ok (.invokestatic 37, 3) := by decide +kernel
theorem dX8_isPlace_20 : decode cX8_isPlace 20 = .ok (.ifCond .eq 7, 3) := by decide +kernel
theorem dX8_isPlace_23 : decode cX8_isPlace 23 = .ok (.iconst 1, 1) := by decide +kernel
theorem dX8_isPlace_24 : decode cX8_isPlace 24 = .ok (.goto 4, 3) := by decide +kernel
theorem dX8_isPlace_27 : decode cX8_isPlace 27 = .ok (.iconst 0, 1) := by decide +kernel
theorem dX8_isPlace_28 : decode cX8_isPlace 28 = .ok (.ireturn, 1) := by decide +kernel
theorem dX8_isLoop_0 : decode cX8_isLoop 0 = .ok (.iload_n 1, 1) := by decide +kernel
theorem dX8_isLoop_1 : decode cX8_isLoop 1 = .ok (.i2l, 1) := by decide +kernel
theorem dX8_isLoop_2 : decode cX8_isLoop 2 = .ok (.lconst 0, 1) := by decide +kernel
theorem dX8_isLoop_3 : decode cX8_isLoop 3 = .ok (.aload_n 0, 1) := by decide +kernel
theorem dX8_isLoop_4 : decode cX8_isLoop 4 = .ok (.iconst 1, 1) := by decide +kernel
theorem dX8_isLoop_5 : decode cX8_isLoop 5 = .ok (.iaload, 1) := by decide +kernel
theorem dX8_isLoop_6 : decode cX8_isLoop 6 = .ok (.iconst 1, 1) := by decide +kernel
theorem dX8_isLoop_7 : decode cX8_isLoop 7 = .ok (.isub, 1) := by decide +kernel
theorem dX8_isLoop_8 : decode cX8_isLoop 8 = .ok (.i2l, 1) := by decide +kernel
theorem dX8_isLoop_9 : decode cX8_isLoop 9 = .ok (.invokestatic 37, 3) := by decide +kernel
theorem dX8_isLoop_12 : decode cX8_isLoop 12 = .ok (.ireturn, 1) := by decide +kernel
theorem dX8_isQuiet_0 : decode cX8_isQuiet 0 = .ok (.iload_n 2, 1) := by decide +kernel
theorem dX8_isQuiet_1 : decode cX8_isQuiet 1 = .ok (.ifCond .eq 32, 3) := by decide +kernel
theorem dX8_isQuiet_4 : decode cX8_isQuiet 4 = .ok (.iload_n 2, 1) := by decide +kernel
theorem dX8_isQuiet_5 : decode cX8_isQuiet 5 = .ok (.aload_n 0, 1) := by decide +kernel
theorem dX8_isQuiet_6 : decode cX8_isQuiet 6 = .ok (.iload_n 1, 1) := by decide +kernel
theorem dX8_isQuiet_7 : decode cX8_isQuiet 7 = .ok (.invokestatic 45, 3) := by decide +kernel
theorem dX8_isQuiet_10 : decode cX8_isQuiet 10 = .ok (.if_icmp .eq 23, 3) := by decide +kernel
theorem dX8_isQuiet_13 : decode cX8_isQuiet 13 = .ok (.aload_n 0, 1) := by decide +kernel
theorem dX8_isQuiet_14 : decode cX8_isQuiet 14 = .ok (.iload_n 1, 1) := by decide +kernel
theorem dX8_isQuiet_15 : decode cX8_isQuiet 15 = .ok (.iload_n 2, 1) := by decide +kernel
theorem dX8_isQuiet_16 : decode cX8_isQuiet 16 = .ok (.iconst 1, 1) := by decide +kernel
theorem dX8_isQuiet_17 : decode cX8_isQuiet 17 = .ok (.isub, 1) := by decide +kernel
theorem dX8_isQuiet_18 : decode cX8_isQuiet 18 = .ok (.invokestatic 49, 3) := by decide +kernel
theorem dX8_isQuiet_21 : decode cX8_isQuiet 21 = .ok (.ifCond .ne 16, 3) := by decide +kernel
theorem dX8_isQuiet_24 : decode cX8_isQuiet 24 = .ok (.aload_n 0, 1) := by decide +kernel
theorem dX8_isQuiet_25 : decode cX8_isQuiet 25 = .ok (.iload_n 1, 1) := by decide +kernel
theorem dX8_isQuiet_26 : decode cX8_isQuiet 26 = .ok (.iload_n 2, 1) := by decide +kernel
theorem dX8_isQuiet_27 : decode cX8_isQuiet 27 = .ok (.invokestatic 49, 3) := by decide +kernel
theorem dX8_isQuiet_30 : decode cX8_isQuiet 30 = .ok (.ifCond .ne 7, 3) := by decide +kernel
theorem dX8_isQuiet_33 : decode cX8_isQuiet 33 = .ok (.iconst 1, 1) := by decide +kernel
theorem dX8_isQuiet_34 : decode cX8_isQuiet 34 = .ok (.goto 4, 3) := by decide +kernel
theorem dX8_isQuiet_37 : decode cX8_isQuiet 37 = .ok (.iconst 0, 1) := by decide +kernel
theorem dX8_isQuiet_38 : decode cX8_isQuiet 38 = .ok (.ireturn, 1) := by decide +kernel
theorem dX8_begins_0 : decode cX8_begins 0 = .ok (.aload_n 0, 1) := by decide +kernel
theorem dX8_begins_1 : decode cX8_begins 1 = .ok (.iload_n 1, 1) := by decide +kernel
theorem dX8_begins_2 : decode cX8_begins 2 = .ok (.iload_n 2, 1) := by decide +kernel
theorem dX8_begins_3 : decode cX8_begins 3 = .ok (.invokestatic 49, 3) := by decide +kernel
theorem dX8_begins_6 : decode cX8_begins 6 = .ok (.ifCond .ne 7, 3) := by decide +kernel
theorem dX8_begins_9 : decode cX8_begins 9 = .ok (.iconst 1, 1) := by decide +kernel
theorem dX8_begins_10 : decode cX8_begins 10 = .ok (.goto 4, 3) := by decide +kernel
theorem dX8_begins_13 : decode cX8_begins 13 = .ok (.iconst 0, 1) := by decide +kernel
theorem dX8_begins_14 : decode cX8_begins 14 = .ok (.iload_n 3, 1) := by decide +kernel
theorem dX8_begins_15 : decode cX8_begins 15 = .ok (.if_icmp .ne 31, 3) := by decide +kernel
theorem dX8_begins_18 : decode cX8_begins 18 = .ok (.iload_n 2, 1) := by decide +kernel
theorem dX8_begins_19 : decode cX8_begins 19 = .ok (.ifCond .eq 23, 3) := by decide +kernel
theorem dX8_begins_22 : decode cX8_begins 22 = .ok (.aload_n 0, 1) := by decide +kernel
theorem dX8_begins_23 : decode cX8_begins 23 = .ok (.iload_n 1, 1) := by decide +kernel
theorem dX8_begins_24 : decode cX8_begins 24 = .ok (.iload_n 2, 1) := by decide +kernel
theorem dX8_begins_25 : decode cX8_begins 25 = .ok (.iconst 1, 1) := by decide +kernel
theorem dX8_begins_26 : decode cX8_begins 26 = .ok (.isub, 1) := by decide +kernel
theorem dX8_begins_27 : decode cX8_begins 27 = .ok (.invokestatic 49, 3) := by decide +kernel
theorem dX8_begins_30 : decode cX8_begins 30 = .ok (.ifCond .ne 7, 3) := by decide +kernel
theorem dX8_begins_33 : decode cX8_begins 33 = .ok (.iconst 1, 1) := by decide +kernel
theorem dX8_begins_34 : decode cX8_begins 34 = .ok (.goto 4, 3) := by decide +kernel
theorem dX8_begins_37 : decode cX8_begins 37 = .ok (.iconst 0, 1) := by decide +kernel
theorem dX8_begins_38 : decode cX8_begins 38 = .ok (.iload_n 3, 1) := by decide +kernel
theorem dX8_begins_39 : decode cX8_begins 39 = .ok (.if_icmp .eq 7, 3) := by decide +kernel
theorem dX8_begins_42 : decode cX8_begins 42 = .ok (.iconst 1, 1) := by decide +kernel
theorem dX8_begins_43 : decode cX8_begins 43 = .ok (.goto 4, 3) := by decide +kernel
theorem dX8_begins_46 : decode cX8_begins 46 = .ok (.iconst 0, 1) := by decide +kernel
theorem dX8_begins_47 : decode cX8_begins 47 = .ok (.ireturn, 1) := by decide +kernel
theorem dX8_rows_0 : decode cX8_rows 0 = .ok (.iconst 0, 1) := by decide +kernel
theorem dX8_rows_1 : decode cX8_rows 1 = .ok (.istore_n 3, 1) := by decide +kernel
theorem dX8_rows_2 : decode cX8_rows 2 = .ok (.iconst 0, 1) := by decide +kernel
theorem dX8_rows_3 : decode cX8_rows 3 = .ok (.istore 4, 2) := by decide +kernel
theorem dX8_rows_5 : decode cX8_rows 5 = .ok (.iload 4, 2) := by decide +kernel
theorem dX8_rows_7 : decode cX8_rows 7 = .ok (.aload_n 0, 1) := by decide +kernel
theorem dX8_rows_8 : decode cX8_rows 8 = .ok (.iload_n 1, 1) := by decide +kernel
theorem dX8_rows_9 : decode cX8_rows 9 = .ok (.invokestatic 45, 3) := by decide +kernel
theorem dX8_rows_12 : decode cX8_rows 12 = .ok (.if_icmp .ge 28, 3) := by decide +kernel
theorem dX8_rows_15 : decode cX8_rows 15 = .ok (.iload_n 3, 1) := by decide +kernel
theorem dX8_rows_16 : decode cX8_rows 16 = .ok (.aload_n 0, 1) := by decide +kernel
theorem dX8_rows_17 : decode cX8_rows 17 = .ok (.iload_n 1, 1) := by decide +kernel
theorem dX8_rows_18 : decode cX8_rows 18 = .ok (.iload 4, 2) := by decide +kernel
theorem dX8_rows_20 : decode cX8_rows 20 = .ok (.iload_n 2, 1) := by decide +kernel
theorem dX8_rows_21 : decode cX8_rows 21 = .ok (.invokestatic 53, 3) := by decide +kernel
theorem dX8_rows_24 : decode cX8_rows 24 = .ok (.ifCond .eq 7, 3) := by decide +kernel
theorem dX8_rows_27 : decode cX8_rows 27 = .ok (.iconst 1, 1) := by decide +kernel
theorem dX8_rows_28 : decode cX8_rows 28 = .ok (.goto 4, 3) := by decide +kernel
theorem dX8_rows_31 : decode cX8_rows 31 = .ok (.iconst 0, 1) := by decide +kernel
theorem dX8_rows_32 : decode cX8_rows 32 = .ok (.iadd, 1) := by decide +kernel
theorem dX8_rows_33 : decode cX8_rows 33 = .ok (.istore_n 3, 1) := by decide +kernel
theorem dX8_rows_34 : decode cX8_rows 34 = .ok (.iinc 4 1, 3) := by decide +kernel
theorem dX8_rows_37 : decode cX8_rows 37 = .ok (.goto (-32), 3) := by decide +kernel
theorem dX8_rows_40 : decode cX8_rows 40 = .ok (.iload_n 3, 1) := by decide +kernel
theorem dX8_rows_41 : decode cX8_rows 41 = .ok (.ireturn, 1) := by decide +kernel
theorem dX8_rowFirst_0 : decode cX8_rowFirst 0 = .ok (.iload_n 2, 1) := by decide +kernel
theorem dX8_rowFirst_1 : decode cX8_rowFirst 1 = .ok (.istore 4, 2) := by decide +kernel
theorem dX8_rowFirst_3 : decode cX8_rowFirst 3 = .ok (.iconst 0, 1) := by decide +kernel
theorem dX8_rowFirst_4 : decode cX8_rowFirst 4 = .ok (.istore 5, 2) := by decide +kernel
theorem dX8_rowFirst_6 : decode cX8_rowFirst 6 = .ok (.iload 5, 2) := by decide +kernel
theorem dX8_rowFirst_8 : decode cX8_rowFirst 8 = .ok (.aload_n 0, 1) := by decide +kernel
theorem dX8_rowFirst_9 : decode cX8_rowFirst 9 = .ok (.iload_n 1, 1) := by decide +kernel
theorem dX8_rowFirst_10 : decode cX8_rowFirst 10 = .ok (.invokestatic 45, 3) := by decide +kernel
theorem dX8_rowFirst_13 : decode cX8_rowFirst 13 = .ok (.if_icmp .ge 31, 3) := by decide +kernel
theorem dX8_rowFirst_16 : decode cX8_rowFirst 16 = .ok (.aload_n 0, 1) := by decide +kernel
theorem dX8_rowFirst_17 : decode cX8_rowFirst 17 = .ok (.iload_n 1, 1) := by decide +kernel
theorem dX8_rowFirst_18 : decode cX8_rowFirst 18 = .ok (.iload 5, 2) := by decide +kernel
theorem dX8_rowFirst_20 : decode cX8_rowFirst 20 = .ok (.iload_n 3, 1) := by decide +kernel
theorem dX8_rowFirst_21 : decode cX8_rowFirst 21 = .ok (.invokestatic 53, 3) := by decide +kernel
theorem dX8_rowFirst_24 : decode cX8_rowFirst 24 = .ok (.ifCond .eq 14, 3) := by decide +kernel
theorem dX8_rowFirst_27 : decode cX8_rowFirst 27 = .ok (.iload 4, 2) := by decide +kernel
theorem dX8_rowFirst_29 : decode cX8_rowFirst 29 = .ok (.ifCond .ne 6, 3) := by decide +kernel
theorem dX8_rowFirst_32 : decode cX8_rowFirst 32 = .ok (.iload 5, 2) := by decide +kernel
theorem dX8_rowFirst_34 : decode cX8_rowFirst 34 = .ok (.ireturn, 1) := by decide +kernel
theorem dX8_rowFirst_35 : decode cX8_rowFirst 35 = .ok (.iinc 4 (-1), 3) := by decide +kernel
theorem dX8_rowFirst_38 : decode cX8_rowFirst 38 = .ok (.iinc 5 1, 3) := by decide +kernel
theorem dX8_rowFirst_41 : decode cX8_rowFirst 41 = .ok (.goto (-35), 3) := by decide +kernel
theorem dX8_rowFirst_44 : decode cX8_rowFirst 44 = .ok (.iconst (-1), 1) := by decide +kernel
theorem dX8_rowFirst_45 : decode cX8_rowFirst 45 = .ok (.ireturn, 1) := by decide +kernel
theorem dX8_rowMany_0 : decode cX8_rowMany 0 = .ok (.iload_n 2, 1) := by decide +kernel
theorem dX8_rowMany_1 : decode cX8_rowMany 1 = .ok (.istore_n 3, 1) := by decide +kernel
theorem dX8_rowMany_2 : decode cX8_rowMany 2 = .ok (.iload_n 3, 1) := by decide +kernel
theorem dX8_rowMany_3 : decode cX8_rowMany 3 = .ok (.aload_n 0, 1) := by decide +kernel
theorem dX8_rowMany_4 : decode cX8_rowMany 4 = .ok (.iload_n 1, 1) := by decide +kernel
theorem dX8_rowMany_5 : decode cX8_rowMany 5 = .ok (.invokestatic 45, 3) := by decide +kernel
theorem dX8_rowMany_8 : decode cX8_rowMany 8 = .ok (.if_icmp .ge 40, 3) := by decide +kernel
theorem dX8_rowMany_11 : decode cX8_rowMany 11 = .ok (.aload_n 0, 1) := by decide +kernel
theorem dX8_rowMany_12 : decode cX8_rowMany 12 = .ok (.iload_n 1, 1) := by decide +kernel
theorem dX8_rowMany_13 : decode cX8_rowMany 13 = .ok (.iload_n 3, 1) := by decide +kernel
theorem dX8_rowMany_14 : decode cX8_rowMany 14 = .ok (.invokestatic 49, 3) := by decide +kernel
theorem dX8_rowMany_17 : decode cX8_rowMany 17 = .ok (.ifCond .ne 7, 3) := by decide +kernel
theorem dX8_rowMany_20 : decode cX8_rowMany 20 = .ok (.iconst 1, 1) := by decide +kernel
theorem dX8_rowMany_21 : decode cX8_rowMany 21 = .ok (.goto 4, 3) := by decide +kernel
theorem dX8_rowMany_24 : decode cX8_rowMany 24 = .ok (.iconst 0, 1) := by decide +kernel
theorem dX8_rowMany_25 : decode cX8_rowMany 25 = .ok (.aload_n 0, 1) := by decide +kernel
theorem dX8_rowMany_26 : decode cX8_rowMany 26 = .ok (.iload_n 1, 1) := by decide +kernel
theorem dX8_rowMany_27 : decode cX8_rowMany 27 = .ok (.iload_n 2, 1) := by decide +kernel
theorem dX8_rowMany_28 : decode cX8_rowMany 28 = .ok (.invokestatic 49, 3) := by decide +kernel
theorem dX8_rowMany_31 : decode cX8_rowMany 31 = .ok (.ifCond .ne 7, 3) := by decide +kernel
theorem dX8_rowMany_34 : decode cX8_rowMany 34 = .ok (.iconst 1, 1) := by decide +kernel
theorem dX8_rowMany_35 : decode cX8_rowMany 35 = .ok (.goto 4, 3) := by decide +kernel
theorem dX8_rowMany_38 : decode cX8_rowMany 38 = .ok (.iconst 0, 1) := by decide +kernel
theorem dX8_rowMany_39 : decode cX8_rowMany 39 = .ok (.if_icmp .ne 9, 3) := by decide +kernel
theorem dX8_rowMany_42 : decode cX8_rowMany 42 = .ok (.iinc 3 1, 3) := by decide +kernel
theorem dX8_rowMany_45 : decode cX8_rowMany 45 = .ok (.goto (-43), 3) := by decide +kernel
theorem dX8_rowMany_48 : decode cX8_rowMany 48 = .ok (.iload_n 3, 1) := by decide +kernel
theorem dX8_rowMany_49 : decode cX8_rowMany 49 = .ok (.iload_n 2, 1) := by decide +kernel
theorem dX8_rowMany_50 : decode cX8_rowMany 50 = .ok (.isub, 1) := by decide +kernel
theorem dX8_rowMany_51 : decode cX8_rowMany 51 = .ok (.ireturn, 1) := by decide +kernel
theorem dX8_round_0 : decode cX8_round 0 = .ok (.aload_n 0, 1) := by decide +kernel
theorem dX8_round_1 : decode cX8_round 1 = .ok (.iload_n 1, 1) := by decide +kernel
theorem dX8_round_2 : decode cX8_round 2 = .ok (.iconst 0, 1) := by decide +kernel
theorem dX8_round_3 : decode cX8_round 3 = .ok (.invokestatic 57, 3) := by decide +kernel
theorem dX8_round_6 : decode cX8_round 6 = .ok (.aload_n 0, 1) := by decide +kernel
theorem dX8_round_7 : decode cX8_round 7 = .ok (.iload_n 1, 1) := by decide +kernel
theorem dX8_round_8 : decode cX8_round 8 = .ok (.iconst 2, 1) := by decide +kernel
theorem dX8_round_9 : decode cX8_round 9 = .ok (.invokestatic 57, 3) := by decide +kernel
theorem dX8_round_12 : decode cX8_round 12 = .ok (.imul, 1) := by decide +kernel
theorem dX8_round_13 : decode cX8_round 13 = .ok (.ireturn, 1) := by decide +kernel
theorem dX8_divisor_0 : decode cX8_divisor 0 = .ok (.iload_n 0, 1) := by decide +kernel
theorem dX8_divisor_1 : decode cX8_divisor 1 = .ok (.istore_n 2, 1) := by decide +kernel
theorem dX8_divisor_2 : decode cX8_divisor 2 = .ok (.iload_n 1, 1) := by decide +kernel
theorem dX8_divisor_3 : decode cX8_divisor 3 = .ok (.istore_n 3, 1) := by decide +kernel
theorem dX8_divisor_4 : decode cX8_divisor 4 = .ok (.iload_n 3, 1) := by decide +kernel
theorem dX8_divisor_5 : decode cX8_divisor 5 = .ok (.ifCond .eq 16, 3) := by decide +kernel
theorem dX8_divisor_8 : decode cX8_divisor 8 = .ok (.iload_n 2, 1) := by decide +kernel
theorem dX8_divisor_9 : decode cX8_divisor 9 = .ok (.iload_n 3, 1) := by decide +kernel
theorem dX8_divisor_10 : decode cX8_divisor 10 = .ok (.irem, 1) := by decide +kernel
theorem dX8_divisor_11 : decode cX8_divisor 11 = .ok (.istore 4, 2) := by decide +kernel
theorem dX8_divisor_13 : decode cX8_divisor 13 = .ok (.iload_n 3, 1) := by decide +kernel
theorem dX8_divisor_14 : decode cX8_divisor 14 = .ok (.istore_n 2, 1) := by decide +kernel
theorem dX8_divisor_15 : decode cX8_divisor 15 = .ok (.iload 4, 2) := by decide +kernel
theorem dX8_divisor_17 : decode cX8_divisor 17 = .ok (.istore_n 3, 1) := by decide +kernel
theorem dX8_divisor_18 : decode cX8_divisor 18 = .ok (.goto (-14), 3) := by decide +kernel
theorem dX8_divisor_21 : decode cX8_divisor 21 = .ok (.iload_n 2, 1) := by decide +kernel
theorem dX8_divisor_22 : decode cX8_divisor 22 = .ok (.ireturn, 1) := by decide +kernel
theorem dX8_period_0 : decode cX8_period 0 = .ok (.aload_n 0, 1) := by decide +kernel
theorem dX8_period_1 : decode cX8_period 1 = .ok (.iload_n 1, 1) := by decide +kernel
theorem dX8_period_2 : decode cX8_period 2 = .ok (.invokestatic 60, 3) := by decide +kernel
theorem dX8_period_5 : decode cX8_period 5 = .ok (.aload_n 0, 1) := by decide +kernel
theorem dX8_period_6 : decode cX8_period 6 = .ok (.iload_n 1, 1) := by decide +kernel
theorem dX8_period_7 : decode cX8_period 7 = .ok (.invokestatic 60, 3) := by decide +kernel
theorem dX8_period_10 : decode cX8_period 10 = .ok (.aload_n 0, 1) := by decide +kernel
theorem dX8_period_11 : decode cX8_period 11 = .ok (.iload_n 1, 1) := by decide +kernel
theorem dX8_period_12 : decode cX8_period 12 = .ok (.iconst 1, 1) := by decide +kernel
theorem dX8_period_13 : decode cX8_period 13 = .ok (.invokestatic 57, 3) := by decide +kernel
theorem dX8_period_16 : decode cX8_period 16 = .ok (.invokestatic 63, 3) := by decide +kernel
theorem dX8_period_19 : decode cX8_period 19 = .ok (.idiv, 1) := by decide +kernel
theorem dX8_period_20 : decode cX8_period 20 = .ok (.ireturn, 1) := by decide +kernel
theorem dX8_phaseIn_0 : decode cX8_phaseIn 0 = .ok (.aload_n 0, 1) := by decide +kernel
theorem dX8_phaseIn_1 : decode cX8_phaseIn 1 = .ok (.iload_n 1, 1) := by decide +kernel
theorem dX8_phaseIn_2 : decode cX8_phaseIn 2 = .ok (.iconst 3, 1) := by decide +kernel
theorem dX8_phaseIn_3 : decode cX8_phaseIn 3 = .ok (.invokestatic 57, 3) := by decide +kernel
theorem dX8_phaseIn_6 : decode cX8_phaseIn 6 = .ok (.i2l, 1) := by decide +kernel
theorem dX8_phaseIn_7 : decode cX8_phaseIn 7 = .ok (.lload_n 2, 1) := by decide +kernel
theorem dX8_phaseIn_8 : decode cX8_phaseIn 8 = .ok (.aload_n 0, 1) := by decide +kernel
theorem dX8_phaseIn_9 : decode cX8_phaseIn 9 = .ok (.iload_n 1, 1) := by decide +kernel
theorem dX8_phaseIn_10 : decode cX8_phaseIn 10 = .ok (.iconst 1, 1) := by decide +kernel
theorem dX8_phaseIn_11 : decode cX8_phaseIn 11 = .ok (.invokestatic 57, 3) := by decide +kernel
theorem dX8_phaseIn_14 : decode cX8_phaseIn 14 = .ok (.i2l, 1) := by decide +kernel
theorem dX8_phaseIn_15 : decode cX8_phaseIn 15 = .ok (.lmul, 1) := by decide +kernel
theorem dX8_phaseIn_16 : decode cX8_phaseIn 16 = .ok (.ladd, 1) := by decide +kernel
theorem dX8_phaseIn_17 : decode cX8_phaseIn 17 = .ok (.aload_n 0, 1) := by decide +kernel
theorem dX8_phaseIn_18 : decode cX8_phaseIn 18 = .ok (.iload_n 1, 1) := by decide +kernel
theorem dX8_phaseIn_19 : decode cX8_phaseIn 19 = .ok (.invokestatic 60, 3) := by decide +kernel
theorem dX8_phaseIn_22 : decode cX8_phaseIn 22 = .ok (.i2l, 1) := by decide +kernel
theorem dX8_phaseIn_23 : decode cX8_phaseIn 23 = .ok (.lrem, 1) := by decide +kernel
theorem dX8_phaseIn_24 : decode cX8_phaseIn 24 = .ok (.l2i, 1) := by decide +kernel
theorem dX8_phaseIn_25 : decode cX8_phaseIn 25 = .ok (.ireturn, 1) := by decide +kernel
theorem dX8_tapeAt_0 : decode cX8_tapeAt 0 = .ok (.aload_n 0, 1) := by decide +kernel
theorem dX8_tapeAt_1 : decode cX8_tapeAt 1 = .ok (.iload_n 1, 1) := by decide +kernel
theorem dX8_tapeAt_2 : decode cX8_tapeAt 2 = .ok (.bipush 12, 2) := by decide +kernel
theorem dX8_tapeAt_4 : decode cX8_tapeAt 4 = .ok (.iload_n 2, 1) := by decide +kernel
theorem dX8_tapeAt_5 : decode cX8_tapeAt 5 = .ok (.aload_n 0, 1) := by decide +kernel
theorem dX8_tapeAt_6 : decode cX8_tapeAt 6 = .ok (.iload_n 1, 1) := by decide +kernel
theorem dX8_tapeAt_7 : decode cX8_tapeAt 7 = .ok (.iconst 2, 1) := by decide +kernel
theorem dX8_tapeAt_8 : decode cX8_tapeAt 8 = .ok (.invokestatic 57, 3) := by decide +kernel
theorem dX8_tapeAt_11 : decode cX8_tapeAt 11 = .ok (.idiv, 1) := by decide +kernel
theorem dX8_tapeAt_12 : decode cX8_tapeAt 12 = .ok (.iadd, 1) := by decide +kernel
theorem dX8_tapeAt_13 : decode cX8_tapeAt 13 = .ok (.invokestatic 57, 3) := by decide +kernel
theorem dX8_tapeAt_16 : decode cX8_tapeAt 16 = .ok (.ireturn, 1) := by decide +kernel
theorem dX8_soundLater_0 : decode cX8_soundLater 0 = .ok (.iconst 0, 1) := by decide +kernel
theorem dX8_soundLater_1 : decode cX8_soundLater 1 = .ok (.istore_n 3, 1) := by decide +kernel
theorem dX8_soundLater_2 : decode cX8_soundLater 2 = .ok (.iconst 0, 1) := by decide +kernel
theorem dX8_soundLater_3 : decode cX8_soundLater 3 = .ok (.istore 4, 2) := by decide +kernel
theorem dX8_soundLater_5 : decode cX8_soundLater 5 = .ok (.iload 4, 2) := by decide +kernel
theorem dX8_soundLater_7 : decode cX8_soundLater 7 = .ok (.aload_n 0, 1) := by decide +kernel
theorem dX8_soundLater_8 : decode cX8_soundLater 8 = .ok (.iconst 1, 1) := by decide +kernel
theorem dX8_soundLater_9 : decode cX8_soundLater 9 = .ok (.iaload, 1) := by decide +kernel
theorem dX8_soundLater_10 : decode cX8_soundLater 10 = .ok (.if_icmp .ge 49, 3) := by decide +kernel
theorem dX8_soundLater_13 : decode cX8_soundLater 13 = .ok (.iload_n 3, 1) := by decide +kernel
theorem dX8_soundLater_14 : decode cX8_soundLater 14 = .ok (.aload_n 0, 1) := by decide +kernel
theorem dX8_soundLater_15 : decode cX8_soundLater 15 = .ok (.iload 4, 2) := by decide +kernel
theorem dX8_soundLater_17 : decode cX8_soundLater 17 = .ok (.iconst 0, 1) := by decide +kernel
theorem dX8_soundLater_18 : decode cX8_soundLater 18 = .ok (.invokestatic 57, 3) := by decide +kernel
theorem dX8_soundLater_21 : decode cX8_soundLater 21 = .ok (.ifCond .le 29, 3) := by decide +kernel
theorem dX8_soundLater_24 : decode cX8_soundLater 24 = .ok (.aload_n 0, 1) := by decide +kernel
theorem dX8_soundLater_25 : decode cX8_soundLater 25 = .ok (.iload 4, 2) := by decide +kernel
theorem dX8_soundLater_27 : decode cX8_soundLater 27 = .ok (.iconst 4, 1) := by decide +kernel
theorem dX8_soundLater_28 : decode cX8_soundLater 28 = .ok (.invokestatic 57, 3) := by decide +kernel
theorem dX8_soundLater_31 : decode cX8_soundLater 31 = .ok (.ifCond .ne 19, 3) := by decide +kernel
theorem dX8_soundLater_34 : decode cX8_soundLater 34 = .ok (.aload_n 0, 1) := by decide +kernel
theorem dX8_soundLater_35 : decode cX8_soundLater 35 = .ok (.iload 4, 2) := by decide +kernel
theorem dX8_soundLater_37 : decode cX8_soundLater 37 = .ok (.aload_n 0, 1) := by decide +kernel
theorem dX8_soundLater_38 : decode cX8_soundLater 38 = .ok (.iload 4, 2) := by decide +kernel
theorem dX8_soundLater_40 : decode cX8_soundLater 40 = .ok (.lload_n 1, 1) := by decide +kernel
theorem dX8_soundLater_41 : decode cX8_soundLater 41 = .ok (.invokestatic 67, 3) := by decide +kernel
theorem dX8_soundLater_44 : decode cX8_soundLater 44 = .ok (.invokestatic 71, 3) := by decide +kernel
theorem dX8_soundLater_47 : decode cX8_soundLater 47 = .ok (.goto 4, 3) := by decide +kernel
theorem dX8_soundLater_50 : decode cX8_soundLater 50 = .ok (.iconst 0, 1) := by decide +kernel
theorem dX8_soundLater_51 : decode cX8_soundLater 51 = .ok (.iadd, 1) := by decide +kernel
theorem dX8_soundLater_52 : decode cX8_soundLater 52 = .ok (.istore_n 3, 1) := by decide +kernel
theorem dX8_soundLater_53 : decode cX8_soundLater 53 = .ok (.iinc 4 1, 3) := by decide +kernel
theorem dX8_soundLater_56 : decode cX8_soundLater 56 = .ok (.goto (-51), 3) := by decide +kernel
theorem dX8_soundLater_59 : decode cX8_soundLater 59 = .ok (.iload_n 3, 1) := by decide +kernel
theorem dX8_soundLater_60 : decode cX8_soundLater 60 = .ok (.ireturn, 1) := by decide +kernel
theorem dX8_goOn_0 : decode cX8_goOn 0 = .ok (.iconst 0, 1) := by decide +kernel
theorem dX8_goOn_1 : decode cX8_goOn 1 = .ok (.istore_n 2, 1) := by decide +kernel
theorem dX8_goOn_2 : decode cX8_goOn 2 = .ok (.iload_n 2, 1) := by decide +kernel
theorem dX8_goOn_3 : decode cX8_goOn 3 = .ok (.aload_n 0, 1) := by decide +kernel
theorem dX8_goOn_4 : decode cX8_goOn 4 = .ok (.iconst 1, 1) := by decide +kernel
theorem dX8_goOn_5 : decode cX8_goOn 5 = .ok (.iaload, 1) := by decide +kernel
theorem dX8_goOn_6 : decode cX8_goOn 6 = .ok (.if_icmp .ge 31, 3) := by decide +kernel
theorem dX8_goOn_9 : decode cX8_goOn 9 = .ok (.aload_n 0, 1) := by decide +kernel
theorem dX8_goOn_10 : decode cX8_goOn 10 = .ok (.iload_n 2, 1) := by decide +kernel
theorem dX8_goOn_11 : decode cX8_goOn 11 = .ok (.iconst 0, 1) := by decide +kernel
theorem dX8_goOn_12 : decode cX8_goOn 12 = .ok (.invokestatic 57, 3) := by decide +kernel
theorem dX8_goOn_15 : decode cX8_goOn 15 = .ok (.ifCond .le 16, 3) := by decide +kernel
theorem dX8_goOn_18 : decode cX8_goOn 18 = .ok (.aload_n 0, 1) := by decide +kernel
theorem dX8_goOn_19 : decode cX8_goOn 19 = .ok (.iload_n 2, 1) := by decide +kernel
theorem dX8_goOn_20 : decode cX8_goOn 20 = .ok (.iconst 3, 1) := by decide +kernel
theorem dX8_goOn_21 : decode cX8_goOn 21 = .ok (.aload_n 0, 1) := by decide +kernel
theorem dX8_goOn_22 : decode cX8_goOn 22 = .ok (.iload_n 2, 1) := by decide +kernel
theorem dX8_goOn_23 : decode cX8_goOn 23 = .ok (.iload_n 1, 1) := by decide +kernel
theorem dX8_goOn_24 : decode cX8_goOn 24 = .ok (.i2l, 1) := by decide +kernel
theorem dX8_goOn_25 : decode cX8_goOn 25 = .ok (.invokestatic 67, 3) := by decide +kernel
theorem dX8_goOn_28 : decode cX8_goOn 28 = .ok (.invokestatic 74, 3) := by decide +kernel
theorem dX8_goOn_31 : decode cX8_goOn 31 = .ok (.iinc 2 1, 3) := by decide +kernel
theorem dX8_goOn_34 : decode cX8_goOn 34 = .ok (.goto (-32), 3) := by decide +kernel
theorem dX8_goOn_37 : decode cX8_goOn 37 = .ok (.aload_n 0, 1) := by decide +kernel
theorem dX8_goOn_38 : decode cX8_goOn 38 = .ok (.iconst 2, 1) := by decide +kernel
theorem dX8_goOn_39 : decode cX8_goOn 39 = .ok (.dup2, 1) := by decide +kernel
theorem dX8_goOn_40 : decode cX8_goOn 40 = .ok (.iaload, 1) := by decide +kernel
theorem dX8_goOn_41 : decode cX8_goOn 41 = .ok (.iload_n 1, 1) := by decide +kernel
theorem dX8_goOn_42 : decode cX8_goOn 42 = .ok (.iadd, 1) := by decide +kernel
theorem dX8_goOn_43 : decode cX8_goOn 43 = .ok (.iastore, 1) := by decide +kernel
theorem dX8_goOn_44 : decode cX8_goOn 44 = .ok (.aload_n 0, 1) := by decide +kernel
theorem dX8_goOn_45 : decode cX8_goOn 45 = .ok (.lconst 0, 1) := by decide +kernel
theorem dX8_goOn_46 : decode cX8_goOn 46 = .ok (.invokestatic 78, 3) := by decide +kernel
theorem dX8_goOn_49 : decode cX8_goOn 49 = .ok (.ireturn, 1) := by decide +kernel
theorem dX8_reelOn_0 : decode cX8_reelOn 0 = .ok (.aload_n 0, 1) := by decide +kernel
theorem dX8_reelOn_1 : decode cX8_reelOn 1 = .ok (.iconst 0, 1) := by decide +kernel
theorem dX8_reelOn_2 : decode cX8_reelOn 2 = .ok (.iaload, 1) := by decide +kernel
theorem dX8_reelOn_3 : decode cX8_reelOn 3 = .ok (.istore_n 2, 1) := by decide +kernel
theorem dX8_reelOn_4 : decode cX8_reelOn 4 = .ok (.aload_n 0, 1) := by decide +kernel
theorem dX8_reelOn_5 : decode cX8_reelOn 5 = .ok (.iconst 4, 1) := by decide +kernel
theorem dX8_reelOn_6 : decode cX8_reelOn 6 = .ok (.bipush 61, 2) := by decide +kernel
theorem dX8_reelOn_8 : decode cX8_reelOn 8 = .ok (.iload_n 2, 1) := by decide +kernel
theorem dX8_reelOn_9 : decode cX8_reelOn 9 = .ok (.imul, 1) := by decide +kernel
theorem dX8_reelOn_10 : decode cX8_reelOn 10 = .ok (.iadd, 1) := by decide +kernel
theorem dX8_reelOn_11 : decode cX8_reelOn 11 = .ok (.iload_n 1, 1) := by decide +kernel
theorem dX8_reelOn_12 : decode cX8_reelOn 12 = .ok (.iastore, 1) := by decide +kernel
theorem dX8_reelOn_13 : decode cX8_reelOn 13 = .ok (.iconst 0, 1) := by decide +kernel
theorem dX8_reelOn_14 : decode cX8_reelOn 14 = .ok (.istore_n 3, 1) := by decide +kernel
theorem dX8_reelOn_15 : decode cX8_reelOn 15 = .ok (.iload_n 3, 1) := by decide +kernel
theorem dX8_reelOn_16 : decode cX8_reelOn 16 = .ok (.bipush 60, 2) := by decide +kernel
theorem dX8_reelOn_18 : decode cX8_reelOn 18 = .ok (.if_icmp .ge 22, 3) := by decide +kernel
theorem dX8_reelOn_21 : decode cX8_reelOn 21 = .ok (.aload_n 0, 1) := by decide +kernel
theorem dX8_reelOn_22 : decode cX8_reelOn 22 = .ok (.iconst 4, 1) := by decide +kernel
theorem dX8_reelOn_23 : decode cX8_reelOn 23 = .ok (.bipush 61, 2) := by decide +kernel
theorem dX8_reelOn_25 : decode cX8_reelOn 25 = .ok (.iload_n 2, 1) := by decide +kernel
theorem dX8_reelOn_26 : decode cX8_reelOn 26 = .ok (.imul, 1) := by decide +kernel
theorem dX8_reelOn_27 : decode cX8_reelOn 27 = .ok (.iadd, 1) := by decide +kernel
theorem dX8_reelOn_28 : decode cX8_reelOn 28 = .ok (.iconst 1, 1) := by decide +kernel
theorem dX8_reelOn_29 : decode cX8_reelOn 29 = .ok (.iadd, 1) := by decide +kernel
theorem dX8_reelOn_30 : decode cX8_reelOn 30 = .ok (.iload_n 3, 1) := by decide +kernel
theorem dX8_reelOn_31 : decode cX8_reelOn 31 = .ok (.iadd, 1) := by decide +kernel
theorem dX8_reelOn_32 : decode cX8_reelOn 32 = .ok (.iconst 0, 1) := by decide +kernel
theorem dX8_reelOn_33 : decode cX8_reelOn 33 = .ok (.iastore, 1) := by decide +kernel
theorem dX8_reelOn_34 : decode cX8_reelOn 34 = .ok (.iinc 3 1, 3) := by decide +kernel
theorem dX8_reelOn_37 : decode cX8_reelOn 37 = .ok (.goto (-22), 3) := by decide +kernel
theorem dX8_reelOn_40 : decode cX8_reelOn 40 = .ok (.aload_n 0, 1) := by decide +kernel
theorem dX8_reelOn_41 : decode cX8_reelOn 41 = .ok (.iconst 0, 1) := by decide +kernel
theorem dX8_reelOn_42 : decode cX8_reelOn 42 = .ok (.dup2, 1) := by decide +kernel
theorem dX8_reelOn_43 : decode cX8_reelOn 43 = .ok (.iaload, 1) := by decide +kernel
theorem dX8_reelOn_44 : decode cX8_reelOn 44 = .ok (.iconst 1, 1) := by decide +kernel
theorem dX8_reelOn_45 : decode cX8_reelOn 45 = .ok (.iadd, 1) := by decide +kernel
theorem dX8_reelOn_46 : decode cX8_reelOn 46 = .ok (.iastore, 1) := by decide +kernel
theorem dX8_reelOn_47 : decode cX8_reelOn 47 = .ok (.iload_n 2, 1) := by decide +kernel
theorem dX8_reelOn_48 : decode cX8_reelOn 48 = .ok (.ireturn, 1) := by decide +kernel
theorem dX8_paintOn_0 : decode cX8_paintOn 0 = .ok (.iconst 0, 1) := by decide +kernel
theorem dX8_paintOn_1 : decode cX8_paintOn 1 = .ok (.istore 5, 2) := by decide +kernel
theorem dX8_paintOn_3 : decode cX8_paintOn 3 = .ok (.iload_n 2, 1) := by decide +kernel
theorem dX8_paintOn_4 : decode cX8_paintOn 4 = .ok (.istore 6, 2) := by decide +kernel
theorem dX8_paintOn_6 : decode cX8_paintOn 6 = .ok (.iload 6, 2) := by decide +kernel
theorem dX8_paintOn_8 : decode cX8_paintOn 8 = .ok (.iload_n 3, 1) := by decide +kernel
theorem dX8_paintOn_9 : decode cX8_paintOn 9 = .ok (.if_icmp .gt 47, 3) := by decide +kernel
theorem dX8_paintOn_12 : decode cX8_paintOn 12 = .ok (.iconst 4, 1) := by decide +kernel
theorem dX8_paintOn_13 : decode cX8_paintOn 13 = .ok (.bipush 61, 2) := by decide +kernel
theorem dX8_paintOn_15 : decode cX8_paintOn 15 = .ok (.iload_n 1, 1) := by decide +kernel
theorem dX8_paintOn_16 : decode cX8_paintOn 16 = .ok (.imul, 1) := by decide +kernel
theorem dX8_paintOn_17 : decode cX8_paintOn 17 = .ok (.iadd, 1) := by decide +kernel
theorem dX8_paintOn_18 : decode cX8_paintOn 18 = .ok (.iconst 1, 1) := by decide +kernel
theorem dX8_paintOn_19 : decode cX8_paintOn 19 = .ok (.iadd, 1) := by decide +kernel
theorem dX8_paintOn_20 : decode cX8_paintOn 20 = .ok (.iload 6, 2) := by decide +kernel
theorem dX8_paintOn_22 : decode cX8_paintOn 22 = .ok (.iadd, 1) := by decide +kernel
theorem dX8_paintOn_23 : decode cX8_paintOn 23 = .ok (.istore 7, 2) := by decide +kernel
theorem dX8_paintOn_25 : decode cX8_paintOn 25 = .ok (.iload 5, 2) := by decide +kernel
theorem dX8_paintOn_27 : decode cX8_paintOn 27 = .ok (.aload_n 0, 1) := by decide +kernel
theorem dX8_paintOn_28 : decode cX8_paintOn 28 = .ok (.iload 7, 2) := by decide +kernel
theorem dX8_paintOn_30 : decode cX8_paintOn 30 = .ok (.iaload, 1) := by decide +kernel
theorem dX8_paintOn_31 : decode cX8_paintOn 31 = .ok (.iload 4, 2) := by decide +kernel
theorem dX8_paintOn_33 : decode cX8_paintOn 33 = .ok (.if_icmp .ne 7, 3) := by decide +kernel
theorem dX8_paintOn_36 : decode cX8_paintOn 36 = .ok (.iconst 0, 1) := by decide +kernel
theorem dX8_paintOn_37 : decode cX8_paintOn 37 = .ok (.goto 4, 3) := by decide +kernel
theorem dX8_paintOn_40 : decode cX8_paintOn 40 = .ok (.iconst 1, 1) := by decide +kernel
theorem dX8_paintOn_41 : decode cX8_paintOn 41 = .ok (.iadd, 1) := by decide +kernel
theorem dX8_paintOn_42 : decode cX8_paintOn 42 = .ok (.istore 5, 2) := by decide +kernel
theorem dX8_paintOn_44 : decode cX8_paintOn 44 = .ok (.aload_n 0, 1) := by decide +kernel
theorem dX8_paintOn_45 : decode cX8_paintOn 45 = .ok (.iload 7, 2) := by decide +kernel
theorem dX8_paintOn_47 : decode cX8_paintOn 47 = .ok (.iload 4, 2) := by decide +kernel
theorem dX8_paintOn_49 : decode cX8_paintOn 49 = .ok (.iastore, 1) := by decide +kernel
theorem dX8_paintOn_50 : decode cX8_paintOn 50 = .ok (.iinc 6 1, 3) := by decide +kernel
theorem dX8_paintOn_53 : decode cX8_paintOn 53 = .ok (.goto (-47), 3) := by decide +kernel
theorem dX8_paintOn_56 : decode cX8_paintOn 56 = .ok (.iload 5, 2) := by decide +kernel
theorem dX8_paintOn_58 : decode cX8_paintOn 58 = .ok (.ireturn, 1) := by decide +kernel
theorem dX8_loopOn_0 : decode cX8_loopOn 0 = .ok (.aload_n 0, 1) := by decide +kernel
theorem dX8_loopOn_1 : decode cX8_loopOn 1 = .ok (.iconst 1, 1) := by decide +kernel
theorem dX8_loopOn_2 : decode cX8_loopOn 2 = .ok (.iaload, 1) := by decide +kernel
theorem dX8_loopOn_3 : decode cX8_loopOn 3 = .ok (.istore_n 1, 1) := by decide +kernel
theorem dX8_loopOn_4 : decode cX8_loopOn 4 = .ok (.iconst 0, 1) := by decide +kernel
theorem dX8_loopOn_5 : decode cX8_loopOn 5 = .ok (.istore_n 2, 1) := by decide +kernel
theorem dX8_loopOn_6 : decode cX8_loopOn 6 = .ok (.iload_n 2, 1) := by decide +kernel
theorem dX8_loopOn_7 : decode cX8_loopOn 7 = .ok (.bipush 60, 2) := by decide +kernel
theorem dX8_loopOn_9 : decode cX8_loopOn 9 = .ok (.if_icmp .ge 16, 3) := by decide +kernel
theorem dX8_loopOn_12 : decode cX8_loopOn 12 = .ok (.aload_n 0, 1) := by decide +kernel
theorem dX8_loopOn_13 : decode cX8_loopOn 13 = .ok (.iload_n 1, 1) := by decide +kernel
theorem dX8_loopOn_14 : decode cX8_loopOn 14 = .ok (.iload_n 2, 1) := by decide +kernel
theorem dX8_loopOn_15 : decode cX8_loopOn 15 = .ok (.iconst 0, 1) := by decide +kernel
theorem dX8_loopOn_16 : decode cX8_loopOn 16 = .ok (.invokestatic 74, 3) := by decide +kernel
theorem dX8_loopOn_19 : decode cX8_loopOn 19 = .ok (.iinc 2 1, 3) := by decide +kernel
theorem dX8_loopOn_22 : decode cX8_loopOn 22 = .ok (.goto (-16), 3) := by decide +kernel
theorem dX8_loopOn_25 : decode cX8_loopOn 25 = .ok (.aload_n 0, 1) := by decide +kernel
theorem dX8_loopOn_26 : decode cX8_loopOn 26 = .ok (.iload_n 1, 1) := by decide +kernel
theorem dX8_loopOn_27 : decode cX8_loopOn 27 = .ok (.iconst 1, 1) := by decide +kernel
theorem dX8_loopOn_28 : decode cX8_loopOn 28 = .ok (.iconst 1, 1) := by decide +kernel
theorem dX8_loopOn_29 : decode cX8_loopOn 29 = .ok (.invokestatic 74, 3) := by decide +kernel
theorem dX8_loopOn_32 : decode cX8_loopOn 32 = .ok (.aload_n 0, 1) := by decide +kernel
theorem dX8_loopOn_33 : decode cX8_loopOn 33 = .ok (.iload_n 1, 1) := by decide +kernel
theorem dX8_loopOn_34 : decode cX8_loopOn 34 = .ok (.iconst 2, 1) := by decide +kernel
theorem dX8_loopOn_35 : decode cX8_loopOn 35 = .ok (.iconst 1, 1) := by decide +kernel
theorem dX8_loopOn_36 : decode cX8_loopOn 36 = .ok (.invokestatic 74, 3) := by decide +kernel
theorem dX8_loopOn_39 : decode cX8_loopOn 39 = .ok (.aload_n 0, 1) := by decide +kernel
theorem dX8_loopOn_40 : decode cX8_loopOn 40 = .ok (.iconst 1, 1) := by decide +kernel
theorem dX8_loopOn_41 : decode cX8_loopOn 41 = .ok (.dup2, 1) := by decide +kernel
theorem dX8_loopOn_42 : decode cX8_loopOn 42 = .ok (.iaload, 1) := by decide +kernel
theorem dX8_loopOn_43 : decode cX8_loopOn 43 = .ok (.iconst 1, 1) := by decide +kernel
theorem dX8_loopOn_44 : decode cX8_loopOn 44 = .ok (.iadd, 1) := by decide +kernel
theorem dX8_loopOn_45 : decode cX8_loopOn 45 = .ok (.iastore, 1) := by decide +kernel
theorem dX8_loopOn_46 : decode cX8_loopOn 46 = .ok (.iload_n 1, 1) := by decide +kernel
theorem dX8_loopOn_47 : decode cX8_loopOn 47 = .ok (.ireturn, 1) := by decide +kernel
theorem dX8_reason_0 : decode cX8_reason 0 = .ok (.iload 4, 2) := by decide +kernel
theorem dX8_reason_2 : decode cX8_reason 2 = .ok (.iload_n 3, 1) := by decide +kernel
theorem dX8_reason_3 : decode cX8_reason 3 = .ok (.if_icmp .gt 7, 3) := by decide +kernel
theorem dX8_reason_6 : decode cX8_reason 6 = .ok (.iconst 1, 1) := by decide +kernel
theorem dX8_reason_7 : decode cX8_reason 7 = .ok (.goto 66, 3) := by decide +kernel
theorem dX8_reason_10 : decode cX8_reason 10 = .ok (.aload_n 0, 1) := by decide +kernel
theorem dX8_reason_11 : decode cX8_reason 11 = .ok (.iload_n 2, 1) := by decide +kernel
theorem dX8_reason_12 : decode cX8_reason 12 = .ok (.iload_n 3, 1) := by decide +kernel
theorem dX8_reason_13 : decode cX8_reason 13 = .ok (.invokestatic 82, 3) := by decide +kernel
theorem dX8_reason_16 : decode cX8_reason 16 = .ok (.ifCond .ne 7, 3) := by decide +kernel
theorem dX8_reason_19 : decode cX8_reason 19 = .ok (.iconst 2, 1) := by decide +kernel
theorem dX8_reason_20 : decode cX8_reason 20 = .ok (.goto 53, 3) := by decide +kernel
theorem dX8_reason_23 : decode cX8_reason 23 = .ok (.aload_n 0, 1) := by decide +kernel
theorem dX8_reason_24 : decode cX8_reason 24 = .ok (.iload_n 2, 1) := by decide +kernel
theorem dX8_reason_25 : decode cX8_reason 25 = .ok (.iload 4, 2) := by decide +kernel
theorem dX8_reason_27 : decode cX8_reason 27 = .ok (.invokestatic 82, 3) := by decide +kernel
theorem dX8_reason_30 : decode cX8_reason 30 = .ok (.ifCond .ne 7, 3) := by decide +kernel
theorem dX8_reason_33 : decode cX8_reason 33 = .ok (.iconst 3, 1) := by decide +kernel
theorem dX8_reason_34 : decode cX8_reason 34 = .ok (.goto 39, 3) := by decide +kernel
theorem dX8_reason_37 : decode cX8_reason 37 = .ok (.aload_n 0, 1) := by decide +kernel
theorem dX8_reason_38 : decode cX8_reason 38 = .ok (.iload_n 1, 1) := by decide +kernel
theorem dX8_reason_39 : decode cX8_reason 39 = .ok (.iconst 0, 1) := by decide +kernel
theorem dX8_reason_40 : decode cX8_reason 40 = .ok (.invokestatic 57, 3) := by decide +kernel
theorem dX8_reason_43 : decode cX8_reason 43 = .ok (.iload 4, 2) := by decide +kernel
theorem dX8_reason_45 : decode cX8_reason 45 = .ok (.iadd, 1) := by decide +kernel
theorem dX8_reason_46 : decode cX8_reason 46 = .ok (.iload_n 3, 1) := by decide +kernel
theorem dX8_reason_47 : decode cX8_reason 47 = .ok (.isub, 1) := by decide +kernel
theorem dX8_reason_48 : decode cX8_reason 48 = .ok (.bipush 48, 2) := by decide +kernel
theorem dX8_reason_50 : decode cX8_reason 50 = .ok (.if_icmp .le 7, 3) := by decide +kernel
theorem dX8_reason_53 : decode cX8_reason 53 = .ok (.iconst 4, 1) := by decide +kernel
theorem dX8_reason_54 : decode cX8_reason 54 = .ok (.goto 19, 3) := by decide +kernel
theorem dX8_reason_57 : decode cX8_reason 57 = .ok (.aload_n 0, 1) := by decide +kernel
theorem dX8_reason_58 : decode cX8_reason 58 = .ok (.iload_n 1, 1) := by decide +kernel
theorem dX8_reason_59 : decode cX8_reason 59 = .ok (.iconst 5, 1) := by decide +kernel
theorem dX8_reason_60 : decode cX8_reason 60 = .ok (.invokestatic 57, 3) := by decide +kernel
theorem dX8_reason_63 : decode cX8_reason 63 = .ok (.bipush 6, 2) := by decide +kernel
theorem dX8_reason_65 : decode cX8_reason 65 = .ok (.if_icmp .ne 7, 3) := by decide +kernel
theorem dX8_reason_68 : decode cX8_reason 68 = .ok (.iconst 5, 1) := by decide +kernel
theorem dX8_reason_69 : decode cX8_reason 69 = .ok (.goto 4, 3) := by decide +kernel
theorem dX8_reason_72 : decode cX8_reason 72 = .ok (.iconst 0, 1) := by decide +kernel
theorem dX8_reason_73 : decode cX8_reason 73 = .ok (.ireturn, 1) := by decide +kernel
theorem dX8_spliceOn_0 : decode cX8_spliceOn 0 = .ok (.aload_n 0, 1) := by decide +kernel
theorem dX8_spliceOn_1 : decode cX8_spliceOn 1 = .ok (.iload_n 1, 1) := by decide +kernel
theorem dX8_spliceOn_2 : decode cX8_spliceOn 2 = .ok (.iload_n 2, 1) := by decide +kernel
theorem dX8_spliceOn_3 : decode cX8_spliceOn 3 = .ok (.iload_n 3, 1) := by decide +kernel
theorem dX8_spliceOn_4 : decode cX8_spliceOn 4 = .ok (.iload 4, 2) := by decide +kernel
theorem dX8_spliceOn_6 : decode cX8_spliceOn 6 = .ok (.invokestatic 86, 3) := by decide +kernel
theorem dX8_spliceOn_9 : decode cX8_spliceOn 9 = .ok (.istore 5, 2) := by decide +kernel
theorem dX8_spliceOn_11 : decode cX8_spliceOn 11 = .ok (.iload 5, 2) := by decide +kernel
theorem dX8_spliceOn_13 : decode cX8_spliceOn 13 = .ok (.ifCond .le 13, 3) := by decide +kernel
theorem dX8_spliceOn_16 : decode cX8_spliceOn 16 = .ok (.aload_n 0, 1) := by decide +kernel
theorem dX8_spliceOn_17 : decode cX8_spliceOn 17 = .ok (.iconst 3, 1) := by decide +kernel
theorem dX8_spliceOn_18 : decode cX8_spliceOn 18 = .ok (.dup2, 1) := by decide +kernel
theorem dX8_spliceOn_19 : decode cX8_spliceOn 19 = .ok (.iaload, 1) := by decide +kernel
theorem dX8_spliceOn_20 : decode cX8_spliceOn 20 = .ok (.iconst 1, 1) := by decide +kernel
theorem dX8_spliceOn_21 : decode cX8_spliceOn 21 = .ok (.iadd, 1) := by decide +kernel
theorem dX8_spliceOn_22 : decode cX8_spliceOn 22 = .ok (.iastore, 1) := by decide +kernel
theorem dX8_spliceOn_23 : decode cX8_spliceOn 23 = .ok (.iload 5, 2) := by decide +kernel
theorem dX8_spliceOn_25 : decode cX8_spliceOn 25 = .ok (.ireturn, 1) := by decide +kernel
theorem dX8_spliceOn_26 : decode cX8_spliceOn 26 = .ok (.aload_n 0, 1) := by decide +kernel
theorem dX8_spliceOn_27 : decode cX8_spliceOn 27 = .ok (.iload_n 1, 1) := by decide +kernel
theorem dX8_spliceOn_28 : decode cX8_spliceOn 28 = .ok (.iconst 0, 1) := by decide +kernel
theorem dX8_spliceOn_29 : decode cX8_spliceOn 29 = .ok (.invokestatic 57, 3) := by decide +kernel
theorem dX8_spliceOn_32 : decode cX8_spliceOn 32 = .ok (.istore 6, 2) := by decide +kernel
theorem dX8_spliceOn_34 : decode cX8_spliceOn 34 = .ok (.iload_n 3, 1) := by decide +kernel
theorem dX8_spliceOn_35 : decode cX8_spliceOn 35 = .ok (.istore 7, 2) := by decide +kernel
theorem dX8_spliceOn_37 : decode cX8_spliceOn 37 = .ok (.iload 7, 2) := by decide +kernel
theorem dX8_spliceOn_39 : decode cX8_spliceOn 39 = .ok (.iload 4, 2) := by decide +kernel
theorem dX8_spliceOn_41 : decode cX8_spliceOn 41 = .ok (.if_icmp .ge 31, 3) := by decide +kernel
theorem dX8_spliceOn_44 : decode cX8_spliceOn 44 = .ok (.aload_n 0, 1) := by decide +kernel
theorem dX8_spliceOn_45 : decode cX8_spliceOn 45 = .ok (.iload_n 1, 1) := by decide +kernel
theorem dX8_spliceOn_46 : decode cX8_spliceOn 46 = .ok (.bipush 12, 2) := by decide +kernel
theorem dX8_spliceOn_48 : decode cX8_spliceOn 48 = .ok (.iload 6, 2) := by decide +kernel
theorem dX8_spliceOn_50 : decode cX8_spliceOn 50 = .ok (.iadd, 1) := by decide +kernel
theorem dX8_spliceOn_51 : decode cX8_spliceOn 51 = .ok (.iload 7, 2) := by decide +kernel
theorem dX8_spliceOn_53 : decode cX8_spliceOn 53 = .ok (.iadd, 1) := by decide +kernel
theorem dX8_spliceOn_54 : decode cX8_spliceOn 54 = .ok (.iload_n 3, 1) := by decide +kernel
theorem dX8_spliceOn_55 : decode cX8_spliceOn 55 = .ok (.isub, 1) := by decide +kernel
theorem dX8_spliceOn_56 : decode cX8_spliceOn 56 = .ok (.aload_n 0, 1) := by decide +kernel
theorem dX8_spliceOn_57 : decode cX8_spliceOn 57 = .ok (.iload_n 2, 1) := by decide +kernel
theorem dX8_spliceOn_58 : decode cX8_spliceOn 58 = .ok (.iload 7, 2) := by decide +kernel
theorem dX8_spliceOn_60 : decode cX8_spliceOn 60 = .ok (.invokestatic 49, 3) := by decide +kernel
theorem dX8_spliceOn_63 : decode cX8_spliceOn 63 = .ok (.invokestatic 74, 3) := by decide +kernel
theorem dX8_spliceOn_66 : decode cX8_spliceOn 66 = .ok (.iinc 7 1, 3) := by decide +kernel
theorem dX8_spliceOn_69 : decode cX8_spliceOn 69 = .ok (.goto (-32), 3) := by decide +kernel
theorem dX8_spliceOn_72 : decode cX8_spliceOn 72 = .ok (.aload_n 0, 1) := by decide +kernel
theorem dX8_spliceOn_73 : decode cX8_spliceOn 73 = .ok (.iload_n 1, 1) := by decide +kernel
theorem dX8_spliceOn_74 : decode cX8_spliceOn 74 = .ok (.bipush 6, 2) := by decide +kernel
theorem dX8_spliceOn_76 : decode cX8_spliceOn 76 = .ok (.aload_n 0, 1) := by decide +kernel
theorem dX8_spliceOn_77 : decode cX8_spliceOn 77 = .ok (.iload_n 1, 1) := by decide +kernel
theorem dX8_spliceOn_78 : decode cX8_spliceOn 78 = .ok (.iconst 5, 1) := by decide +kernel
theorem dX8_spliceOn_79 : decode cX8_spliceOn 79 = .ok (.invokestatic 57, 3) := by decide +kernel
theorem dX8_spliceOn_82 : decode cX8_spliceOn 82 = .ok (.iadd, 1) := by decide +kernel
theorem dX8_spliceOn_83 : decode cX8_spliceOn 83 = .ok (.iload 4, 2) := by decide +kernel
theorem dX8_spliceOn_85 : decode cX8_spliceOn 85 = .ok (.iload_n 3, 1) := by decide +kernel
theorem dX8_spliceOn_86 : decode cX8_spliceOn 86 = .ok (.isub, 1) := by decide +kernel
theorem dX8_spliceOn_87 : decode cX8_spliceOn 87 = .ok (.invokestatic 74, 3) := by decide +kernel
theorem dX8_spliceOn_90 : decode cX8_spliceOn 90 = .ok (.aload_n 0, 1) := by decide +kernel
theorem dX8_spliceOn_91 : decode cX8_spliceOn 91 = .ok (.iload_n 1, 1) := by decide +kernel
theorem dX8_spliceOn_92 : decode cX8_spliceOn 92 = .ok (.iconst 5, 1) := by decide +kernel
theorem dX8_spliceOn_93 : decode cX8_spliceOn 93 = .ok (.aload_n 0, 1) := by decide +kernel
theorem dX8_spliceOn_94 : decode cX8_spliceOn 94 = .ok (.iload_n 1, 1) := by decide +kernel
theorem dX8_spliceOn_95 : decode cX8_spliceOn 95 = .ok (.iconst 5, 1) := by decide +kernel
theorem dX8_spliceOn_96 : decode cX8_spliceOn 96 = .ok (.invokestatic 57, 3) := by decide +kernel
theorem dX8_spliceOn_99 : decode cX8_spliceOn 99 = .ok (.iconst 1, 1) := by decide +kernel
theorem dX8_spliceOn_100 : decode cX8_spliceOn 100 = .ok (.iadd, 1) := by decide +kernel
theorem dX8_spliceOn_101 : decode cX8_spliceOn 101 = .ok (.invokestatic 74, 3) := by decide +kernel
theorem dX8_spliceOn_104 : decode cX8_spliceOn 104 = .ok (.aload_n 0, 1) := by decide +kernel
theorem dX8_spliceOn_105 : decode cX8_spliceOn 105 = .ok (.iload_n 1, 1) := by decide +kernel
theorem dX8_spliceOn_106 : decode cX8_spliceOn 106 = .ok (.iconst 0, 1) := by decide +kernel
theorem dX8_spliceOn_107 : decode cX8_spliceOn 107 = .ok (.iload 6, 2) := by decide +kernel
theorem dX8_spliceOn_109 : decode cX8_spliceOn 109 = .ok (.iload 4, 2) := by decide +kernel
theorem dX8_spliceOn_111 : decode cX8_spliceOn 111 = .ok (.iadd, 1) := by decide +kernel
theorem dX8_spliceOn_112 : decode cX8_spliceOn 112 = .ok (.iload_n 3, 1) := by decide +kernel
theorem dX8_spliceOn_113 : decode cX8_spliceOn 113 = .ok (.isub, 1) := by decide +kernel
theorem dX8_spliceOn_114 : decode cX8_spliceOn 114 = .ok (.invokestatic 74, 3) := by decide +kernel
theorem dX8_spliceOn_117 : decode cX8_spliceOn 117 = .ok (.aload_n 0, 1) := by decide +kernel
theorem dX8_spliceOn_118 : decode cX8_spliceOn 118 = .ok (.iload_n 1, 1) := by decide +kernel
theorem dX8_spliceOn_119 : decode cX8_spliceOn 119 = .ok (.iconst 3, 1) := by decide +kernel
theorem dX8_spliceOn_120 : decode cX8_spliceOn 120 = .ok (.iconst 0, 1) := by decide +kernel
theorem dX8_spliceOn_121 : decode cX8_spliceOn 121 = .ok (.invokestatic 74, 3) := by decide +kernel
theorem dX8_spliceOn_124 : decode cX8_spliceOn 124 = .ok (.iconst 0, 1) := by decide +kernel
theorem dX8_spliceOn_125 : decode cX8_spliceOn 125 = .ok (.ireturn, 1) := by decide +kernel
theorem dX8_unspliceOn_0 : decode cX8_unspliceOn 0 = .ok (.aload_n 0, 1) := by decide +kernel
theorem dX8_unspliceOn_1 : decode cX8_unspliceOn 1 = .ok (.iload_n 1, 1) := by decide +kernel
theorem dX8_unspliceOn_2 : decode cX8_unspliceOn 2 = .ok (.iconst 5, 1) := by decide +kernel
theorem dX8_unspliceOn_3 : decode cX8_unspliceOn 3 = .ok (.invokestatic 57, 3) := by decide +kernel
theorem dX8_unspliceOn_6 : decode cX8_unspliceOn 6 = .ok (.iconst 1, 1) := by decide +kernel
theorem dX8_unspliceOn_7 : decode cX8_unspliceOn 7 = .ok (.isub, 1) := by decide +kernel
theorem dX8_unspliceOn_8 : decode cX8_unspliceOn 8 = .ok (.istore_n 2, 1) := by decide +kernel
theorem dX8_unspliceOn_9 : decode cX8_unspliceOn 9 = .ok (.aload_n 0, 1) := by decide +kernel
theorem dX8_unspliceOn_10 : decode cX8_unspliceOn 10 = .ok (.iload_n 1, 1) := by decide +kernel
theorem dX8_unspliceOn_11 : decode cX8_unspliceOn 11 = .ok (.iconst 5, 1) := by decide +kernel
theorem dX8_unspliceOn_12 : decode cX8_unspliceOn 12 = .ok (.iload_n 2, 1) := by decide +kernel
theorem dX8_unspliceOn_13 : decode cX8_unspliceOn 13 = .ok (.invokestatic 74, 3) := by decide +kernel
theorem dX8_unspliceOn_16 : decode cX8_unspliceOn 16 = .ok (.aload_n 0, 1) := by decide +kernel
theorem dX8_unspliceOn_17 : decode cX8_unspliceOn 17 = .ok (.iload_n 1, 1) := by decide +kernel
theorem dX8_unspliceOn_18 : decode cX8_unspliceOn 18 = .ok (.iconst 0, 1) := by decide +kernel
theorem dX8_unspliceOn_19 : decode cX8_unspliceOn 19 = .ok (.aload_n 0, 1) := by decide +kernel
theorem dX8_unspliceOn_20 : decode cX8_unspliceOn 20 = .ok (.iload_n 1, 1) := by decide +kernel
theorem dX8_unspliceOn_21 : decode cX8_unspliceOn 21 = .ok (.iconst 0, 1) := by decide +kernel
theorem dX8_unspliceOn_22 : decode cX8_unspliceOn 22 = .ok (.invokestatic 57, 3) := by decide +kernel
theorem dX8_unspliceOn_25 : decode cX8_unspliceOn 25 = .ok (.aload_n 0, 1) := by decide +kernel
theorem dX8_unspliceOn_26 : decode cX8_unspliceOn 26 = .ok (.iload_n 1, 1) := by decide +kernel
theorem dX8_unspliceOn_27 : decode cX8_unspliceOn 27 = .ok (.bipush 6, 2) := by decide +kernel
theorem dX8_unspliceOn_29 : decode cX8_unspliceOn 29 = .ok (.iload_n 2, 1) := by decide +kernel
theorem dX8_unspliceOn_30 : decode cX8_unspliceOn 30 = .ok (.iadd, 1) := by decide +kernel
theorem dX8_unspliceOn_31 : decode cX8_unspliceOn 31 = .ok (.invokestatic 57, 3) := by decide +kernel
theorem dX8_unspliceOn_34 : decode cX8_unspliceOn 34 = .ok (.isub, 1) := by decide +kernel
theorem dX8_unspliceOn_35 : decode cX8_unspliceOn 35 = .ok (.invokestatic 74, 3) := by decide +kernel
theorem dX8_unspliceOn_38 : decode cX8_unspliceOn 38 = .ok (.aload_n 0, 1) := by decide +kernel
theorem dX8_unspliceOn_39 : decode cX8_unspliceOn 39 = .ok (.iload_n 1, 1) := by decide +kernel
theorem dX8_unspliceOn_40 : decode cX8_unspliceOn 40 = .ok (.iconst 3, 1) := by decide +kernel
theorem dX8_unspliceOn_41 : decode cX8_unspliceOn 41 = .ok (.iconst 0, 1) := by decide +kernel
theorem dX8_unspliceOn_42 : decode cX8_unspliceOn 42 = .ok (.invokestatic 74, 3) := by decide +kernel
theorem dX8_unspliceOn_45 : decode cX8_unspliceOn 45 = .ok (.aload_n 0, 1) := by decide +kernel
theorem dX8_unspliceOn_46 : decode cX8_unspliceOn 46 = .ok (.iload_n 1, 1) := by decide +kernel
theorem dX8_unspliceOn_47 : decode cX8_unspliceOn 47 = .ok (.iconst 0, 1) := by decide +kernel
theorem dX8_unspliceOn_48 : decode cX8_unspliceOn 48 = .ok (.invokestatic 57, 3) := by decide +kernel
theorem dX8_unspliceOn_51 : decode cX8_unspliceOn 51 = .ok (.ireturn, 1) := by decide +kernel
theorem dX8_speedOn_0 : decode cX8_speedOn 0 = .ok (.aload_n 0, 1) := by decide +kernel
theorem dX8_speedOn_1 : decode cX8_speedOn 1 = .ok (.iload_n 1, 1) := by decide +kernel
theorem dX8_speedOn_2 : decode cX8_speedOn 2 = .ok (.iconst 3, 1) := by decide +kernel
theorem dX8_speedOn_3 : decode cX8_speedOn 3 = .ok (.invokestatic 57, 3) := by decide +kernel
theorem dX8_speedOn_6 : decode cX8_speedOn 6 = .ok (.aload_n 0, 1) := by decide +kernel
theorem dX8_speedOn_7 : decode cX8_speedOn 7 = .ok (.iload_n 1, 1) := by decide +kernel
theorem dX8_speedOn_8 : decode cX8_speedOn 8 = .ok (.iconst 2, 1) := by decide +kernel
theorem dX8_speedOn_9 : decode cX8_speedOn 9 = .ok (.invokestatic 57, 3) := by decide +kernel
theorem dX8_speedOn_12 : decode cX8_speedOn 12 = .ok (.idiv, 1) := by decide +kernel
theorem dX8_speedOn_13 : decode cX8_speedOn 13 = .ok (.istore 4, 2) := by decide +kernel
theorem dX8_speedOn_15 : decode cX8_speedOn 15 = .ok (.aload_n 0, 1) := by decide +kernel
theorem dX8_speedOn_16 : decode cX8_speedOn 16 = .ok (.iload_n 1, 1) := by decide +kernel
theorem dX8_speedOn_17 : decode cX8_speedOn 17 = .ok (.iconst 1, 1) := by decide +kernel
theorem dX8_speedOn_18 : decode cX8_speedOn 18 = .ok (.iload_n 2, 1) := by decide +kernel
theorem dX8_speedOn_19 : decode cX8_speedOn 19 = .ok (.invokestatic 74, 3) := by decide +kernel
theorem dX8_speedOn_22 : decode cX8_speedOn 22 = .ok (.aload_n 0, 1) := by decide +kernel
theorem dX8_speedOn_23 : decode cX8_speedOn 23 = .ok (.iload_n 1, 1) := by decide +kernel
theorem dX8_speedOn_24 : decode cX8_speedOn 24 = .ok (.iconst 2, 1) := by decide +kernel
theorem dX8_speedOn_25 : decode cX8_speedOn 25 = .ok (.iload_n 3, 1) := by decide +kernel
theorem dX8_speedOn_26 : decode cX8_speedOn 26 = .ok (.invokestatic 74, 3) := by decide +kernel
theorem dX8_speedOn_29 : decode cX8_speedOn 29 = .ok (.aload_n 0, 1) := by decide +kernel
theorem dX8_speedOn_30 : decode cX8_speedOn 30 = .ok (.iload_n 1, 1) := by decide +kernel
theorem dX8_speedOn_31 : decode cX8_speedOn 31 = .ok (.iconst 3, 1) := by decide +kernel
theorem dX8_speedOn_32 : decode cX8_speedOn 32 = .ok (.iload 4, 2) := by decide +kernel
theorem dX8_speedOn_34 : decode cX8_speedOn 34 = .ok (.iload_n 3, 1) := by decide +kernel
theorem dX8_speedOn_35 : decode cX8_speedOn 35 = .ok (.imul, 1) := by decide +kernel
theorem dX8_speedOn_36 : decode cX8_speedOn 36 = .ok (.invokestatic 74, 3) := by decide +kernel
theorem dX8_speedOn_39 : decode cX8_speedOn 39 = .ok (.iload 4, 2) := by decide +kernel
theorem dX8_speedOn_41 : decode cX8_speedOn 41 = .ok (.iload_n 3, 1) := by decide +kernel
theorem dX8_speedOn_42 : decode cX8_speedOn 42 = .ok (.imul, 1) := by decide +kernel
theorem dX8_speedOn_43 : decode cX8_speedOn 43 = .ok (.ireturn, 1) := by decide +kernel
theorem dX8_muteOn_0 : decode cX8_muteOn 0 = .ok (.aload_n 0, 1) := by decide +kernel
theorem dX8_muteOn_1 : decode cX8_muteOn 1 = .ok (.iload_n 1, 1) := by decide +kernel
theorem dX8_muteOn_2 : decode cX8_muteOn 2 = .ok (.iconst 4, 1) := by decide +kernel
theorem dX8_muteOn_3 : decode cX8_muteOn 3 = .ok (.iload_n 2, 1) := by decide +kernel
theorem dX8_muteOn_4 : decode cX8_muteOn 4 = .ok (.ifCond .eq 7, 3) := by decide +kernel
theorem dX8_muteOn_7 : decode cX8_muteOn 7 = .ok (.iconst 1, 1) := by decide +kernel
theorem dX8_muteOn_8 : decode cX8_muteOn 8 = .ok (.goto 4, 3) := by decide +kernel
theorem dX8_muteOn_11 : decode cX8_muteOn 11 = .ok (.iconst 0, 1) := by decide +kernel
theorem dX8_muteOn_12 : decode cX8_muteOn 12 = .ok (.invokestatic 74, 3) := by decide +kernel
theorem dX8_muteOn_15 : decode cX8_muteOn 15 = .ok (.aload_n 0, 1) := by decide +kernel
theorem dX8_muteOn_16 : decode cX8_muteOn 16 = .ok (.lconst 0, 1) := by decide +kernel
theorem dX8_muteOn_17 : decode cX8_muteOn 17 = .ok (.invokestatic 78, 3) := by decide +kernel
theorem dX8_muteOn_20 : decode cX8_muteOn 20 = .ok (.ireturn, 1) := by decide +kernel
theorem dX8_recordOn_0 : decode cX8_recordOn 0 = .ok (.iconst 0, 1) := by decide +kernel
theorem dX8_recordOn_1 : decode cX8_recordOn 1 = .ok (.istore_n 3, 1) := by decide +kernel
theorem dX8_recordOn_2 : decode cX8_recordOn 2 = .ok (.iconst 0, 1) := by decide +kernel
theorem dX8_recordOn_3 : decode cX8_recordOn 3 = .ok (.istore 4, 2) := by decide +kernel
theorem dX8_recordOn_5 : decode cX8_recordOn 5 = .ok (.iload 4, 2) := by decide +kernel
theorem dX8_recordOn_7 : decode cX8_recordOn 7 = .ok (.iload_n 2, 1) := by decide +kernel
theorem dX8_recordOn_8 : decode cX8_recordOn 8 = .ok (.if_icmp .ge 58, 3) := by decide +kernel
theorem dX8_recordOn_11 : decode cX8_recordOn 11 = .ok (.aload_n 0, 1) := by decide +kernel
theorem dX8_recordOn_12 : decode cX8_recordOn 12 = .ok (.lconst 0, 1) := by decide +kernel
theorem dX8_recordOn_13 : decode cX8_recordOn 13 = .ok (.invokestatic 78, 3) := by decide +kernel
theorem dX8_recordOn_16 : decode cX8_recordOn 16 = .ok (.istore 5, 2) := by decide +kernel
theorem dX8_recordOn_18 : decode cX8_recordOn 18 = .ok (.iload 5, 2) := by decide +kernel
theorem dX8_recordOn_20 : decode cX8_recordOn 20 = .ok (.bipush 9, 2) := by decide +kernel
theorem dX8_recordOn_22 : decode cX8_recordOn 22 = .ok (.if_icmp .le 8, 3) := by decide +kernel
theorem dX8_recordOn_25 : decode cX8_recordOn 25 = .ok (.bipush 9, 2) := by decide +kernel
theorem dX8_recordOn_27 : decode cX8_recordOn 27 = .ok (.goto 5, 3) := by decide +kernel
theorem dX8_recordOn_30 : decode cX8_recordOn 30 = .ok (.iload 5, 2) := by decide +kernel
theorem dX8_recordOn_32 : decode cX8_recordOn 32 = .ok (.istore 5, 2) := by decide +kernel
theorem dX8_recordOn_34 : decode cX8_recordOn 34 = .ok (.aload_n 0, 1) := by decide +kernel
theorem dX8_recordOn_35 : decode cX8_recordOn 35 = .ok (.iconst 4, 1) := by decide +kernel
theorem dX8_recordOn_36 : decode cX8_recordOn 36 = .ok (.bipush 61, 2) := by decide +kernel
theorem dX8_recordOn_38 : decode cX8_recordOn 38 = .ok (.iload_n 1, 1) := by decide +kernel
theorem dX8_recordOn_39 : decode cX8_recordOn 39 = .ok (.imul, 1) := by decide +kernel
theorem dX8_recordOn_40 : decode cX8_recordOn 40 = .ok (.iadd, 1) := by decide +kernel
theorem dX8_recordOn_41 : decode cX8_recordOn 41 = .ok (.iconst 1, 1) := by decide +kernel
theorem dX8_recordOn_42 : decode cX8_recordOn 42 = .ok (.iadd, 1) := by decide +kernel
theorem dX8_recordOn_43 : decode cX8_recordOn 43 = .ok (.iload 4, 2) := by decide +kernel
theorem dX8_recordOn_45 : decode cX8_recordOn 45 = .ok (.iadd, 1) := by decide +kernel
theorem dX8_recordOn_46 : decode cX8_recordOn 46 = .ok (.iload 5, 2) := by decide +kernel
theorem dX8_recordOn_48 : decode cX8_recordOn 48 = .ok (.iastore, 1) := by decide +kernel
theorem dX8_recordOn_49 : decode cX8_recordOn 49 = .ok (.iload_n 3, 1) := by decide +kernel
theorem dX8_recordOn_50 : decode cX8_recordOn 50 = .ok (.iload 5, 2) := by decide +kernel
theorem dX8_recordOn_52 : decode cX8_recordOn 52 = .ok (.iadd, 1) := by decide +kernel
theorem dX8_recordOn_53 : decode cX8_recordOn 53 = .ok (.istore_n 3, 1) := by decide +kernel
theorem dX8_recordOn_54 : decode cX8_recordOn 54 = .ok (.aload_n 0, 1) := by decide +kernel
theorem dX8_recordOn_55 : decode cX8_recordOn 55 = .ok (.iconst 1, 1) := by decide +kernel
theorem dX8_recordOn_56 : decode cX8_recordOn 56 = .ok (.invokestatic 90, 3) := by decide +kernel
theorem dX8_recordOn_59 : decode cX8_recordOn 59 = .ok (.pop, 1) := by decide +kernel
theorem dX8_recordOn_60 : decode cX8_recordOn 60 = .ok (.iinc 4 1, 3) := by decide +kernel
theorem dX8_recordOn_63 : decode cX8_recordOn 63 = .ok (.goto (-58), 3) := by decide +kernel
theorem dX8_recordOn_66 : decode cX8_recordOn 66 = .ok (.iload_n 3, 1) := by decide +kernel
theorem dX8_recordOn_67 : decode cX8_recordOn 67 = .ok (.ireturn, 1) := by decide +kernel
theorem dX8_append_0 : decode cX8_append 0 = .ok (.aload_n 0, 1) := by decide +kernel
theorem dX8_append_1 : decode cX8_append 1 = .ok (.iload_n 1, 1) := by decide +kernel
theorem dX8_append_2 : decode cX8_append 2 = .ok (.i2l, 1) := by decide +kernel
theorem dX8_append_3 : decode cX8_append 3 = .ok (.lconst 0, 1) := by decide +kernel
theorem dX8_append_4 : decode cX8_append 4 = .ok (.ldc2_w 93, 3) := by decide +kernel
theorem dX8_append_7 : decode cX8_append 7 = .ok (.invokestatic 37, 3) := by decide +kernel
theorem dX8_append_10 : decode cX8_append 10 = .ok (.ifCond .ne 7, 3) := by decide +kernel
theorem dX8_append_13 : decode cX8_append 13 = .ok (.iconst 1, 1) := by decide +kernel
theorem dX8_append_14 : decode cX8_append 14 = .ok (.goto 17, 3) := by decide +kernel
theorem dX8_append_17 : decode cX8_append 17 = .ok (.aload_n 0, 1) := by decide +kernel
theorem dX8_append_18 : decode cX8_append 18 = .ok (.getfield 95, 3) := by decide +kernel
theorem dX8_append_21 : decode cX8_append 21 = .ok (.bipush 120, 2) := by decide +kernel
theorem dX8_append_23 : decode cX8_append 23 = .ok (.if_icmp .ne 7, 3) := by decide +kernel
theorem dX8_append_26 : decode cX8_append 26 = .ok (.iconst 2, 1) := by decide +kernel
theorem dX8_append_27 : decode cX8_append 27 = .ok (.goto 4, 3) := by decide +kernel
theorem dX8_append_30 : decode cX8_append 30 = .ok (.iconst 0, 1) := by decide +kernel
theorem dX8_append_31 : decode cX8_append 31 = .ok (.invokevirtual 98, 3) := by decide +kernel
theorem dX8_append_34 : decode cX8_append 34 = .ok (.ifCond .eq 5, 3) := by decide +kernel
theorem dX8_append_37 : decode cX8_append 37 = .ok (.iconst 0, 1) := by decide +kernel
theorem dX8_append_38 : decode cX8_append 38 = .ok (.ireturn, 1) := by decide +kernel
theorem dX8_append_39 : decode cX8_append 39 = .ok (.aload_n 0, 1) := by decide +kernel
theorem dX8_append_40 : decode cX8_append 40 = .ok (.getfield 7, 3) := by decide +kernel
theorem dX8_append_43 : decode cX8_append 43 = .ok (.aload_n 0, 1) := by decide +kernel
theorem dX8_append_44 : decode cX8_append 44 = .ok (.getfield 95, 3) := by decide +kernel
theorem dX8_append_47 : decode cX8_append 47 = .ok (.iload_n 1, 1) := by decide +kernel
theorem dX8_append_48 : decode cX8_append 48 = .ok (.iastore, 1) := by decide +kernel
theorem dX8_append_49 : decode cX8_append 49 = .ok (.aload_n 0, 1) := by decide +kernel
theorem dX8_append_50 : decode cX8_append 50 = .ok (.dup, 1) := by decide +kernel
theorem dX8_append_51 : decode cX8_append 51 = .ok (.getfield 95, 3) := by decide +kernel
theorem dX8_append_54 : decode cX8_append 54 = .ok (.iconst 1, 1) := by decide +kernel
theorem dX8_append_55 : decode cX8_append 55 = .ok (.iadd, 1) := by decide +kernel
theorem dX8_append_56 : decode cX8_append 56 = .ok (.putfield 95, 3) := by decide +kernel
theorem dX8_append_59 : decode cX8_append 59 = .ok (.aload_n 0, 1) := by decide +kernel
theorem dX8_append_60 : decode cX8_append 60 = .ok (.getfield 95, 3) := by decide +kernel
theorem dX8_append_63 : decode cX8_append 63 = .ok (.ireturn, 1) := by decide +kernel
theorem dX8_clearText_0 : decode cX8_clearText 0 = .ok (.aload_n 0, 1) := by decide +kernel
theorem dX8_clearText_1 : decode cX8_clearText 1 = .ok (.iconst 0, 1) := by decide +kernel
theorem dX8_clearText_2 : decode cX8_clearText 2 = .ok (.putfield 33, 3) := by decide +kernel
theorem dX8_clearText_5 : decode cX8_clearText 5 = .ok (.aload_n 0, 1) := by decide +kernel
theorem dX8_clearText_6 : decode cX8_clearText 6 = .ok (.getfield 95, 3) := by decide +kernel
theorem dX8_clearText_9 : decode cX8_clearText 9 = .ok (.istore_n 1, 1) := by decide +kernel
theorem dX8_clearText_10 : decode cX8_clearText 10 = .ok (.aload_n 0, 1) := by decide +kernel
theorem dX8_clearText_11 : decode cX8_clearText 11 = .ok (.iconst 0, 1) := by decide +kernel
theorem dX8_clearText_12 : decode cX8_clearText 12 = .ok (.putfield 95, 3) := by decide +kernel
theorem dX8_clearText_15 : decode cX8_clearText 15 = .ok (.iload_n 1, 1) := by decide +kernel
theorem dX8_clearText_16 : decode cX8_clearText 16 = .ok (.ireturn, 1) := by decide +kernel
theorem dX8_figures_0 : decode cX8_figures 0 = .ok (.iconst 0, 1) := by decide +kernel
theorem dX8_figures_1 : decode cX8_figures 1 = .ok (.istore 5, 2) := by decide +kernel
theorem dX8_figures_3 : decode cX8_figures 3 = .ok (.iload_n 2, 1) := by decide +kernel
theorem dX8_figures_4 : decode cX8_figures 4 = .ok (.iconst 3, 1) := by decide +kernel
theorem dX8_figures_5 : decode cX8_figures 5 = .ok (.if_icmp .ne 8, 3) := by decide +kernel
theorem dX8_figures_8 : decode cX8_figures 8 = .ok (.bipush 100, 2) := by decide +kernel
theorem dX8_figures_10 : decode cX8_figures 10 = .ok (.goto 14, 3) := by decide +kernel
theorem dX8_figures_13 : decode cX8_figures 13 = .ok (.iload_n 2, 1) := by decide +kernel
theorem dX8_figures_14 : decode cX8_figures 14 = .ok (.iconst 2, 1) := by decide +kernel
theorem dX8_figures_15 : decode cX8_figures 15 = .ok (.if_icmp .ne 8, 3) := by decide +kernel
theorem dX8_figures_18 : decode cX8_figures 18 = .ok (.bipush 10, 2) := by decide +kernel
theorem dX8_figures_20 : decode cX8_figures 20 = .ok (.goto 4, 3) := by decide +kernel
theorem dX8_figures_23 : decode cX8_figures 23 = .ok (.iconst 1, 1) := by decide +kernel
theorem dX8_figures_24 : decode cX8_figures 24 = .ok (.istore 6, 2) := by decide +kernel
theorem dX8_figures_26 : decode cX8_figures 26 = .ok (.iload 6, 2) := by decide +kernel
theorem dX8_figures_28 : decode cX8_figures 28 = .ok (.ifCond .le 104, 3) := by decide +kernel
theorem dX8_figures_31 : decode cX8_figures 31 = .ok (.iload_n 1, 1) := by decide +kernel
theorem dX8_figures_32 : decode cX8_figures 32 = .ok (.iconst (-1), 1) := by decide +kernel
theorem dX8_figures_33 : decode cX8_figures 33 = .ok (.if_icmp .eq 99, 3) := by decide +kernel
theorem dX8_figures_36 : decode cX8_figures 36 = .ok (.aload_n 0, 1) := by decide +kernel
theorem dX8_figures_37 : decode cX8_figures 37 = .ok (.getfield 102, 3) := by decide +kernel
theorem dX8_figures_40 : decode cX8_figures 40 = .ok (.aload_n 0, 1) := by decide +kernel
theorem dX8_figures_41 : decode cX8_figures 41 = .ok (.getfield 95, 3) := by decide +kernel
theorem dX8_figures_44 : decode cX8_figures 44 = .ok (.if_icmp .ge 18, 3) := by decide +kernel
theorem dX8_figures_47 : decode cX8_figures 47 = .ok (.aload_n 0, 1) := by decide +kernel
theorem dX8_figures_48 : decode cX8_figures 48 = .ok (.getfield 7, 3) := by decide +kernel
theorem dX8_figures_51 : decode cX8_figures 51 = .ok (.aload_n 0, 1) := by decide +kernel
theorem dX8_figures_52 : decode cX8_figures 52 = .ok (.getfield 102, 3) := by decide +kernel
theorem dX8_figures_55 : decode cX8_figures 55 = .ok (.iaload, 1) := by decide +kernel
theorem dX8_figures_56 : decode cX8_figures 56 = .ok (.bipush 48, 2) := by decide +kernel
theorem dX8_figures_58 : decode cX8_figures 58 = .ok (.isub, 1) := by decide +kernel
theorem dX8_figures_59 : decode cX8_figures 59 = .ok (.goto 4, 3) := by decide +kernel
theorem dX8_figures_62 : decode cX8_figures 62 = .ok (.iconst (-1), 1) := by decide +kernel
theorem dX8_figures_63 : decode cX8_figures 63 = .ok (.istore 7, 2) := by decide +kernel
theorem dX8_figures_65 : decode cX8_figures 65 = .ok (.iload 5, 2) := by decide +kernel
theorem dX8_figures_67 : decode cX8_figures 67 = .ok (.iload 7, 2) := by decide +kernel
theorem dX8_figures_69 : decode cX8_figures 69 = .ok (.iload 6, 2) := by decide +kernel
theorem dX8_figures_71 : decode cX8_figures 71 = .ok (.imul, 1) := by decide +kernel
theorem dX8_figures_72 : decode cX8_figures 72 = .ok (.iadd, 1) := by decide +kernel
theorem dX8_figures_73 : decode cX8_figures 73 = .ok (.istore 8, 2) := by decide +kernel
theorem dX8_figures_75 : decode cX8_figures 75 = .ok (.iload 7, 2) := by decide +kernel
theorem dX8_figures_77 : decode cX8_figures 77 = .ok (.i2l, 1) := by decide +kernel
theorem dX8_figures_78 : decode cX8_figures 78 = .ok (.lconst 0, 1) := by decide +kernel
theorem dX8_figures_79 : decode cX8_figures 79 = .ok (.ldc2_w 105, 3) := by decide +kernel
theorem dX8_figures_82 : decode cX8_figures 82 = .ok (.invokestatic 37, 3) := by decide +kernel
theorem dX8_figures_85 : decode cX8_figures 85 = .ok (.ifCond .eq 21, 3) := by decide +kernel
theorem dX8_figures_88 : decode cX8_figures 88 = .ok (.iload 8, 2) := by decide +kernel
theorem dX8_figures_90 : decode cX8_figures 90 = .ok (.iload 4, 2) := by decide +kernel
theorem dX8_figures_92 : decode cX8_figures 92 = .ok (.if_icmp .gt 14, 3) := by decide +kernel
theorem dX8_figures_95 : decode cX8_figures 95 = .ok (.iload 8, 2) := by decide +kernel
theorem dX8_figures_97 : decode cX8_figures 97 = .ok (.iload 6, 2) := by decide +kernel
theorem dX8_figures_99 : decode cX8_figures 99 = .ok (.iadd, 1) := by decide +kernel
theorem dX8_figures_100 : decode cX8_figures 100 = .ok (.iconst 1, 1) := by decide +kernel
theorem dX8_figures_101 : decode cX8_figures 101 = .ok (.isub, 1) := by decide +kernel
theorem dX8_figures_102 : decode cX8_figures 102 = .ok (.iload_n 3, 1) := by decide +kernel
theorem dX8_figures_103 : decode cX8_figures 103 = .ok (.if_icmp .ge 5, 3) := by decide +kernel
theorem dX8_figures_106 : decode cX8_figures 106 = .ok (.iconst (-1), 1) := by decide +kernel
theorem dX8_figures_107 : decode cX8_figures 107 = .ok (.ireturn, 1) := by decide +kernel
theorem dX8_figures_108 : decode cX8_figures 108 = .ok (.iload 8, 2) := by decide +kernel
theorem dX8_figures_110 : decode cX8_figures 110 = .ok (.istore 5, 2) := by decide +kernel
theorem dX8_figures_112 : decode cX8_figures 112 = .ok (.aload_n 0, 1) := by decide +kernel
theorem dX8_figures_113 : decode cX8_figures 113 = .ok (.dup, 1) := by decide +kernel
theorem dX8_figures_114 : decode cX8_figures 114 = .ok (.getfield 102, 3) := by decide +kernel
theorem dX8_figures_117 : decode cX8_figures 117 = .ok (.iconst 1, 1) := by decide +kernel
theorem dX8_figures_118 : decode cX8_figures 118 = .ok (.iadd, 1) := by decide +kernel
theorem dX8_figures_119 : decode cX8_figures 119 = .ok (.putfield 102, 3) := by decide +kernel
theorem dX8_figures_122 : decode cX8_figures 122 = .ok (.iload 6, 2) := by decide +kernel
theorem dX8_figures_124 : decode cX8_figures 124 = .ok (.bipush 10, 2) := by decide +kernel
theorem dX8_figures_126 : decode cX8_figures 126 = .ok (.idiv, 1) := by decide +kernel
theorem dX8_figures_127 : decode cX8_figures 127 = .ok (.istore 6, 2) := by decide +kernel
theorem dX8_figures_129 : decode cX8_figures 129 = .ok (.goto (-103), 3) := by decide +kernel
theorem dX8_figures_132 : decode cX8_figures 132 = .ok (.iload_n 1, 1) := by decide +kernel
theorem dX8_figures_133 : decode cX8_figures 133 = .ok (.iconst (-1), 1) := by decide +kernel
theorem dX8_figures_134 : decode cX8_figures 134 = .ok (.if_icmp .ne 7, 3) := by decide +kernel
theorem dX8_figures_137 : decode cX8_figures 137 = .ok (.iconst (-1), 1) := by decide +kernel
theorem dX8_figures_138 : decode cX8_figures 138 = .ok (.goto 5, 3) := by decide +kernel
theorem dX8_figures_141 : decode cX8_figures 141 = .ok (.iload 5, 2) := by decide +kernel
theorem dX8_figures_143 : decode cX8_figures 143 = .ok (.ireturn, 1) := by decide +kernel
theorem dX8_done_0 : decode cX8_done 0 = .ok (.aload_n 0, 1) := by decide +kernel
theorem dX8_done_1 : decode cX8_done 1 = .ok (.dup, 1) := by decide +kernel
theorem dX8_done_2 : decode cX8_done 2 = .ok (.getfield 107, 3) := by decide +kernel
theorem dX8_done_5 : decode cX8_done 5 = .ok (.iload_n 1, 1) := by decide +kernel
theorem dX8_done_6 : decode cX8_done 6 = .ok (.ifCond .eq 7, 3) := by decide +kernel
theorem dX8_done_9 : decode cX8_done 9 = .ok (.iconst 0, 1) := by decide +kernel
theorem dX8_done_10 : decode cX8_done 10 = .ok (.goto 4, 3) := by decide +kernel
theorem dX8_done_13 : decode cX8_done 13 = .ok (.iconst 1, 1) := by decide +kernel
theorem dX8_done_14 : decode cX8_done 14 = .ok (.iadd, 1) := by decide +kernel
theorem dX8_done_15 : decode cX8_done 15 = .ok (.putfield 107, 3) := by decide +kernel
theorem dX8_done_18 : decode cX8_done 18 = .ok (.iconst 1, 1) := by decide +kernel
theorem dX8_done_19 : decode cX8_done 19 = .ok (.ireturn, 1) := by decide +kernel
theorem dX8_reelSign_0 : decode cX8_reelSign 0 = .ok (.aload_n 0, 1) := by decide +kernel
theorem dX8_reelSign_1 : decode cX8_reelSign 1 = .ok (.iload_n 1, 1) := by decide +kernel
theorem dX8_reelSign_2 : decode cX8_reelSign 2 = .ok (.iconst 1, 1) := by decide +kernel
theorem dX8_reelSign_3 : decode cX8_reelSign 3 = .ok (.iconst 0, 1) := by decide +kernel
theorem dX8_reelSign_4 : decode cX8_reelSign 4 = .ok (.iconst 2, 1) := by decide +kernel
theorem dX8_reelSign_5 : decode cX8_reelSign 5 = .ok (.invokevirtual 110, 3) := by decide +kernel
theorem dX8_reelSign_8 : decode cX8_reelSign 8 = .ok (.ireturn, 1) := by decide +kernel
theorem dX8_loopSign_0 : decode cX8_loopSign 0 = .ok (.aload_n 0, 1) := by decide +kernel
theorem dX8_loopSign_1 : decode cX8_loopSign 1 = .ok (.iload_n 1, 1) := by decide +kernel
theorem dX8_loopSign_2 : decode cX8_loopSign 2 = .ok (.iconst 1, 1) := by decide +kernel
theorem dX8_loopSign_3 : decode cX8_loopSign 3 = .ok (.iconst 0, 1) := by decide +kernel
theorem dX8_loopSign_4 : decode cX8_loopSign 4 = .ok (.iconst 3, 1) := by decide +kernel
theorem dX8_loopSign_5 : decode cX8_loopSign 5 = .ok (.invokevirtual 110, 3) := by decide +kernel
theorem dX8_loopSign_8 : decode cX8_loopSign 8 = .ok (.ireturn, 1) := by decide +kernel
theorem dX8_placeSign_0 : decode cX8_placeSign 0 = .ok (.aload_n 0, 1) := by decide +kernel
theorem dX8_placeSign_1 : decode cX8_placeSign 1 = .ok (.iload_n 1, 1) := by decide +kernel
theorem dX8_placeSign_2 : decode cX8_placeSign 2 = .ok (.iconst 2, 1) := by decide +kernel
theorem dX8_placeSign_3 : decode cX8_placeSign 3 = .ok (.iconst 0, 1) := by decide +kernel
theorem dX8_placeSign_4 : decode cX8_placeSign 4 = .ok (.bipush 60, 2) := by decide +kernel
theorem dX8_placeSign_6 : decode cX8_placeSign 6 = .ok (.invokevirtual 110, 3) := by decide +kernel
theorem dX8_placeSign_9 : decode cX8_placeSign 9 = .ok (.ireturn, 1) := by decide +kernel
theorem dX8_readPaint_0 : decode cX8_readPaint 0 = .ok (.aload_n 0, 1) := by decide +kernel
theorem dX8_readPaint_1 : decode cX8_readPaint 1 = .ok (.iconst 0, 1) := by decide +kernel
theorem dX8_readPaint_2 : decode cX8_readPaint 2 = .ok (.invokevirtual 114, 3) := by decide +kernel
theorem dX8_readPaint_5 : decode cX8_readPaint 5 = .ok (.istore_n 2, 1) := by decide +kernel
theorem dX8_readPaint_6 : decode cX8_readPaint 6 = .ok (.aload_n 0, 1) := by decide +kernel
theorem dX8_readPaint_7 : decode cX8_readPaint 7 = .ok (.iload_n 2, 1) := by decide +kernel
theorem dX8_readPaint_8 : decode cX8_readPaint 8 = .ok (.invokevirtual 118, 3) := by decide +kernel
theorem dX8_readPaint_11 : decode cX8_readPaint 11 = .ok (.istore_n 3, 1) := by decide +kernel
theorem dX8_readPaint_12 : decode cX8_readPaint 12 = .ok (.aload_n 0, 1) := by decide +kernel
theorem dX8_readPaint_13 : decode cX8_readPaint 13 = .ok (.iload_n 3, 1) := by decide +kernel
theorem dX8_readPaint_14 : decode cX8_readPaint 14 = .ok (.invokevirtual 118, 3) := by decide +kernel
theorem dX8_readPaint_17 : decode cX8_readPaint 17 = .ok (.istore 4, 2) := by decide +kernel
theorem dX8_readPaint_19 : decode cX8_readPaint 19 = .ok (.aload_n 0, 1) := by decide +kernel
theorem dX8_readPaint_20 : decode cX8_readPaint 20 = .ok (.iload 4, 2) := by decide +kernel
theorem dX8_readPaint_22 : decode cX8_readPaint 22 = .ok (.iconst 1, 1) := by decide +kernel
theorem dX8_readPaint_23 : decode cX8_readPaint 23 = .ok (.iconst 0, 1) := by decide +kernel
theorem dX8_readPaint_24 : decode cX8_readPaint 24 = .ok (.bipush 9, 2) := by decide +kernel
theorem dX8_readPaint_26 : decode cX8_readPaint 26 = .ok (.invokevirtual 110, 3) := by decide +kernel
theorem dX8_readPaint_29 : decode cX8_readPaint 29 = .ok (.istore 5, 2) := by decide +kernel
theorem dX8_readPaint_31 : decode cX8_readPaint 31 = .ok (.iload 5, 2) := by decide +kernel
theorem dX8_readPaint_33 : decode cX8_readPaint 33 = .ok (.iconst (-1), 1) := by decide +kernel
theorem dX8_readPaint_34 : decode cX8_readPaint 34 = .ok (.if_icmp .eq 57, 3) := by decide +kernel
theorem dX8_readPaint_37 : decode cX8_readPaint 37 = .ok (.aload_n 0, 1) := by decide +kernel
theorem dX8_readPaint_38 : decode cX8_readPaint 38 = .ok (.aload_n 1, 1) := by decide +kernel
theorem dX8_readPaint_39 : decode cX8_readPaint 39 = .ok (.iload_n 2, 1) := by decide +kernel
theorem dX8_readPaint_40 : decode cX8_readPaint 40 = .ok (.iload_n 3, 1) := by decide +kernel
theorem dX8_readPaint_41 : decode cX8_readPaint 41 = .ok (.invokestatic 121, 3) := by decide +kernel
theorem dX8_readPaint_44 : decode cX8_readPaint 44 = .ok (.ifCond .eq 36, 3) := by decide +kernel
theorem dX8_readPaint_47 : decode cX8_readPaint 47 = .ok (.aload_n 1, 1) := by decide +kernel
theorem dX8_readPaint_48 : decode cX8_readPaint 48 = .ok (.iload_n 2, 1) := by decide +kernel
theorem dX8_readPaint_49 : decode cX8_readPaint 49 = .ok (.iload 4, 2) := by decide +kernel
theorem dX8_readPaint_51 : decode cX8_readPaint 51 = .ok (.invokestatic 121, 3) := by decide +kernel
theorem dX8_readPaint_54 : decode cX8_readPaint 54 = .ok (.ifCond .eq 26, 3) := by decide +kernel
theorem dX8_readPaint_57 : decode cX8_readPaint 57 = .ok (.iload_n 3, 1) := by decide +kernel
theorem dX8_readPaint_58 : decode cX8_readPaint 58 = .ok (.iload 4, 2) := by decide +kernel
theorem dX8_readPaint_60 : decode cX8_readPaint 60 = .ok (.if_icmp .gt 20, 3) := by decide +kernel
theorem dX8_readPaint_63 : decode cX8_readPaint 63 = .ok (.aload_n 1, 1) := by decide +kernel
theorem dX8_readPaint_64 : decode cX8_readPaint 64 = .ok (.iload_n 2, 1) := by decide +kernel
theorem dX8_readPaint_65 : decode cX8_readPaint 65 = .ok (.iload_n 3, 1) := by decide +kernel
theorem dX8_readPaint_66 : decode cX8_readPaint 66 = .ok (.iload 4, 2) := by decide +kernel
theorem dX8_readPaint_68 : decode cX8_readPaint 68 = .ok (.iload 5, 2) := by decide +kernel
theorem dX8_readPaint_70 : decode cX8_readPaint 70 = .ok (.invokestatic 124, 3) := by decide +kernel
theorem dX8_readPaint_73 : decode cX8_readPaint 73 = .ok (.ifCond .lt 7, 3) := by decide +kernel
theorem dX8_readPaint_76 : decode cX8_readPaint 76 = .ok (.iconst 1, 1) := by decide +kernel
theorem dX8_readPaint_77 : decode cX8_readPaint 77 = .ok (.goto 4, 3) := by decide +kernel
theorem dX8_readPaint_80 : decode cX8_readPaint 80 = .ok (.iconst 0, 1) := by decide +kernel
theorem dX8_readPaint_81 : decode cX8_readPaint 81 = .ok (.invokevirtual 127, 3) := by decide +kernel
theorem dX8_readPaint_84 : decode cX8_readPaint 84 = .ok (.ifCond .eq 7, 3) := by decide +kernel
theorem dX8_readPaint_87 : decode cX8_readPaint 87 = .ok (.iconst 1, 1) := by decide +kernel
theorem dX8_readPaint_88 : decode cX8_readPaint 88 = .ok (.goto 4, 3) := by decide +kernel
theorem dX8_readPaint_91 : decode cX8_readPaint 91 = .ok (.iconst 0, 1) := by decide +kernel
theorem dX8_readPaint_92 : decode cX8_readPaint 92 = .ok (.ireturn, 1) := by decide +kernel
theorem dX8_readSplice_0 : decode cX8_readSplice 0 = .ok (.aload_n 0, 1) := by decide +kernel
theorem dX8_readSplice_1 : decode cX8_readSplice 1 = .ok (.iconst 0, 1) := by decide +kernel
theorem dX8_readSplice_2 : decode cX8_readSplice 2 = .ok (.invokevirtual 131, 3) := by decide +kernel
theorem dX8_readSplice_5 : decode cX8_readSplice 5 = .ok (.istore_n 2, 1) := by decide +kernel
theorem dX8_readSplice_6 : decode cX8_readSplice 6 = .ok (.aload_n 0, 1) := by decide +kernel
theorem dX8_readSplice_7 : decode cX8_readSplice 7 = .ok (.iload_n 2, 1) := by decide +kernel
theorem dX8_readSplice_8 : decode cX8_readSplice 8 = .ok (.invokevirtual 114, 3) := by decide +kernel
theorem dX8_readSplice_11 : decode cX8_readSplice 11 = .ok (.istore_n 3, 1) := by decide +kernel
theorem dX8_readSplice_12 : decode cX8_readSplice 12 = .ok (.aload_n 0, 1) := by decide +kernel
theorem dX8_readSplice_13 : decode cX8_readSplice 13 = .ok (.iload_n 3, 1) := by decide +kernel
theorem dX8_readSplice_14 : decode cX8_readSplice 14 = .ok (.invokevirtual 118, 3) := by decide +kernel
theorem dX8_readSplice_17 : decode cX8_readSplice 17 = .ok (.istore 4, 2) := by decide +kernel
theorem dX8_readSplice_19 : decode cX8_readSplice 19 = .ok (.aload_n 0, 1) := by decide +kernel
theorem dX8_readSplice_20 : decode cX8_readSplice 20 = .ok (.iload 4, 2) := by decide +kernel
theorem dX8_readSplice_22 : decode cX8_readSplice 22 = .ok (.invokevirtual 118, 3) := by decide +kernel
theorem dX8_readSplice_25 : decode cX8_readSplice 25 = .ok (.istore 5, 2) := by decide +kernel
theorem dX8_readSplice_27 : decode cX8_readSplice 27 = .ok (.iload 5, 2) := by decide +kernel
theorem dX8_readSplice_29 : decode cX8_readSplice 29 = .ok (.iconst (-1), 1) := by decide +kernel
theorem dX8_readSplice_30 : decode cX8_readSplice 30 = .ok (.if_icmp .eq 73, 3) := by decide +kernel
theorem dX8_readSplice_33 : decode cX8_readSplice 33 = .ok (.aload_n 0, 1) := by decide +kernel
theorem dX8_readSplice_34 : decode cX8_readSplice 34 = .ok (.aload_n 1, 1) := by decide +kernel
theorem dX8_readSplice_35 : decode cX8_readSplice 35 = .ok (.iload_n 2, 1) := by decide +kernel
theorem dX8_readSplice_36 : decode cX8_readSplice 36 = .ok (.invokestatic 134, 3) := by decide +kernel
theorem dX8_readSplice_39 : decode cX8_readSplice 39 = .ok (.ifCond .eq 53, 3) := by decide +kernel
theorem dX8_readSplice_42 : decode cX8_readSplice 42 = .ok (.aload_n 1, 1) := by decide +kernel
theorem dX8_readSplice_43 : decode cX8_readSplice 43 = .ok (.iload_n 3, 1) := by decide +kernel
theorem dX8_readSplice_44 : decode cX8_readSplice 44 = .ok (.iload 4, 2) := by decide +kernel
theorem dX8_readSplice_46 : decode cX8_readSplice 46 = .ok (.invokestatic 137, 3) := by decide +kernel
theorem dX8_readSplice_49 : decode cX8_readSplice 49 = .ok (.ifCond .eq 43, 3) := by decide +kernel
theorem dX8_readSplice_52 : decode cX8_readSplice 52 = .ok (.aload_n 1, 1) := by decide +kernel
theorem dX8_readSplice_53 : decode cX8_readSplice 53 = .ok (.iload_n 3, 1) := by decide +kernel
theorem dX8_readSplice_54 : decode cX8_readSplice 54 = .ok (.iload 5, 2) := by decide +kernel
theorem dX8_readSplice_56 : decode cX8_readSplice 56 = .ok (.invokestatic 137, 3) := by decide +kernel
theorem dX8_readSplice_59 : decode cX8_readSplice 59 = .ok (.ifCond .eq 33, 3) := by decide +kernel
theorem dX8_readSplice_62 : decode cX8_readSplice 62 = .ok (.aload_n 1, 1) := by decide +kernel
theorem dX8_readSplice_63 : decode cX8_readSplice 63 = .ok (.iload_n 2, 1) := by decide +kernel
theorem dX8_readSplice_64 : decode cX8_readSplice 64 = .ok (.iload_n 3, 1) := by decide +kernel
theorem dX8_readSplice_65 : decode cX8_readSplice 65 = .ok (.iload 4, 2) := by decide +kernel
theorem dX8_readSplice_67 : decode cX8_readSplice 67 = .ok (.iload 5, 2) := by decide +kernel
theorem dX8_readSplice_69 : decode cX8_readSplice 69 = .ok (.invokestatic 86, 3) := by decide +kernel
theorem dX8_readSplice_72 : decode cX8_readSplice 72 = .ok (.ifCond .ne 20, 3) := by decide +kernel
theorem dX8_readSplice_75 : decode cX8_readSplice 75 = .ok (.aload_n 1, 1) := by decide +kernel
theorem dX8_readSplice_76 : decode cX8_readSplice 76 = .ok (.iload_n 2, 1) := by decide +kernel
theorem dX8_readSplice_77 : decode cX8_readSplice 77 = .ok (.iload_n 3, 1) := by decide +kernel
theorem dX8_readSplice_78 : decode cX8_readSplice 78 = .ok (.iload 4, 2) := by decide +kernel
theorem dX8_readSplice_80 : decode cX8_readSplice 80 = .ok (.iload 5, 2) := by decide +kernel
theorem dX8_readSplice_82 : decode cX8_readSplice 82 = .ok (.invokestatic 140, 3) := by decide +kernel
theorem dX8_readSplice_85 : decode cX8_readSplice 85 = .ok (.ifCond .ne 7, 3) := by decide +kernel
theorem dX8_readSplice_88 : decode cX8_readSplice 88 = .ok (.iconst 1, 1) := by decide +kernel
theorem dX8_readSplice_89 : decode cX8_readSplice 89 = .ok (.goto 4, 3) := by decide +kernel
theorem dX8_readSplice_92 : decode cX8_readSplice 92 = .ok (.iconst 0, 1) := by decide +kernel
theorem dX8_readSplice_93 : decode cX8_readSplice 93 = .ok (.invokevirtual 127, 3) := by decide +kernel
theorem dX8_readSplice_96 : decode cX8_readSplice 96 = .ok (.ifCond .eq 7, 3) := by decide +kernel
theorem dX8_readSplice_99 : decode cX8_readSplice 99 = .ok (.iconst 1, 1) := by decide +kernel
theorem dX8_readSplice_100 : decode cX8_readSplice 100 = .ok (.goto 4, 3) := by decide +kernel
theorem dX8_readSplice_103 : decode cX8_readSplice 103 = .ok (.iconst 0, 1) := by decide +kernel
theorem dX8_readSplice_104 : decode cX8_readSplice 104 = .ok (.ireturn, 1) := by decide +kernel
theorem dX8_readSpeed_0 : decode cX8_readSpeed 0 = .ok (.aload_n 0, 1) := by decide +kernel
theorem dX8_readSpeed_1 : decode cX8_readSpeed 1 = .ok (.iconst 0, 1) := by decide +kernel
theorem dX8_readSpeed_2 : decode cX8_readSpeed 2 = .ok (.invokevirtual 131, 3) := by decide +kernel
theorem dX8_readSpeed_5 : decode cX8_readSpeed 5 = .ok (.istore_n 2, 1) := by decide +kernel
theorem dX8_readSpeed_6 : decode cX8_readSpeed 6 = .ok (.aload_n 0, 1) := by decide +kernel
theorem dX8_readSpeed_7 : decode cX8_readSpeed 7 = .ok (.iload_n 2, 1) := by decide +kernel
theorem dX8_readSpeed_8 : decode cX8_readSpeed 8 = .ok (.iconst 1, 1) := by decide +kernel
theorem dX8_readSpeed_9 : decode cX8_readSpeed 9 = .ok (.iconst 1, 1) := by decide +kernel
theorem dX8_readSpeed_10 : decode cX8_readSpeed 10 = .ok (.bipush 9, 2) := by decide +kernel
theorem dX8_readSpeed_12 : decode cX8_readSpeed 12 = .ok (.invokevirtual 110, 3) := by decide +kernel
theorem dX8_readSpeed_15 : decode cX8_readSpeed 15 = .ok (.istore_n 3, 1) := by decide +kernel
theorem dX8_readSpeed_16 : decode cX8_readSpeed 16 = .ok (.aload_n 0, 1) := by decide +kernel
theorem dX8_readSpeed_17 : decode cX8_readSpeed 17 = .ok (.iload_n 3, 1) := by decide +kernel
theorem dX8_readSpeed_18 : decode cX8_readSpeed 18 = .ok (.iconst 1, 1) := by decide +kernel
theorem dX8_readSpeed_19 : decode cX8_readSpeed 19 = .ok (.iconst 1, 1) := by decide +kernel
theorem dX8_readSpeed_20 : decode cX8_readSpeed 20 = .ok (.bipush 9, 2) := by decide +kernel
theorem dX8_readSpeed_22 : decode cX8_readSpeed 22 = .ok (.invokevirtual 110, 3) := by decide +kernel
theorem dX8_readSpeed_25 : decode cX8_readSpeed 25 = .ok (.istore 4, 2) := by decide +kernel
theorem dX8_readSpeed_27 : decode cX8_readSpeed 27 = .ok (.iload 4, 2) := by decide +kernel
theorem dX8_readSpeed_29 : decode cX8_readSpeed 29 = .ok (.iconst (-1), 1) := by decide +kernel
theorem dX8_readSpeed_30 : decode cX8_readSpeed 30 = .ok (.if_icmp .eq 38, 3) := by decide +kernel
theorem dX8_readSpeed_33 : decode cX8_readSpeed 33 = .ok (.aload_n 0, 1) := by decide +kernel
theorem dX8_readSpeed_34 : decode cX8_readSpeed 34 = .ok (.aload_n 1, 1) := by decide +kernel
theorem dX8_readSpeed_35 : decode cX8_readSpeed 35 = .ok (.iload_n 2, 1) := by decide +kernel
theorem dX8_readSpeed_36 : decode cX8_readSpeed 36 = .ok (.invokestatic 134, 3) := by decide +kernel
theorem dX8_readSpeed_39 : decode cX8_readSpeed 39 = .ok (.ifCond .eq 18, 3) := by decide +kernel
theorem dX8_readSpeed_42 : decode cX8_readSpeed 42 = .ok (.aload_n 1, 1) := by decide +kernel
theorem dX8_readSpeed_43 : decode cX8_readSpeed 43 = .ok (.iload_n 2, 1) := by decide +kernel
theorem dX8_readSpeed_44 : decode cX8_readSpeed 44 = .ok (.iload_n 3, 1) := by decide +kernel
theorem dX8_readSpeed_45 : decode cX8_readSpeed 45 = .ok (.iload 4, 2) := by decide +kernel
theorem dX8_readSpeed_47 : decode cX8_readSpeed 47 = .ok (.invokestatic 143, 3) := by decide +kernel
theorem dX8_readSpeed_50 : decode cX8_readSpeed 50 = .ok (.ifCond .lt 7, 3) := by decide +kernel
theorem dX8_readSpeed_53 : decode cX8_readSpeed 53 = .ok (.iconst 1, 1) := by decide +kernel
theorem dX8_readSpeed_54 : decode cX8_readSpeed 54 = .ok (.goto 4, 3) := by decide +kernel
theorem dX8_readSpeed_57 : decode cX8_readSpeed 57 = .ok (.iconst 0, 1) := by decide +kernel
theorem dX8_readSpeed_58 : decode cX8_readSpeed 58 = .ok (.invokevirtual 127, 3) := by decide +kernel
theorem dX8_readSpeed_61 : decode cX8_readSpeed 61 = .ok (.ifCond .eq 7, 3) := by decide +kernel
theorem dX8_readSpeed_64 : decode cX8_readSpeed 64 = .ok (.iconst 1, 1) := by decide +kernel
theorem dX8_readSpeed_65 : decode cX8_readSpeed 65 = .ok (.goto 4, 3) := by decide +kernel
theorem dX8_readSpeed_68 : decode cX8_readSpeed 68 = .ok (.iconst 0, 1) := by decide +kernel
theorem dX8_readSpeed_69 : decode cX8_readSpeed 69 = .ok (.ireturn, 1) := by decide +kernel
theorem dX8_readCommand_0 : decode cX8_readCommand 0 = .ok (.aload_n 0, 1) := by decide +kernel
theorem dX8_readCommand_1 : decode cX8_readCommand 1 = .ok (.getfield 7, 3) := by decide +kernel
theorem dX8_readCommand_4 : decode cX8_readCommand 4 = .ok (.aload_n 0, 1) := by decide +kernel
theorem dX8_readCommand_5 : decode cX8_readCommand 5 = .ok (.getfield 102, 3) := by decide +kernel
theorem dX8_readCommand_8 : decode cX8_readCommand 8 = .ok (.iaload, 1) := by decide +kernel
theorem dX8_readCommand_9 : decode cX8_readCommand 9 = .ok (.istore_n 2, 1) := by decide +kernel
theorem dX8_readCommand_10 : decode cX8_readCommand 10 = .ok (.aload_n 0, 1) := by decide +kernel
theorem dX8_readCommand_11 : decode cX8_readCommand 11 = .ok (.dup, 1) := by decide +kernel
theorem dX8_readCommand_12 : decode cX8_readCommand 12 = .ok (.getfield 102, 3) := by decide +kernel
theorem dX8_readCommand_15 : decode cX8_readCommand 15 = .ok (.iconst 1, 1) := by decide +kernel
theorem dX8_readCommand_16 : decode cX8_readCommand 16 = .ok (.iadd, 1) := by decide +kernel
theorem dX8_readCommand_17 : decode cX8_readCommand 17 = .ok (.putfield 102, 3) := by decide +kernel
theorem dX8_readCommand_20 : decode cX8_readCommand 20 = .ok (.iload_n 2, 1) := by decide +kernel
theorem dX8_readCommand_21 : decode cX8_readCommand 21 = .ok (.tableswitch 367 99 119 #[177, 367, 367, 367, 367, 367, 367, 367, 367, 153, 189, 367, 367, 147, 367, 99, 367, 256, 367, 183, 298], 99) := by decide +kernel
theorem dX8_readCommand_120 : decode cX8_readCommand 120 = .ok (.aload_n 0, 1) := by decide +kernel
theorem dX8_readCommand_121 : decode cX8_readCommand 121 = .ok (.iconst 0, 1) := by decide +kernel
theorem dX8_readCommand_122 : decode cX8_readCommand 122 = .ok (.iconst 2, 1) := by decide +kernel
theorem dX8_readCommand_123 : decode cX8_readCommand 123 = .ok (.iconst 2, 1) := by decide +kernel
theorem dX8_readCommand_124 : decode cX8_readCommand 124 = .ok (.bipush 60, 2) := by decide +kernel
theorem dX8_readCommand_126 : decode cX8_readCommand 126 = .ok (.invokevirtual 110, 3) := by decide +kernel
theorem dX8_readCommand_129 : decode cX8_readCommand 129 = .ok (.istore_n 3, 1) := by decide +kernel
theorem dX8_readCommand_130 : decode cX8_readCommand 130 = .ok (.iload_n 3, 1) := by decide +kernel
theorem dX8_readCommand_131 : decode cX8_readCommand 131 = .ok (.iconst (-1), 1) := by decide +kernel
theorem dX8_readCommand_132 : decode cX8_readCommand 132 = .ok (.if_icmp .eq 34, 3) := by decide +kernel
theorem dX8_readCommand_135 : decode cX8_readCommand 135 = .ok (.aload_n 0, 1) := by decide +kernel
theorem dX8_readCommand_136 : decode cX8_readCommand 136 = .ok (.aload_n 1, 1) := by decide +kernel
theorem dX8_readCommand_137 : decode cX8_readCommand 137 = .ok (.iconst 0, 1) := by decide +kernel
theorem dX8_readCommand_138 : decode cX8_readCommand 138 = .ok (.iaload, 1) := by decide +kernel
theorem dX8_readCommand_139 : decode cX8_readCommand 139 = .ok (.iconst 3, 1) := by decide +kernel
theorem dX8_readCommand_140 : decode cX8_readCommand 140 = .ok (.if_icmp .ge 15, 3) := by decide +kernel
theorem dX8_readCommand_143 : decode cX8_readCommand 143 = .ok (.aload_n 1, 1) := by decide +kernel
theorem dX8_readCommand_144 : decode cX8_readCommand 144 = .ok (.iload_n 3, 1) := by decide +kernel
theorem dX8_readCommand_145 : decode cX8_readCommand 145 = .ok (.invokestatic 147, 3) := by decide +kernel
theorem dX8_readCommand_148 : decode cX8_readCommand 148 = .ok (.ifCond .lt 7, 3) := by decide +kernel
theorem dX8_readCommand_151 : decode cX8_readCommand 151 = .ok (.iconst 1, 1) := by decide +kernel
theorem dX8_readCommand_152 : decode cX8_readCommand 152 = .ok (.goto 4, 3) := by decide +kernel
theorem dX8_readCommand_155 : decode cX8_readCommand 155 = .ok (.iconst 0, 1) := by decide +kernel
theorem dX8_readCommand_156 : decode cX8_readCommand 156 = .ok (.invokevirtual 127, 3) := by decide +kernel
theorem dX8_readCommand_159 : decode cX8_readCommand 159 = .ok (.ifCond .eq 7, 3) := by decide +kernel
theorem dX8_readCommand_162 : decode cX8_readCommand 162 = .ok (.iconst 1, 1) := by decide +kernel
theorem dX8_readCommand_163 : decode cX8_readCommand 163 = .ok (.goto 4, 3) := by decide +kernel
theorem dX8_readCommand_166 : decode cX8_readCommand 166 = .ok (.iconst 0, 1) := by decide +kernel
theorem dX8_readCommand_167 : decode cX8_readCommand 167 = .ok (.ireturn, 1) := by decide +kernel
theorem dX8_readCommand_168 : decode cX8_readCommand 168 = .ok (.aload_n 0, 1) := by decide +kernel
theorem dX8_readCommand_169 : decode cX8_readCommand 169 = .ok (.aload_n 1, 1) := by decide +kernel
theorem dX8_readCommand_170 : decode cX8_readCommand 170 = .ok (.invokevirtual 150, 3) := by decide +kernel
theorem dX8_readCommand_173 : decode cX8_readCommand 173 = .ok (.ireturn, 1) := by decide +kernel
theorem dX8_readCommand_174 : decode cX8_readCommand 174 = .ok (.aload_n 0, 1) := by decide +kernel
theorem dX8_readCommand_175 : decode cX8_readCommand 175 = .ok (.aload_n 1, 1) := by decide +kernel
theorem dX8_readCommand_176 : decode cX8_readCommand 176 = .ok (.iconst 1, 1) := by decide +kernel
theorem dX8_readCommand_177 : decode cX8_readCommand 177 = .ok (.iaload, 1) := by decide +kernel
theorem dX8_readCommand_178 : decode cX8_readCommand 178 = .ok (.iconst 4, 1) := by decide +kernel
theorem dX8_readCommand_179 : decode cX8_readCommand 179 = .ok (.if_icmp .ge 14, 3) := by decide +kernel
theorem dX8_readCommand_182 : decode cX8_readCommand 182 = .ok (.aload_n 1, 1) := by decide +kernel
theorem dX8_readCommand_183 : decode cX8_readCommand 183 = .ok (.invokestatic 154, 3) := by decide +kernel
theorem dX8_readCommand_186 : decode cX8_readCommand 186 = .ok (.ifCond .lt 7, 3) := by decide +kernel
theorem dX8_readCommand_189 : decode cX8_readCommand 189 = .ok (.iconst 1, 1) := by decide +kernel
theorem dX8_readCommand_190 : decode cX8_readCommand 190 = .ok (.goto 4, 3) := by decide +kernel
theorem dX8_readCommand_193 : decode cX8_readCommand 193 = .ok (.iconst 0, 1) := by decide +kernel
theorem dX8_readCommand_194 : decode cX8_readCommand 194 = .ok (.invokevirtual 127, 3) := by decide +kernel
theorem dX8_readCommand_197 : decode cX8_readCommand 197 = .ok (.ireturn, 1) := by decide +kernel
theorem dX8_readCommand_198 : decode cX8_readCommand 198 = .ok (.aload_n 0, 1) := by decide +kernel
theorem dX8_readCommand_199 : decode cX8_readCommand 199 = .ok (.aload_n 1, 1) := by decide +kernel
theorem dX8_readCommand_200 : decode cX8_readCommand 200 = .ok (.invokevirtual 158, 3) := by decide +kernel
theorem dX8_readCommand_203 : decode cX8_readCommand 203 = .ok (.ireturn, 1) := by decide +kernel
theorem dX8_readCommand_204 : decode cX8_readCommand 204 = .ok (.aload_n 0, 1) := by decide +kernel
theorem dX8_readCommand_205 : decode cX8_readCommand 205 = .ok (.aload_n 1, 1) := by decide +kernel
theorem dX8_readCommand_206 : decode cX8_readCommand 206 = .ok (.invokevirtual 161, 3) := by decide +kernel
theorem dX8_readCommand_209 : decode cX8_readCommand 209 = .ok (.ireturn, 1) := by decide +kernel
theorem dX8_readCommand_210 : decode cX8_readCommand 210 = .ok (.aload_n 0, 1) := by decide +kernel
theorem dX8_readCommand_211 : decode cX8_readCommand 211 = .ok (.iconst 0, 1) := by decide +kernel
theorem dX8_readCommand_212 : decode cX8_readCommand 212 = .ok (.invokevirtual 131, 3) := by decide +kernel
theorem dX8_readCommand_215 : decode cX8_readCommand 215 = .ok (.istore_n 3, 1) := by decide +kernel
theorem dX8_readCommand_216 : decode cX8_readCommand 216 = .ok (.aload_n 0, 1) := by decide +kernel
theorem dX8_readCommand_217 : decode cX8_readCommand 217 = .ok (.iload_n 3, 1) := by decide +kernel
theorem dX8_readCommand_218 : decode cX8_readCommand 218 = .ok (.iconst 1, 1) := by decide +kernel
theorem dX8_readCommand_219 : decode cX8_readCommand 219 = .ok (.iconst 0, 1) := by decide +kernel
theorem dX8_readCommand_220 : decode cX8_readCommand 220 = .ok (.iconst 1, 1) := by decide +kernel
theorem dX8_readCommand_221 : decode cX8_readCommand 221 = .ok (.invokevirtual 110, 3) := by decide +kernel
theorem dX8_readCommand_224 : decode cX8_readCommand 224 = .ok (.istore 4, 2) := by decide +kernel
theorem dX8_readCommand_226 : decode cX8_readCommand 226 = .ok (.iload 4, 2) := by decide +kernel
theorem dX8_readCommand_228 : decode cX8_readCommand 228 = .ok (.iconst (-1), 1) := by decide +kernel
theorem dX8_readCommand_229 : decode cX8_readCommand 229 = .ok (.if_icmp .eq 46, 3) := by decide +kernel
theorem dX8_readCommand_232 : decode cX8_readCommand 232 = .ok (.aload_n 0, 1) := by decide +kernel
theorem dX8_readCommand_233 : decode cX8_readCommand 233 = .ok (.aload_n 1, 1) := by decide +kernel
theorem dX8_readCommand_234 : decode cX8_readCommand 234 = .ok (.iload_n 3, 1) := by decide +kernel
theorem dX8_readCommand_235 : decode cX8_readCommand 235 = .ok (.invokestatic 134, 3) := by decide +kernel
theorem dX8_readCommand_238 : decode cX8_readCommand 238 = .ok (.ifCond .eq 26, 3) := by decide +kernel
theorem dX8_readCommand_241 : decode cX8_readCommand 241 = .ok (.aload_n 1, 1) := by decide +kernel
theorem dX8_readCommand_242 : decode cX8_readCommand 242 = .ok (.iload_n 3, 1) := by decide +kernel
theorem dX8_readCommand_243 : decode cX8_readCommand 243 = .ok (.iload 4, 2) := by decide +kernel
theorem dX8_readCommand_245 : decode cX8_readCommand 245 = .ok (.iconst 1, 1) := by decide +kernel
theorem dX8_readCommand_246 : decode cX8_readCommand 246 = .ok (.if_icmp .ne 7, 3) := by decide +kernel
theorem dX8_readCommand_249 : decode cX8_readCommand 249 = .ok (.iconst 1, 1) := by decide +kernel
theorem dX8_readCommand_250 : decode cX8_readCommand 250 = .ok (.goto 4, 3) := by decide +kernel
theorem dX8_readCommand_253 : decode cX8_readCommand 253 = .ok (.iconst 0, 1) := by decide +kernel
theorem dX8_readCommand_254 : decode cX8_readCommand 254 = .ok (.invokestatic 164, 3) := by decide +kernel
theorem dX8_readCommand_257 : decode cX8_readCommand 257 = .ok (.ifCond .lt 7, 3) := by decide +kernel
theorem dX8_readCommand_260 : decode cX8_readCommand 260 = .ok (.iconst 1, 1) := by decide +kernel
theorem dX8_readCommand_261 : decode cX8_readCommand 261 = .ok (.goto 4, 3) := by decide +kernel
theorem dX8_readCommand_264 : decode cX8_readCommand 264 = .ok (.iconst 0, 1) := by decide +kernel
theorem dX8_readCommand_265 : decode cX8_readCommand 265 = .ok (.invokevirtual 127, 3) := by decide +kernel
theorem dX8_readCommand_268 : decode cX8_readCommand 268 = .ok (.ifCond .eq 7, 3) := by decide +kernel
theorem dX8_readCommand_271 : decode cX8_readCommand 271 = .ok (.iconst 1, 1) := by decide +kernel
theorem dX8_readCommand_272 : decode cX8_readCommand 272 = .ok (.goto 4, 3) := by decide +kernel
theorem dX8_readCommand_275 : decode cX8_readCommand 275 = .ok (.iconst 0, 1) := by decide +kernel
theorem dX8_readCommand_276 : decode cX8_readCommand 276 = .ok (.ireturn, 1) := by decide +kernel
theorem dX8_readCommand_277 : decode cX8_readCommand 277 = .ok (.aload_n 0, 1) := by decide +kernel
theorem dX8_readCommand_278 : decode cX8_readCommand 278 = .ok (.iconst 0, 1) := by decide +kernel
theorem dX8_readCommand_279 : decode cX8_readCommand 279 = .ok (.iconst 3, 1) := by decide +kernel
theorem dX8_readCommand_280 : decode cX8_readCommand 280 = .ok (.iconst 1, 1) := by decide +kernel
theorem dX8_readCommand_281 : decode cX8_readCommand 281 = .ok (.sipush 999, 3) := by decide +kernel
theorem dX8_readCommand_284 : decode cX8_readCommand 284 = .ok (.invokevirtual 110, 3) := by decide +kernel
theorem dX8_readCommand_287 : decode cX8_readCommand 287 = .ok (.istore_n 3, 1) := by decide +kernel
theorem dX8_readCommand_288 : decode cX8_readCommand 288 = .ok (.iload_n 3, 1) := by decide +kernel
theorem dX8_readCommand_289 : decode cX8_readCommand 289 = .ok (.iconst (-1), 1) := by decide +kernel
theorem dX8_readCommand_290 : decode cX8_readCommand 290 = .ok (.if_icmp .eq 27, 3) := by decide +kernel
theorem dX8_readCommand_293 : decode cX8_readCommand 293 = .ok (.aload_n 0, 1) := by decide +kernel
theorem dX8_readCommand_294 : decode cX8_readCommand 294 = .ok (.aload_n 1, 1) := by decide +kernel
theorem dX8_readCommand_295 : decode cX8_readCommand 295 = .ok (.iload_n 3, 1) := by decide +kernel
theorem dX8_readCommand_296 : decode cX8_readCommand 296 = .ok (.invokestatic 90, 3) := by decide +kernel
theorem dX8_readCommand_299 : decode cX8_readCommand 299 = .ok (.ifCond .lt 7, 3) := by decide +kernel
theorem dX8_readCommand_302 : decode cX8_readCommand 302 = .ok (.iconst 1, 1) := by decide +kernel
theorem dX8_readCommand_303 : decode cX8_readCommand 303 = .ok (.goto 4, 3) := by decide +kernel
theorem dX8_readCommand_306 : decode cX8_readCommand 306 = .ok (.iconst 0, 1) := by decide +kernel
theorem dX8_readCommand_307 : decode cX8_readCommand 307 = .ok (.invokevirtual 127, 3) := by decide +kernel
theorem dX8_readCommand_310 : decode cX8_readCommand 310 = .ok (.ifCond .eq 7, 3) := by decide +kernel
theorem dX8_readCommand_313 : decode cX8_readCommand 313 = .ok (.iconst 1, 1) := by decide +kernel
theorem dX8_readCommand_314 : decode cX8_readCommand 314 = .ok (.goto 4, 3) := by decide +kernel
theorem dX8_readCommand_317 : decode cX8_readCommand 317 = .ok (.iconst 0, 1) := by decide +kernel
theorem dX8_readCommand_318 : decode cX8_readCommand 318 = .ok (.ireturn, 1) := by decide +kernel
theorem dX8_readCommand_319 : decode cX8_readCommand 319 = .ok (.aload_n 0, 1) := by decide +kernel
theorem dX8_readCommand_320 : decode cX8_readCommand 320 = .ok (.iconst 0, 1) := by decide +kernel
theorem dX8_readCommand_321 : decode cX8_readCommand 321 = .ok (.invokevirtual 114, 3) := by decide +kernel
theorem dX8_readCommand_324 : decode cX8_readCommand 324 = .ok (.istore_n 3, 1) := by decide +kernel
theorem dX8_readCommand_325 : decode cX8_readCommand 325 = .ok (.aload_n 0, 1) := by decide +kernel
theorem dX8_readCommand_326 : decode cX8_readCommand 326 = .ok (.iload_n 3, 1) := by decide +kernel
theorem dX8_readCommand_327 : decode cX8_readCommand 327 = .ok (.iconst 2, 1) := by decide +kernel
theorem dX8_readCommand_328 : decode cX8_readCommand 328 = .ok (.iconst 1, 1) := by decide +kernel
theorem dX8_readCommand_329 : decode cX8_readCommand 329 = .ok (.bipush 60, 2) := by decide +kernel
theorem dX8_readCommand_331 : decode cX8_readCommand 331 = .ok (.invokevirtual 110, 3) := by decide +kernel
theorem dX8_readCommand_334 : decode cX8_readCommand 334 = .ok (.istore 4, 2) := by decide +kernel
theorem dX8_readCommand_336 : decode cX8_readCommand 336 = .ok (.iload 4, 2) := by decide +kernel
theorem dX8_readCommand_338 : decode cX8_readCommand 338 = .ok (.iconst (-1), 1) := by decide +kernel
theorem dX8_readCommand_339 : decode cX8_readCommand 339 = .ok (.if_icmp .eq 47, 3) := by decide +kernel
theorem dX8_readCommand_342 : decode cX8_readCommand 342 = .ok (.aload_n 0, 1) := by decide +kernel
theorem dX8_readCommand_343 : decode cX8_readCommand 343 = .ok (.aload_n 1, 1) := by decide +kernel
theorem dX8_readCommand_344 : decode cX8_readCommand 344 = .ok (.iload_n 3, 1) := by decide +kernel
theorem dX8_readCommand_345 : decode cX8_readCommand 345 = .ok (.invokestatic 41, 3) := by decide +kernel
theorem dX8_readCommand_348 : decode cX8_readCommand 348 = .ok (.ifCond .eq 27, 3) := by decide +kernel
theorem dX8_readCommand_351 : decode cX8_readCommand 351 = .ok (.iload 4, 2) := by decide +kernel
theorem dX8_readCommand_353 : decode cX8_readCommand 353 = .ok (.aload_n 1, 1) := by decide +kernel
theorem dX8_readCommand_354 : decode cX8_readCommand 354 = .ok (.iload_n 3, 1) := by decide +kernel
theorem dX8_readCommand_355 : decode cX8_readCommand 355 = .ok (.invokestatic 45, 3) := by decide +kernel
theorem dX8_readCommand_358 : decode cX8_readCommand 358 = .ok (.if_icmp .gt 17, 3) := by decide +kernel
theorem dX8_readCommand_361 : decode cX8_readCommand 361 = .ok (.aload_n 1, 1) := by decide +kernel
theorem dX8_readCommand_362 : decode cX8_readCommand 362 = .ok (.iload_n 3, 1) := by decide +kernel
theorem dX8_readCommand_363 : decode cX8_readCommand 363 = .ok (.iload 4, 2) := by decide +kernel
theorem dX8_readCommand_365 : decode cX8_readCommand 365 = .ok (.invokestatic 168, 3) := by decide +kernel
theorem dX8_readCommand_368 : decode cX8_readCommand 368 = .ok (.ifCond .lt 7, 3) := by decide +kernel
theorem dX8_readCommand_371 : decode cX8_readCommand 371 = .ok (.iconst 1, 1) := by decide +kernel
theorem dX8_readCommand_372 : decode cX8_readCommand 372 = .ok (.goto 4, 3) := by decide +kernel
theorem dX8_readCommand_375 : decode cX8_readCommand 375 = .ok (.iconst 0, 1) := by decide +kernel
theorem dX8_readCommand_376 : decode cX8_readCommand 376 = .ok (.invokevirtual 127, 3) := by decide +kernel
theorem dX8_readCommand_379 : decode cX8_readCommand 379 = .ok (.ifCond .eq 7, 3) := by decide +kernel
theorem dX8_readCommand_382 : decode cX8_readCommand 382 = .ok (.iconst 1, 1) := by decide +kernel
theorem dX8_readCommand_383 : decode cX8_readCommand 383 = .ok (.goto 4, 3) := by decide +kernel
theorem dX8_readCommand_386 : decode cX8_readCommand 386 = .ok (.iconst 0, 1) := by decide +kernel
theorem dX8_readCommand_387 : decode cX8_readCommand 387 = .ok (.ireturn, 1) := by decide +kernel
theorem dX8_readCommand_388 : decode cX8_readCommand 388 = .ok (.aload_n 0, 1) := by decide +kernel
theorem dX8_readCommand_389 : decode cX8_readCommand 389 = .ok (.dup, 1) := by decide +kernel
theorem dX8_readCommand_390 : decode cX8_readCommand 390 = .ok (.getfield 102, 3) := by decide +kernel
theorem dX8_readCommand_393 : decode cX8_readCommand 393 = .ok (.iconst 1, 1) := by decide +kernel
theorem dX8_readCommand_394 : decode cX8_readCommand 394 = .ok (.isub, 1) := by decide +kernel
theorem dX8_readCommand_395 : decode cX8_readCommand 395 = .ok (.putfield 102, 3) := by decide +kernel
theorem dX8_readCommand_398 : decode cX8_readCommand 398 = .ok (.iconst 0, 1) := by decide +kernel
theorem dX8_readCommand_399 : decode cX8_readCommand 399 = .ok (.ireturn, 1) := by decide +kernel
theorem dX8_readText_0 : decode cX8_readText 0 = .ok (.aload_n 1, 1) := by decide +kernel
theorem dX8_readText_1 : decode cX8_readText 1 = .ok (.invokestatic 29, 3) := by decide +kernel
theorem dX8_readText_4 : decode cX8_readText 4 = .ok (.aload_n 0, 1) := by decide +kernel
theorem dX8_readText_5 : decode cX8_readText 5 = .ok (.iconst 0, 1) := by decide +kernel
theorem dX8_readText_6 : decode cX8_readText 6 = .ok (.putfield 107, 3) := by decide +kernel
theorem dX8_readText_9 : decode cX8_readText 9 = .ok (.aload_n 0, 1) := by decide +kernel
theorem dX8_readText_10 : decode cX8_readText 10 = .ok (.iconst 0, 1) := by decide +kernel
theorem dX8_readText_11 : decode cX8_readText 11 = .ok (.putfield 102, 3) := by decide +kernel
theorem dX8_readText_14 : decode cX8_readText 14 = .ok (.aload_n 0, 1) := by decide +kernel
theorem dX8_readText_15 : decode cX8_readText 15 = .ok (.getfield 95, 3) := by decide +kernel
theorem dX8_readText_18 : decode cX8_readText 18 = .ok (.ifCond .eq 14, 3) := by decide +kernel
theorem dX8_readText_21 : decode cX8_readText 21 = .ok (.aload_n 0, 1) := by decide +kernel
theorem dX8_readText_22 : decode cX8_readText 22 = .ok (.getfield 7, 3) := by decide +kernel
theorem dX8_readText_25 : decode cX8_readText 25 = .ok (.iconst 0, 1) := by decide +kernel
theorem dX8_readText_26 : decode cX8_readText 26 = .ok (.iaload, 1) := by decide +kernel
theorem dX8_readText_27 : decode cX8_readText 27 = .ok (.bipush 90, 2) := by decide +kernel
theorem dX8_readText_29 : decode cX8_readText 29 = .ok (.if_icmp .eq 5, 3) := by decide +kernel
theorem dX8_readText_32 : decode cX8_readText 32 = .ok (.iconst 0, 1) := by decide +kernel
theorem dX8_readText_33 : decode cX8_readText 33 = .ok (.ireturn, 1) := by decide +kernel
theorem dX8_readText_34 : decode cX8_readText 34 = .ok (.aload_n 0, 1) := by decide +kernel
theorem dX8_readText_35 : decode cX8_readText 35 = .ok (.iconst 1, 1) := by decide +kernel
theorem dX8_readText_36 : decode cX8_readText 36 = .ok (.putfield 102, 3) := by decide +kernel
theorem dX8_readText_39 : decode cX8_readText 39 = .ok (.aload_n 0, 1) := by decide +kernel
theorem dX8_readText_40 : decode cX8_readText 40 = .ok (.getfield 102, 3) := by decide +kernel
theorem dX8_readText_43 : decode cX8_readText 43 = .ok (.aload_n 0, 1) := by decide +kernel
theorem dX8_readText_44 : decode cX8_readText 44 = .ok (.getfield 95, 3) := by decide +kernel
theorem dX8_readText_47 : decode cX8_readText 47 = .ok (.if_icmp .ge 16, 3) := by decide +kernel
theorem dX8_readText_50 : decode cX8_readText 50 = .ok (.aload_n 0, 1) := by decide +kernel
theorem dX8_readText_51 : decode cX8_readText 51 = .ok (.aload_n 1, 1) := by decide +kernel
theorem dX8_readText_52 : decode cX8_readText 52 = .ok (.invokevirtual 171, 3) := by decide +kernel
theorem dX8_readText_55 : decode cX8_readText 55 = .ok (.ifCond .ne (-16), 3) := by decide +kernel
theorem dX8_readText_58 : decode cX8_readText 58 = .ok (.aload_n 0, 1) := by decide +kernel
theorem dX8_readText_59 : decode cX8_readText 59 = .ok (.getfield 102, 3) := by decide +kernel
theorem dX8_readText_62 : decode cX8_readText 62 = .ok (.ireturn, 1) := by decide +kernel
theorem dX8_readText_63 : decode cX8_readText 63 = .ok (.iconst (-1), 1) := by decide +kernel
theorem dX8_readText_64 : decode cX8_readText 64 = .ok (.ireturn, 1) := by decide +kernel
theorem dX8_errorPosition_0 : decode cX8_errorPosition 0 = .ok (.aload_n 0, 1) := by decide +kernel
theorem dX8_errorPosition_1 : decode cX8_errorPosition 1 = .ok (.iconst 0, 1) := by decide +kernel
theorem dX8_errorPosition_2 : decode cX8_errorPosition 2 = .ok (.putfield 33, 3) := by decide +kernel
theorem dX8_errorPosition_5 : decode cX8_errorPosition 5 = .ok (.aload_n 0, 1) := by decide +kernel
theorem dX8_errorPosition_6 : decode cX8_errorPosition 6 = .ok (.aload_n 0, 1) := by decide +kernel
theorem dX8_errorPosition_7 : decode cX8_errorPosition 7 = .ok (.getfield 16, 3) := by decide +kernel
theorem dX8_errorPosition_10 : decode cX8_errorPosition 10 = .ok (.invokevirtual 174, 3) := by decide +kernel
theorem dX8_errorPosition_13 : decode cX8_errorPosition 13 = .ok (.ireturn, 1) := by decide +kernel
theorem dX8_load_0 : decode cX8_load 0 = .ok (.aload_n 0, 1) := by decide +kernel
theorem dX8_load_1 : decode cX8_load 1 = .ok (.aload_n 0, 1) := by decide +kernel
theorem dX8_load_2 : decode cX8_load 2 = .ok (.aload_n 0, 1) := by decide +kernel
theorem dX8_load_3 : decode cX8_load 3 = .ok (.getfield 16, 3) := by decide +kernel
theorem dX8_load_6 : decode cX8_load 6 = .ok (.invokevirtual 174, 3) := by decide +kernel
theorem dX8_load_9 : decode cX8_load 9 = .ok (.iconst (-1), 1) := by decide +kernel
theorem dX8_load_10 : decode cX8_load 10 = .ok (.if_icmp .ne 7, 3) := by decide +kernel
theorem dX8_load_13 : decode cX8_load 13 = .ok (.iconst 0, 1) := by decide +kernel
theorem dX8_load_14 : decode cX8_load 14 = .ok (.goto 4, 3) := by decide +kernel
theorem dX8_load_17 : decode cX8_load 17 = .ok (.iconst 1, 1) := by decide +kernel
theorem dX8_load_18 : decode cX8_load 18 = .ok (.invokevirtual 98, 3) := by decide +kernel
theorem dX8_load_21 : decode cX8_load 21 = .ok (.ifCond .eq 5, 3) := by decide +kernel
theorem dX8_load_24 : decode cX8_load 24 = .ok (.iconst 0, 1) := by decide +kernel
theorem dX8_load_25 : decode cX8_load 25 = .ok (.ireturn, 1) := by decide +kernel
theorem dX8_load_26 : decode cX8_load 26 = .ok (.aload_n 0, 1) := by decide +kernel
theorem dX8_load_27 : decode cX8_load 27 = .ok (.getfield 16, 3) := by decide +kernel
theorem dX8_load_30 : decode cX8_load 30 = .ok (.iconst 0, 1) := by decide +kernel
theorem dX8_load_31 : decode cX8_load 31 = .ok (.aload_n 0, 1) := by decide +kernel
theorem dX8_load_32 : decode cX8_load 32 = .ok (.getfield 13, 3) := by decide +kernel
theorem dX8_load_35 : decode cX8_load 35 = .ok (.iconst 0, 1) := by decide +kernel
theorem dX8_load_36 : decode cX8_load 36 = .ok (.invokestatic 177, 3) := by decide +kernel
theorem dX8_load_39 : decode cX8_load 39 = .ok (.aload_n 0, 1) := by decide +kernel
theorem dX8_load_40 : decode cX8_load 40 = .ok (.iconst 0, 1) := by decide +kernel
theorem dX8_load_41 : decode cX8_load 41 = .ok (.putfield 181, 3) := by decide +kernel
theorem dX8_load_44 : decode cX8_load 44 = .ok (.aload_n 0, 1) := by decide +kernel
theorem dX8_load_45 : decode cX8_load 45 = .ok (.getfield 25, 3) := by decide +kernel
theorem dX8_load_48 : decode cX8_load 48 = .ok (.iconst 0, 1) := by decide +kernel
theorem dX8_load_49 : decode cX8_load 49 = .ok (.iconst 0, 1) := by decide +kernel
theorem dX8_load_50 : decode cX8_load 50 = .ok (.bastore, 1) := by decide +kernel
theorem dX8_load_51 : decode cX8_load 51 = .ok (.aload_n 0, 1) := by decide +kernel
theorem dX8_load_52 : decode cX8_load 52 = .ok (.getfield 25, 3) := by decide +kernel
theorem dX8_load_55 : decode cX8_load 55 = .ok (.iconst 1, 1) := by decide +kernel
theorem dX8_load_56 : decode cX8_load 56 = .ok (.iconst 0, 1) := by decide +kernel
theorem dX8_load_57 : decode cX8_load 57 = .ok (.bastore, 1) := by decide +kernel
theorem dX8_load_58 : decode cX8_load 58 = .ok (.aload_n 0, 1) := by decide +kernel
theorem dX8_load_59 : decode cX8_load 59 = .ok (.getfield 107, 3) := by decide +kernel
theorem dX8_load_62 : decode cX8_load 62 = .ok (.ireturn, 1) := by decide +kernel
theorem dX8_allCells_0 : decode cX8_allCells 0 = .ok (.iconst 0, 1) := by decide +kernel
theorem dX8_allCells_1 : decode cX8_allCells 1 = .ok (.istore_n 1, 1) := by decide +kernel
theorem dX8_allCells_2 : decode cX8_allCells 2 = .ok (.iconst 0, 1) := by decide +kernel
theorem dX8_allCells_3 : decode cX8_allCells 3 = .ok (.istore_n 2, 1) := by decide +kernel
theorem dX8_allCells_4 : decode cX8_allCells 4 = .ok (.iload_n 2, 1) := by decide +kernel
theorem dX8_allCells_5 : decode cX8_allCells 5 = .ok (.aload_n 0, 1) := by decide +kernel
theorem dX8_allCells_6 : decode cX8_allCells 6 = .ok (.iconst 1, 1) := by decide +kernel
theorem dX8_allCells_7 : decode cX8_allCells 7 = .ok (.iaload, 1) := by decide +kernel
theorem dX8_allCells_8 : decode cX8_allCells 8 = .ok (.if_icmp .ge 18, 3) := by decide +kernel
theorem dX8_allCells_11 : decode cX8_allCells 11 = .ok (.iload_n 1, 1) := by decide +kernel
theorem dX8_allCells_12 : decode cX8_allCells 12 = .ok (.aload_n 0, 1) := by decide +kernel
theorem dX8_allCells_13 : decode cX8_allCells 13 = .ok (.iload_n 2, 1) := by decide +kernel
theorem dX8_allCells_14 : decode cX8_allCells 14 = .ok (.iconst 0, 1) := by decide +kernel
theorem dX8_allCells_15 : decode cX8_allCells 15 = .ok (.invokestatic 57, 3) := by decide +kernel
theorem dX8_allCells_18 : decode cX8_allCells 18 = .ok (.iadd, 1) := by decide +kernel
theorem dX8_allCells_19 : decode cX8_allCells 19 = .ok (.istore_n 1, 1) := by decide +kernel
theorem dX8_allCells_20 : decode cX8_allCells 20 = .ok (.iinc 2 1, 3) := by decide +kernel
theorem dX8_allCells_23 : decode cX8_allCells 23 = .ok (.goto (-19), 3) := by decide +kernel
theorem dX8_allCells_26 : decode cX8_allCells 26 = .ok (.iload_n 1, 1) := by decide +kernel
theorem dX8_allCells_27 : decode cX8_allCells 27 = .ok (.ireturn, 1) := by decide +kernel
theorem dX8_about_0 : decode cX8_about 0 = .ok (.aload_n 0, 1) := by decide +kernel
theorem dX8_about_1 : decode cX8_about 1 = .ok (.iload_n 1, 1) := by decide +kernel
theorem dX8_about_2 : decode cX8_about 2 = .ok (.i2l, 1) := by decide +kernel
theorem dX8_about_3 : decode cX8_about 3 = .ok (.lconst 0, 1) := by decide +kernel
theorem dX8_about_4 : decode cX8_about 4 = .ok (.ldc2_w 184, 3) := by decide +kernel
theorem dX8_about_7 : decode cX8_about 7 = .ok (.invokestatic 37, 3) := by decide +kernel
theorem dX8_about_10 : decode cX8_about 10 = .ok (.ifCond .eq 7, 3) := by decide +kernel
theorem dX8_about_13 : decode cX8_about 13 = .ok (.iconst 0, 1) := by decide +kernel
theorem dX8_about_14 : decode cX8_about 14 = .ok (.goto 4, 3) := by decide +kernel
theorem dX8_about_17 : decode cX8_about 17 = .ok (.iconst 1, 1) := by decide +kernel
theorem dX8_about_18 : decode cX8_about 18 = .ok (.invokevirtual 98, 3) := by decide +kernel
theorem dX8_about_21 : decode cX8_about 21 = .ok (.ifCond .eq 5, 3) := by decide +kernel
theorem dX8_about_24 : decode cX8_about 24 = .ok (.iconst 0, 1) := by decide +kernel
theorem dX8_about_25 : decode cX8_about 25 = .ok (.ireturn, 1) := by decide +kernel
theorem dX8_about_26 : decode cX8_about 26 = .ok (.iconst 0, 1) := by decide +kernel
theorem dX8_about_27 : decode cX8_about 27 = .ok (.istore_n 2, 1) := by decide +kernel
theorem dX8_about_28 : decode cX8_about 28 = .ok (.iconst 0, 1) := by decide +kernel
theorem dX8_about_29 : decode cX8_about 29 = .ok (.istore_n 3, 1) := by decide +kernel
theorem dX8_about_30 : decode cX8_about 30 = .ok (.iconst 0, 1) := by decide +kernel
theorem dX8_about_31 : decode cX8_about 31 = .ok (.istore 4, 2) := by decide +kernel
theorem dX8_about_33 : decode cX8_about 33 = .ok (.iload 4, 2) := by decide +kernel
theorem dX8_about_35 : decode cX8_about 35 = .ok (.aload_n 0, 1) := by decide +kernel
theorem dX8_about_36 : decode cX8_about 36 = .ok (.getfield 13, 3) := by decide +kernel
theorem dX8_about_39 : decode cX8_about 39 = .ok (.iconst 1, 1) := by decide +kernel
theorem dX8_about_40 : decode cX8_about 40 = .ok (.iaload, 1) := by decide +kernel
theorem dX8_about_41 : decode cX8_about 41 = .ok (.if_icmp .ge 46, 3) := by decide +kernel
theorem dX8_about_44 : decode cX8_about 44 = .ok (.iload_n 2, 1) := by decide +kernel
theorem dX8_about_45 : decode cX8_about 45 = .ok (.aload_n 0, 1) := by decide +kernel
theorem dX8_about_46 : decode cX8_about 46 = .ok (.getfield 13, 3) := by decide +kernel
theorem dX8_about_49 : decode cX8_about 49 = .ok (.iload 4, 2) := by decide +kernel
theorem dX8_about_51 : decode cX8_about 51 = .ok (.iconst 0, 1) := by decide +kernel
theorem dX8_about_52 : decode cX8_about 52 = .ok (.invokestatic 57, 3) := by decide +kernel
theorem dX8_about_55 : decode cX8_about 55 = .ok (.ifCond .le 7, 3) := by decide +kernel
theorem dX8_about_58 : decode cX8_about 58 = .ok (.iconst 1, 1) := by decide +kernel
theorem dX8_about_59 : decode cX8_about 59 = .ok (.goto 4, 3) := by decide +kernel
theorem dX8_about_62 : decode cX8_about 62 = .ok (.iconst 0, 1) := by decide +kernel
theorem dX8_about_63 : decode cX8_about 63 = .ok (.iadd, 1) := by decide +kernel
theorem dX8_about_64 : decode cX8_about 64 = .ok (.istore_n 2, 1) := by decide +kernel
theorem dX8_about_65 : decode cX8_about 65 = .ok (.iload_n 3, 1) := by decide +kernel
theorem dX8_about_66 : decode cX8_about 66 = .ok (.aload_n 0, 1) := by decide +kernel
theorem dX8_about_67 : decode cX8_about 67 = .ok (.getfield 13, 3) := by decide +kernel
theorem dX8_about_70 : decode cX8_about 70 = .ok (.iload 4, 2) := by decide +kernel
theorem dX8_about_72 : decode cX8_about 72 = .ok (.iconst 4, 1) := by decide +kernel
theorem dX8_about_73 : decode cX8_about 73 = .ok (.invokestatic 57, 3) := by decide +kernel
theorem dX8_about_76 : decode cX8_about 76 = .ok (.iload 4, 2) := by decide +kernel
theorem dX8_about_78 : decode cX8_about 78 = .ok (.ishl, 1) := by decide +kernel
theorem dX8_about_79 : decode cX8_about 79 = .ok (.ior, 1) := by decide +kernel
theorem dX8_about_80 : decode cX8_about 80 = .ok (.istore_n 3, 1) := by decide +kernel
theorem dX8_about_81 : decode cX8_about 81 = .ok (.iinc 4 1, 3) := by decide +kernel
theorem dX8_about_84 : decode cX8_about 84 = .ok (.goto (-51), 3) := by decide +kernel
theorem dX8_about_87 : decode cX8_about 87 = .ok (.iload_n 1, 1) := by decide +kernel
theorem dX8_about_88 : decode cX8_about 88 = .ok (.tableswitch 64 3 7 #[36, 45, 47, 49, 57], 36) := by decide +kernel
theorem dX8_about_124 : decode cX8_about 124 = .ok (.aload_n 0, 1) := by decide +kernel
theorem dX8_about_125 : decode cX8_about 125 = .ok (.getfield 13, 3) := by decide +kernel
theorem dX8_about_128 : decode cX8_about 128 = .ok (.lconst 0, 1) := by decide +kernel
theorem dX8_about_129 : decode cX8_about 129 = .ok (.invokestatic 78, 3) := by decide +kernel
theorem dX8_about_132 : decode cX8_about 132 = .ok (.ireturn, 1) := by decide +kernel
theorem dX8_about_133 : decode cX8_about 133 = .ok (.iload_n 2, 1) := by decide +kernel
theorem dX8_about_134 : decode cX8_about 134 = .ok (.ireturn, 1) := by decide +kernel
theorem dX8_about_135 : decode cX8_about 135 = .ok (.iload_n 3, 1) := by decide +kernel
theorem dX8_about_136 : decode cX8_about 136 = .ok (.ireturn, 1) := by decide +kernel
theorem dX8_about_137 : decode cX8_about 137 = .ok (.aload_n 0, 1) := by decide +kernel
theorem dX8_about_138 : decode cX8_about 138 = .ok (.getfield 13, 3) := by decide +kernel
theorem dX8_about_141 : decode cX8_about 141 = .ok (.invokestatic 186, 3) := by decide +kernel
theorem dX8_about_144 : decode cX8_about 144 = .ok (.ireturn, 1) := by decide +kernel
theorem dX8_about_145 : decode cX8_about 145 = .ok (.aload_n 0, 1) := by decide +kernel
theorem dX8_about_146 : decode cX8_about 146 = .ok (.getfield 13, 3) := by decide +kernel
theorem dX8_about_149 : decode cX8_about 149 = .ok (.iconst 3, 1) := by decide +kernel
theorem dX8_about_150 : decode cX8_about 150 = .ok (.iaload, 1) := by decide +kernel
theorem dX8_about_151 : decode cX8_about 151 = .ok (.ireturn, 1) := by decide +kernel
theorem dX8_about_152 : decode cX8_about 152 = .ok (.aload_n 0, 1) := by decide +kernel
theorem dX8_about_153 : decode cX8_about 153 = .ok (.getfield 13, 3) := by decide +kernel
theorem dX8_about_156 : decode cX8_about 156 = .ok (.iload_n 1, 1) := by decide +kernel
theorem dX8_about_157 : decode cX8_about 157 = .ok (.iaload, 1) := by decide +kernel
theorem dX8_about_158 : decode cX8_about 158 = .ok (.ireturn, 1) := by decide +kernel
theorem dX8_reelOf_0 : decode cX8_reelOf 0 = .ok (.aload_n 0, 1) := by decide +kernel
theorem dX8_reelOf_1 : decode cX8_reelOf 1 = .ok (.aload_n 0, 1) := by decide +kernel
theorem dX8_reelOf_2 : decode cX8_reelOf 2 = .ok (.getfield 13, 3) := by decide +kernel
theorem dX8_reelOf_5 : decode cX8_reelOf 5 = .ok (.iload_n 1, 1) := by decide +kernel
theorem dX8_reelOf_6 : decode cX8_reelOf 6 = .ok (.invokestatic 41, 3) := by decide +kernel
theorem dX8_reelOf_9 : decode cX8_reelOf 9 = .ok (.ifCond .ne 7, 3) := by decide +kernel
theorem dX8_reelOf_12 : decode cX8_reelOf 12 = .ok (.iconst 1, 1) := by decide +kernel
theorem dX8_reelOf_13 : decode cX8_reelOf 13 = .ok (.goto 20, 3) := by decide +kernel
theorem dX8_reelOf_16 : decode cX8_reelOf 16 = .ok (.iload_n 2, 1) := by decide +kernel
theorem dX8_reelOf_17 : decode cX8_reelOf 17 = .ok (.i2l, 1) := by decide +kernel
theorem dX8_reelOf_18 : decode cX8_reelOf 18 = .ok (.lconst 0, 1) := by decide +kernel
theorem dX8_reelOf_19 : decode cX8_reelOf 19 = .ok (.ldc2_w 189, 3) := by decide +kernel
theorem dX8_reelOf_22 : decode cX8_reelOf 22 = .ok (.invokestatic 37, 3) := by decide +kernel
theorem dX8_reelOf_25 : decode cX8_reelOf 25 = .ok (.ifCond .eq 7, 3) := by decide +kernel
theorem dX8_reelOf_28 : decode cX8_reelOf 28 = .ok (.iconst 0, 1) := by decide +kernel
theorem dX8_reelOf_29 : decode cX8_reelOf 29 = .ok (.goto 4, 3) := by decide +kernel
theorem dX8_reelOf_32 : decode cX8_reelOf 32 = .ok (.iconst 2, 1) := by decide +kernel
theorem dX8_reelOf_33 : decode cX8_reelOf 33 = .ok (.invokevirtual 98, 3) := by decide +kernel
theorem dX8_reelOf_36 : decode cX8_reelOf 36 = .ok (.ifCond .eq 5, 3) := by decide +kernel
theorem dX8_reelOf_39 : decode cX8_reelOf 39 = .ok (.iconst 0, 1) := by decide +kernel
theorem dX8_reelOf_40 : decode cX8_reelOf 40 = .ok (.ireturn, 1) := by decide +kernel
theorem dX8_reelOf_41 : decode cX8_reelOf 41 = .ok (.iconst 0, 1) := by decide +kernel
theorem dX8_reelOf_42 : decode cX8_reelOf 42 = .ok (.istore_n 3, 1) := by decide +kernel
theorem dX8_reelOf_43 : decode cX8_reelOf 43 = .ok (.iconst 0, 1) := by decide +kernel
theorem dX8_reelOf_44 : decode cX8_reelOf 44 = .ok (.istore 4, 2) := by decide +kernel
theorem dX8_reelOf_46 : decode cX8_reelOf 46 = .ok (.iconst 0, 1) := by decide +kernel
theorem dX8_reelOf_47 : decode cX8_reelOf 47 = .ok (.istore 5, 2) := by decide +kernel
theorem dX8_reelOf_49 : decode cX8_reelOf 49 = .ok (.iload 5, 2) := by decide +kernel
theorem dX8_reelOf_51 : decode cX8_reelOf 51 = .ok (.aload_n 0, 1) := by decide +kernel
theorem dX8_reelOf_52 : decode cX8_reelOf 52 = .ok (.getfield 13, 3) := by decide +kernel
theorem dX8_reelOf_55 : decode cX8_reelOf 55 = .ok (.iload_n 1, 1) := by decide +kernel
theorem dX8_reelOf_56 : decode cX8_reelOf 56 = .ok (.invokestatic 45, 3) := by decide +kernel
theorem dX8_reelOf_59 : decode cX8_reelOf 59 = .ok (.if_icmp .ge 68, 3) := by decide +kernel
theorem dX8_reelOf_62 : decode cX8_reelOf 62 = .ok (.iload_n 3, 1) := by decide +kernel
theorem dX8_reelOf_63 : decode cX8_reelOf 63 = .ok (.aload_n 0, 1) := by decide +kernel
theorem dX8_reelOf_64 : decode cX8_reelOf 64 = .ok (.getfield 13, 3) := by decide +kernel
theorem dX8_reelOf_67 : decode cX8_reelOf 67 = .ok (.iload_n 1, 1) := by decide +kernel
theorem dX8_reelOf_68 : decode cX8_reelOf 68 = .ok (.iload 5, 2) := by decide +kernel
theorem dX8_reelOf_70 : decode cX8_reelOf 70 = .ok (.invokestatic 49, 3) := by decide +kernel
theorem dX8_reelOf_73 : decode cX8_reelOf 73 = .ok (.iadd, 1) := by decide +kernel
theorem dX8_reelOf_74 : decode cX8_reelOf 74 = .ok (.istore_n 3, 1) := by decide +kernel
theorem dX8_reelOf_75 : decode cX8_reelOf 75 = .ok (.aload_n 0, 1) := by decide +kernel
theorem dX8_reelOf_76 : decode cX8_reelOf 76 = .ok (.getfield 13, 3) := by decide +kernel
theorem dX8_reelOf_79 : decode cX8_reelOf 79 = .ok (.iload_n 1, 1) := by decide +kernel
theorem dX8_reelOf_80 : decode cX8_reelOf 80 = .ok (.iload 5, 2) := by decide +kernel
theorem dX8_reelOf_82 : decode cX8_reelOf 82 = .ok (.iconst 1, 1) := by decide +kernel
theorem dX8_reelOf_83 : decode cX8_reelOf 83 = .ok (.invokestatic 53, 3) := by decide +kernel
theorem dX8_reelOf_86 : decode cX8_reelOf 86 = .ok (.ifCond .eq 16, 3) := by decide +kernel
theorem dX8_reelOf_89 : decode cX8_reelOf 89 = .ok (.aload_n 0, 1) := by decide +kernel
theorem dX8_reelOf_90 : decode cX8_reelOf 90 = .ok (.getfield 13, 3) := by decide +kernel
theorem dX8_reelOf_93 : decode cX8_reelOf 93 = .ok (.iload_n 1, 1) := by decide +kernel
theorem dX8_reelOf_94 : decode cX8_reelOf 94 = .ok (.iload 5, 2) := by decide +kernel
theorem dX8_reelOf_96 : decode cX8_reelOf 96 = .ok (.invokestatic 191, 3) := by decide +kernel
theorem dX8_reelOf_99 : decode cX8_reelOf 99 = .ok (.goto 4, 3) := by decide +kernel
theorem dX8_reelOf_102 : decode cX8_reelOf 102 = .ok (.iconst 0, 1) := by decide +kernel
theorem dX8_reelOf_103 : decode cX8_reelOf 103 = .ok (.istore 6, 2) := by decide +kernel
theorem dX8_reelOf_105 : decode cX8_reelOf 105 = .ok (.iload 6, 2) := by decide +kernel
theorem dX8_reelOf_107 : decode cX8_reelOf 107 = .ok (.iload 4, 2) := by decide +kernel
theorem dX8_reelOf_109 : decode cX8_reelOf 109 = .ok (.if_icmp .le 8, 3) := by decide +kernel
theorem dX8_reelOf_112 : decode cX8_reelOf 112 = .ok (.iload 6, 2) := by decide +kernel
theorem dX8_reelOf_114 : decode cX8_reelOf 114 = .ok (.goto 5, 3) := by decide +kernel
theorem dX8_reelOf_117 : decode cX8_reelOf 117 = .ok (.iload 4, 2) := by decide +kernel
theorem dX8_reelOf_119 : decode cX8_reelOf 119 = .ok (.istore 4, 2) := by decide +kernel
theorem dX8_reelOf_121 : decode cX8_reelOf 121 = .ok (.iinc 5 1, 3) := by decide +kernel
theorem dX8_reelOf_124 : decode cX8_reelOf 124 = .ok (.goto (-75), 3) := by decide +kernel
theorem dX8_reelOf_127 : decode cX8_reelOf 127 = .ok (.iload_n 2, 1) := by decide +kernel
theorem dX8_reelOf_128 : decode cX8_reelOf 128 = .ok (.ifCond .ne 14, 3) := by decide +kernel
theorem dX8_reelOf_131 : decode cX8_reelOf 131 = .ok (.aload_n 0, 1) := by decide +kernel
theorem dX8_reelOf_132 : decode cX8_reelOf 132 = .ok (.getfield 13, 3) := by decide +kernel
theorem dX8_reelOf_135 : decode cX8_reelOf 135 = .ok (.iload_n 1, 1) := by decide +kernel
theorem dX8_reelOf_136 : decode cX8_reelOf 136 = .ok (.invokestatic 45, 3) := by decide +kernel
theorem dX8_reelOf_139 : decode cX8_reelOf 139 = .ok (.goto 40, 3) := by decide +kernel
theorem dX8_reelOf_142 : decode cX8_reelOf 142 = .ok (.iload_n 2, 1) := by decide +kernel
theorem dX8_reelOf_143 : decode cX8_reelOf 143 = .ok (.iconst 3, 1) := by decide +kernel
theorem dX8_reelOf_144 : decode cX8_reelOf 144 = .ok (.if_icmp .ge 24, 3) := by decide +kernel
theorem dX8_reelOf_147 : decode cX8_reelOf 147 = .ok (.aload_n 0, 1) := by decide +kernel
theorem dX8_reelOf_148 : decode cX8_reelOf 148 = .ok (.getfield 13, 3) := by decide +kernel
theorem dX8_reelOf_151 : decode cX8_reelOf 151 = .ok (.iload_n 1, 1) := by decide +kernel
theorem dX8_reelOf_152 : decode cX8_reelOf 152 = .ok (.iload_n 2, 1) := by decide +kernel
theorem dX8_reelOf_153 : decode cX8_reelOf 153 = .ok (.iconst 1, 1) := by decide +kernel
theorem dX8_reelOf_154 : decode cX8_reelOf 154 = .ok (.if_icmp .ne 7, 3) := by decide +kernel
theorem dX8_reelOf_157 : decode cX8_reelOf 157 = .ok (.iconst 1, 1) := by decide +kernel
theorem dX8_reelOf_158 : decode cX8_reelOf 158 = .ok (.goto 4, 3) := by decide +kernel
theorem dX8_reelOf_161 : decode cX8_reelOf 161 = .ok (.iconst 0, 1) := by decide +kernel
theorem dX8_reelOf_162 : decode cX8_reelOf 162 = .ok (.invokestatic 194, 3) := by decide +kernel
theorem dX8_reelOf_165 : decode cX8_reelOf 165 = .ok (.goto 14, 3) := by decide +kernel
theorem dX8_reelOf_168 : decode cX8_reelOf 168 = .ok (.iload_n 2, 1) := by decide +kernel
theorem dX8_reelOf_169 : decode cX8_reelOf 169 = .ok (.iconst 3, 1) := by decide +kernel
theorem dX8_reelOf_170 : decode cX8_reelOf 170 = .ok (.if_icmp .ne 7, 3) := by decide +kernel
theorem dX8_reelOf_173 : decode cX8_reelOf 173 = .ok (.iload_n 3, 1) := by decide +kernel
theorem dX8_reelOf_174 : decode cX8_reelOf 174 = .ok (.goto 5, 3) := by decide +kernel
theorem dX8_reelOf_177 : decode cX8_reelOf 177 = .ok (.iload 4, 2) := by decide +kernel
theorem dX8_reelOf_179 : decode cX8_reelOf 179 = .ok (.ireturn, 1) := by decide +kernel
theorem dX8_sound_0 : decode cX8_sound 0 = .ok (.aload_n 0, 1) := by decide +kernel
theorem dX8_sound_1 : decode cX8_sound 1 = .ok (.aload_n 0, 1) := by decide +kernel
theorem dX8_sound_2 : decode cX8_sound 2 = .ok (.getfield 13, 3) := by decide +kernel
theorem dX8_sound_5 : decode cX8_sound 5 = .ok (.iload_n 1, 1) := by decide +kernel
theorem dX8_sound_6 : decode cX8_sound 6 = .ok (.iload_n 2, 1) := by decide +kernel
theorem dX8_sound_7 : decode cX8_sound 7 = .ok (.invokestatic 121, 3) := by decide +kernel
theorem dX8_sound_10 : decode cX8_sound 10 = .ok (.ifCond .eq 7, 3) := by decide +kernel
theorem dX8_sound_13 : decode cX8_sound 13 = .ok (.iconst 0, 1) := by decide +kernel
theorem dX8_sound_14 : decode cX8_sound 14 = .ok (.goto 4, 3) := by decide +kernel
theorem dX8_sound_17 : decode cX8_sound 17 = .ok (.iconst 1, 1) := by decide +kernel
theorem dX8_sound_18 : decode cX8_sound 18 = .ok (.invokevirtual 98, 3) := by decide +kernel
theorem dX8_sound_21 : decode cX8_sound 21 = .ok (.ifCond .eq 5, 3) := by decide +kernel
theorem dX8_sound_24 : decode cX8_sound 24 = .ok (.iconst 0, 1) := by decide +kernel
theorem dX8_sound_25 : decode cX8_sound 25 = .ok (.ireturn, 1) := by decide +kernel
theorem dX8_sound_26 : decode cX8_sound 26 = .ok (.aload_n 0, 1) := by decide +kernel
theorem dX8_sound_27 : decode cX8_sound 27 = .ok (.getfield 13, 3) := by decide +kernel
theorem dX8_sound_30 : decode cX8_sound 30 = .ok (.iload_n 1, 1) := by decide +kernel
theorem dX8_sound_31 : decode cX8_sound 31 = .ok (.iload_n 2, 1) := by decide +kernel
theorem dX8_sound_32 : decode cX8_sound 32 = .ok (.invokestatic 49, 3) := by decide +kernel
theorem dX8_sound_35 : decode cX8_sound 35 = .ok (.ireturn, 1) := by decide +kernel
theorem dX8_silence_0 : decode cX8_silence 0 = .ok (.aload_n 0, 1) := by decide +kernel
theorem dX8_silence_1 : decode cX8_silence 1 = .ok (.getfield 13, 3) := by decide +kernel
theorem dX8_silence_4 : decode cX8_silence 4 = .ok (.iload_n 1, 1) := by decide +kernel
theorem dX8_silence_5 : decode cX8_silence 5 = .ok (.invokestatic 41, 3) := by decide +kernel
theorem dX8_silence_8 : decode cX8_silence 8 = .ok (.ifCond .eq 28, 3) := by decide +kernel
theorem dX8_silence_11 : decode cX8_silence 11 = .ok (.iload_n 2, 1) := by decide +kernel
theorem dX8_silence_12 : decode cX8_silence 12 = .ok (.i2l, 1) := by decide +kernel
theorem dX8_silence_13 : decode cX8_silence 13 = .ok (.lconst 0, 1) := by decide +kernel
theorem dX8_silence_14 : decode cX8_silence 14 = .ok (.aload_n 0, 1) := by decide +kernel
theorem dX8_silence_15 : decode cX8_silence 15 = .ok (.getfield 13, 3) := by decide +kernel
theorem dX8_silence_18 : decode cX8_silence 18 = .ok (.iload_n 1, 1) := by decide +kernel
theorem dX8_silence_19 : decode cX8_silence 19 = .ok (.iconst 1, 1) := by decide +kernel
theorem dX8_silence_20 : decode cX8_silence 20 = .ok (.invokestatic 194, 3) := by decide +kernel
theorem dX8_silence_23 : decode cX8_silence 23 = .ok (.iconst 1, 1) := by decide +kernel
theorem dX8_silence_24 : decode cX8_silence 24 = .ok (.isub, 1) := by decide +kernel
theorem dX8_silence_25 : decode cX8_silence 25 = .ok (.i2l, 1) := by decide +kernel
theorem dX8_silence_26 : decode cX8_silence 26 = .ok (.invokestatic 37, 3) := by decide +kernel
theorem dX8_silence_29 : decode cX8_silence 29 = .ok (.ifCond .eq 7, 3) := by decide +kernel
theorem dX8_silence_32 : decode cX8_silence 32 = .ok (.iconst 1, 1) := by decide +kernel
theorem dX8_silence_33 : decode cX8_silence 33 = .ok (.goto 4, 3) := by decide +kernel
theorem dX8_silence_36 : decode cX8_silence 36 = .ok (.iconst 0, 1) := by decide +kernel
theorem dX8_silence_37 : decode cX8_silence 37 = .ok (.istore 4, 2) := by decide +kernel
theorem dX8_silence_39 : decode cX8_silence 39 = .ok (.aload_n 0, 1) := by decide +kernel
theorem dX8_silence_40 : decode cX8_silence 40 = .ok (.iload 4, 2) := by decide +kernel
theorem dX8_silence_42 : decode cX8_silence 42 = .ok (.ifCond .ne 7, 3) := by decide +kernel
theorem dX8_silence_45 : decode cX8_silence 45 = .ok (.iconst 1, 1) := by decide +kernel
theorem dX8_silence_46 : decode cX8_silence 46 = .ok (.goto 20, 3) := by decide +kernel
theorem dX8_silence_49 : decode cX8_silence 49 = .ok (.iload_n 3, 1) := by decide +kernel
theorem dX8_silence_50 : decode cX8_silence 50 = .ok (.i2l, 1) := by decide +kernel
theorem dX8_silence_51 : decode cX8_silence 51 = .ok (.lconst 0, 1) := by decide +kernel
theorem dX8_silence_52 : decode cX8_silence 52 = .ok (.ldc2_w 197, 3) := by decide +kernel
theorem dX8_silence_55 : decode cX8_silence 55 = .ok (.invokestatic 37, 3) := by decide +kernel
theorem dX8_silence_58 : decode cX8_silence 58 = .ok (.ifCond .eq 7, 3) := by decide +kernel
theorem dX8_silence_61 : decode cX8_silence 61 = .ok (.iconst 0, 1) := by decide +kernel
theorem dX8_silence_62 : decode cX8_silence 62 = .ok (.goto 4, 3) := by decide +kernel
theorem dX8_silence_65 : decode cX8_silence 65 = .ok (.iconst 2, 1) := by decide +kernel
theorem dX8_silence_66 : decode cX8_silence 66 = .ok (.invokevirtual 98, 3) := by decide +kernel
theorem dX8_silence_69 : decode cX8_silence 69 = .ok (.ifCond .eq 5, 3) := by decide +kernel
theorem dX8_silence_72 : decode cX8_silence 72 = .ok (.iconst 0, 1) := by decide +kernel
theorem dX8_silence_73 : decode cX8_silence 73 = .ok (.ireturn, 1) := by decide +kernel
theorem dX8_silence_74 : decode cX8_silence 74 = .ok (.aload_n 0, 1) := by decide +kernel
theorem dX8_silence_75 : decode cX8_silence 75 = .ok (.getfield 13, 3) := by decide +kernel
theorem dX8_silence_78 : decode cX8_silence 78 = .ok (.iload_n 1, 1) := by decide +kernel
theorem dX8_silence_79 : decode cX8_silence 79 = .ok (.iload_n 2, 1) := by decide +kernel
theorem dX8_silence_80 : decode cX8_silence 80 = .ok (.iconst 1, 1) := by decide +kernel
theorem dX8_silence_81 : decode cX8_silence 81 = .ok (.invokestatic 199, 3) := by decide +kernel
theorem dX8_silence_84 : decode cX8_silence 84 = .ok (.istore 5, 2) := by decide +kernel
theorem dX8_silence_86 : decode cX8_silence 86 = .ok (.aload_n 0, 1) := by decide +kernel
theorem dX8_silence_87 : decode cX8_silence 87 = .ok (.getfield 13, 3) := by decide +kernel
theorem dX8_silence_90 : decode cX8_silence 90 = .ok (.iload_n 1, 1) := by decide +kernel
theorem dX8_silence_91 : decode cX8_silence 91 = .ok (.iload 5, 2) := by decide +kernel
theorem dX8_silence_93 : decode cX8_silence 93 = .ok (.invokestatic 191, 3) := by decide +kernel
theorem dX8_silence_96 : decode cX8_silence 96 = .ok (.istore 6, 2) := by decide +kernel
theorem dX8_silence_98 : decode cX8_silence 98 = .ok (.iload_n 3, 1) := by decide +kernel
theorem dX8_silence_99 : decode cX8_silence 99 = .ok (.iconst 2, 1) := by decide +kernel
theorem dX8_silence_100 : decode cX8_silence 100 = .ok (.if_icmp .ge 15, 3) := by decide +kernel
theorem dX8_silence_103 : decode cX8_silence 103 = .ok (.iload_n 3, 1) := by decide +kernel
theorem dX8_silence_104 : decode cX8_silence 104 = .ok (.ifCond .ne 8, 3) := by decide +kernel
theorem dX8_silence_107 : decode cX8_silence 107 = .ok (.iload 5, 2) := by decide +kernel
theorem dX8_silence_109 : decode cX8_silence 109 = .ok (.goto 5, 3) := by decide +kernel
theorem dX8_silence_112 : decode cX8_silence 112 = .ok (.iload 6, 2) := by decide +kernel
theorem dX8_silence_114 : decode cX8_silence 114 = .ok (.ireturn, 1) := by decide +kernel
theorem dX8_silence_115 : decode cX8_silence 115 = .ok (.iload 5, 2) := by decide +kernel
theorem dX8_silence_117 : decode cX8_silence 117 = .ok (.istore 7, 2) := by decide +kernel
theorem dX8_silence_119 : decode cX8_silence 119 = .ok (.iload 7, 2) := by decide +kernel
theorem dX8_silence_121 : decode cX8_silence 121 = .ok (.iload 5, 2) := by decide +kernel
theorem dX8_silence_123 : decode cX8_silence 123 = .ok (.iload 6, 2) := by decide +kernel
theorem dX8_silence_125 : decode cX8_silence 125 = .ok (.iadd, 1) := by decide +kernel
theorem dX8_silence_126 : decode cX8_silence 126 = .ok (.if_icmp .gt 25, 3) := by decide +kernel
theorem dX8_silence_129 : decode cX8_silence 129 = .ok (.aload_n 0, 1) := by decide +kernel
theorem dX8_silence_130 : decode cX8_silence 130 = .ok (.getfield 13, 3) := by decide +kernel
theorem dX8_silence_133 : decode cX8_silence 133 = .ok (.iload_n 1, 1) := by decide +kernel
theorem dX8_silence_134 : decode cX8_silence 134 = .ok (.iload 7, 2) := by decide +kernel
theorem dX8_silence_136 : decode cX8_silence 136 = .ok (.invokestatic 82, 3) := by decide +kernel
theorem dX8_silence_139 : decode cX8_silence 139 = .ok (.ifCond .eq 6, 3) := by decide +kernel
theorem dX8_silence_142 : decode cX8_silence 142 = .ok (.iload 7, 2) := by decide +kernel
theorem dX8_silence_144 : decode cX8_silence 144 = .ok (.ireturn, 1) := by decide +kernel
theorem dX8_silence_145 : decode cX8_silence 145 = .ok (.iinc 7 1, 3) := by decide +kernel
theorem dX8_silence_148 : decode cX8_silence 148 = .ok (.goto (-29), 3) := by decide +kernel
theorem dX8_silence_151 : decode cX8_silence 151 = .ok (.iconst (-1), 1) := by decide +kernel
theorem dX8_silence_152 : decode cX8_silence 152 = .ok (.ireturn, 1) := by decide +kernel
theorem dX8_piece_0 : decode cX8_piece 0 = .ok (.aload_n 0, 1) := by decide +kernel
theorem dX8_piece_1 : decode cX8_piece 1 = .ok (.getfield 13, 3) := by decide +kernel
theorem dX8_piece_4 : decode cX8_piece 4 = .ok (.iload_n 1, 1) := by decide +kernel
theorem dX8_piece_5 : decode cX8_piece 5 = .ok (.invokestatic 41, 3) := by decide +kernel
theorem dX8_piece_8 : decode cX8_piece 8 = .ok (.ifCond .eq 28, 3) := by decide +kernel
theorem dX8_piece_11 : decode cX8_piece 11 = .ok (.iload_n 2, 1) := by decide +kernel
theorem dX8_piece_12 : decode cX8_piece 12 = .ok (.i2l, 1) := by decide +kernel
theorem dX8_piece_13 : decode cX8_piece 13 = .ok (.lconst 0, 1) := by decide +kernel
theorem dX8_piece_14 : decode cX8_piece 14 = .ok (.aload_n 0, 1) := by decide +kernel
theorem dX8_piece_15 : decode cX8_piece 15 = .ok (.getfield 13, 3) := by decide +kernel
theorem dX8_piece_18 : decode cX8_piece 18 = .ok (.iload_n 1, 1) := by decide +kernel
theorem dX8_piece_19 : decode cX8_piece 19 = .ok (.iconst 0, 1) := by decide +kernel
theorem dX8_piece_20 : decode cX8_piece 20 = .ok (.invokestatic 194, 3) := by decide +kernel
theorem dX8_piece_23 : decode cX8_piece 23 = .ok (.iconst 1, 1) := by decide +kernel
theorem dX8_piece_24 : decode cX8_piece 24 = .ok (.isub, 1) := by decide +kernel
theorem dX8_piece_25 : decode cX8_piece 25 = .ok (.i2l, 1) := by decide +kernel
theorem dX8_piece_26 : decode cX8_piece 26 = .ok (.invokestatic 37, 3) := by decide +kernel
theorem dX8_piece_29 : decode cX8_piece 29 = .ok (.ifCond .eq 7, 3) := by decide +kernel
theorem dX8_piece_32 : decode cX8_piece 32 = .ok (.iconst 1, 1) := by decide +kernel
theorem dX8_piece_33 : decode cX8_piece 33 = .ok (.goto 4, 3) := by decide +kernel
theorem dX8_piece_36 : decode cX8_piece 36 = .ok (.iconst 0, 1) := by decide +kernel
theorem dX8_piece_37 : decode cX8_piece 37 = .ok (.istore 4, 2) := by decide +kernel
theorem dX8_piece_39 : decode cX8_piece 39 = .ok (.aload_n 0, 1) := by decide +kernel
theorem dX8_piece_40 : decode cX8_piece 40 = .ok (.iload 4, 2) := by decide +kernel
theorem dX8_piece_42 : decode cX8_piece 42 = .ok (.ifCond .ne 7, 3) := by decide +kernel
theorem dX8_piece_45 : decode cX8_piece 45 = .ok (.iconst 1, 1) := by decide +kernel
theorem dX8_piece_46 : decode cX8_piece 46 = .ok (.goto 20, 3) := by decide +kernel
theorem dX8_piece_49 : decode cX8_piece 49 = .ok (.iload_n 3, 1) := by decide +kernel
theorem dX8_piece_50 : decode cX8_piece 50 = .ok (.i2l, 1) := by decide +kernel
theorem dX8_piece_51 : decode cX8_piece 51 = .ok (.lconst 0, 1) := by decide +kernel
theorem dX8_piece_52 : decode cX8_piece 52 = .ok (.ldc2_w 197, 3) := by decide +kernel
theorem dX8_piece_55 : decode cX8_piece 55 = .ok (.invokestatic 37, 3) := by decide +kernel
theorem dX8_piece_58 : decode cX8_piece 58 = .ok (.ifCond .eq 7, 3) := by decide +kernel
theorem dX8_piece_61 : decode cX8_piece 61 = .ok (.iconst 0, 1) := by decide +kernel
theorem dX8_piece_62 : decode cX8_piece 62 = .ok (.goto 4, 3) := by decide +kernel
theorem dX8_piece_65 : decode cX8_piece 65 = .ok (.iconst 2, 1) := by decide +kernel
theorem dX8_piece_66 : decode cX8_piece 66 = .ok (.invokevirtual 98, 3) := by decide +kernel
theorem dX8_piece_69 : decode cX8_piece 69 = .ok (.ifCond .eq 5, 3) := by decide +kernel
theorem dX8_piece_72 : decode cX8_piece 72 = .ok (.iconst 0, 1) := by decide +kernel
theorem dX8_piece_73 : decode cX8_piece 73 = .ok (.ireturn, 1) := by decide +kernel
theorem dX8_piece_74 : decode cX8_piece 74 = .ok (.aload_n 0, 1) := by decide +kernel
theorem dX8_piece_75 : decode cX8_piece 75 = .ok (.getfield 13, 3) := by decide +kernel
theorem dX8_piece_78 : decode cX8_piece 78 = .ok (.iload_n 1, 1) := by decide +kernel
theorem dX8_piece_79 : decode cX8_piece 79 = .ok (.iload_n 2, 1) := by decide +kernel
theorem dX8_piece_80 : decode cX8_piece 80 = .ok (.iconst 0, 1) := by decide +kernel
theorem dX8_piece_81 : decode cX8_piece 81 = .ok (.invokestatic 199, 3) := by decide +kernel
theorem dX8_piece_84 : decode cX8_piece 84 = .ok (.istore 5, 2) := by decide +kernel
theorem dX8_piece_86 : decode cX8_piece 86 = .ok (.aload_n 0, 1) := by decide +kernel
theorem dX8_piece_87 : decode cX8_piece 87 = .ok (.getfield 13, 3) := by decide +kernel
theorem dX8_piece_90 : decode cX8_piece 90 = .ok (.iload_n 1, 1) := by decide +kernel
theorem dX8_piece_91 : decode cX8_piece 91 = .ok (.iload 5, 2) := by decide +kernel
theorem dX8_piece_93 : decode cX8_piece 93 = .ok (.invokestatic 191, 3) := by decide +kernel
theorem dX8_piece_96 : decode cX8_piece 96 = .ok (.istore 6, 2) := by decide +kernel
theorem dX8_piece_98 : decode cX8_piece 98 = .ok (.iconst 0, 1) := by decide +kernel
theorem dX8_piece_99 : decode cX8_piece 99 = .ok (.istore 7, 2) := by decide +kernel
theorem dX8_piece_101 : decode cX8_piece 101 = .ok (.iload 5, 2) := by decide +kernel
theorem dX8_piece_103 : decode cX8_piece 103 = .ok (.istore 8, 2) := by decide +kernel
theorem dX8_piece_105 : decode cX8_piece 105 = .ok (.iload 8, 2) := by decide +kernel
theorem dX8_piece_107 : decode cX8_piece 107 = .ok (.iload 5, 2) := by decide +kernel
theorem dX8_piece_109 : decode cX8_piece 109 = .ok (.iload 6, 2) := by decide +kernel
theorem dX8_piece_111 : decode cX8_piece 111 = .ok (.iadd, 1) := by decide +kernel
theorem dX8_piece_112 : decode cX8_piece 112 = .ok (.if_icmp .ge 41, 3) := by decide +kernel
theorem dX8_piece_115 : decode cX8_piece 115 = .ok (.aload_n 0, 1) := by decide +kernel
theorem dX8_piece_116 : decode cX8_piece 116 = .ok (.getfield 13, 3) := by decide +kernel
theorem dX8_piece_119 : decode cX8_piece 119 = .ok (.iload_n 1, 1) := by decide +kernel
theorem dX8_piece_120 : decode cX8_piece 120 = .ok (.iload 8, 2) := by decide +kernel
theorem dX8_piece_122 : decode cX8_piece 122 = .ok (.invokestatic 49, 3) := by decide +kernel
theorem dX8_piece_125 : decode cX8_piece 125 = .ok (.iload 7, 2) := by decide +kernel
theorem dX8_piece_127 : decode cX8_piece 127 = .ok (.if_icmp .le 16, 3) := by decide +kernel
theorem dX8_piece_130 : decode cX8_piece 130 = .ok (.aload_n 0, 1) := by decide +kernel
theorem dX8_piece_131 : decode cX8_piece 131 = .ok (.getfield 13, 3) := by decide +kernel
theorem dX8_piece_134 : decode cX8_piece 134 = .ok (.iload_n 1, 1) := by decide +kernel
theorem dX8_piece_135 : decode cX8_piece 135 = .ok (.iload 8, 2) := by decide +kernel
theorem dX8_piece_137 : decode cX8_piece 137 = .ok (.invokestatic 49, 3) := by decide +kernel
theorem dX8_piece_140 : decode cX8_piece 140 = .ok (.goto 5, 3) := by decide +kernel
theorem dX8_piece_143 : decode cX8_piece 143 = .ok (.iload 7, 2) := by decide +kernel
theorem dX8_piece_145 : decode cX8_piece 145 = .ok (.istore 7, 2) := by decide +kernel
theorem dX8_piece_147 : decode cX8_piece 147 = .ok (.iinc 8 1, 3) := by decide +kernel
theorem dX8_piece_150 : decode cX8_piece 150 = .ok (.goto (-45), 3) := by decide +kernel
theorem dX8_piece_153 : decode cX8_piece 153 = .ok (.iload_n 3, 1) := by decide +kernel
theorem dX8_piece_154 : decode cX8_piece 154 = .ok (.ifCond .ne 8, 3) := by decide +kernel
theorem dX8_piece_157 : decode cX8_piece 157 = .ok (.iload 5, 2) := by decide +kernel
theorem dX8_piece_159 : decode cX8_piece 159 = .ok (.goto 15, 3) := by decide +kernel
theorem dX8_piece_162 : decode cX8_piece 162 = .ok (.iload_n 3, 1) := by decide +kernel
theorem dX8_piece_163 : decode cX8_piece 163 = .ok (.iconst 1, 1) := by decide +kernel
theorem dX8_piece_164 : decode cX8_piece 164 = .ok (.if_icmp .ne 8, 3) := by decide +kernel
theorem dX8_piece_167 : decode cX8_piece 167 = .ok (.iload 6, 2) := by decide +kernel
theorem dX8_piece_169 : decode cX8_piece 169 = .ok (.goto 5, 3) := by decide +kernel
theorem dX8_piece_172 : decode cX8_piece 172 = .ok (.iload 7, 2) := by decide +kernel
theorem dX8_piece_174 : decode cX8_piece 174 = .ok (.ireturn, 1) := by decide +kernel
theorem dX8_loopOf_0 : decode cX8_loopOf 0 = .ok (.aload_n 0, 1) := by decide +kernel
theorem dX8_loopOf_1 : decode cX8_loopOf 1 = .ok (.aload_n 0, 1) := by decide +kernel
theorem dX8_loopOf_2 : decode cX8_loopOf 2 = .ok (.getfield 13, 3) := by decide +kernel
theorem dX8_loopOf_5 : decode cX8_loopOf 5 = .ok (.iload_n 1, 1) := by decide +kernel
theorem dX8_loopOf_6 : decode cX8_loopOf 6 = .ok (.invokestatic 134, 3) := by decide +kernel
theorem dX8_loopOf_9 : decode cX8_loopOf 9 = .ok (.ifCond .ne 7, 3) := by decide +kernel
theorem dX8_loopOf_12 : decode cX8_loopOf 12 = .ok (.iconst 1, 1) := by decide +kernel
theorem dX8_loopOf_13 : decode cX8_loopOf 13 = .ok (.goto 20, 3) := by decide +kernel
theorem dX8_loopOf_16 : decode cX8_loopOf 16 = .ok (.iload_n 2, 1) := by decide +kernel
theorem dX8_loopOf_17 : decode cX8_loopOf 17 = .ok (.i2l, 1) := by decide +kernel
theorem dX8_loopOf_18 : decode cX8_loopOf 18 = .ok (.lconst 0, 1) := by decide +kernel
theorem dX8_loopOf_19 : decode cX8_loopOf 19 = .ok (.ldc2_w 203, 3) := by decide +kernel
theorem dX8_loopOf_22 : decode cX8_loopOf 22 = .ok (.invokestatic 37, 3) := by decide +kernel
theorem dX8_loopOf_25 : decode cX8_loopOf 25 = .ok (.ifCond .eq 7, 3) := by decide +kernel
theorem dX8_loopOf_28 : decode cX8_loopOf 28 = .ok (.iconst 0, 1) := by decide +kernel
theorem dX8_loopOf_29 : decode cX8_loopOf 29 = .ok (.goto 4, 3) := by decide +kernel
theorem dX8_loopOf_32 : decode cX8_loopOf 32 = .ok (.iconst 2, 1) := by decide +kernel
theorem dX8_loopOf_33 : decode cX8_loopOf 33 = .ok (.invokevirtual 98, 3) := by decide +kernel
theorem dX8_loopOf_36 : decode cX8_loopOf 36 = .ok (.ifCond .eq 5, 3) := by decide +kernel
theorem dX8_loopOf_39 : decode cX8_loopOf 39 = .ok (.iconst 0, 1) := by decide +kernel
theorem dX8_loopOf_40 : decode cX8_loopOf 40 = .ok (.ireturn, 1) := by decide +kernel
theorem dX8_loopOf_41 : decode cX8_loopOf 41 = .ok (.aload_n 0, 1) := by decide +kernel
theorem dX8_loopOf_42 : decode cX8_loopOf 42 = .ok (.getfield 13, 3) := by decide +kernel
theorem dX8_loopOf_45 : decode cX8_loopOf 45 = .ok (.iload_n 1, 1) := by decide +kernel
theorem dX8_loopOf_46 : decode cX8_loopOf 46 = .ok (.iconst 0, 1) := by decide +kernel
theorem dX8_loopOf_47 : decode cX8_loopOf 47 = .ok (.invokestatic 57, 3) := by decide +kernel
theorem dX8_loopOf_50 : decode cX8_loopOf 50 = .ok (.ifCond .ne 7, 3) := by decide +kernel
theorem dX8_loopOf_53 : decode cX8_loopOf 53 = .ok (.iconst 1, 1) := by decide +kernel
theorem dX8_loopOf_54 : decode cX8_loopOf 54 = .ok (.goto 4, 3) := by decide +kernel
theorem dX8_loopOf_57 : decode cX8_loopOf 57 = .ok (.iconst 0, 1) := by decide +kernel
theorem dX8_loopOf_58 : decode cX8_loopOf 58 = .ok (.istore_n 3, 1) := by decide +kernel
theorem dX8_loopOf_59 : decode cX8_loopOf 59 = .ok (.aload_n 0, 1) := by decide +kernel
theorem dX8_loopOf_60 : decode cX8_loopOf 60 = .ok (.getfield 13, 3) := by decide +kernel
theorem dX8_loopOf_63 : decode cX8_loopOf 63 = .ok (.iload_n 1, 1) := by decide +kernel
theorem dX8_loopOf_64 : decode cX8_loopOf 64 = .ok (.iconst 3, 1) := by decide +kernel
theorem dX8_loopOf_65 : decode cX8_loopOf 65 = .ok (.invokestatic 57, 3) := by decide +kernel
theorem dX8_loopOf_68 : decode cX8_loopOf 68 = .ok (.aload_n 0, 1) := by decide +kernel
theorem dX8_loopOf_69 : decode cX8_loopOf 69 = .ok (.getfield 13, 3) := by decide +kernel
theorem dX8_loopOf_72 : decode cX8_loopOf 72 = .ok (.iload_n 1, 1) := by decide +kernel
theorem dX8_loopOf_73 : decode cX8_loopOf 73 = .ok (.iconst 2, 1) := by decide +kernel
theorem dX8_loopOf_74 : decode cX8_loopOf 74 = .ok (.invokestatic 57, 3) := by decide +kernel
theorem dX8_loopOf_77 : decode cX8_loopOf 77 = .ok (.idiv, 1) := by decide +kernel
theorem dX8_loopOf_78 : decode cX8_loopOf 78 = .ok (.istore 4, 2) := by decide +kernel
theorem dX8_loopOf_80 : decode cX8_loopOf 80 = .ok (.iload_n 2, 1) := by decide +kernel
theorem dX8_loopOf_81 : decode cX8_loopOf 81 = .ok (.tableswitch 105 4 8 #[35, 46, 68, 78, 95], 35) := by decide +kernel
theorem dX8_loopOf_116 : decode cX8_loopOf 116 = .ok (.iload_n 3, 1) := by decide +kernel
theorem dX8_loopOf_117 : decode cX8_loopOf 117 = .ok (.ifCond .eq 7, 3) := by decide +kernel
theorem dX8_loopOf_120 : decode cX8_loopOf 120 = .ok (.iconst (-1), 1) := by decide +kernel
theorem dX8_loopOf_121 : decode cX8_loopOf 121 = .ok (.goto 5, 3) := by decide +kernel
theorem dX8_loopOf_124 : decode cX8_loopOf 124 = .ok (.iload 4, 2) := by decide +kernel
theorem dX8_loopOf_126 : decode cX8_loopOf 126 = .ok (.ireturn, 1) := by decide +kernel
theorem dX8_loopOf_127 : decode cX8_loopOf 127 = .ok (.iload_n 3, 1) := by decide +kernel
theorem dX8_loopOf_128 : decode cX8_loopOf 128 = .ok (.ifCond .eq 7, 3) := by decide +kernel
theorem dX8_loopOf_131 : decode cX8_loopOf 131 = .ok (.iconst 0, 1) := by decide +kernel
theorem dX8_loopOf_132 : decode cX8_loopOf 132 = .ok (.goto 16, 3) := by decide +kernel
theorem dX8_loopOf_135 : decode cX8_loopOf 135 = .ok (.aload_n 0, 1) := by decide +kernel
theorem dX8_loopOf_136 : decode cX8_loopOf 136 = .ok (.getfield 13, 3) := by decide +kernel
theorem dX8_loopOf_139 : decode cX8_loopOf 139 = .ok (.iload_n 1, 1) := by decide +kernel
theorem dX8_loopOf_140 : decode cX8_loopOf 140 = .ok (.bipush 12, 2) := by decide +kernel
theorem dX8_loopOf_142 : decode cX8_loopOf 142 = .ok (.iload 4, 2) := by decide +kernel
theorem dX8_loopOf_144 : decode cX8_loopOf 144 = .ok (.iadd, 1) := by decide +kernel
theorem dX8_loopOf_145 : decode cX8_loopOf 145 = .ok (.invokestatic 57, 3) := by decide +kernel
theorem dX8_loopOf_148 : decode cX8_loopOf 148 = .ok (.ireturn, 1) := by decide +kernel
theorem dX8_loopOf_149 : decode cX8_loopOf 149 = .ok (.aload_n 0, 1) := by decide +kernel
theorem dX8_loopOf_150 : decode cX8_loopOf 150 = .ok (.getfield 13, 3) := by decide +kernel
theorem dX8_loopOf_153 : decode cX8_loopOf 153 = .ok (.iload_n 1, 1) := by decide +kernel
theorem dX8_loopOf_154 : decode cX8_loopOf 154 = .ok (.iconst 4, 1) := by decide +kernel
theorem dX8_loopOf_155 : decode cX8_loopOf 155 = .ok (.invokestatic 57, 3) := by decide +kernel
theorem dX8_loopOf_158 : decode cX8_loopOf 158 = .ok (.ireturn, 1) := by decide +kernel
theorem dX8_loopOf_159 : decode cX8_loopOf 159 = .ok (.iload_n 3, 1) := by decide +kernel
theorem dX8_loopOf_160 : decode cX8_loopOf 160 = .ok (.ifCond .eq 7, 3) := by decide +kernel
theorem dX8_loopOf_163 : decode cX8_loopOf 163 = .ok (.iconst (-1), 1) := by decide +kernel
theorem dX8_loopOf_164 : decode cX8_loopOf 164 = .ok (.goto 11, 3) := by decide +kernel
theorem dX8_loopOf_167 : decode cX8_loopOf 167 = .ok (.aload_n 0, 1) := by decide +kernel
theorem dX8_loopOf_168 : decode cX8_loopOf 168 = .ok (.getfield 13, 3) := by decide +kernel
theorem dX8_loopOf_171 : decode cX8_loopOf 171 = .ok (.iload_n 1, 1) := by decide +kernel
theorem dX8_loopOf_172 : decode cX8_loopOf 172 = .ok (.invokestatic 205, 3) := by decide +kernel
theorem dX8_loopOf_175 : decode cX8_loopOf 175 = .ok (.ireturn, 1) := by decide +kernel
theorem dX8_loopOf_176 : decode cX8_loopOf 176 = .ok (.aload_n 0, 1) := by decide +kernel
theorem dX8_loopOf_177 : decode cX8_loopOf 177 = .ok (.getfield 13, 3) := by decide +kernel
theorem dX8_loopOf_180 : decode cX8_loopOf 180 = .ok (.iload_n 1, 1) := by decide +kernel
theorem dX8_loopOf_181 : decode cX8_loopOf 181 = .ok (.iconst 5, 1) := by decide +kernel
theorem dX8_loopOf_182 : decode cX8_loopOf 182 = .ok (.invokestatic 57, 3) := by decide +kernel
theorem dX8_loopOf_185 : decode cX8_loopOf 185 = .ok (.ireturn, 1) := by decide +kernel
theorem dX8_loopOf_186 : decode cX8_loopOf 186 = .ok (.aload_n 0, 1) := by decide +kernel
theorem dX8_loopOf_187 : decode cX8_loopOf 187 = .ok (.getfield 13, 3) := by decide +kernel
theorem dX8_loopOf_190 : decode cX8_loopOf 190 = .ok (.iload_n 1, 1) := by decide +kernel
theorem dX8_loopOf_191 : decode cX8_loopOf 191 = .ok (.iload_n 2, 1) := by decide +kernel
theorem dX8_loopOf_192 : decode cX8_loopOf 192 = .ok (.invokestatic 57, 3) := by decide +kernel
theorem dX8_loopOf_195 : decode cX8_loopOf 195 = .ok (.ireturn, 1) := by decide +kernel
theorem dX8_cell_0 : decode cX8_cell 0 = .ok (.aload_n 0, 1) := by decide +kernel
theorem dX8_cell_1 : decode cX8_cell 1 = .ok (.aload_n 0, 1) := by decide +kernel
theorem dX8_cell_2 : decode cX8_cell 2 = .ok (.getfield 13, 3) := by decide +kernel
theorem dX8_cell_5 : decode cX8_cell 5 = .ok (.iload_n 1, 1) := by decide +kernel
theorem dX8_cell_6 : decode cX8_cell 6 = .ok (.invokestatic 134, 3) := by decide +kernel
theorem dX8_cell_9 : decode cX8_cell 9 = .ok (.ifCond .eq 28, 3) := by decide +kernel
theorem dX8_cell_12 : decode cX8_cell 12 = .ok (.iload_n 2, 1) := by decide +kernel
theorem dX8_cell_13 : decode cX8_cell 13 = .ok (.i2l, 1) := by decide +kernel
theorem dX8_cell_14 : decode cX8_cell 14 = .ok (.lconst 0, 1) := by decide +kernel
theorem dX8_cell_15 : decode cX8_cell 15 = .ok (.aload_n 0, 1) := by decide +kernel
theorem dX8_cell_16 : decode cX8_cell 16 = .ok (.getfield 13, 3) := by decide +kernel
theorem dX8_cell_19 : decode cX8_cell 19 = .ok (.iload_n 1, 1) := by decide +kernel
theorem dX8_cell_20 : decode cX8_cell 20 = .ok (.iconst 0, 1) := by decide +kernel
theorem dX8_cell_21 : decode cX8_cell 21 = .ok (.invokestatic 57, 3) := by decide +kernel
theorem dX8_cell_24 : decode cX8_cell 24 = .ok (.iconst 1, 1) := by decide +kernel
theorem dX8_cell_25 : decode cX8_cell 25 = .ok (.isub, 1) := by decide +kernel
theorem dX8_cell_26 : decode cX8_cell 26 = .ok (.i2l, 1) := by decide +kernel
theorem dX8_cell_27 : decode cX8_cell 27 = .ok (.invokestatic 37, 3) := by decide +kernel
theorem dX8_cell_30 : decode cX8_cell 30 = .ok (.ifCond .eq 7, 3) := by decide +kernel
theorem dX8_cell_33 : decode cX8_cell 33 = .ok (.iconst 0, 1) := by decide +kernel
theorem dX8_cell_34 : decode cX8_cell 34 = .ok (.goto 4, 3) := by decide +kernel
theorem dX8_cell_37 : decode cX8_cell 37 = .ok (.iconst 1, 1) := by decide +kernel
theorem dX8_cell_38 : decode cX8_cell 38 = .ok (.invokevirtual 98, 3) := by decide +kernel
theorem dX8_cell_41 : decode cX8_cell 41 = .ok (.ifCond .eq 5, 3) := by decide +kernel
theorem dX8_cell_44 : decode cX8_cell 44 = .ok (.iconst 0, 1) := by decide +kernel
theorem dX8_cell_45 : decode cX8_cell 45 = .ok (.ireturn, 1) := by decide +kernel
theorem dX8_cell_46 : decode cX8_cell 46 = .ok (.aload_n 0, 1) := by decide +kernel
theorem dX8_cell_47 : decode cX8_cell 47 = .ok (.getfield 13, 3) := by decide +kernel
theorem dX8_cell_50 : decode cX8_cell 50 = .ok (.iload_n 1, 1) := by decide +kernel
theorem dX8_cell_51 : decode cX8_cell 51 = .ok (.bipush 12, 2) := by decide +kernel
theorem dX8_cell_53 : decode cX8_cell 53 = .ok (.iload_n 2, 1) := by decide +kernel
theorem dX8_cell_54 : decode cX8_cell 54 = .ok (.iadd, 1) := by decide +kernel
theorem dX8_cell_55 : decode cX8_cell 55 = .ok (.invokestatic 57, 3) := by decide +kernel
theorem dX8_cell_58 : decode cX8_cell 58 = .ok (.ireturn, 1) := by decide +kernel
theorem dX8_remember_0 : decode cX8_remember 0 = .ok (.aload_n 0, 1) := by decide +kernel
theorem dX8_remember_1 : decode cX8_remember 1 = .ok (.getfield 181, 3) := by decide +kernel
theorem dX8_remember_4 : decode cX8_remember 4 = .ok (.bipush 12, 2) := by decide +kernel
theorem dX8_remember_6 : decode cX8_remember 6 = .ok (.if_icmp .ne 44, 3) := by decide +kernel
theorem dX8_remember_9 : decode cX8_remember 9 = .ok (.iconst 0, 1) := by decide +kernel
theorem dX8_remember_10 : decode cX8_remember 10 = .ok (.istore_n 1, 1) := by decide +kernel
theorem dX8_remember_11 : decode cX8_remember 11 = .ok (.iload_n 1, 1) := by decide +kernel
theorem dX8_remember_12 : decode cX8_remember 12 = .ok (.sipush 4697, 3) := by decide +kernel
theorem dX8_remember_15 : decode cX8_remember 15 = .ok (.if_icmp .ge 25, 3) := by decide +kernel
theorem dX8_remember_18 : decode cX8_remember 18 = .ok (.aload_n 0, 1) := by decide +kernel
theorem dX8_remember_19 : decode cX8_remember 19 = .ok (.getfield 19, 3) := by decide +kernel
theorem dX8_remember_22 : decode cX8_remember 22 = .ok (.iload_n 1, 1) := by decide +kernel
theorem dX8_remember_23 : decode cX8_remember 23 = .ok (.aload_n 0, 1) := by decide +kernel
theorem dX8_remember_24 : decode cX8_remember 24 = .ok (.getfield 19, 3) := by decide +kernel
theorem dX8_remember_27 : decode cX8_remember 27 = .ok (.iload_n 1, 1) := by decide +kernel
theorem dX8_remember_28 : decode cX8_remember 28 = .ok (.sipush 427, 3) := by decide +kernel
theorem dX8_remember_31 : decode cX8_remember 31 = .ok (.iadd, 1) := by decide +kernel
theorem dX8_remember_32 : decode cX8_remember 32 = .ok (.iaload, 1) := by decide +kernel
theorem dX8_remember_33 : decode cX8_remember 33 = .ok (.iastore, 1) := by decide +kernel
theorem dX8_remember_34 : decode cX8_remember 34 = .ok (.iinc 1 1, 3) := by decide +kernel
theorem dX8_remember_37 : decode cX8_remember 37 = .ok (.goto (-26), 3) := by decide +kernel
theorem dX8_remember_40 : decode cX8_remember 40 = .ok (.aload_n 0, 1) := by decide +kernel
theorem dX8_remember_41 : decode cX8_remember 41 = .ok (.dup, 1) := by decide +kernel
theorem dX8_remember_42 : decode cX8_remember 42 = .ok (.getfield 181, 3) := by decide +kernel
theorem dX8_remember_45 : decode cX8_remember 45 = .ok (.iconst 1, 1) := by decide +kernel
theorem dX8_remember_46 : decode cX8_remember 46 = .ok (.isub, 1) := by decide +kernel
theorem dX8_remember_47 : decode cX8_remember 47 = .ok (.putfield 181, 3) := by decide +kernel
theorem dX8_remember_50 : decode cX8_remember 50 = .ok (.aload_n 0, 1) := by decide +kernel
theorem dX8_remember_51 : decode cX8_remember 51 = .ok (.getfield 13, 3) := by decide +kernel
theorem dX8_remember_54 : decode cX8_remember 54 = .ok (.iconst 0, 1) := by decide +kernel
theorem dX8_remember_55 : decode cX8_remember 55 = .ok (.aload_n 0, 1) := by decide +kernel
theorem dX8_remember_56 : decode cX8_remember 56 = .ok (.getfield 19, 3) := by decide +kernel
theorem dX8_remember_59 : decode cX8_remember 59 = .ok (.sipush 427, 3) := by decide +kernel
theorem dX8_remember_62 : decode cX8_remember 62 = .ok (.aload_n 0, 1) := by decide +kernel
theorem dX8_remember_63 : decode cX8_remember 63 = .ok (.getfield 181, 3) := by decide +kernel
theorem dX8_remember_66 : decode cX8_remember 66 = .ok (.imul, 1) := by decide +kernel
theorem dX8_remember_67 : decode cX8_remember 67 = .ok (.invokestatic 177, 3) := by decide +kernel
theorem dX8_remember_70 : decode cX8_remember 70 = .ok (.aload_n 0, 1) := by decide +kernel
theorem dX8_remember_71 : decode cX8_remember 71 = .ok (.dup, 1) := by decide +kernel
theorem dX8_remember_72 : decode cX8_remember 72 = .ok (.getfield 181, 3) := by decide +kernel
theorem dX8_remember_75 : decode cX8_remember 75 = .ok (.iconst 1, 1) := by decide +kernel
theorem dX8_remember_76 : decode cX8_remember 76 = .ok (.iadd, 1) := by decide +kernel
theorem dX8_remember_77 : decode cX8_remember 77 = .ok (.putfield 181, 3) := by decide +kernel
theorem dX8_remember_80 : decode cX8_remember 80 = .ok (.return_, 1) := by decide +kernel
theorem dX8_reel_0 : decode cX8_reel 0 = .ok (.aload_n 0, 1) := by decide +kernel
theorem dX8_reel_1 : decode cX8_reel 1 = .ok (.iload_n 1, 1) := by decide +kernel
theorem dX8_reel_2 : decode cX8_reel 2 = .ok (.i2l, 1) := by decide +kernel
theorem dX8_reel_3 : decode cX8_reel 3 = .ok (.ldc2_w 197, 3) := by decide +kernel
theorem dX8_reel_6 : decode cX8_reel 6 = .ok (.ldc2_w 208, 3) := by decide +kernel
theorem dX8_reel_9 : decode cX8_reel 9 = .ok (.invokestatic 37, 3) := by decide +kernel
theorem dX8_reel_12 : decode cX8_reel 12 = .ok (.ifCond .ne 7, 3) := by decide +kernel
theorem dX8_reel_15 : decode cX8_reel 15 = .ok (.iconst 1, 1) := by decide +kernel
theorem dX8_reel_16 : decode cX8_reel 16 = .ok (.goto 18, 3) := by decide +kernel
theorem dX8_reel_19 : decode cX8_reel 19 = .ok (.aload_n 0, 1) := by decide +kernel
theorem dX8_reel_20 : decode cX8_reel 20 = .ok (.getfield 13, 3) := by decide +kernel
theorem dX8_reel_23 : decode cX8_reel 23 = .ok (.iconst 0, 1) := by decide +kernel
theorem dX8_reel_24 : decode cX8_reel 24 = .ok (.iaload, 1) := by decide +kernel
theorem dX8_reel_25 : decode cX8_reel 25 = .ok (.iconst 3, 1) := by decide +kernel
theorem dX8_reel_26 : decode cX8_reel 26 = .ok (.if_icmp .ge 7, 3) := by decide +kernel
theorem dX8_reel_29 : decode cX8_reel 29 = .ok (.iconst 0, 1) := by decide +kernel
theorem dX8_reel_30 : decode cX8_reel 30 = .ok (.goto 4, 3) := by decide +kernel
theorem dX8_reel_33 : decode cX8_reel 33 = .ok (.iconst 2, 1) := by decide +kernel
theorem dX8_reel_34 : decode cX8_reel 34 = .ok (.invokevirtual 98, 3) := by decide +kernel
theorem dX8_reel_37 : decode cX8_reel 37 = .ok (.ifCond .eq 5, 3) := by decide +kernel
theorem dX8_reel_40 : decode cX8_reel 40 = .ok (.iconst 0, 1) := by decide +kernel
theorem dX8_reel_41 : decode cX8_reel 41 = .ok (.ireturn, 1) := by decide +kernel
theorem dX8_reel_42 : decode cX8_reel 42 = .ok (.aload_n 0, 1) := by decide +kernel
theorem dX8_reel_43 : decode cX8_reel 43 = .ok (.invokevirtual 210, 3) := by decide +kernel
theorem dX8_reel_46 : decode cX8_reel 46 = .ok (.aload_n 0, 1) := by decide +kernel
theorem dX8_reel_47 : decode cX8_reel 47 = .ok (.getfield 13, 3) := by decide +kernel
theorem dX8_reel_50 : decode cX8_reel 50 = .ok (.iload_n 1, 1) := by decide +kernel
theorem dX8_reel_51 : decode cX8_reel 51 = .ok (.invokestatic 147, 3) := by decide +kernel
theorem dX8_reel_54 : decode cX8_reel 54 = .ok (.ireturn, 1) := by decide +kernel
theorem dX8_paint_0 : decode cX8_paint 0 = .ok (.aload_n 0, 1) := by decide +kernel
theorem dX8_paint_1 : decode cX8_paint 1 = .ok (.aload_n 0, 1) := by decide +kernel
theorem dX8_paint_2 : decode cX8_paint 2 = .ok (.getfield 13, 3) := by decide +kernel
theorem dX8_paint_5 : decode cX8_paint 5 = .ok (.iload_n 1, 1) := by decide +kernel
theorem dX8_paint_6 : decode cX8_paint 6 = .ok (.iload_n 2, 1) := by decide +kernel
theorem dX8_paint_7 : decode cX8_paint 7 = .ok (.invokestatic 121, 3) := by decide +kernel
theorem dX8_paint_10 : decode cX8_paint 10 = .ok (.ifCond .eq 15, 3) := by decide +kernel
theorem dX8_paint_13 : decode cX8_paint 13 = .ok (.aload_n 0, 1) := by decide +kernel
theorem dX8_paint_14 : decode cX8_paint 14 = .ok (.getfield 13, 3) := by decide +kernel
theorem dX8_paint_17 : decode cX8_paint 17 = .ok (.iload_n 1, 1) := by decide +kernel
theorem dX8_paint_18 : decode cX8_paint 18 = .ok (.iload_n 3, 1) := by decide +kernel
theorem dX8_paint_19 : decode cX8_paint 19 = .ok (.invokestatic 121, 3) := by decide +kernel
theorem dX8_paint_22 : decode cX8_paint 22 = .ok (.ifCond .ne 7, 3) := by decide +kernel
theorem dX8_paint_25 : decode cX8_paint 25 = .ok (.iconst 1, 1) := by decide +kernel
theorem dX8_paint_26 : decode cX8_paint 26 = .ok (.goto 26, 3) := by decide +kernel
theorem dX8_paint_29 : decode cX8_paint 29 = .ok (.iload_n 3, 1) := by decide +kernel
theorem dX8_paint_30 : decode cX8_paint 30 = .ok (.iload_n 2, 1) := by decide +kernel
theorem dX8_paint_31 : decode cX8_paint 31 = .ok (.if_icmp .lt 16, 3) := by decide +kernel
theorem dX8_paint_34 : decode cX8_paint 34 = .ok (.iload 4, 2) := by decide +kernel
theorem dX8_paint_36 : decode cX8_paint 36 = .ok (.i2l, 1) := by decide +kernel
theorem dX8_paint_37 : decode cX8_paint 37 = .ok (.lconst 0, 1) := by decide +kernel
theorem dX8_paint_38 : decode cX8_paint 38 = .ok (.ldc2_w 105, 3) := by decide +kernel
theorem dX8_paint_41 : decode cX8_paint 41 = .ok (.invokestatic 37, 3) := by decide +kernel
theorem dX8_paint_44 : decode cX8_paint 44 = .ok (.ifCond .ne 7, 3) := by decide +kernel
theorem dX8_paint_47 : decode cX8_paint 47 = .ok (.iconst 2, 1) := by decide +kernel
theorem dX8_paint_48 : decode cX8_paint 48 = .ok (.goto 4, 3) := by decide +kernel
theorem dX8_paint_51 : decode cX8_paint 51 = .ok (.iconst 0, 1) := by decide +kernel
theorem dX8_paint_52 : decode cX8_paint 52 = .ok (.invokevirtual 98, 3) := by decide +kernel
theorem dX8_paint_55 : decode cX8_paint 55 = .ok (.ifCond .eq 5, 3) := by decide +kernel
theorem dX8_paint_58 : decode cX8_paint 58 = .ok (.iconst 0, 1) := by decide +kernel
theorem dX8_paint_59 : decode cX8_paint 59 = .ok (.ireturn, 1) := by decide +kernel
theorem dX8_paint_60 : decode cX8_paint 60 = .ok (.aload_n 0, 1) := by decide +kernel
theorem dX8_paint_61 : decode cX8_paint 61 = .ok (.invokevirtual 210, 3) := by decide +kernel
theorem dX8_paint_64 : decode cX8_paint 64 = .ok (.aload_n 0, 1) := by decide +kernel
theorem dX8_paint_65 : decode cX8_paint 65 = .ok (.getfield 13, 3) := by decide +kernel
theorem dX8_paint_68 : decode cX8_paint 68 = .ok (.iload_n 1, 1) := by decide +kernel
theorem dX8_paint_69 : decode cX8_paint 69 = .ok (.iload_n 2, 1) := by decide +kernel
theorem dX8_paint_70 : decode cX8_paint 70 = .ok (.iload_n 3, 1) := by decide +kernel
theorem dX8_paint_71 : decode cX8_paint 71 = .ok (.iload 4, 2) := by decide +kernel
theorem dX8_paint_73 : decode cX8_paint 73 = .ok (.invokestatic 124, 3) := by decide +kernel
theorem dX8_paint_76 : decode cX8_paint 76 = .ok (.ireturn, 1) := by decide +kernel
theorem dX8_loop_0 : decode cX8_loop 0 = .ok (.aload_n 0, 1) := by decide +kernel
theorem dX8_loop_1 : decode cX8_loop 1 = .ok (.aload_n 0, 1) := by decide +kernel
theorem dX8_loop_2 : decode cX8_loop 2 = .ok (.getfield 13, 3) := by decide +kernel
theorem dX8_loop_5 : decode cX8_loop 5 = .ok (.iconst 1, 1) := by decide +kernel
theorem dX8_loop_6 : decode cX8_loop 6 = .ok (.iaload, 1) := by decide +kernel
theorem dX8_loop_7 : decode cX8_loop 7 = .ok (.iconst 4, 1) := by decide +kernel
theorem dX8_loop_8 : decode cX8_loop 8 = .ok (.if_icmp .ge 7, 3) := by decide +kernel
theorem dX8_loop_11 : decode cX8_loop 11 = .ok (.iconst 0, 1) := by decide +kernel
theorem dX8_loop_12 : decode cX8_loop 12 = .ok (.goto 4, 3) := by decide +kernel
theorem dX8_loop_15 : decode cX8_loop 15 = .ok (.iconst 1, 1) := by decide +kernel
theorem dX8_loop_16 : decode cX8_loop 16 = .ok (.invokevirtual 98, 3) := by decide +kernel
theorem dX8_loop_19 : decode cX8_loop 19 = .ok (.ifCond .eq 5, 3) := by decide +kernel
theorem dX8_loop_22 : decode cX8_loop 22 = .ok (.iconst 0, 1) := by decide +kernel
theorem dX8_loop_23 : decode cX8_loop 23 = .ok (.ireturn, 1) := by decide +kernel
theorem dX8_loop_24 : decode cX8_loop 24 = .ok (.aload_n 0, 1) := by decide +kernel
theorem dX8_loop_25 : decode cX8_loop 25 = .ok (.invokevirtual 210, 3) := by decide +kernel
theorem dX8_loop_28 : decode cX8_loop 28 = .ok (.aload_n 0, 1) := by decide +kernel
theorem dX8_loop_29 : decode cX8_loop 29 = .ok (.getfield 13, 3) := by decide +kernel
theorem dX8_loop_32 : decode cX8_loop 32 = .ok (.invokestatic 154, 3) := by decide +kernel
theorem dX8_loop_35 : decode cX8_loop 35 = .ok (.ireturn, 1) := by decide +kernel
theorem dX8_splice_0 : decode cX8_splice 0 = .ok (.aload_n 0, 1) := by decide +kernel
theorem dX8_splice_1 : decode cX8_splice 1 = .ok (.aload_n 0, 1) := by decide +kernel
theorem dX8_splice_2 : decode cX8_splice 2 = .ok (.getfield 13, 3) := by decide +kernel
theorem dX8_splice_5 : decode cX8_splice 5 = .ok (.iload_n 1, 1) := by decide +kernel
theorem dX8_splice_6 : decode cX8_splice 6 = .ok (.invokestatic 134, 3) := by decide +kernel
theorem dX8_splice_9 : decode cX8_splice 9 = .ok (.ifCond .eq 32, 3) := by decide +kernel
theorem dX8_splice_12 : decode cX8_splice 12 = .ok (.aload_n 0, 1) := by decide +kernel
theorem dX8_splice_13 : decode cX8_splice 13 = .ok (.getfield 13, 3) := by decide +kernel
theorem dX8_splice_16 : decode cX8_splice 16 = .ok (.iload_n 2, 1) := by decide +kernel
theorem dX8_splice_17 : decode cX8_splice 17 = .ok (.iload_n 3, 1) := by decide +kernel
theorem dX8_splice_18 : decode cX8_splice 18 = .ok (.invokestatic 137, 3) := by decide +kernel
theorem dX8_splice_21 : decode cX8_splice 21 = .ok (.ifCond .eq 20, 3) := by decide +kernel
theorem dX8_splice_24 : decode cX8_splice 24 = .ok (.aload_n 0, 1) := by decide +kernel
theorem dX8_splice_25 : decode cX8_splice 25 = .ok (.getfield 13, 3) := by decide +kernel
theorem dX8_splice_28 : decode cX8_splice 28 = .ok (.iload_n 2, 1) := by decide +kernel
theorem dX8_splice_29 : decode cX8_splice 29 = .ok (.iload 4, 2) := by decide +kernel
theorem dX8_splice_31 : decode cX8_splice 31 = .ok (.invokestatic 137, 3) := by decide +kernel
theorem dX8_splice_34 : decode cX8_splice 34 = .ok (.ifCond .eq 7, 3) := by decide +kernel
theorem dX8_splice_37 : decode cX8_splice 37 = .ok (.iconst 0, 1) := by decide +kernel
theorem dX8_splice_38 : decode cX8_splice 38 = .ok (.goto 4, 3) := by decide +kernel
theorem dX8_splice_41 : decode cX8_splice 41 = .ok (.iconst 1, 1) := by decide +kernel
theorem dX8_splice_42 : decode cX8_splice 42 = .ok (.invokevirtual 98, 3) := by decide +kernel
theorem dX8_splice_45 : decode cX8_splice 45 = .ok (.ifCond .eq 5, 3) := by decide +kernel
theorem dX8_splice_48 : decode cX8_splice 48 = .ok (.iconst 0, 1) := by decide +kernel
theorem dX8_splice_49 : decode cX8_splice 49 = .ok (.ireturn, 1) := by decide +kernel
theorem dX8_splice_50 : decode cX8_splice 50 = .ok (.aload_n 0, 1) := by decide +kernel
theorem dX8_splice_51 : decode cX8_splice 51 = .ok (.invokevirtual 210, 3) := by decide +kernel
theorem dX8_splice_54 : decode cX8_splice 54 = .ok (.aload_n 0, 1) := by decide +kernel
theorem dX8_splice_55 : decode cX8_splice 55 = .ok (.getfield 13, 3) := by decide +kernel
theorem dX8_splice_58 : decode cX8_splice 58 = .ok (.iload_n 1, 1) := by decide +kernel
theorem dX8_splice_59 : decode cX8_splice 59 = .ok (.iload_n 2, 1) := by decide +kernel
theorem dX8_splice_60 : decode cX8_splice 60 = .ok (.iload_n 3, 1) := by decide +kernel
theorem dX8_splice_61 : decode cX8_splice 61 = .ok (.iload 4, 2) := by decide +kernel
theorem dX8_splice_63 : decode cX8_splice 63 = .ok (.invokestatic 140, 3) := by decide +kernel
theorem dX8_splice_66 : decode cX8_splice 66 = .ok (.ireturn, 1) := by decide +kernel
theorem dX8_unsplice_0 : decode cX8_unsplice 0 = .ok (.aload_n 0, 1) := by decide +kernel
theorem dX8_unsplice_1 : decode cX8_unsplice 1 = .ok (.aload_n 0, 1) := by decide +kernel
theorem dX8_unsplice_2 : decode cX8_unsplice 2 = .ok (.getfield 13, 3) := by decide +kernel
theorem dX8_unsplice_5 : decode cX8_unsplice 5 = .ok (.iload_n 1, 1) := by decide +kernel
theorem dX8_unsplice_6 : decode cX8_unsplice 6 = .ok (.invokestatic 134, 3) := by decide +kernel
theorem dX8_unsplice_9 : decode cX8_unsplice 9 = .ok (.ifCond .ne 7, 3) := by decide +kernel
theorem dX8_unsplice_12 : decode cX8_unsplice 12 = .ok (.iconst 1, 1) := by decide +kernel
theorem dX8_unsplice_13 : decode cX8_unsplice 13 = .ok (.goto 20, 3) := by decide +kernel
theorem dX8_unsplice_16 : decode cX8_unsplice 16 = .ok (.aload_n 0, 1) := by decide +kernel
theorem dX8_unsplice_17 : decode cX8_unsplice 17 = .ok (.getfield 13, 3) := by decide +kernel
theorem dX8_unsplice_20 : decode cX8_unsplice 20 = .ok (.iload_n 1, 1) := by decide +kernel
theorem dX8_unsplice_21 : decode cX8_unsplice 21 = .ok (.iconst 0, 1) := by decide +kernel
theorem dX8_unsplice_22 : decode cX8_unsplice 22 = .ok (.invokestatic 57, 3) := by decide +kernel
theorem dX8_unsplice_25 : decode cX8_unsplice 25 = .ok (.ifCond .ne 7, 3) := by decide +kernel
theorem dX8_unsplice_28 : decode cX8_unsplice 28 = .ok (.iconst 2, 1) := by decide +kernel
theorem dX8_unsplice_29 : decode cX8_unsplice 29 = .ok (.goto 4, 3) := by decide +kernel
theorem dX8_unsplice_32 : decode cX8_unsplice 32 = .ok (.iconst 0, 1) := by decide +kernel
theorem dX8_unsplice_33 : decode cX8_unsplice 33 = .ok (.invokevirtual 98, 3) := by decide +kernel
theorem dX8_unsplice_36 : decode cX8_unsplice 36 = .ok (.ifCond .eq 5, 3) := by decide +kernel
theorem dX8_unsplice_39 : decode cX8_unsplice 39 = .ok (.iconst 0, 1) := by decide +kernel
theorem dX8_unsplice_40 : decode cX8_unsplice 40 = .ok (.ireturn, 1) := by decide +kernel
theorem dX8_unsplice_41 : decode cX8_unsplice 41 = .ok (.aload_n 0, 1) := by decide +kernel
theorem dX8_unsplice_42 : decode cX8_unsplice 42 = .ok (.invokevirtual 210, 3) := by decide +kernel
theorem dX8_unsplice_45 : decode cX8_unsplice 45 = .ok (.aload_n 0, 1) := by decide +kernel
theorem dX8_unsplice_46 : decode cX8_unsplice 46 = .ok (.getfield 13, 3) := by decide +kernel
theorem dX8_unsplice_49 : decode cX8_unsplice 49 = .ok (.iload_n 1, 1) := by decide +kernel
theorem dX8_unsplice_50 : decode cX8_unsplice 50 = .ok (.invokestatic 213, 3) := by decide +kernel
theorem dX8_unsplice_53 : decode cX8_unsplice 53 = .ok (.ireturn, 1) := by decide +kernel
theorem dX8_speed_0 : decode cX8_speed 0 = .ok (.aload_n 0, 1) := by decide +kernel
theorem dX8_speed_1 : decode cX8_speed 1 = .ok (.aload_n 0, 1) := by decide +kernel
theorem dX8_speed_2 : decode cX8_speed 2 = .ok (.getfield 13, 3) := by decide +kernel
theorem dX8_speed_5 : decode cX8_speed 5 = .ok (.iload_n 1, 1) := by decide +kernel
theorem dX8_speed_6 : decode cX8_speed 6 = .ok (.invokestatic 134, 3) := by decide +kernel
theorem dX8_speed_9 : decode cX8_speed 9 = .ok (.ifCond .ne 7, 3) := by decide +kernel
theorem dX8_speed_12 : decode cX8_speed 12 = .ok (.iconst 1, 1) := by decide +kernel
theorem dX8_speed_13 : decode cX8_speed 13 = .ok (.goto 32, 3) := by decide +kernel
theorem dX8_speed_16 : decode cX8_speed 16 = .ok (.iload_n 2, 1) := by decide +kernel
theorem dX8_speed_17 : decode cX8_speed 17 = .ok (.i2l, 1) := by decide +kernel
theorem dX8_speed_18 : decode cX8_speed 18 = .ok (.lconst 1, 1) := by decide +kernel
theorem dX8_speed_19 : decode cX8_speed 19 = .ok (.ldc2_w 105, 3) := by decide +kernel
theorem dX8_speed_22 : decode cX8_speed 22 = .ok (.invokestatic 37, 3) := by decide +kernel
theorem dX8_speed_25 : decode cX8_speed 25 = .ok (.ifCond .eq 19, 3) := by decide +kernel
theorem dX8_speed_28 : decode cX8_speed 28 = .ok (.iload_n 3, 1) := by decide +kernel
theorem dX8_speed_29 : decode cX8_speed 29 = .ok (.i2l, 1) := by decide +kernel
theorem dX8_speed_30 : decode cX8_speed 30 = .ok (.lconst 1, 1) := by decide +kernel
theorem dX8_speed_31 : decode cX8_speed 31 = .ok (.ldc2_w 105, 3) := by decide +kernel
theorem dX8_speed_34 : decode cX8_speed 34 = .ok (.invokestatic 37, 3) := by decide +kernel
theorem dX8_speed_37 : decode cX8_speed 37 = .ok (.ifCond .eq 7, 3) := by decide +kernel
theorem dX8_speed_40 : decode cX8_speed 40 = .ok (.iconst 0, 1) := by decide +kernel
theorem dX8_speed_41 : decode cX8_speed 41 = .ok (.goto 4, 3) := by decide +kernel
theorem dX8_speed_44 : decode cX8_speed 44 = .ok (.iconst 2, 1) := by decide +kernel
theorem dX8_speed_45 : decode cX8_speed 45 = .ok (.invokevirtual 98, 3) := by decide +kernel
theorem dX8_speed_48 : decode cX8_speed 48 = .ok (.ifCond .eq 5, 3) := by decide +kernel
theorem dX8_speed_51 : decode cX8_speed 51 = .ok (.iconst 0, 1) := by decide +kernel
theorem dX8_speed_52 : decode cX8_speed 52 = .ok (.ireturn, 1) := by decide +kernel
theorem dX8_speed_53 : decode cX8_speed 53 = .ok (.aload_n 0, 1) := by decide +kernel
theorem dX8_speed_54 : decode cX8_speed 54 = .ok (.invokevirtual 210, 3) := by decide +kernel
theorem dX8_speed_57 : decode cX8_speed 57 = .ok (.aload_n 0, 1) := by decide +kernel
theorem dX8_speed_58 : decode cX8_speed 58 = .ok (.getfield 13, 3) := by decide +kernel
theorem dX8_speed_61 : decode cX8_speed 61 = .ok (.iload_n 1, 1) := by decide +kernel
theorem dX8_speed_62 : decode cX8_speed 62 = .ok (.iload_n 2, 1) := by decide +kernel
theorem dX8_speed_63 : decode cX8_speed 63 = .ok (.iload_n 3, 1) := by decide +kernel
theorem dX8_speed_64 : decode cX8_speed 64 = .ok (.invokestatic 143, 3) := by decide +kernel
theorem dX8_speed_67 : decode cX8_speed 67 = .ok (.ireturn, 1) := by decide +kernel
theorem dX8_mute_0 : decode cX8_mute 0 = .ok (.aload_n 0, 1) := by decide +kernel
theorem dX8_mute_1 : decode cX8_mute 1 = .ok (.aload_n 0, 1) := by decide +kernel
theorem dX8_mute_2 : decode cX8_mute 2 = .ok (.getfield 13, 3) := by decide +kernel
theorem dX8_mute_5 : decode cX8_mute 5 = .ok (.iload_n 1, 1) := by decide +kernel
theorem dX8_mute_6 : decode cX8_mute 6 = .ok (.invokestatic 134, 3) := by decide +kernel
theorem dX8_mute_9 : decode cX8_mute 9 = .ok (.ifCond .eq 7, 3) := by decide +kernel
theorem dX8_mute_12 : decode cX8_mute 12 = .ok (.iconst 0, 1) := by decide +kernel
theorem dX8_mute_13 : decode cX8_mute 13 = .ok (.goto 4, 3) := by decide +kernel
theorem dX8_mute_16 : decode cX8_mute 16 = .ok (.iconst 1, 1) := by decide +kernel
theorem dX8_mute_17 : decode cX8_mute 17 = .ok (.invokevirtual 98, 3) := by decide +kernel
theorem dX8_mute_20 : decode cX8_mute 20 = .ok (.ifCond .eq 5, 3) := by decide +kernel
theorem dX8_mute_23 : decode cX8_mute 23 = .ok (.iconst 0, 1) := by decide +kernel
theorem dX8_mute_24 : decode cX8_mute 24 = .ok (.ireturn, 1) := by decide +kernel
theorem dX8_mute_25 : decode cX8_mute 25 = .ok (.aload_n 0, 1) := by decide +kernel
theorem dX8_mute_26 : decode cX8_mute 26 = .ok (.invokevirtual 210, 3) := by decide +kernel
theorem dX8_mute_29 : decode cX8_mute 29 = .ok (.aload_n 0, 1) := by decide +kernel
theorem dX8_mute_30 : decode cX8_mute 30 = .ok (.getfield 13, 3) := by decide +kernel
theorem dX8_mute_33 : decode cX8_mute 33 = .ok (.iload_n 1, 1) := by decide +kernel
theorem dX8_mute_34 : decode cX8_mute 34 = .ok (.iload_n 2, 1) := by decide +kernel
theorem dX8_mute_35 : decode cX8_mute 35 = .ok (.invokestatic 164, 3) := by decide +kernel
theorem dX8_mute_38 : decode cX8_mute 38 = .ok (.ireturn, 1) := by decide +kernel
theorem dX8_ticks_0 : decode cX8_ticks 0 = .ok (.aload_n 0, 1) := by decide +kernel
theorem dX8_ticks_1 : decode cX8_ticks 1 = .ok (.iload_n 1, 1) := by decide +kernel
theorem dX8_ticks_2 : decode cX8_ticks 2 = .ok (.i2l, 1) := by decide +kernel
theorem dX8_ticks_3 : decode cX8_ticks 3 = .ok (.lconst 1, 1) := by decide +kernel
theorem dX8_ticks_4 : decode cX8_ticks 4 = .ok (.ldc2_w 216, 3) := by decide +kernel
theorem dX8_ticks_7 : decode cX8_ticks 7 = .ok (.invokestatic 37, 3) := by decide +kernel
theorem dX8_ticks_10 : decode cX8_ticks 10 = .ok (.ifCond .eq 7, 3) := by decide +kernel
theorem dX8_ticks_13 : decode cX8_ticks 13 = .ok (.iconst 0, 1) := by decide +kernel
theorem dX8_ticks_14 : decode cX8_ticks 14 = .ok (.goto 4, 3) := by decide +kernel
theorem dX8_ticks_17 : decode cX8_ticks 17 = .ok (.iconst 1, 1) := by decide +kernel
theorem dX8_ticks_18 : decode cX8_ticks 18 = .ok (.invokevirtual 98, 3) := by decide +kernel
theorem dX8_ticks_21 : decode cX8_ticks 21 = .ok (.ifCond .eq 5, 3) := by decide +kernel
theorem dX8_ticks_24 : decode cX8_ticks 24 = .ok (.iconst 0, 1) := by decide +kernel
theorem dX8_ticks_25 : decode cX8_ticks 25 = .ok (.ireturn, 1) := by decide +kernel
theorem dX8_ticks_26 : decode cX8_ticks 26 = .ok (.aload_n 0, 1) := by decide +kernel
theorem dX8_ticks_27 : decode cX8_ticks 27 = .ok (.invokevirtual 210, 3) := by decide +kernel
theorem dX8_ticks_30 : decode cX8_ticks 30 = .ok (.aload_n 0, 1) := by decide +kernel
theorem dX8_ticks_31 : decode cX8_ticks 31 = .ok (.getfield 13, 3) := by decide +kernel
theorem dX8_ticks_34 : decode cX8_ticks 34 = .ok (.iload_n 1, 1) := by decide +kernel
theorem dX8_ticks_35 : decode cX8_ticks 35 = .ok (.invokestatic 90, 3) := by decide +kernel
theorem dX8_ticks_38 : decode cX8_ticks 38 = .ok (.ireturn, 1) := by decide +kernel
theorem dX8_record_0 : decode cX8_record 0 = .ok (.aload_n 0, 1) := by decide +kernel
theorem dX8_record_1 : decode cX8_record 1 = .ok (.aload_n 0, 1) := by decide +kernel
theorem dX8_record_2 : decode cX8_record 2 = .ok (.getfield 13, 3) := by decide +kernel
theorem dX8_record_5 : decode cX8_record 5 = .ok (.iload_n 1, 1) := by decide +kernel
theorem dX8_record_6 : decode cX8_record 6 = .ok (.invokestatic 41, 3) := by decide +kernel
theorem dX8_record_9 : decode cX8_record 9 = .ok (.ifCond .ne 7, 3) := by decide +kernel
theorem dX8_record_12 : decode cX8_record 12 = .ok (.iconst 1, 1) := by decide +kernel
theorem dX8_record_13 : decode cX8_record 13 = .ok (.goto 26, 3) := by decide +kernel
theorem dX8_record_16 : decode cX8_record 16 = .ok (.iload_n 2, 1) := by decide +kernel
theorem dX8_record_17 : decode cX8_record 17 = .ok (.i2l, 1) := by decide +kernel
theorem dX8_record_18 : decode cX8_record 18 = .ok (.lconst 1, 1) := by decide +kernel
theorem dX8_record_19 : decode cX8_record 19 = .ok (.aload_n 0, 1) := by decide +kernel
theorem dX8_record_20 : decode cX8_record 20 = .ok (.getfield 13, 3) := by decide +kernel
theorem dX8_record_23 : decode cX8_record 23 = .ok (.iload_n 1, 1) := by decide +kernel
theorem dX8_record_24 : decode cX8_record 24 = .ok (.invokestatic 45, 3) := by decide +kernel
theorem dX8_record_27 : decode cX8_record 27 = .ok (.i2l, 1) := by decide +kernel
theorem dX8_record_28 : decode cX8_record 28 = .ok (.invokestatic 37, 3) := by decide +kernel
theorem dX8_record_31 : decode cX8_record 31 = .ok (.ifCond .eq 7, 3) := by decide +kernel
theorem dX8_record_34 : decode cX8_record 34 = .ok (.iconst 0, 1) := by decide +kernel
theorem dX8_record_35 : decode cX8_record 35 = .ok (.goto 4, 3) := by decide +kernel
theorem dX8_record_38 : decode cX8_record 38 = .ok (.iconst 2, 1) := by decide +kernel
theorem dX8_record_39 : decode cX8_record 39 = .ok (.invokevirtual 98, 3) := by decide +kernel
theorem dX8_record_42 : decode cX8_record 42 = .ok (.ifCond .eq 5, 3) := by decide +kernel
theorem dX8_record_45 : decode cX8_record 45 = .ok (.iconst 0, 1) := by decide +kernel
theorem dX8_record_46 : decode cX8_record 46 = .ok (.ireturn, 1) := by decide +kernel
theorem dX8_record_47 : decode cX8_record 47 = .ok (.aload_n 0, 1) := by decide +kernel
theorem dX8_record_48 : decode cX8_record 48 = .ok (.invokevirtual 210, 3) := by decide +kernel
theorem dX8_record_51 : decode cX8_record 51 = .ok (.aload_n 0, 1) := by decide +kernel
theorem dX8_record_52 : decode cX8_record 52 = .ok (.getfield 13, 3) := by decide +kernel
theorem dX8_record_55 : decode cX8_record 55 = .ok (.iload_n 1, 1) := by decide +kernel
theorem dX8_record_56 : decode cX8_record 56 = .ok (.iload_n 2, 1) := by decide +kernel
theorem dX8_record_57 : decode cX8_record 57 = .ok (.invokestatic 168, 3) := by decide +kernel
theorem dX8_record_60 : decode cX8_record 60 = .ok (.ireturn, 1) := by decide +kernel
theorem dX8_undo_0 : decode cX8_undo 0 = .ok (.aload_n 0, 1) := by decide +kernel
theorem dX8_undo_1 : decode cX8_undo 1 = .ok (.aload_n 0, 1) := by decide +kernel
theorem dX8_undo_2 : decode cX8_undo 2 = .ok (.getfield 181, 3) := by decide +kernel
theorem dX8_undo_5 : decode cX8_undo 5 = .ok (.ifCond .ne 7, 3) := by decide +kernel
theorem dX8_undo_8 : decode cX8_undo 8 = .ok (.iconst 1, 1) := by decide +kernel
theorem dX8_undo_9 : decode cX8_undo 9 = .ok (.goto 4, 3) := by decide +kernel
theorem dX8_undo_12 : decode cX8_undo 12 = .ok (.iconst 0, 1) := by decide +kernel
theorem dX8_undo_13 : decode cX8_undo 13 = .ok (.invokevirtual 98, 3) := by decide +kernel
theorem dX8_undo_16 : decode cX8_undo 16 = .ok (.ifCond .eq 5, 3) := by decide +kernel
theorem dX8_undo_19 : decode cX8_undo 19 = .ok (.iconst 0, 1) := by decide +kernel
theorem dX8_undo_20 : decode cX8_undo 20 = .ok (.ireturn, 1) := by decide +kernel
theorem dX8_undo_21 : decode cX8_undo 21 = .ok (.aload_n 0, 1) := by decide +kernel
theorem dX8_undo_22 : decode cX8_undo 22 = .ok (.dup, 1) := by decide +kernel
theorem dX8_undo_23 : decode cX8_undo 23 = .ok (.getfield 181, 3) := by decide +kernel
theorem dX8_undo_26 : decode cX8_undo 26 = .ok (.iconst 1, 1) := by decide +kernel
theorem dX8_undo_27 : decode cX8_undo 27 = .ok (.isub, 1) := by decide +kernel
theorem dX8_undo_28 : decode cX8_undo 28 = .ok (.putfield 181, 3) := by decide +kernel
theorem dX8_undo_31 : decode cX8_undo 31 = .ok (.aload_n 0, 1) := by decide +kernel
theorem dX8_undo_32 : decode cX8_undo 32 = .ok (.getfield 19, 3) := by decide +kernel
theorem dX8_undo_35 : decode cX8_undo 35 = .ok (.sipush 427, 3) := by decide +kernel
theorem dX8_undo_38 : decode cX8_undo 38 = .ok (.aload_n 0, 1) := by decide +kernel
theorem dX8_undo_39 : decode cX8_undo 39 = .ok (.getfield 181, 3) := by decide +kernel
theorem dX8_undo_42 : decode cX8_undo 42 = .ok (.imul, 1) := by decide +kernel
theorem dX8_undo_43 : decode cX8_undo 43 = .ok (.aload_n 0, 1) := by decide +kernel
theorem dX8_undo_44 : decode cX8_undo 44 = .ok (.getfield 13, 3) := by decide +kernel
theorem dX8_undo_47 : decode cX8_undo 47 = .ok (.iconst 0, 1) := by decide +kernel
theorem dX8_undo_48 : decode cX8_undo 48 = .ok (.invokestatic 177, 3) := by decide +kernel
theorem dX8_undo_51 : decode cX8_undo 51 = .ok (.aload_n 0, 1) := by decide +kernel
theorem dX8_undo_52 : decode cX8_undo 52 = .ok (.getfield 181, 3) := by decide +kernel
theorem dX8_undo_55 : decode cX8_undo 55 = .ok (.ireturn, 1) := by decide +kernel
theorem dX8_soundIn_0 : decode cX8_soundIn 0 = .ok (.aload_n 0, 1) := by decide +kernel
theorem dX8_soundIn_1 : decode cX8_soundIn 1 = .ok (.iload_n 1, 1) := by decide +kernel
theorem dX8_soundIn_2 : decode cX8_soundIn 2 = .ok (.i2l, 1) := by decide +kernel
theorem dX8_soundIn_3 : decode cX8_soundIn 3 = .ok (.lconst 0, 1) := by decide +kernel
theorem dX8_soundIn_4 : decode cX8_soundIn 4 = .ok (.ldc2_w 218, 3) := by decide +kernel
theorem dX8_soundIn_7 : decode cX8_soundIn 7 = .ok (.invokestatic 37, 3) := by decide +kernel
theorem dX8_soundIn_10 : decode cX8_soundIn 10 = .ok (.ifCond .eq 7, 3) := by decide +kernel
theorem dX8_soundIn_13 : decode cX8_soundIn 13 = .ok (.iconst 0, 1) := by decide +kernel
theorem dX8_soundIn_14 : decode cX8_soundIn 14 = .ok (.goto 4, 3) := by decide +kernel
theorem dX8_soundIn_17 : decode cX8_soundIn 17 = .ok (.iconst 1, 1) := by decide +kernel
theorem dX8_soundIn_18 : decode cX8_soundIn 18 = .ok (.invokevirtual 98, 3) := by decide +kernel
theorem dX8_soundIn_21 : decode cX8_soundIn 21 = .ok (.ifCond .eq 5, 3) := by decide +kernel
theorem dX8_soundIn_24 : decode cX8_soundIn 24 = .ok (.iconst 0, 1) := by decide +kernel
theorem dX8_soundIn_25 : decode cX8_soundIn 25 = .ok (.ireturn, 1) := by decide +kernel
theorem dX8_soundIn_26 : decode cX8_soundIn 26 = .ok (.aload_n 0, 1) := by decide +kernel
theorem dX8_soundIn_27 : decode cX8_soundIn 27 = .ok (.getfield 13, 3) := by decide +kernel
theorem dX8_soundIn_30 : decode cX8_soundIn 30 = .ok (.iload_n 1, 1) := by decide +kernel
theorem dX8_soundIn_31 : decode cX8_soundIn 31 = .ok (.i2l, 1) := by decide +kernel
theorem dX8_soundIn_32 : decode cX8_soundIn 32 = .ok (.invokestatic 78, 3) := by decide +kernel
theorem dX8_soundIn_35 : decode cX8_soundIn 35 = .ok (.ireturn, 1) := by decide +kernel
theorem dX8_firstZero_0 : decode cX8_firstZero 0 = .ok (.lload_n 2, 1) := by decide +kernel
theorem dX8_firstZero_1 : decode cX8_firstZero 1 = .ok (.lstore 8, 2) := by decide +kernel
theorem dX8_firstZero_3 : decode cX8_firstZero 3 = .ok (.iconst 0, 1) := by decide +kernel
theorem dX8_firstZero_4 : decode cX8_firstZero 4 = .ok (.istore 10, 2) := by decide +kernel
theorem dX8_firstZero_6 : decode cX8_firstZero 6 = .ok (.iload 10, 2) := by decide +kernel
theorem dX8_firstZero_8 : decode cX8_firstZero 8 = .ok (.aload_n 0, 1) := by decide +kernel
theorem dX8_firstZero_9 : decode cX8_firstZero 9 = .ok (.iload_n 1, 1) := by decide +kernel
theorem dX8_firstZero_10 : decode cX8_firstZero 10 = .ok (.invokestatic 205, 3) := by decide +kernel
theorem dX8_firstZero_13 : decode cX8_firstZero 13 = .ok (.if_icmp .gt 37, 3) := by decide +kernel
theorem dX8_firstZero_16 : decode cX8_firstZero 16 = .ok (.lload 8, 2) := by decide +kernel
theorem dX8_firstZero_18 : decode cX8_firstZero 18 = .ok (.lload 6, 2) := by decide +kernel
theorem dX8_firstZero_20 : decode cX8_firstZero 20 = .ok (.lcmp, 1) := by decide +kernel
theorem dX8_firstZero_21 : decode cX8_firstZero 21 = .ok (.ifCond .gt 29, 3) := by decide +kernel
theorem dX8_firstZero_24 : decode cX8_firstZero 24 = .ok (.aload_n 0, 1) := by decide +kernel
theorem dX8_firstZero_25 : decode cX8_firstZero 25 = .ok (.iload_n 1, 1) := by decide +kernel
theorem dX8_firstZero_26 : decode cX8_firstZero 26 = .ok (.lload 8, 2) := by decide +kernel
theorem dX8_firstZero_28 : decode cX8_firstZero 28 = .ok (.invokestatic 67, 3) := by decide +kernel
theorem dX8_firstZero_31 : decode cX8_firstZero 31 = .ok (.ifCond .ne 6, 3) := by decide +kernel
theorem dX8_firstZero_34 : decode cX8_firstZero 34 = .ok (.lload 8, 2) := by decide +kernel
theorem dX8_firstZero_36 : decode cX8_firstZero 36 = .ok (.lreturn, 1) := by decide +kernel
theorem dX8_firstZero_37 : decode cX8_firstZero 37 = .ok (.lload 8, 2) := by decide +kernel
theorem dX8_firstZero_39 : decode cX8_firstZero 39 = .ok (.lload 4, 2) := by decide +kernel
theorem dX8_firstZero_41 : decode cX8_firstZero 41 = .ok (.ladd, 1) := by decide +kernel
theorem dX8_firstZero_42 : decode cX8_firstZero 42 = .ok (.lstore 8, 2) := by decide +kernel
theorem dX8_firstZero_44 : decode cX8_firstZero 44 = .ok (.iinc 10 1, 3) := by decide +kernel
theorem dX8_firstZero_47 : decode cX8_firstZero 47 = .ok (.goto (-41), 3) := by decide +kernel
theorem dX8_firstZero_50 : decode cX8_firstZero 50 = .ok (.ldc2_w 220, 3) := by decide +kernel
theorem dX8_firstZero_53 : decode cX8_firstZero 53 = .ok (.lreturn, 1) := by decide +kernel
theorem dX8_multiple_0 : decode cX8_multiple 0 = .ok (.lload_n 0, 1) := by decide +kernel
theorem dX8_multiple_1 : decode cX8_multiple 1 = .ok (.lload_n 0, 1) := by decide +kernel
theorem dX8_multiple_2 : decode cX8_multiple 2 = .ok (.iload_n 2, 1) := by decide +kernel
theorem dX8_multiple_3 : decode cX8_multiple 3 = .ok (.i2l, 1) := by decide +kernel
theorem dX8_multiple_4 : decode cX8_multiple 4 = .ok (.lrem, 1) := by decide +kernel
theorem dX8_multiple_5 : decode cX8_multiple 5 = .ok (.l2i, 1) := by decide +kernel
theorem dX8_multiple_6 : decode cX8_multiple 6 = .ok (.iload_n 2, 1) := by decide +kernel
theorem dX8_multiple_7 : decode cX8_multiple 7 = .ok (.invokestatic 63, 3) := by decide +kernel
theorem dX8_multiple_10 : decode cX8_multiple 10 = .ok (.i2l, 1) := by decide +kernel
theorem dX8_multiple_11 : decode cX8_multiple 11 = .ok (.ldiv, 1) := by decide +kernel
theorem dX8_multiple_12 : decode cX8_multiple 12 = .ok (.iload_n 2, 1) := by decide +kernel
theorem dX8_multiple_13 : decode cX8_multiple 13 = .ok (.i2l, 1) := by decide +kernel
theorem dX8_multiple_14 : decode cX8_multiple 14 = .ok (.lmul, 1) := by decide +kernel
theorem dX8_multiple_15 : decode cX8_multiple 15 = .ok (.lreturn, 1) := by decide +kernel
theorem dX8_meet_0 : decode cX8_meet 0 = .ok (.aload_n 0, 1) := by decide +kernel
theorem dX8_meet_1 : decode cX8_meet 1 = .ok (.aload_n 0, 1) := by decide +kernel
theorem dX8_meet_2 : decode cX8_meet 2 = .ok (.getfield 13, 3) := by decide +kernel
theorem dX8_meet_5 : decode cX8_meet 5 = .ok (.iload_n 1, 1) := by decide +kernel
theorem dX8_meet_6 : decode cX8_meet 6 = .ok (.invokestatic 134, 3) := by decide +kernel
theorem dX8_meet_9 : decode cX8_meet 9 = .ok (.ifCond .eq 14, 3) := by decide +kernel
theorem dX8_meet_12 : decode cX8_meet 12 = .ok (.aload_n 0, 1) := by decide +kernel
theorem dX8_meet_13 : decode cX8_meet 13 = .ok (.getfield 13, 3) := by decide +kernel
theorem dX8_meet_16 : decode cX8_meet 16 = .ok (.iload_n 2, 1) := by decide +kernel
theorem dX8_meet_17 : decode cX8_meet 17 = .ok (.invokestatic 134, 3) := by decide +kernel
theorem dX8_meet_20 : decode cX8_meet 20 = .ok (.ifCond .ne 7, 3) := by decide +kernel
theorem dX8_meet_23 : decode cX8_meet 23 = .ok (.iconst 1, 1) := by decide +kernel
theorem dX8_meet_24 : decode cX8_meet 24 = .ok (.goto 18, 3) := by decide +kernel
theorem dX8_meet_27 : decode cX8_meet 27 = .ok (.iload_n 3, 1) := by decide +kernel
theorem dX8_meet_28 : decode cX8_meet 28 = .ok (.i2l, 1) := by decide +kernel
theorem dX8_meet_29 : decode cX8_meet 29 = .ok (.lconst 0, 1) := by decide +kernel
theorem dX8_meet_30 : decode cX8_meet 30 = .ok (.lconst 1, 1) := by decide +kernel
theorem dX8_meet_31 : decode cX8_meet 31 = .ok (.invokestatic 37, 3) := by decide +kernel
theorem dX8_meet_34 : decode cX8_meet 34 = .ok (.ifCond .eq 7, 3) := by decide +kernel
theorem dX8_meet_37 : decode cX8_meet 37 = .ok (.iconst 0, 1) := by decide +kernel
theorem dX8_meet_38 : decode cX8_meet 38 = .ok (.goto 4, 3) := by decide +kernel
theorem dX8_meet_41 : decode cX8_meet 41 = .ok (.iconst 2, 1) := by decide +kernel
theorem dX8_meet_42 : decode cX8_meet 42 = .ok (.invokevirtual 98, 3) := by decide +kernel
theorem dX8_meet_45 : decode cX8_meet 45 = .ok (.ifCond .eq 5, 3) := by decide +kernel
theorem dX8_meet_48 : decode cX8_meet 48 = .ok (.iconst 0, 1) := by decide +kernel
theorem dX8_meet_49 : decode cX8_meet 49 = .ok (.ireturn, 1) := by decide +kernel
theorem dX8_meet_50 : decode cX8_meet 50 = .ok (.aload_n 0, 1) := by decide +kernel
theorem dX8_meet_51 : decode cX8_meet 51 = .ok (.getfield 13, 3) := by decide +kernel
theorem dX8_meet_54 : decode cX8_meet 54 = .ok (.iload_n 1, 1) := by decide +kernel
theorem dX8_meet_55 : decode cX8_meet 55 = .ok (.iconst 0, 1) := by decide +kernel
theorem dX8_meet_56 : decode cX8_meet 56 = .ok (.invokestatic 57, 3) := by decide +kernel
theorem dX8_meet_59 : decode cX8_meet 59 = .ok (.ifCond .eq 15, 3) := by decide +kernel
theorem dX8_meet_62 : decode cX8_meet 62 = .ok (.aload_n 0, 1) := by decide +kernel
theorem dX8_meet_63 : decode cX8_meet 63 = .ok (.getfield 13, 3) := by decide +kernel
theorem dX8_meet_66 : decode cX8_meet 66 = .ok (.iload_n 2, 1) := by decide +kernel
theorem dX8_meet_67 : decode cX8_meet 67 = .ok (.iconst 0, 1) := by decide +kernel
theorem dX8_meet_68 : decode cX8_meet 68 = .ok (.invokestatic 57, 3) := by decide +kernel
theorem dX8_meet_71 : decode cX8_meet 71 = .ok (.ifCond .ne 5, 3) := by decide +kernel
theorem dX8_meet_74 : decode cX8_meet 74 = .ok (.iconst (-1), 1) := by decide +kernel
theorem dX8_meet_75 : decode cX8_meet 75 = .ok (.ireturn, 1) := by decide +kernel
theorem dX8_meet_76 : decode cX8_meet 76 = .ok (.aload_n 0, 1) := by decide +kernel
theorem dX8_meet_77 : decode cX8_meet 77 = .ok (.getfield 13, 3) := by decide +kernel
theorem dX8_meet_80 : decode cX8_meet 80 = .ok (.iload_n 1, 1) := by decide +kernel
theorem dX8_meet_81 : decode cX8_meet 81 = .ok (.lconst 0, 1) := by decide +kernel
theorem dX8_meet_82 : decode cX8_meet 82 = .ok (.lconst 1, 1) := by decide +kernel
theorem dX8_meet_83 : decode cX8_meet 83 = .ok (.ldc2_w 218, 3) := by decide +kernel
theorem dX8_meet_86 : decode cX8_meet 86 = .ok (.invokestatic 222, 3) := by decide +kernel
theorem dX8_meet_89 : decode cX8_meet 89 = .ok (.lstore 4, 2) := by decide +kernel
theorem dX8_meet_91 : decode cX8_meet 91 = .ok (.lload 4, 2) := by decide +kernel
theorem dX8_meet_93 : decode cX8_meet 93 = .ok (.ldc2_w 220, 3) := by decide +kernel
theorem dX8_meet_96 : decode cX8_meet 96 = .ok (.lcmp, 1) := by decide +kernel
theorem dX8_meet_97 : decode cX8_meet 97 = .ok (.ifCond .ne 7, 3) := by decide +kernel
theorem dX8_meet_100 : decode cX8_meet 100 = .ok (.iconst (-1), 1) := by decide +kernel
theorem dX8_meet_101 : decode cX8_meet 101 = .ok (.goto 26, 3) := by decide +kernel
theorem dX8_meet_104 : decode cX8_meet 104 = .ok (.aload_n 0, 1) := by decide +kernel
theorem dX8_meet_105 : decode cX8_meet 105 = .ok (.getfield 13, 3) := by decide +kernel
theorem dX8_meet_108 : decode cX8_meet 108 = .ok (.iload_n 2, 1) := by decide +kernel
theorem dX8_meet_109 : decode cX8_meet 109 = .ok (.lload 4, 2) := by decide +kernel
theorem dX8_meet_111 : decode cX8_meet 111 = .ok (.aload_n 0, 1) := by decide +kernel
theorem dX8_meet_112 : decode cX8_meet 112 = .ok (.getfield 13, 3) := by decide +kernel
theorem dX8_meet_115 : decode cX8_meet 115 = .ok (.iload_n 1, 1) := by decide +kernel
theorem dX8_meet_116 : decode cX8_meet 116 = .ok (.invokestatic 205, 3) := by decide +kernel
theorem dX8_meet_119 : decode cX8_meet 119 = .ok (.i2l, 1) := by decide +kernel
theorem dX8_meet_120 : decode cX8_meet 120 = .ok (.ldc2_w 218, 3) := by decide +kernel
theorem dX8_meet_123 : decode cX8_meet 123 = .ok (.invokestatic 222, 3) := by decide +kernel
theorem dX8_meet_126 : decode cX8_meet 126 = .ok (.l2i, 1) := by decide +kernel
theorem dX8_meet_127 : decode cX8_meet 127 = .ok (.ireturn, 1) := by decide +kernel
theorem dX8_meetAll_0 : decode cX8_meetAll 0 = .ok (.aload_n 0, 1) := by decide +kernel
theorem dX8_meetAll_1 : decode cX8_meetAll 1 = .ok (.iconst 0, 1) := by decide +kernel
theorem dX8_meetAll_2 : decode cX8_meetAll 2 = .ok (.putfield 33, 3) := by decide +kernel
theorem dX8_meetAll_5 : decode cX8_meetAll 5 = .ok (.lconst 0, 1) := by decide +kernel
theorem dX8_meetAll_6 : decode cX8_meetAll 6 = .ok (.lstore_n 1, 1) := by decide +kernel
theorem dX8_meetAll_7 : decode cX8_meetAll 7 = .ok (.lconst 1, 1) := by decide +kernel
theorem dX8_meetAll_8 : decode cX8_meetAll 8 = .ok (.lstore_n 3, 1) := by decide +kernel
theorem dX8_meetAll_9 : decode cX8_meetAll 9 = .ok (.iconst 0, 1) := by decide +kernel
theorem dX8_meetAll_10 : decode cX8_meetAll 10 = .ok (.istore 5, 2) := by decide +kernel
theorem dX8_meetAll_12 : decode cX8_meetAll 12 = .ok (.iconst 0, 1) := by decide +kernel
theorem dX8_meetAll_13 : decode cX8_meetAll 13 = .ok (.istore 6, 2) := by decide +kernel
theorem dX8_meetAll_15 : decode cX8_meetAll 15 = .ok (.iload 6, 2) := by decide +kernel
theorem dX8_meetAll_17 : decode cX8_meetAll 17 = .ok (.aload_n 0, 1) := by decide +kernel
theorem dX8_meetAll_18 : decode cX8_meetAll 18 = .ok (.getfield 13, 3) := by decide +kernel
theorem dX8_meetAll_21 : decode cX8_meetAll 21 = .ok (.iconst 1, 1) := by decide +kernel
theorem dX8_meetAll_22 : decode cX8_meetAll 22 = .ok (.iaload, 1) := by decide +kernel
theorem dX8_meetAll_23 : decode cX8_meetAll 23 = .ok (.if_icmp .ge 62, 3) := by decide +kernel
theorem dX8_meetAll_26 : decode cX8_meetAll 26 = .ok (.lload_n 1, 1) := by decide +kernel
theorem dX8_meetAll_27 : decode cX8_meetAll 27 = .ok (.ldc2_w 220, 3) := by decide +kernel
theorem dX8_meetAll_30 : decode cX8_meetAll 30 = .ok (.lcmp, 1) := by decide +kernel
theorem dX8_meetAll_31 : decode cX8_meetAll 31 = .ok (.ifCond .eq 54, 3) := by decide +kernel
theorem dX8_meetAll_34 : decode cX8_meetAll 34 = .ok (.aload_n 0, 1) := by decide +kernel
theorem dX8_meetAll_35 : decode cX8_meetAll 35 = .ok (.getfield 13, 3) := by decide +kernel
theorem dX8_meetAll_38 : decode cX8_meetAll 38 = .ok (.iload 6, 2) := by decide +kernel
theorem dX8_meetAll_40 : decode cX8_meetAll 40 = .ok (.iconst 0, 1) := by decide +kernel
theorem dX8_meetAll_41 : decode cX8_meetAll 41 = .ok (.invokestatic 57, 3) := by decide +kernel
theorem dX8_meetAll_44 : decode cX8_meetAll 44 = .ok (.ifCond .le 35, 3) := by decide +kernel
theorem dX8_meetAll_47 : decode cX8_meetAll 47 = .ok (.iconst 1, 1) := by decide +kernel
theorem dX8_meetAll_48 : decode cX8_meetAll 48 = .ok (.istore 5, 2) := by decide +kernel
theorem dX8_meetAll_50 : decode cX8_meetAll 50 = .ok (.aload_n 0, 1) := by decide +kernel
theorem dX8_meetAll_51 : decode cX8_meetAll 51 = .ok (.getfield 13, 3) := by decide +kernel
theorem dX8_meetAll_54 : decode cX8_meetAll 54 = .ok (.iload 6, 2) := by decide +kernel
theorem dX8_meetAll_56 : decode cX8_meetAll 56 = .ok (.lload_n 1, 1) := by decide +kernel
theorem dX8_meetAll_57 : decode cX8_meetAll 57 = .ok (.lload_n 3, 1) := by decide +kernel
theorem dX8_meetAll_58 : decode cX8_meetAll 58 = .ok (.ldc2_w 218, 3) := by decide +kernel
theorem dX8_meetAll_61 : decode cX8_meetAll 61 = .ok (.invokestatic 222, 3) := by decide +kernel
theorem dX8_meetAll_64 : decode cX8_meetAll 64 = .ok (.lstore_n 1, 1) := by decide +kernel
theorem dX8_meetAll_65 : decode cX8_meetAll 65 = .ok (.lload_n 3, 1) := by decide +kernel
theorem dX8_meetAll_66 : decode cX8_meetAll 66 = .ok (.aload_n 0, 1) := by decide +kernel
theorem dX8_meetAll_67 : decode cX8_meetAll 67 = .ok (.getfield 13, 3) := by decide +kernel
theorem dX8_meetAll_70 : decode cX8_meetAll 70 = .ok (.iload 6, 2) := by decide +kernel
theorem dX8_meetAll_72 : decode cX8_meetAll 72 = .ok (.invokestatic 205, 3) := by decide +kernel
theorem dX8_meetAll_75 : decode cX8_meetAll 75 = .ok (.invokestatic 226, 3) := by decide +kernel
theorem dX8_meetAll_78 : decode cX8_meetAll 78 = .ok (.lstore_n 3, 1) := by decide +kernel
theorem dX8_meetAll_79 : decode cX8_meetAll 79 = .ok (.iinc 6 1, 3) := by decide +kernel
theorem dX8_meetAll_82 : decode cX8_meetAll 82 = .ok (.goto (-67), 3) := by decide +kernel
theorem dX8_meetAll_85 : decode cX8_meetAll 85 = .ok (.iload 5, 2) := by decide +kernel
theorem dX8_meetAll_87 : decode cX8_meetAll 87 = .ok (.ifCond .eq 8, 3) := by decide +kernel
theorem dX8_meetAll_90 : decode cX8_meetAll 90 = .ok (.lload_n 1, 1) := by decide +kernel
theorem dX8_meetAll_91 : decode cX8_meetAll 91 = .ok (.l2i, 1) := by decide +kernel
theorem dX8_meetAll_92 : decode cX8_meetAll 92 = .ok (.goto 4, 3) := by decide +kernel
theorem dX8_meetAll_95 : decode cX8_meetAll 95 = .ok (.iconst (-1), 1) := by decide +kernel
theorem dX8_meetAll_96 : decode cX8_meetAll 96 = .ok (.ireturn, 1) := by decide +kernel
theorem dX8_loudest_0 : decode cX8_loudest 0 = .ok (.aload_n 0, 1) := by decide +kernel
theorem dX8_loudest_1 : decode cX8_loudest 1 = .ok (.iload_n 1, 1) := by decide +kernel
theorem dX8_loudest_2 : decode cX8_loudest 2 = .ok (.i2l, 1) := by decide +kernel
theorem dX8_loudest_3 : decode cX8_loudest 3 = .ok (.lconst 1, 1) := by decide +kernel
theorem dX8_loudest_4 : decode cX8_loudest 4 = .ok (.ldc2_w 230, 3) := by decide +kernel
theorem dX8_loudest_7 : decode cX8_loudest 7 = .ok (.invokestatic 37, 3) := by decide +kernel
theorem dX8_loudest_10 : decode cX8_loudest 10 = .ok (.ifCond .eq 17, 3) := by decide +kernel
theorem dX8_loudest_13 : decode cX8_loudest 13 = .ok (.iload_n 2, 1) := by decide +kernel
theorem dX8_loudest_14 : decode cX8_loudest 14 = .ok (.i2l, 1) := by decide +kernel
theorem dX8_loudest_15 : decode cX8_loudest 15 = .ok (.lconst 0, 1) := by decide +kernel
theorem dX8_loudest_16 : decode cX8_loudest 16 = .ok (.lconst 1, 1) := by decide +kernel
theorem dX8_loudest_17 : decode cX8_loudest 17 = .ok (.invokestatic 37, 3) := by decide +kernel
theorem dX8_loudest_20 : decode cX8_loudest 20 = .ok (.ifCond .eq 7, 3) := by decide +kernel
theorem dX8_loudest_23 : decode cX8_loudest 23 = .ok (.iconst 0, 1) := by decide +kernel
theorem dX8_loudest_24 : decode cX8_loudest 24 = .ok (.goto 4, 3) := by decide +kernel
theorem dX8_loudest_27 : decode cX8_loudest 27 = .ok (.iconst 1, 1) := by decide +kernel
theorem dX8_loudest_28 : decode cX8_loudest 28 = .ok (.invokevirtual 98, 3) := by decide +kernel
theorem dX8_loudest_31 : decode cX8_loudest 31 = .ok (.ifCond .eq 5, 3) := by decide +kernel
theorem dX8_loudest_34 : decode cX8_loudest 34 = .ok (.iconst 0, 1) := by decide +kernel
theorem dX8_loudest_35 : decode cX8_loudest 35 = .ok (.ireturn, 1) := by decide +kernel
theorem dX8_loudest_36 : decode cX8_loudest 36 = .ok (.aload_n 0, 1) := by decide +kernel
theorem dX8_loudest_37 : decode cX8_loudest 37 = .ok (.getfield 13, 3) := by decide +kernel
theorem dX8_loudest_40 : decode cX8_loudest 40 = .ok (.lconst 0, 1) := by decide +kernel
theorem dX8_loudest_41 : decode cX8_loudest 41 = .ok (.invokestatic 78, 3) := by decide +kernel
theorem dX8_loudest_44 : decode cX8_loudest 44 = .ok (.istore_n 3, 1) := by decide +kernel
theorem dX8_loudest_45 : decode cX8_loudest 45 = .ok (.iconst 0, 1) := by decide +kernel
theorem dX8_loudest_46 : decode cX8_loudest 46 = .ok (.istore 4, 2) := by decide +kernel
theorem dX8_loudest_48 : decode cX8_loudest 48 = .ok (.iconst 1, 1) := by decide +kernel
theorem dX8_loudest_49 : decode cX8_loudest 49 = .ok (.istore 5, 2) := by decide +kernel
theorem dX8_loudest_51 : decode cX8_loudest 51 = .ok (.iload 5, 2) := by decide +kernel
theorem dX8_loudest_53 : decode cX8_loudest 53 = .ok (.iload_n 1, 1) := by decide +kernel
theorem dX8_loudest_54 : decode cX8_loudest 54 = .ok (.if_icmp .gt 49, 3) := by decide +kernel
theorem dX8_loudest_57 : decode cX8_loudest 57 = .ok (.aload_n 0, 1) := by decide +kernel
theorem dX8_loudest_58 : decode cX8_loudest 58 = .ok (.getfield 13, 3) := by decide +kernel
theorem dX8_loudest_61 : decode cX8_loudest 61 = .ok (.iload 5, 2) := by decide +kernel
theorem dX8_loudest_63 : decode cX8_loudest 63 = .ok (.i2l, 1) := by decide +kernel
theorem dX8_loudest_64 : decode cX8_loudest 64 = .ok (.invokestatic 78, 3) := by decide +kernel
theorem dX8_loudest_67 : decode cX8_loudest 67 = .ok (.istore 6, 2) := by decide +kernel
theorem dX8_loudest_69 : decode cX8_loudest 69 = .ok (.iload 6, 2) := by decide +kernel
theorem dX8_loudest_71 : decode cX8_loudest 71 = .ok (.iload_n 3, 1) := by decide +kernel
theorem dX8_loudest_72 : decode cX8_loudest 72 = .ok (.if_icmp .le 8, 3) := by decide +kernel
theorem dX8_loudest_75 : decode cX8_loudest 75 = .ok (.iload 5, 2) := by decide +kernel
theorem dX8_loudest_77 : decode cX8_loudest 77 = .ok (.goto 5, 3) := by decide +kernel
theorem dX8_loudest_80 : decode cX8_loudest 80 = .ok (.iload 4, 2) := by decide +kernel
theorem dX8_loudest_82 : decode cX8_loudest 82 = .ok (.istore 4, 2) := by decide +kernel
theorem dX8_loudest_84 : decode cX8_loudest 84 = .ok (.iload 6, 2) := by decide +kernel
theorem dX8_loudest_86 : decode cX8_loudest 86 = .ok (.iload_n 3, 1) := by decide +kernel
theorem dX8_loudest_87 : decode cX8_loudest 87 = .ok (.if_icmp .le 8, 3) := by decide +kernel
theorem dX8_loudest_90 : decode cX8_loudest 90 = .ok (.iload 6, 2) := by decide +kernel
theorem dX8_loudest_92 : decode cX8_loudest 92 = .ok (.goto 4, 3) := by decide +kernel
theorem dX8_loudest_95 : decode cX8_loudest 95 = .ok (.iload_n 3, 1) := by decide +kernel
theorem dX8_loudest_96 : decode cX8_loudest 96 = .ok (.istore_n 3, 1) := by decide +kernel
theorem dX8_loudest_97 : decode cX8_loudest 97 = .ok (.iinc 5 1, 3) := by decide +kernel
theorem dX8_loudest_100 : decode cX8_loudest 100 = .ok (.goto (-49), 3) := by decide +kernel
theorem dX8_loudest_103 : decode cX8_loudest 103 = .ok (.iload_n 2, 1) := by decide +kernel
theorem dX8_loudest_104 : decode cX8_loudest 104 = .ok (.ifCond .ne 7, 3) := by decide +kernel
theorem dX8_loudest_107 : decode cX8_loudest 107 = .ok (.iload_n 3, 1) := by decide +kernel
theorem dX8_loudest_108 : decode cX8_loudest 108 = .ok (.goto 5, 3) := by decide +kernel
theorem dX8_loudest_111 : decode cX8_loudest 111 = .ok (.iload 4, 2) := by decide +kernel
theorem dX8_loudest_113 : decode cX8_loudest 113 = .ok (.ireturn, 1) := by decide +kernel
theorem dX8_isTurned_0 : decode cX8_isTurned 0 = .ok (.aload_n 0, 1) := by decide +kernel
theorem dX8_isTurned_1 : decode cX8_isTurned 1 = .ok (.iload_n 1, 1) := by decide +kernel
theorem dX8_isTurned_2 : decode cX8_isTurned 2 = .ok (.iconst 0, 1) := by decide +kernel
theorem dX8_isTurned_3 : decode cX8_isTurned 3 = .ok (.invokestatic 57, 3) := by decide +kernel
theorem dX8_isTurned_6 : decode cX8_isTurned 6 = .ok (.istore 4, 2) := by decide +kernel
theorem dX8_isTurned_8 : decode cX8_isTurned 8 = .ok (.iconst 0, 1) := by decide +kernel
theorem dX8_isTurned_9 : decode cX8_isTurned 9 = .ok (.istore 5, 2) := by decide +kernel
theorem dX8_isTurned_11 : decode cX8_isTurned 11 = .ok (.iload 5, 2) := by decide +kernel
theorem dX8_isTurned_13 : decode cX8_isTurned 13 = .ok (.iload 4, 2) := by decide +kernel
theorem dX8_isTurned_15 : decode cX8_isTurned 15 = .ok (.if_icmp .ge 39, 3) := by decide +kernel
theorem dX8_isTurned_18 : decode cX8_isTurned 18 = .ok (.aload_n 0, 1) := by decide +kernel
theorem dX8_isTurned_19 : decode cX8_isTurned 19 = .ok (.iload_n 1, 1) := by decide +kernel
theorem dX8_isTurned_20 : decode cX8_isTurned 20 = .ok (.bipush 12, 2) := by decide +kernel
theorem dX8_isTurned_22 : decode cX8_isTurned 22 = .ok (.iload 5, 2) := by decide +kernel
theorem dX8_isTurned_24 : decode cX8_isTurned 24 = .ok (.iadd, 1) := by decide +kernel
theorem dX8_isTurned_25 : decode cX8_isTurned 25 = .ok (.invokestatic 57, 3) := by decide +kernel
theorem dX8_isTurned_28 : decode cX8_isTurned 28 = .ok (.aload_n 0, 1) := by decide +kernel
theorem dX8_isTurned_29 : decode cX8_isTurned 29 = .ok (.iload_n 2, 1) := by decide +kernel
theorem dX8_isTurned_30 : decode cX8_isTurned 30 = .ok (.bipush 12, 2) := by decide +kernel
theorem dX8_isTurned_32 : decode cX8_isTurned 32 = .ok (.iload 5, 2) := by decide +kernel
theorem dX8_isTurned_34 : decode cX8_isTurned 34 = .ok (.iload_n 3, 1) := by decide +kernel
theorem dX8_isTurned_35 : decode cX8_isTurned 35 = .ok (.iadd, 1) := by decide +kernel
theorem dX8_isTurned_36 : decode cX8_isTurned 36 = .ok (.iload 4, 2) := by decide +kernel
theorem dX8_isTurned_38 : decode cX8_isTurned 38 = .ok (.irem, 1) := by decide +kernel
theorem dX8_isTurned_39 : decode cX8_isTurned 39 = .ok (.iadd, 1) := by decide +kernel
theorem dX8_isTurned_40 : decode cX8_isTurned 40 = .ok (.invokestatic 57, 3) := by decide +kernel
theorem dX8_isTurned_43 : decode cX8_isTurned 43 = .ok (.if_icmp .eq 5, 3) := by decide +kernel
theorem dX8_isTurned_46 : decode cX8_isTurned 46 = .ok (.iconst 0, 1) := by decide +kernel
theorem dX8_isTurned_47 : decode cX8_isTurned 47 = .ok (.ireturn, 1) := by decide +kernel
theorem dX8_isTurned_48 : decode cX8_isTurned 48 = .ok (.iinc 5 1, 3) := by decide +kernel
theorem dX8_isTurned_51 : decode cX8_isTurned 51 = .ok (.goto (-40), 3) := by decide +kernel
theorem dX8_isTurned_54 : decode cX8_isTurned 54 = .ok (.iconst 1, 1) := by decide +kernel
theorem dX8_isTurned_55 : decode cX8_isTurned 55 = .ok (.ireturn, 1) := by decide +kernel
theorem dX8_turnedBy_0 : decode cX8_turnedBy 0 = .ok (.aload_n 0, 1) := by decide +kernel
theorem dX8_turnedBy_1 : decode cX8_turnedBy 1 = .ok (.aload_n 0, 1) := by decide +kernel
theorem dX8_turnedBy_2 : decode cX8_turnedBy 2 = .ok (.getfield 13, 3) := by decide +kernel
theorem dX8_turnedBy_5 : decode cX8_turnedBy 5 = .ok (.iload_n 1, 1) := by decide +kernel
theorem dX8_turnedBy_6 : decode cX8_turnedBy 6 = .ok (.invokestatic 134, 3) := by decide +kernel
theorem dX8_turnedBy_9 : decode cX8_turnedBy 9 = .ok (.ifCond .eq 18, 3) := by decide +kernel
theorem dX8_turnedBy_12 : decode cX8_turnedBy 12 = .ok (.aload_n 0, 1) := by decide +kernel
theorem dX8_turnedBy_13 : decode cX8_turnedBy 13 = .ok (.getfield 13, 3) := by decide +kernel
theorem dX8_turnedBy_16 : decode cX8_turnedBy 16 = .ok (.iload_n 2, 1) := by decide +kernel
theorem dX8_turnedBy_17 : decode cX8_turnedBy 17 = .ok (.invokestatic 134, 3) := by decide +kernel
theorem dX8_turnedBy_20 : decode cX8_turnedBy 20 = .ok (.ifCond .eq 7, 3) := by decide +kernel
theorem dX8_turnedBy_23 : decode cX8_turnedBy 23 = .ok (.iconst 0, 1) := by decide +kernel
theorem dX8_turnedBy_24 : decode cX8_turnedBy 24 = .ok (.goto 4, 3) := by decide +kernel
theorem dX8_turnedBy_27 : decode cX8_turnedBy 27 = .ok (.iconst 1, 1) := by decide +kernel
theorem dX8_turnedBy_28 : decode cX8_turnedBy 28 = .ok (.invokevirtual 98, 3) := by decide +kernel
theorem dX8_turnedBy_31 : decode cX8_turnedBy 31 = .ok (.ifCond .eq 5, 3) := by decide +kernel
theorem dX8_turnedBy_34 : decode cX8_turnedBy 34 = .ok (.iconst 0, 1) := by decide +kernel
theorem dX8_turnedBy_35 : decode cX8_turnedBy 35 = .ok (.ireturn, 1) := by decide +kernel
theorem dX8_turnedBy_36 : decode cX8_turnedBy 36 = .ok (.aload_n 0, 1) := by decide +kernel
theorem dX8_turnedBy_37 : decode cX8_turnedBy 37 = .ok (.getfield 13, 3) := by decide +kernel
theorem dX8_turnedBy_40 : decode cX8_turnedBy 40 = .ok (.iload_n 1, 1) := by decide +kernel
theorem dX8_turnedBy_41 : decode cX8_turnedBy 41 = .ok (.iconst 0, 1) := by decide +kernel
theorem dX8_turnedBy_42 : decode cX8_turnedBy 42 = .ok (.invokestatic 57, 3) := by decide +kernel
theorem dX8_turnedBy_45 : decode cX8_turnedBy 45 = .ok (.istore_n 3, 1) := by decide +kernel
theorem dX8_turnedBy_46 : decode cX8_turnedBy 46 = .ok (.iconst 0, 1) := by decide +kernel
theorem dX8_turnedBy_47 : decode cX8_turnedBy 47 = .ok (.istore 4, 2) := by decide +kernel
theorem dX8_turnedBy_49 : decode cX8_turnedBy 49 = .ok (.iload 4, 2) := by decide +kernel
theorem dX8_turnedBy_51 : decode cX8_turnedBy 51 = .ok (.iload_n 3, 1) := by decide +kernel
theorem dX8_turnedBy_52 : decode cX8_turnedBy 52 = .ok (.if_icmp .ge 39, 3) := by decide +kernel
theorem dX8_turnedBy_55 : decode cX8_turnedBy 55 = .ok (.aload_n 0, 1) := by decide +kernel
theorem dX8_turnedBy_56 : decode cX8_turnedBy 56 = .ok (.getfield 13, 3) := by decide +kernel
theorem dX8_turnedBy_59 : decode cX8_turnedBy 59 = .ok (.iload_n 2, 1) := by decide +kernel
theorem dX8_turnedBy_60 : decode cX8_turnedBy 60 = .ok (.iconst 0, 1) := by decide +kernel
theorem dX8_turnedBy_61 : decode cX8_turnedBy 61 = .ok (.invokestatic 57, 3) := by decide +kernel
theorem dX8_turnedBy_64 : decode cX8_turnedBy 64 = .ok (.iload_n 3, 1) := by decide +kernel
theorem dX8_turnedBy_65 : decode cX8_turnedBy 65 = .ok (.if_icmp .ne 26, 3) := by decide +kernel
theorem dX8_turnedBy_68 : decode cX8_turnedBy 68 = .ok (.aload_n 0, 1) := by decide +kernel
theorem dX8_turnedBy_69 : decode cX8_turnedBy 69 = .ok (.getfield 13, 3) := by decide +kernel
theorem dX8_turnedBy_72 : decode cX8_turnedBy 72 = .ok (.iload_n 1, 1) := by decide +kernel
theorem dX8_turnedBy_73 : decode cX8_turnedBy 73 = .ok (.iload_n 2, 1) := by decide +kernel
theorem dX8_turnedBy_74 : decode cX8_turnedBy 74 = .ok (.iload 4, 2) := by decide +kernel
theorem dX8_turnedBy_76 : decode cX8_turnedBy 76 = .ok (.invokestatic 232, 3) := by decide +kernel
theorem dX8_turnedBy_79 : decode cX8_turnedBy 79 = .ok (.ifCond .eq 6, 3) := by decide +kernel
theorem dX8_turnedBy_82 : decode cX8_turnedBy 82 = .ok (.iload 4, 2) := by decide +kernel
theorem dX8_turnedBy_84 : decode cX8_turnedBy 84 = .ok (.ireturn, 1) := by decide +kernel
theorem dX8_turnedBy_85 : decode cX8_turnedBy 85 = .ok (.iinc 4 1, 3) := by decide +kernel
theorem dX8_turnedBy_88 : decode cX8_turnedBy 88 = .ok (.goto (-39), 3) := by decide +kernel
theorem dX8_turnedBy_91 : decode cX8_turnedBy 91 = .ok (.iconst (-1), 1) := by decide +kernel
theorem dX8_turnedBy_92 : decode cX8_turnedBy 92 = .ok (.ireturn, 1) := by decide +kernel
theorem dX8_meetNow_0 : decode cX8_meetNow 0 = .ok (.aload_n 0, 1) := by decide +kernel
theorem dX8_meetNow_1 : decode cX8_meetNow 1 = .ok (.iload_n 1, 1) := by decide +kernel
theorem dX8_meetNow_2 : decode cX8_meetNow 2 = .ok (.invokestatic 134, 3) := by decide +kernel
theorem dX8_meetNow_5 : decode cX8_meetNow 5 = .ok (.ifCond .eq 49, 3) := by decide +kernel
theorem dX8_meetNow_8 : decode cX8_meetNow 8 = .ok (.aload_n 0, 1) := by decide +kernel
theorem dX8_meetNow_9 : decode cX8_meetNow 9 = .ok (.iload_n 2, 1) := by decide +kernel
theorem dX8_meetNow_10 : decode cX8_meetNow 10 = .ok (.invokestatic 134, 3) := by decide +kernel
theorem dX8_meetNow_13 : decode cX8_meetNow 13 = .ok (.ifCond .eq 41, 3) := by decide +kernel
theorem dX8_meetNow_16 : decode cX8_meetNow 16 = .ok (.aload_n 0, 1) := by decide +kernel
theorem dX8_meetNow_17 : decode cX8_meetNow 17 = .ok (.iload_n 1, 1) := by decide +kernel
theorem dX8_meetNow_18 : decode cX8_meetNow 18 = .ok (.iconst 0, 1) := by decide +kernel
theorem dX8_meetNow_19 : decode cX8_meetNow 19 = .ok (.invokestatic 57, 3) := by decide +kernel
theorem dX8_meetNow_22 : decode cX8_meetNow 22 = .ok (.ifCond .le 32, 3) := by decide +kernel
theorem dX8_meetNow_25 : decode cX8_meetNow 25 = .ok (.aload_n 0, 1) := by decide +kernel
theorem dX8_meetNow_26 : decode cX8_meetNow 26 = .ok (.iload_n 2, 1) := by decide +kernel
theorem dX8_meetNow_27 : decode cX8_meetNow 27 = .ok (.iconst 0, 1) := by decide +kernel
theorem dX8_meetNow_28 : decode cX8_meetNow 28 = .ok (.invokestatic 57, 3) := by decide +kernel
theorem dX8_meetNow_31 : decode cX8_meetNow 31 = .ok (.ifCond .le 23, 3) := by decide +kernel
theorem dX8_meetNow_34 : decode cX8_meetNow 34 = .ok (.aload_n 0, 1) := by decide +kernel
theorem dX8_meetNow_35 : decode cX8_meetNow 35 = .ok (.iload_n 1, 1) := by decide +kernel
theorem dX8_meetNow_36 : decode cX8_meetNow 36 = .ok (.iconst 3, 1) := by decide +kernel
theorem dX8_meetNow_37 : decode cX8_meetNow 37 = .ok (.invokestatic 57, 3) := by decide +kernel
theorem dX8_meetNow_40 : decode cX8_meetNow 40 = .ok (.aload_n 0, 1) := by decide +kernel
theorem dX8_meetNow_41 : decode cX8_meetNow 41 = .ok (.iload_n 2, 1) := by decide +kernel
theorem dX8_meetNow_42 : decode cX8_meetNow 42 = .ok (.iconst 3, 1) := by decide +kernel
theorem dX8_meetNow_43 : decode cX8_meetNow 43 = .ok (.invokestatic 57, 3) := by decide +kernel
theorem dX8_meetNow_46 : decode cX8_meetNow 46 = .ok (.iadd, 1) := by decide +kernel
theorem dX8_meetNow_47 : decode cX8_meetNow 47 = .ok (.ifCond .ne 7, 3) := by decide +kernel
theorem dX8_meetNow_50 : decode cX8_meetNow 50 = .ok (.iconst 1, 1) := by decide +kernel
theorem dX8_meetNow_51 : decode cX8_meetNow 51 = .ok (.goto 4, 3) := by decide +kernel
theorem dX8_meetNow_54 : decode cX8_meetNow 54 = .ok (.iconst 0, 1) := by decide +kernel
theorem dX8_meetNow_55 : decode cX8_meetNow 55 = .ok (.ireturn, 1) := by decide +kernel
theorem dX8_command_0 : decode cX8_command 0 = .ok (.iload_n 2, 1) := by decide +kernel
theorem dX8_command_1 : decode cX8_command 1 = .ok (.ldc 236, 2) := by decide +kernel
theorem dX8_command_3 : decode cX8_command 3 = .ok (.idiv, 1) := by decide +kernel
theorem dX8_command_4 : decode cX8_command 4 = .ok (.istore_n 3, 1) := by decide +kernel
theorem dX8_command_5 : decode cX8_command 5 = .ok (.iload_n 2, 1) := by decide +kernel
theorem dX8_command_6 : decode cX8_command 6 = .ok (.sipush 10000, 3) := by decide +kernel
theorem dX8_command_9 : decode cX8_command 9 = .ok (.idiv, 1) := by decide +kernel
theorem dX8_command_10 : decode cX8_command 10 = .ok (.bipush 10, 2) := by decide +kernel
theorem dX8_command_12 : decode cX8_command 12 = .ok (.irem, 1) := by decide +kernel
theorem dX8_command_13 : decode cX8_command 13 = .ok (.istore 4, 2) := by decide +kernel
theorem dX8_command_15 : decode cX8_command 15 = .ok (.iload_n 2, 1) := by decide +kernel
theorem dX8_command_16 : decode cX8_command 16 = .ok (.sipush 1000, 3) := by decide +kernel
theorem dX8_command_19 : decode cX8_command 19 = .ok (.idiv, 1) := by decide +kernel
theorem dX8_command_20 : decode cX8_command 20 = .ok (.bipush 10, 2) := by decide +kernel
theorem dX8_command_22 : decode cX8_command 22 = .ok (.irem, 1) := by decide +kernel
theorem dX8_command_23 : decode cX8_command 23 = .ok (.istore 5, 2) := by decide +kernel
theorem dX8_command_25 : decode cX8_command 25 = .ok (.iload_n 2, 1) := by decide +kernel
theorem dX8_command_26 : decode cX8_command 26 = .ok (.sipush 1000, 3) := by decide +kernel
theorem dX8_command_29 : decode cX8_command 29 = .ok (.irem, 1) := by decide +kernel
theorem dX8_command_30 : decode cX8_command 30 = .ok (.istore 6, 2) := by decide +kernel
theorem dX8_command_32 : decode cX8_command 32 = .ok (.iload_n 2, 1) := by decide +kernel
theorem dX8_command_33 : decode cX8_command 33 = .ok (.bipush 100, 2) := by decide +kernel
theorem dX8_command_35 : decode cX8_command 35 = .ok (.idiv, 1) := by decide +kernel
theorem dX8_command_36 : decode cX8_command 36 = .ok (.bipush 100, 2) := by decide +kernel
theorem dX8_command_38 : decode cX8_command 38 = .ok (.irem, 1) := by decide +kernel
theorem dX8_command_39 : decode cX8_command 39 = .ok (.istore 7, 2) := by decide +kernel
theorem dX8_command_41 : decode cX8_command 41 = .ok (.iload_n 2, 1) := by decide +kernel
theorem dX8_command_42 : decode cX8_command 42 = .ok (.bipush 100, 2) := by decide +kernel
theorem dX8_command_44 : decode cX8_command 44 = .ok (.irem, 1) := by decide +kernel
theorem dX8_command_45 : decode cX8_command 45 = .ok (.istore 8, 2) := by decide +kernel
theorem dX8_command_47 : decode cX8_command 47 = .ok (.iload_n 2, 1) := by decide +kernel
theorem dX8_command_48 : decode cX8_command 48 = .ok (.bipush 10, 2) := by decide +kernel
theorem dX8_command_50 : decode cX8_command 50 = .ok (.irem, 1) := by decide +kernel
theorem dX8_command_51 : decode cX8_command 51 = .ok (.istore 9, 2) := by decide +kernel
theorem dX8_command_53 : decode cX8_command 53 = .ok (.iload_n 2, 1) := by decide +kernel
theorem dX8_command_54 : decode cX8_command 54 = .ok (.ldc 236, 2) := by decide +kernel
theorem dX8_command_56 : decode cX8_command 56 = .ok (.irem, 1) := by decide +kernel
theorem dX8_command_57 : decode cX8_command 57 = .ok (.istore 10, 2) := by decide +kernel
theorem dX8_command_59 : decode cX8_command 59 = .ok (.iload_n 1, 1) := by decide +kernel
theorem dX8_command_60 : decode cX8_command 60 = .ok (.tableswitch 429 1 9 #[52, 81, 143, 190, 235, 291, 315, 354, 381], 52) := by decide +kernel
theorem dX8_command_112 : decode cX8_command 112 = .ok (.iload_n 2, 1) := by decide +kernel
theorem dX8_command_113 : decode cX8_command 113 = .ok (.i2l, 1) := by decide +kernel
theorem dX8_command_114 : decode cX8_command 114 = .ok (.lconst 1, 1) := by decide +kernel
theorem dX8_command_115 : decode cX8_command 115 = .ok (.ldc2_w 216, 3) := by decide +kernel
theorem dX8_command_118 : decode cX8_command 118 = .ok (.invokestatic 37, 3) := by decide +kernel
theorem dX8_command_121 : decode cX8_command 121 = .ok (.ifCond .eq 18, 3) := by decide +kernel
theorem dX8_command_124 : decode cX8_command 124 = .ok (.aload_n 0, 1) := by decide +kernel
theorem dX8_command_125 : decode cX8_command 125 = .ok (.getfield 16, 3) := by decide +kernel
theorem dX8_command_128 : decode cX8_command 128 = .ok (.iload_n 2, 1) := by decide +kernel
theorem dX8_command_129 : decode cX8_command 129 = .ok (.invokestatic 90, 3) := by decide +kernel
theorem dX8_command_132 : decode cX8_command 132 = .ok (.ifCond .lt 7, 3) := by decide +kernel
theorem dX8_command_135 : decode cX8_command 135 = .ok (.iconst 1, 1) := by decide +kernel
theorem dX8_command_136 : decode cX8_command 136 = .ok (.goto 4, 3) := by decide +kernel
theorem dX8_command_139 : decode cX8_command 139 = .ok (.iconst 0, 1) := by decide +kernel
theorem dX8_command_140 : decode cX8_command 140 = .ok (.ireturn, 1) := by decide +kernel
theorem dX8_command_141 : decode cX8_command 141 = .ok (.aload_n 0, 1) := by decide +kernel
theorem dX8_command_142 : decode cX8_command 142 = .ok (.getfield 16, 3) := by decide +kernel
theorem dX8_command_145 : decode cX8_command 145 = .ok (.iload_n 3, 1) := by decide +kernel
theorem dX8_command_146 : decode cX8_command 146 = .ok (.invokestatic 134, 3) := by decide +kernel
theorem dX8_command_149 : decode cX8_command 149 = .ok (.ifCond .eq 52, 3) := by decide +kernel
theorem dX8_command_152 : decode cX8_command 152 = .ok (.aload_n 0, 1) := by decide +kernel
theorem dX8_command_153 : decode cX8_command 153 = .ok (.getfield 16, 3) := by decide +kernel
theorem dX8_command_156 : decode cX8_command 156 = .ok (.iload 4, 2) := by decide +kernel
theorem dX8_command_158 : decode cX8_command 158 = .ok (.iload 7, 2) := by decide +kernel
theorem dX8_command_160 : decode cX8_command 160 = .ok (.invokestatic 137, 3) := by decide +kernel
theorem dX8_command_163 : decode cX8_command 163 = .ok (.ifCond .eq 38, 3) := by decide +kernel
theorem dX8_command_166 : decode cX8_command 166 = .ok (.aload_n 0, 1) := by decide +kernel
theorem dX8_command_167 : decode cX8_command 167 = .ok (.getfield 16, 3) := by decide +kernel
theorem dX8_command_170 : decode cX8_command 170 = .ok (.iload 4, 2) := by decide +kernel
theorem dX8_command_172 : decode cX8_command 172 = .ok (.iload 8, 2) := by decide +kernel
theorem dX8_command_174 : decode cX8_command 174 = .ok (.invokestatic 137, 3) := by decide +kernel
theorem dX8_command_177 : decode cX8_command 177 = .ok (.ifCond .eq 24, 3) := by decide +kernel
theorem dX8_command_180 : decode cX8_command 180 = .ok (.aload_n 0, 1) := by decide +kernel
theorem dX8_command_181 : decode cX8_command 181 = .ok (.getfield 16, 3) := by decide +kernel
theorem dX8_command_184 : decode cX8_command 184 = .ok (.iload_n 3, 1) := by decide +kernel
theorem dX8_command_185 : decode cX8_command 185 = .ok (.iload 4, 2) := by decide +kernel
theorem dX8_command_187 : decode cX8_command 187 = .ok (.iload 7, 2) := by decide +kernel
theorem dX8_command_189 : decode cX8_command 189 = .ok (.iload 8, 2) := by decide +kernel
theorem dX8_command_191 : decode cX8_command 191 = .ok (.invokestatic 140, 3) := by decide +kernel
theorem dX8_command_194 : decode cX8_command 194 = .ok (.ifCond .ne 7, 3) := by decide +kernel
theorem dX8_command_197 : decode cX8_command 197 = .ok (.iconst 1, 1) := by decide +kernel
theorem dX8_command_198 : decode cX8_command 198 = .ok (.goto 4, 3) := by decide +kernel
theorem dX8_command_201 : decode cX8_command 201 = .ok (.iconst 0, 1) := by decide +kernel
theorem dX8_command_202 : decode cX8_command 202 = .ok (.ireturn, 1) := by decide +kernel
theorem dX8_command_203 : decode cX8_command 203 = .ok (.iload 6, 2) := by decide +kernel
theorem dX8_command_205 : decode cX8_command 205 = .ok (.ifCond .ne 43, 3) := by decide +kernel
theorem dX8_command_208 : decode cX8_command 208 = .ok (.aload_n 0, 1) := by decide +kernel
theorem dX8_command_209 : decode cX8_command 209 = .ok (.getfield 16, 3) := by decide +kernel
theorem dX8_command_212 : decode cX8_command 212 = .ok (.iload_n 3, 1) := by decide +kernel
theorem dX8_command_213 : decode cX8_command 213 = .ok (.invokestatic 134, 3) := by decide +kernel
theorem dX8_command_216 : decode cX8_command 216 = .ok (.ifCond .eq 32, 3) := by decide +kernel
theorem dX8_command_219 : decode cX8_command 219 = .ok (.iload 4, 2) := by decide +kernel
theorem dX8_command_221 : decode cX8_command 221 = .ok (.ifCond .le 27, 3) := by decide +kernel
theorem dX8_command_224 : decode cX8_command 224 = .ok (.iload 5, 2) := by decide +kernel
theorem dX8_command_226 : decode cX8_command 226 = .ok (.ifCond .le 22, 3) := by decide +kernel
theorem dX8_command_229 : decode cX8_command 229 = .ok (.aload_n 0, 1) := by decide +kernel
theorem dX8_command_230 : decode cX8_command 230 = .ok (.getfield 16, 3) := by decide +kernel
theorem dX8_command_233 : decode cX8_command 233 = .ok (.iload_n 3, 1) := by decide +kernel
theorem dX8_command_234 : decode cX8_command 234 = .ok (.iload 4, 2) := by decide +kernel
theorem dX8_command_236 : decode cX8_command 236 = .ok (.iload 5, 2) := by decide +kernel
theorem dX8_command_238 : decode cX8_command 238 = .ok (.invokestatic 143, 3) := by decide +kernel
theorem dX8_command_241 : decode cX8_command 241 = .ok (.ifCond .lt 7, 3) := by decide +kernel
theorem dX8_command_244 : decode cX8_command 244 = .ok (.iconst 1, 1) := by decide +kernel
theorem dX8_command_245 : decode cX8_command 245 = .ok (.goto 4, 3) := by decide +kernel
theorem dX8_command_248 : decode cX8_command 248 = .ok (.iconst 0, 1) := by decide +kernel
theorem dX8_command_249 : decode cX8_command 249 = .ok (.ireturn, 1) := by decide +kernel
theorem dX8_command_250 : decode cX8_command 250 = .ok (.iload 10, 2) := by decide +kernel
theorem dX8_command_252 : decode cX8_command 252 = .ok (.iconst 2, 1) := by decide +kernel
theorem dX8_command_253 : decode cX8_command 253 = .ok (.if_icmp .ge 40, 3) := by decide +kernel
theorem dX8_command_256 : decode cX8_command 256 = .ok (.aload_n 0, 1) := by decide +kernel
theorem dX8_command_257 : decode cX8_command 257 = .ok (.getfield 16, 3) := by decide +kernel
theorem dX8_command_260 : decode cX8_command 260 = .ok (.iload_n 3, 1) := by decide +kernel
theorem dX8_command_261 : decode cX8_command 261 = .ok (.invokestatic 134, 3) := by decide +kernel
theorem dX8_command_264 : decode cX8_command 264 = .ok (.ifCond .eq 29, 3) := by decide +kernel
theorem dX8_command_267 : decode cX8_command 267 = .ok (.aload_n 0, 1) := by decide +kernel
theorem dX8_command_268 : decode cX8_command 268 = .ok (.getfield 16, 3) := by decide +kernel
theorem dX8_command_271 : decode cX8_command 271 = .ok (.iload_n 3, 1) := by decide +kernel
theorem dX8_command_272 : decode cX8_command 272 = .ok (.iload 9, 2) := by decide +kernel
theorem dX8_command_274 : decode cX8_command 274 = .ok (.iconst 1, 1) := by decide +kernel
theorem dX8_command_275 : decode cX8_command 275 = .ok (.if_icmp .ne 7, 3) := by decide +kernel
theorem dX8_command_278 : decode cX8_command 278 = .ok (.iconst 1, 1) := by decide +kernel
theorem dX8_command_279 : decode cX8_command 279 = .ok (.goto 4, 3) := by decide +kernel
theorem dX8_command_282 : decode cX8_command 282 = .ok (.iconst 0, 1) := by decide +kernel
theorem dX8_command_283 : decode cX8_command 283 = .ok (.invokestatic 164, 3) := by decide +kernel
theorem dX8_command_286 : decode cX8_command 286 = .ok (.ifCond .lt 7, 3) := by decide +kernel
theorem dX8_command_289 : decode cX8_command 289 = .ok (.iconst 1, 1) := by decide +kernel
theorem dX8_command_290 : decode cX8_command 290 = .ok (.goto 4, 3) := by decide +kernel
theorem dX8_command_293 : decode cX8_command 293 = .ok (.iconst 0, 1) := by decide +kernel
theorem dX8_command_294 : decode cX8_command 294 = .ok (.ireturn, 1) := by decide +kernel
theorem dX8_command_295 : decode cX8_command 295 = .ok (.iload 10, 2) := by decide +kernel
theorem dX8_command_297 : decode cX8_command 297 = .ok (.bipush 100, 2) := by decide +kernel
theorem dX8_command_299 : decode cX8_command 299 = .ok (.if_icmp .ge 50, 3) := by decide +kernel
theorem dX8_command_302 : decode cX8_command 302 = .ok (.aload_n 0, 1) := by decide +kernel
theorem dX8_command_303 : decode cX8_command 303 = .ok (.getfield 16, 3) := by decide +kernel
theorem dX8_command_306 : decode cX8_command 306 = .ok (.iload_n 3, 1) := by decide +kernel
theorem dX8_command_307 : decode cX8_command 307 = .ok (.invokestatic 41, 3) := by decide +kernel
theorem dX8_command_310 : decode cX8_command 310 = .ok (.ifCond .eq 39, 3) := by decide +kernel
theorem dX8_command_313 : decode cX8_command 313 = .ok (.iload 8, 2) := by decide +kernel
theorem dX8_command_315 : decode cX8_command 315 = .ok (.i2l, 1) := by decide +kernel
theorem dX8_command_316 : decode cX8_command 316 = .ok (.lconst 1, 1) := by decide +kernel
theorem dX8_command_317 : decode cX8_command 317 = .ok (.aload_n 0, 1) := by decide +kernel
theorem dX8_command_318 : decode cX8_command 318 = .ok (.getfield 16, 3) := by decide +kernel
theorem dX8_command_321 : decode cX8_command 321 = .ok (.iload_n 3, 1) := by decide +kernel
theorem dX8_command_322 : decode cX8_command 322 = .ok (.invokestatic 45, 3) := by decide +kernel
theorem dX8_command_325 : decode cX8_command 325 = .ok (.i2l, 1) := by decide +kernel
theorem dX8_command_326 : decode cX8_command 326 = .ok (.invokestatic 37, 3) := by decide +kernel
theorem dX8_command_329 : decode cX8_command 329 = .ok (.ifCond .eq 20, 3) := by decide +kernel
theorem dX8_command_332 : decode cX8_command 332 = .ok (.aload_n 0, 1) := by decide +kernel
theorem dX8_command_333 : decode cX8_command 333 = .ok (.getfield 16, 3) := by decide +kernel
theorem dX8_command_336 : decode cX8_command 336 = .ok (.iload_n 3, 1) := by decide +kernel
theorem dX8_command_337 : decode cX8_command 337 = .ok (.iload 8, 2) := by decide +kernel
theorem dX8_command_339 : decode cX8_command 339 = .ok (.invokestatic 168, 3) := by decide +kernel
theorem dX8_command_342 : decode cX8_command 342 = .ok (.ifCond .lt 7, 3) := by decide +kernel
theorem dX8_command_345 : decode cX8_command 345 = .ok (.iconst 1, 1) := by decide +kernel
theorem dX8_command_346 : decode cX8_command 346 = .ok (.goto 4, 3) := by decide +kernel
theorem dX8_command_349 : decode cX8_command 349 = .ok (.iconst 0, 1) := by decide +kernel
theorem dX8_command_350 : decode cX8_command 350 = .ok (.ireturn, 1) := by decide +kernel
theorem dX8_command_351 : decode cX8_command 351 = .ok (.iload_n 2, 1) := by decide +kernel
theorem dX8_command_352 : decode cX8_command 352 = .ok (.bipush 100, 2) := by decide +kernel
theorem dX8_command_354 : decode cX8_command 354 = .ok (.if_icmp .ge 19, 3) := by decide +kernel
theorem dX8_command_357 : decode cX8_command 357 = .ok (.aload_n 0, 1) := by decide +kernel
theorem dX8_command_358 : decode cX8_command 358 = .ok (.getfield 16, 3) := by decide +kernel
theorem dX8_command_361 : decode cX8_command 361 = .ok (.lconst 0, 1) := by decide +kernel
theorem dX8_command_362 : decode cX8_command 362 = .ok (.invokestatic 78, 3) := by decide +kernel
theorem dX8_command_365 : decode cX8_command 365 = .ok (.iload_n 2, 1) := by decide +kernel
theorem dX8_command_366 : decode cX8_command 366 = .ok (.if_icmp .lt 7, 3) := by decide +kernel
theorem dX8_command_369 : decode cX8_command 369 = .ok (.iconst 1, 1) := by decide +kernel
theorem dX8_command_370 : decode cX8_command 370 = .ok (.goto 4, 3) := by decide +kernel
theorem dX8_command_373 : decode cX8_command 373 = .ok (.iconst 0, 1) := by decide +kernel
theorem dX8_command_374 : decode cX8_command 374 = .ok (.ireturn, 1) := by decide +kernel
theorem dX8_command_375 : decode cX8_command 375 = .ok (.iload 10, 2) := by decide +kernel
theorem dX8_command_377 : decode cX8_command 377 = .ok (.sipush 1000, 3) := by decide +kernel
theorem dX8_command_380 : decode cX8_command 380 = .ok (.if_icmp .ge 32, 3) := by decide +kernel
theorem dX8_command_383 : decode cX8_command 383 = .ok (.aload_n 0, 1) := by decide +kernel
theorem dX8_command_384 : decode cX8_command 384 = .ok (.getfield 16, 3) := by decide +kernel
theorem dX8_command_387 : decode cX8_command 387 = .ok (.iload_n 3, 1) := by decide +kernel
theorem dX8_command_388 : decode cX8_command 388 = .ok (.invokestatic 134, 3) := by decide +kernel
theorem dX8_command_391 : decode cX8_command 391 = .ok (.ifCond .eq 21, 3) := by decide +kernel
theorem dX8_command_394 : decode cX8_command 394 = .ok (.aload_n 0, 1) := by decide +kernel
theorem dX8_command_395 : decode cX8_command 395 = .ok (.getfield 16, 3) := by decide +kernel
theorem dX8_command_398 : decode cX8_command 398 = .ok (.iload_n 3, 1) := by decide +kernel
theorem dX8_command_399 : decode cX8_command 399 = .ok (.iconst 3, 1) := by decide +kernel
theorem dX8_command_400 : decode cX8_command 400 = .ok (.invokestatic 57, 3) := by decide +kernel
theorem dX8_command_403 : decode cX8_command 403 = .ok (.iload 10, 2) := by decide +kernel
theorem dX8_command_405 : decode cX8_command 405 = .ok (.if_icmp .ne 7, 3) := by decide +kernel
theorem dX8_command_408 : decode cX8_command 408 = .ok (.iconst 1, 1) := by decide +kernel
theorem dX8_command_409 : decode cX8_command 409 = .ok (.goto 4, 3) := by decide +kernel
theorem dX8_command_412 : decode cX8_command 412 = .ok (.iconst 0, 1) := by decide +kernel
theorem dX8_command_413 : decode cX8_command 413 = .ok (.ireturn, 1) := by decide +kernel
theorem dX8_command_414 : decode cX8_command 414 = .ok (.iload_n 2, 1) := by decide +kernel
theorem dX8_command_415 : decode cX8_command 415 = .ok (.sipush 10000, 3) := by decide +kernel
theorem dX8_command_418 : decode cX8_command 418 = .ok (.irem, 1) := by decide +kernel
theorem dX8_command_419 : decode cX8_command 419 = .ok (.ifCond .ne 20, 3) := by decide +kernel
theorem dX8_command_422 : decode cX8_command 422 = .ok (.aload_n 0, 1) := by decide +kernel
theorem dX8_command_423 : decode cX8_command 423 = .ok (.getfield 16, 3) := by decide +kernel
theorem dX8_command_426 : decode cX8_command 426 = .ok (.iload_n 3, 1) := by decide +kernel
theorem dX8_command_427 : decode cX8_command 427 = .ok (.iload 4, 2) := by decide +kernel
theorem dX8_command_429 : decode cX8_command 429 = .ok (.invokestatic 237, 3) := by decide +kernel
theorem dX8_command_432 : decode cX8_command 432 = .ok (.ifCond .eq 7, 3) := by decide +kernel
theorem dX8_command_435 : decode cX8_command 435 = .ok (.iconst 1, 1) := by decide +kernel
theorem dX8_command_436 : decode cX8_command 436 = .ok (.goto 4, 3) := by decide +kernel
theorem dX8_command_439 : decode cX8_command 439 = .ok (.iconst 0, 1) := by decide +kernel
theorem dX8_command_440 : decode cX8_command 440 = .ok (.ireturn, 1) := by decide +kernel
theorem dX8_command_441 : decode cX8_command 441 = .ok (.iload 10, 2) := by decide +kernel
theorem dX8_command_443 : decode cX8_command 443 = .ok (.sipush 1000, 3) := by decide +kernel
theorem dX8_command_446 : decode cX8_command 446 = .ok (.if_icmp .ge 41, 3) := by decide +kernel
theorem dX8_command_449 : decode cX8_command 449 = .ok (.aload_n 0, 1) := by decide +kernel
theorem dX8_command_450 : decode cX8_command 450 = .ok (.getfield 16, 3) := by decide +kernel
theorem dX8_command_453 : decode cX8_command 453 = .ok (.iload_n 3, 1) := by decide +kernel
theorem dX8_command_454 : decode cX8_command 454 = .ok (.iload 10, 2) := by decide +kernel
theorem dX8_command_456 : decode cX8_command 456 = .ok (.bipush 10, 2) := by decide +kernel
theorem dX8_command_458 : decode cX8_command 458 = .ok (.idiv, 1) := by decide +kernel
theorem dX8_command_459 : decode cX8_command 459 = .ok (.invokestatic 121, 3) := by decide +kernel
theorem dX8_command_462 : decode cX8_command 462 = .ok (.ifCond .eq 25, 3) := by decide +kernel
theorem dX8_command_465 : decode cX8_command 465 = .ok (.aload_n 0, 1) := by decide +kernel
theorem dX8_command_466 : decode cX8_command 466 = .ok (.getfield 16, 3) := by decide +kernel
theorem dX8_command_469 : decode cX8_command 469 = .ok (.iload_n 3, 1) := by decide +kernel
theorem dX8_command_470 : decode cX8_command 470 = .ok (.iload 10, 2) := by decide +kernel
theorem dX8_command_472 : decode cX8_command 472 = .ok (.bipush 10, 2) := by decide +kernel
theorem dX8_command_474 : decode cX8_command 474 = .ok (.idiv, 1) := by decide +kernel
theorem dX8_command_475 : decode cX8_command 475 = .ok (.invokestatic 49, 3) := by decide +kernel
theorem dX8_command_478 : decode cX8_command 478 = .ok (.iload 9, 2) := by decide +kernel
theorem dX8_command_480 : decode cX8_command 480 = .ok (.if_icmp .ne 7, 3) := by decide +kernel
theorem dX8_command_483 : decode cX8_command 483 = .ok (.iconst 1, 1) := by decide +kernel
theorem dX8_command_484 : decode cX8_command 484 = .ok (.goto 4, 3) := by decide +kernel
theorem dX8_command_487 : decode cX8_command 487 = .ok (.iconst 0, 1) := by decide +kernel
theorem dX8_command_488 : decode cX8_command 488 = .ok (.ireturn, 1) := by decide +kernel
theorem dX8_command_489 : decode cX8_command 489 = .ok (.iconst 0, 1) := by decide +kernel
theorem dX8_command_490 : decode cX8_command 490 = .ok (.ireturn, 1) := by decide +kernel
theorem dX8_runScript_0 : decode cX8_runScript 0 = .ok (.lconst 1, 1) := by decide +kernel
theorem dX8_runScript_1 : decode cX8_runScript 1 = .ok (.lstore 4, 2) := by decide +kernel
theorem dX8_runScript_3 : decode cX8_runScript 3 = .ok (.iconst 0, 1) := by decide +kernel
theorem dX8_runScript_4 : decode cX8_runScript 4 = .ok (.istore 6, 2) := by decide +kernel
theorem dX8_runScript_6 : decode cX8_runScript 6 = .ok (.iload 6, 2) := by decide +kernel
theorem dX8_runScript_8 : decode cX8_runScript 8 = .ok (.iload_n 1, 1) := by decide +kernel
theorem dX8_runScript_9 : decode cX8_runScript 9 = .ok (.if_icmp .ge 23, 3) := by decide +kernel
theorem dX8_runScript_12 : decode cX8_runScript 12 = .ok (.iload 6, 2) := by decide +kernel
theorem dX8_runScript_14 : decode cX8_runScript 14 = .ok (.iconst 2, 1) := by decide +kernel
theorem dX8_runScript_15 : decode cX8_runScript 15 = .ok (.if_icmp .ge 17, 3) := by decide +kernel
theorem dX8_runScript_18 : decode cX8_runScript 18 = .ok (.lload 4, 2) := by decide +kernel
theorem dX8_runScript_20 : decode cX8_runScript 20 = .ok (.ldc2_w 240, 3) := by decide +kernel
theorem dX8_runScript_23 : decode cX8_runScript 23 = .ok (.lmul, 1) := by decide +kernel
theorem dX8_runScript_24 : decode cX8_runScript 24 = .ok (.lstore 4, 2) := by decide +kernel
theorem dX8_runScript_26 : decode cX8_runScript 26 = .ok (.iinc 6 1, 3) := by decide +kernel
theorem dX8_runScript_29 : decode cX8_runScript 29 = .ok (.goto (-23), 3) := by decide +kernel
theorem dX8_runScript_32 : decode cX8_runScript 32 = .ok (.aload_n 0, 1) := by decide +kernel
theorem dX8_runScript_33 : decode cX8_runScript 33 = .ok (.iload_n 1, 1) := by decide +kernel
theorem dX8_runScript_34 : decode cX8_runScript 34 = .ok (.i2l, 1) := by decide +kernel
theorem dX8_runScript_35 : decode cX8_runScript 35 = .ok (.lconst 1, 1) := by decide +kernel
theorem dX8_runScript_36 : decode cX8_runScript 36 = .ok (.ldc2_w 197, 3) := by decide +kernel
theorem dX8_runScript_39 : decode cX8_runScript 39 = .ok (.invokestatic 37, 3) := by decide +kernel
theorem dX8_runScript_42 : decode cX8_runScript 42 = .ok (.ifCond .eq 19, 3) := by decide +kernel
theorem dX8_runScript_45 : decode cX8_runScript 45 = .ok (.lload_n 2, 1) := by decide +kernel
theorem dX8_runScript_46 : decode cX8_runScript 46 = .ok (.lconst 0, 1) := by decide +kernel
theorem dX8_runScript_47 : decode cX8_runScript 47 = .ok (.lload 4, 2) := by decide +kernel
theorem dX8_runScript_49 : decode cX8_runScript 49 = .ok (.lconst 1, 1) := by decide +kernel
theorem dX8_runScript_50 : decode cX8_runScript 50 = .ok (.lsub, 1) := by decide +kernel
theorem dX8_runScript_51 : decode cX8_runScript 51 = .ok (.invokestatic 37, 3) := by decide +kernel
theorem dX8_runScript_54 : decode cX8_runScript 54 = .ok (.ifCond .eq 7, 3) := by decide +kernel
theorem dX8_runScript_57 : decode cX8_runScript 57 = .ok (.iconst 0, 1) := by decide +kernel
theorem dX8_runScript_58 : decode cX8_runScript 58 = .ok (.goto 4, 3) := by decide +kernel
theorem dX8_runScript_61 : decode cX8_runScript 61 = .ok (.iconst 1, 1) := by decide +kernel
theorem dX8_runScript_62 : decode cX8_runScript 62 = .ok (.invokevirtual 98, 3) := by decide +kernel
theorem dX8_runScript_65 : decode cX8_runScript 65 = .ok (.ifCond .eq 5, 3) := by decide +kernel
theorem dX8_runScript_68 : decode cX8_runScript 68 = .ok (.iconst 0, 1) := by decide +kernel
theorem dX8_runScript_69 : decode cX8_runScript 69 = .ok (.ireturn, 1) := by decide +kernel
theorem dX8_runScript_70 : decode cX8_runScript 70 = .ok (.aload_n 0, 1) := by decide +kernel
theorem dX8_runScript_71 : decode cX8_runScript 71 = .ok (.getfield 13, 3) := by decide +kernel
theorem dX8_runScript_74 : decode cX8_runScript 74 = .ok (.iconst 0, 1) := by decide +kernel
theorem dX8_runScript_75 : decode cX8_runScript 75 = .ok (.aload_n 0, 1) := by decide +kernel
theorem dX8_runScript_76 : decode cX8_runScript 76 = .ok (.getfield 16, 3) := by decide +kernel
theorem dX8_runScript_79 : decode cX8_runScript 79 = .ok (.iconst 0, 1) := by decide +kernel
theorem dX8_runScript_80 : decode cX8_runScript 80 = .ok (.invokestatic 177, 3) := by decide +kernel
theorem dX8_runScript_83 : decode cX8_runScript 83 = .ok (.iconst 0, 1) := by decide +kernel
theorem dX8_runScript_84 : decode cX8_runScript 84 = .ok (.istore 6, 2) := by decide +kernel
theorem dX8_runScript_86 : decode cX8_runScript 86 = .ok (.iload 6, 2) := by decide +kernel
theorem dX8_runScript_88 : decode cX8_runScript 88 = .ok (.iload_n 1, 1) := by decide +kernel
theorem dX8_runScript_89 : decode cX8_runScript 89 = .ok (.if_icmp .ge 48, 3) := by decide +kernel
theorem dX8_runScript_92 : decode cX8_runScript 92 = .ok (.lload 4, 2) := by decide +kernel
theorem dX8_runScript_94 : decode cX8_runScript 94 = .ok (.ldc2_w 240, 3) := by decide +kernel
theorem dX8_runScript_97 : decode cX8_runScript 97 = .ok (.ldiv, 1) := by decide +kernel
theorem dX8_runScript_98 : decode cX8_runScript 98 = .ok (.lstore 4, 2) := by decide +kernel
theorem dX8_runScript_100 : decode cX8_runScript 100 = .ok (.lload_n 2, 1) := by decide +kernel
theorem dX8_runScript_101 : decode cX8_runScript 101 = .ok (.lload 4, 2) := by decide +kernel
theorem dX8_runScript_103 : decode cX8_runScript 103 = .ok (.ldiv, 1) := by decide +kernel
theorem dX8_runScript_104 : decode cX8_runScript 104 = .ok (.ldc2_w 240, 3) := by decide +kernel
theorem dX8_runScript_107 : decode cX8_runScript 107 = .ok (.lrem, 1) := by decide +kernel
theorem dX8_runScript_108 : decode cX8_runScript 108 = .ok (.l2i, 1) := by decide +kernel
theorem dX8_runScript_109 : decode cX8_runScript 109 = .ok (.istore 7, 2) := by decide +kernel
theorem dX8_runScript_111 : decode cX8_runScript 111 = .ok (.aload_n 0, 1) := by decide +kernel
theorem dX8_runScript_112 : decode cX8_runScript 112 = .ok (.iload 7, 2) := by decide +kernel
theorem dX8_runScript_114 : decode cX8_runScript 114 = .ok (.ldc 242, 2) := by decide +kernel
theorem dX8_runScript_116 : decode cX8_runScript 116 = .ok (.idiv, 1) := by decide +kernel
theorem dX8_runScript_117 : decode cX8_runScript 117 = .ok (.iload 7, 2) := by decide +kernel
theorem dX8_runScript_119 : decode cX8_runScript 119 = .ok (.ldc 242, 2) := by decide +kernel
theorem dX8_runScript_121 : decode cX8_runScript 121 = .ok (.irem, 1) := by decide +kernel
theorem dX8_runScript_122 : decode cX8_runScript 122 = .ok (.invokevirtual 243, 3) := by decide +kernel
theorem dX8_runScript_125 : decode cX8_runScript 125 = .ok (.ifCond .ne 6, 3) := by decide +kernel
theorem dX8_runScript_128 : decode cX8_runScript 128 = .ok (.iload 6, 2) := by decide +kernel
theorem dX8_runScript_130 : decode cX8_runScript 130 = .ok (.ireturn, 1) := by decide +kernel
theorem dX8_runScript_131 : decode cX8_runScript 131 = .ok (.iinc 6 1, 3) := by decide +kernel
theorem dX8_runScript_134 : decode cX8_runScript 134 = .ok (.goto (-48), 3) := by decide +kernel
theorem dX8_runScript_137 : decode cX8_runScript 137 = .ok (.iconst (-1), 1) := by decide +kernel
theorem dX8_runScript_138 : decode cX8_runScript 138 = .ok (.ireturn, 1) := by decide +kernel
theorem dX8_turnReel_0 : decode cX8_turnReel 0 = .ok (.iload_n 1, 1) := by decide +kernel
theorem dX8_turnReel_1 : decode cX8_turnReel 1 = .ok (.ifCond .ne 24, 3) := by decide +kernel
theorem dX8_turnReel_4 : decode cX8_turnReel 4 = .ok (.aload_n 0, 1) := by decide +kernel
theorem dX8_turnReel_5 : decode cX8_turnReel 5 = .ok (.iconst 0, 1) := by decide +kernel
theorem dX8_turnReel_6 : decode cX8_turnReel 6 = .ok (.iaload, 1) := by decide +kernel
theorem dX8_turnReel_7 : decode cX8_turnReel 7 = .ok (.iconst 3, 1) := by decide +kernel
theorem dX8_turnReel_8 : decode cX8_turnReel 8 = .ok (.if_icmp .ge 187, 3) := by decide +kernel
theorem dX8_turnReel_11 : decode cX8_turnReel 11 = .ok (.aload_n 0, 1) := by decide +kernel
theorem dX8_turnReel_12 : decode cX8_turnReel 12 = .ok (.iconst 2, 1) := by decide +kernel
theorem dX8_turnReel_13 : decode cX8_turnReel 13 = .ok (.iload_n 2, 1) := by decide +kernel
theorem dX8_turnReel_14 : decode cX8_turnReel 14 = .ok (.bipush 59, 2) := by decide +kernel
theorem dX8_turnReel_16 : decode cX8_turnReel 16 = .ok (.irem, 1) := by decide +kernel
theorem dX8_turnReel_17 : decode cX8_turnReel 17 = .ok (.iadd, 1) := by decide +kernel
theorem dX8_turnReel_18 : decode cX8_turnReel 18 = .ok (.invokestatic 147, 3) := by decide +kernel
theorem dX8_turnReel_21 : decode cX8_turnReel 21 = .ok (.pop, 1) := by decide +kernel
theorem dX8_turnReel_22 : decode cX8_turnReel 22 = .ok (.goto 173, 3) := by decide +kernel
theorem dX8_turnReel_25 : decode cX8_turnReel 25 = .ok (.iload_n 1, 1) := by decide +kernel
theorem dX8_turnReel_26 : decode cX8_turnReel 26 = .ok (.iconst 1, 1) := by decide +kernel
theorem dX8_turnReel_27 : decode cX8_turnReel 27 = .ok (.if_icmp .ne 18, 3) := by decide +kernel
theorem dX8_turnReel_30 : decode cX8_turnReel 30 = .ok (.aload_n 0, 1) := by decide +kernel
theorem dX8_turnReel_31 : decode cX8_turnReel 31 = .ok (.iconst 1, 1) := by decide +kernel
theorem dX8_turnReel_32 : decode cX8_turnReel 32 = .ok (.iaload, 1) := by decide +kernel
theorem dX8_turnReel_33 : decode cX8_turnReel 33 = .ok (.iconst 4, 1) := by decide +kernel
theorem dX8_turnReel_34 : decode cX8_turnReel 34 = .ok (.if_icmp .ge 161, 3) := by decide +kernel
theorem dX8_turnReel_37 : decode cX8_turnReel 37 = .ok (.aload_n 0, 1) := by decide +kernel
theorem dX8_turnReel_38 : decode cX8_turnReel 38 = .ok (.invokestatic 154, 3) := by decide +kernel
theorem dX8_turnReel_41 : decode cX8_turnReel 41 = .ok (.pop, 1) := by decide +kernel
theorem dX8_turnReel_42 : decode cX8_turnReel 42 = .ok (.goto 153, 3) := by decide +kernel
theorem dX8_turnReel_45 : decode cX8_turnReel 45 = .ok (.iload_n 1, 1) := by decide +kernel
theorem dX8_turnReel_46 : decode cX8_turnReel 46 = .ok (.iconst 5, 1) := by decide +kernel
theorem dX8_turnReel_47 : decode cX8_turnReel 47 = .ok (.if_icmp .ge 67, 3) := by decide +kernel
theorem dX8_turnReel_50 : decode cX8_turnReel 50 = .ok (.iload_n 2, 1) := by decide +kernel
theorem dX8_turnReel_51 : decode cX8_turnReel 51 = .ok (.iconst 4, 1) := by decide +kernel
theorem dX8_turnReel_52 : decode cX8_turnReel 52 = .ok (.idiv, 1) := by decide +kernel
theorem dX8_turnReel_53 : decode cX8_turnReel 53 = .ok (.bipush 60, 2) := by decide +kernel
theorem dX8_turnReel_55 : decode cX8_turnReel 55 = .ok (.irem, 1) := by decide +kernel
theorem dX8_turnReel_56 : decode cX8_turnReel 56 = .ok (.istore_n 3, 1) := by decide +kernel
theorem dX8_turnReel_57 : decode cX8_turnReel 57 = .ok (.iload_n 3, 1) := by decide +kernel
theorem dX8_turnReel_58 : decode cX8_turnReel 58 = .ok (.iload_n 2, 1) := by decide +kernel
theorem dX8_turnReel_59 : decode cX8_turnReel 59 = .ok (.sipush 256, 3) := by decide +kernel
theorem dX8_turnReel_62 : decode cX8_turnReel 62 = .ok (.idiv, 1) := by decide +kernel
theorem dX8_turnReel_63 : decode cX8_turnReel 63 = .ok (.bipush 8, 2) := by decide +kernel
theorem dX8_turnReel_65 : decode cX8_turnReel 65 = .ok (.irem, 1) := by decide +kernel
theorem dX8_turnReel_66 : decode cX8_turnReel 66 = .ok (.iadd, 1) := by decide +kernel
theorem dX8_turnReel_67 : decode cX8_turnReel 67 = .ok (.istore 4, 2) := by decide +kernel
theorem dX8_turnReel_69 : decode cX8_turnReel 69 = .ok (.aload_n 0, 1) := by decide +kernel
theorem dX8_turnReel_70 : decode cX8_turnReel 70 = .ok (.iload_n 2, 1) := by decide +kernel
theorem dX8_turnReel_71 : decode cX8_turnReel 71 = .ok (.iconst 3, 1) := by decide +kernel
theorem dX8_turnReel_72 : decode cX8_turnReel 72 = .ok (.irem, 1) := by decide +kernel
theorem dX8_turnReel_73 : decode cX8_turnReel 73 = .ok (.iload_n 3, 1) := by decide +kernel
theorem dX8_turnReel_74 : decode cX8_turnReel 74 = .ok (.invokestatic 121, 3) := by decide +kernel
theorem dX8_turnReel_77 : decode cX8_turnReel 77 = .ok (.ifCond .eq 34, 3) := by decide +kernel
theorem dX8_turnReel_80 : decode cX8_turnReel 80 = .ok (.aload_n 0, 1) := by decide +kernel
theorem dX8_turnReel_81 : decode cX8_turnReel 81 = .ok (.iload_n 2, 1) := by decide +kernel
theorem dX8_turnReel_82 : decode cX8_turnReel 82 = .ok (.iconst 3, 1) := by decide +kernel
theorem dX8_turnReel_83 : decode cX8_turnReel 83 = .ok (.irem, 1) := by decide +kernel
theorem dX8_turnReel_84 : decode cX8_turnReel 84 = .ok (.iload 4, 2) := by decide +kernel
theorem dX8_turnReel_86 : decode cX8_turnReel 86 = .ok (.invokestatic 121, 3) := by decide +kernel
theorem dX8_turnReel_89 : decode cX8_turnReel 89 = .ok (.ifCond .eq 22, 3) := by decide +kernel
theorem dX8_turnReel_92 : decode cX8_turnReel 92 = .ok (.aload_n 0, 1) := by decide +kernel
theorem dX8_turnReel_93 : decode cX8_turnReel 93 = .ok (.iload_n 2, 1) := by decide +kernel
theorem dX8_turnReel_94 : decode cX8_turnReel 94 = .ok (.iconst 3, 1) := by decide +kernel
theorem dX8_turnReel_95 : decode cX8_turnReel 95 = .ok (.irem, 1) := by decide +kernel
theorem dX8_turnReel_96 : decode cX8_turnReel 96 = .ok (.iload_n 3, 1) := by decide +kernel
theorem dX8_turnReel_97 : decode cX8_turnReel 97 = .ok (.iload 4, 2) := by decide +kernel
theorem dX8_turnReel_99 : decode cX8_turnReel 99 = .ok (.iload_n 2, 1) := by decide +kernel
theorem dX8_turnReel_100 : decode cX8_turnReel 100 = .ok (.sipush 2048, 3) := by decide +kernel
theorem dX8_turnReel_103 : decode cX8_turnReel 103 = .ok (.idiv, 1) := by decide +kernel
theorem dX8_turnReel_104 : decode cX8_turnReel 104 = .ok (.bipush 10, 2) := by decide +kernel
theorem dX8_turnReel_106 : decode cX8_turnReel 106 = .ok (.irem, 1) := by decide +kernel
theorem dX8_turnReel_107 : decode cX8_turnReel 107 = .ok (.invokestatic 124, 3) := by decide +kernel
theorem dX8_turnReel_110 : decode cX8_turnReel 110 = .ok (.pop, 1) := by decide +kernel
theorem dX8_turnReel_111 : decode cX8_turnReel 111 = .ok (.goto 84, 3) := by decide +kernel
theorem dX8_turnReel_114 : decode cX8_turnReel 114 = .ok (.iload_n 1, 1) := by decide +kernel
theorem dX8_turnReel_115 : decode cX8_turnReel 115 = .ok (.bipush 9, 2) := by decide +kernel
theorem dX8_turnReel_117 : decode cX8_turnReel 117 = .ok (.if_icmp .ge 78, 3) := by decide +kernel
theorem dX8_turnReel_120 : decode cX8_turnReel 120 = .ok (.iload_n 2, 1) := by decide +kernel
theorem dX8_turnReel_121 : decode cX8_turnReel 121 = .ok (.bipush 16, 2) := by decide +kernel
theorem dX8_turnReel_123 : decode cX8_turnReel 123 = .ok (.idiv, 1) := by decide +kernel
theorem dX8_turnReel_124 : decode cX8_turnReel 124 = .ok (.bipush 61, 2) := by decide +kernel
theorem dX8_turnReel_126 : decode cX8_turnReel 126 = .ok (.irem, 1) := by decide +kernel
theorem dX8_turnReel_127 : decode cX8_turnReel 127 = .ok (.istore_n 3, 1) := by decide +kernel
theorem dX8_turnReel_128 : decode cX8_turnReel 128 = .ok (.iload_n 3, 1) := by decide +kernel
theorem dX8_turnReel_129 : decode cX8_turnReel 129 = .ok (.iconst 1, 1) := by decide +kernel
theorem dX8_turnReel_130 : decode cX8_turnReel 130 = .ok (.iadd, 1) := by decide +kernel
theorem dX8_turnReel_131 : decode cX8_turnReel 131 = .ok (.iload_n 2, 1) := by decide +kernel
theorem dX8_turnReel_132 : decode cX8_turnReel 132 = .ok (.sipush 1024, 3) := by decide +kernel
theorem dX8_turnReel_135 : decode cX8_turnReel 135 = .ok (.idiv, 1) := by decide +kernel
theorem dX8_turnReel_136 : decode cX8_turnReel 136 = .ok (.bipush 20, 2) := by decide +kernel
theorem dX8_turnReel_138 : decode cX8_turnReel 138 = .ok (.irem, 1) := by decide +kernel
theorem dX8_turnReel_139 : decode cX8_turnReel 139 = .ok (.iadd, 1) := by decide +kernel
theorem dX8_turnReel_140 : decode cX8_turnReel 140 = .ok (.istore 4, 2) := by decide +kernel
theorem dX8_turnReel_142 : decode cX8_turnReel 142 = .ok (.aload_n 0, 1) := by decide +kernel
theorem dX8_turnReel_143 : decode cX8_turnReel 143 = .ok (.iload_n 2, 1) := by decide +kernel
theorem dX8_turnReel_144 : decode cX8_turnReel 144 = .ok (.iconst 4, 1) := by decide +kernel
theorem dX8_turnReel_145 : decode cX8_turnReel 145 = .ok (.irem, 1) := by decide +kernel
theorem dX8_turnReel_146 : decode cX8_turnReel 146 = .ok (.invokestatic 134, 3) := by decide +kernel
theorem dX8_turnReel_149 : decode cX8_turnReel 149 = .ok (.ifCond .eq 46, 3) := by decide +kernel
theorem dX8_turnReel_152 : decode cX8_turnReel 152 = .ok (.aload_n 0, 1) := by decide +kernel
theorem dX8_turnReel_153 : decode cX8_turnReel 153 = .ok (.iload_n 2, 1) := by decide +kernel
theorem dX8_turnReel_154 : decode cX8_turnReel 154 = .ok (.iconst 4, 1) := by decide +kernel
theorem dX8_turnReel_155 : decode cX8_turnReel 155 = .ok (.idiv, 1) := by decide +kernel
theorem dX8_turnReel_156 : decode cX8_turnReel 156 = .ok (.iconst 3, 1) := by decide +kernel
theorem dX8_turnReel_157 : decode cX8_turnReel 157 = .ok (.irem, 1) := by decide +kernel
theorem dX8_turnReel_158 : decode cX8_turnReel 158 = .ok (.iload_n 3, 1) := by decide +kernel
theorem dX8_turnReel_159 : decode cX8_turnReel 159 = .ok (.invokestatic 137, 3) := by decide +kernel
theorem dX8_turnReel_162 : decode cX8_turnReel 162 = .ok (.ifCond .eq 33, 3) := by decide +kernel
theorem dX8_turnReel_165 : decode cX8_turnReel 165 = .ok (.aload_n 0, 1) := by decide +kernel
theorem dX8_turnReel_166 : decode cX8_turnReel 166 = .ok (.iload_n 2, 1) := by decide +kernel
theorem dX8_turnReel_167 : decode cX8_turnReel 167 = .ok (.iconst 4, 1) := by decide +kernel
theorem dX8_turnReel_168 : decode cX8_turnReel 168 = .ok (.idiv, 1) := by decide +kernel
theorem dX8_turnReel_169 : decode cX8_turnReel 169 = .ok (.iconst 3, 1) := by decide +kernel
theorem dX8_turnReel_170 : decode cX8_turnReel 170 = .ok (.irem, 1) := by decide +kernel
theorem dX8_turnReel_171 : decode cX8_turnReel 171 = .ok (.iload 4, 2) := by decide +kernel
theorem dX8_turnReel_173 : decode cX8_turnReel 173 = .ok (.invokestatic 137, 3) := by decide +kernel
theorem dX8_turnReel_176 : decode cX8_turnReel 176 = .ok (.ifCond .eq 19, 3) := by decide +kernel
theorem dX8_turnReel_179 : decode cX8_turnReel 179 = .ok (.aload_n 0, 1) := by decide +kernel
theorem dX8_turnReel_180 : decode cX8_turnReel 180 = .ok (.iload_n 2, 1) := by decide +kernel
theorem dX8_turnReel_181 : decode cX8_turnReel 181 = .ok (.iconst 4, 1) := by decide +kernel
theorem dX8_turnReel_182 : decode cX8_turnReel 182 = .ok (.irem, 1) := by decide +kernel
theorem dX8_turnReel_183 : decode cX8_turnReel 183 = .ok (.iload_n 2, 1) := by decide +kernel
theorem dX8_turnReel_184 : decode cX8_turnReel 184 = .ok (.iconst 4, 1) := by decide +kernel
theorem dX8_turnReel_185 : decode cX8_turnReel 185 = .ok (.idiv, 1) := by decide +kernel
theorem dX8_turnReel_186 : decode cX8_turnReel 186 = .ok (.iconst 3, 1) := by decide +kernel
theorem dX8_turnReel_187 : decode cX8_turnReel 187 = .ok (.irem, 1) := by decide +kernel
theorem dX8_turnReel_188 : decode cX8_turnReel 188 = .ok (.iload_n 3, 1) := by decide +kernel
theorem dX8_turnReel_189 : decode cX8_turnReel 189 = .ok (.iload 4, 2) := by decide +kernel
theorem dX8_turnReel_191 : decode cX8_turnReel 191 = .ok (.invokestatic 140, 3) := by decide +kernel
theorem dX8_turnReel_194 : decode cX8_turnReel 194 = .ok (.pop, 1) := by decide +kernel
theorem dX8_turnReel_195 : decode cX8_turnReel 195 = .ok (.return_, 1) := by decide +kernel
theorem dX8_turnLoop_0 : decode cX8_turnLoop 0 = .ok (.iload_n 2, 1) := by decide +kernel
theorem dX8_turnLoop_1 : decode cX8_turnLoop 1 = .ok (.iconst 4, 1) := by decide +kernel
theorem dX8_turnLoop_2 : decode cX8_turnLoop 2 = .ok (.irem, 1) := by decide +kernel
theorem dX8_turnLoop_3 : decode cX8_turnLoop 3 = .ok (.istore_n 3, 1) := by decide +kernel
theorem dX8_turnLoop_4 : decode cX8_turnLoop 4 = .ok (.iload_n 1, 1) := by decide +kernel
theorem dX8_turnLoop_5 : decode cX8_turnLoop 5 = .ok (.bipush 11, 2) := by decide +kernel
theorem dX8_turnLoop_7 : decode cX8_turnLoop 7 = .ok (.if_icmp .ne 50, 3) := by decide +kernel
theorem dX8_turnLoop_10 : decode cX8_turnLoop 10 = .ok (.aload_n 0, 1) := by decide +kernel
theorem dX8_turnLoop_11 : decode cX8_turnLoop 11 = .ok (.iload_n 2, 1) := by decide +kernel
theorem dX8_turnLoop_12 : decode cX8_turnLoop 12 = .ok (.iconst 3, 1) := by decide +kernel
theorem dX8_turnLoop_13 : decode cX8_turnLoop 13 = .ok (.irem, 1) := by decide +kernel
theorem dX8_turnLoop_14 : decode cX8_turnLoop 14 = .ok (.invokestatic 41, 3) := by decide +kernel
theorem dX8_turnLoop_17 : decode cX8_turnLoop 17 = .ok (.ifCond .eq 128, 3) := by decide +kernel
theorem dX8_turnLoop_20 : decode cX8_turnLoop 20 = .ok (.iconst 1, 1) := by decide +kernel
theorem dX8_turnLoop_21 : decode cX8_turnLoop 21 = .ok (.iload_n 2, 1) := by decide +kernel
theorem dX8_turnLoop_22 : decode cX8_turnLoop 22 = .ok (.iconst 4, 1) := by decide +kernel
theorem dX8_turnLoop_23 : decode cX8_turnLoop 23 = .ok (.idiv, 1) := by decide +kernel
theorem dX8_turnLoop_24 : decode cX8_turnLoop 24 = .ok (.bipush 40, 2) := by decide +kernel
theorem dX8_turnLoop_26 : decode cX8_turnLoop 26 = .ok (.irem, 1) := by decide +kernel
theorem dX8_turnLoop_27 : decode cX8_turnLoop 27 = .ok (.iadd, 1) := by decide +kernel
theorem dX8_turnLoop_28 : decode cX8_turnLoop 28 = .ok (.aload_n 0, 1) := by decide +kernel
theorem dX8_turnLoop_29 : decode cX8_turnLoop 29 = .ok (.iload_n 2, 1) := by decide +kernel
theorem dX8_turnLoop_30 : decode cX8_turnLoop 30 = .ok (.iconst 3, 1) := by decide +kernel
theorem dX8_turnLoop_31 : decode cX8_turnLoop 31 = .ok (.irem, 1) := by decide +kernel
theorem dX8_turnLoop_32 : decode cX8_turnLoop 32 = .ok (.invokestatic 45, 3) := by decide +kernel
theorem dX8_turnLoop_35 : decode cX8_turnLoop 35 = .ok (.if_icmp .gt 110, 3) := by decide +kernel
theorem dX8_turnLoop_38 : decode cX8_turnLoop 38 = .ok (.aload_n 0, 1) := by decide +kernel
theorem dX8_turnLoop_39 : decode cX8_turnLoop 39 = .ok (.iload_n 2, 1) := by decide +kernel
theorem dX8_turnLoop_40 : decode cX8_turnLoop 40 = .ok (.iconst 3, 1) := by decide +kernel
theorem dX8_turnLoop_41 : decode cX8_turnLoop 41 = .ok (.irem, 1) := by decide +kernel
theorem dX8_turnLoop_42 : decode cX8_turnLoop 42 = .ok (.iconst 1, 1) := by decide +kernel
theorem dX8_turnLoop_43 : decode cX8_turnLoop 43 = .ok (.iload_n 2, 1) := by decide +kernel
theorem dX8_turnLoop_44 : decode cX8_turnLoop 44 = .ok (.iconst 4, 1) := by decide +kernel
theorem dX8_turnLoop_45 : decode cX8_turnLoop 45 = .ok (.idiv, 1) := by decide +kernel
theorem dX8_turnLoop_46 : decode cX8_turnLoop 46 = .ok (.bipush 40, 2) := by decide +kernel
theorem dX8_turnLoop_48 : decode cX8_turnLoop 48 = .ok (.irem, 1) := by decide +kernel
theorem dX8_turnLoop_49 : decode cX8_turnLoop 49 = .ok (.iadd, 1) := by decide +kernel
theorem dX8_turnLoop_50 : decode cX8_turnLoop 50 = .ok (.invokestatic 168, 3) := by decide +kernel
theorem dX8_turnLoop_53 : decode cX8_turnLoop 53 = .ok (.pop, 1) := by decide +kernel
theorem dX8_turnLoop_54 : decode cX8_turnLoop 54 = .ok (.goto 91, 3) := by decide +kernel
theorem dX8_turnLoop_57 : decode cX8_turnLoop 57 = .ok (.aload_n 0, 1) := by decide +kernel
theorem dX8_turnLoop_58 : decode cX8_turnLoop 58 = .ok (.iload_n 3, 1) := by decide +kernel
theorem dX8_turnLoop_59 : decode cX8_turnLoop 59 = .ok (.invokestatic 134, 3) := by decide +kernel
theorem dX8_turnLoop_62 : decode cX8_turnLoop 62 = .ok (.ifCond .ne 4, 3) := by decide +kernel
theorem dX8_turnLoop_65 : decode cX8_turnLoop 65 = .ok (.return_, 1) := by decide +kernel
theorem dX8_turnLoop_66 : decode cX8_turnLoop 66 = .ok (.iload_n 1, 1) := by decide +kernel
theorem dX8_turnLoop_67 : decode cX8_turnLoop 67 = .ok (.bipush 9, 2) := by decide +kernel
theorem dX8_turnLoop_69 : decode cX8_turnLoop 69 = .ok (.if_icmp .ne 29, 3) := by decide +kernel
theorem dX8_turnLoop_72 : decode cX8_turnLoop 72 = .ok (.aload_n 0, 1) := by decide +kernel
theorem dX8_turnLoop_73 : decode cX8_turnLoop 73 = .ok (.iload_n 3, 1) := by decide +kernel
theorem dX8_turnLoop_74 : decode cX8_turnLoop 74 = .ok (.iconst 1, 1) := by decide +kernel
theorem dX8_turnLoop_75 : decode cX8_turnLoop 75 = .ok (.iload_n 2, 1) := by decide +kernel
theorem dX8_turnLoop_76 : decode cX8_turnLoop 76 = .ok (.iconst 4, 1) := by decide +kernel
theorem dX8_turnLoop_77 : decode cX8_turnLoop 77 = .ok (.idiv, 1) := by decide +kernel
theorem dX8_turnLoop_78 : decode cX8_turnLoop 78 = .ok (.bipush 9, 2) := by decide +kernel
theorem dX8_turnLoop_80 : decode cX8_turnLoop 80 = .ok (.irem, 1) := by decide +kernel
theorem dX8_turnLoop_81 : decode cX8_turnLoop 81 = .ok (.iadd, 1) := by decide +kernel
theorem dX8_turnLoop_82 : decode cX8_turnLoop 82 = .ok (.iconst 1, 1) := by decide +kernel
theorem dX8_turnLoop_83 : decode cX8_turnLoop 83 = .ok (.iload_n 2, 1) := by decide +kernel
theorem dX8_turnLoop_84 : decode cX8_turnLoop 84 = .ok (.bipush 64, 2) := by decide +kernel
theorem dX8_turnLoop_86 : decode cX8_turnLoop 86 = .ok (.idiv, 1) := by decide +kernel
theorem dX8_turnLoop_87 : decode cX8_turnLoop 87 = .ok (.bipush 9, 2) := by decide +kernel
theorem dX8_turnLoop_89 : decode cX8_turnLoop 89 = .ok (.irem, 1) := by decide +kernel
theorem dX8_turnLoop_90 : decode cX8_turnLoop 90 = .ok (.iadd, 1) := by decide +kernel
theorem dX8_turnLoop_91 : decode cX8_turnLoop 91 = .ok (.invokestatic 143, 3) := by decide +kernel
theorem dX8_turnLoop_94 : decode cX8_turnLoop 94 = .ok (.pop, 1) := by decide +kernel
theorem dX8_turnLoop_95 : decode cX8_turnLoop 95 = .ok (.goto 50, 3) := by decide +kernel
theorem dX8_turnLoop_98 : decode cX8_turnLoop 98 = .ok (.iload_n 2, 1) := by decide +kernel
theorem dX8_turnLoop_99 : decode cX8_turnLoop 99 = .ok (.bipush 8, 2) := by decide +kernel
theorem dX8_turnLoop_101 : decode cX8_turnLoop 101 = .ok (.idiv, 1) := by decide +kernel
theorem dX8_turnLoop_102 : decode cX8_turnLoop 102 = .ok (.iconst 2, 1) := by decide +kernel
theorem dX8_turnLoop_103 : decode cX8_turnLoop 103 = .ok (.irem, 1) := by decide +kernel
theorem dX8_turnLoop_104 : decode cX8_turnLoop 104 = .ok (.ifCond .ne 26, 3) := by decide +kernel
theorem dX8_turnLoop_107 : decode cX8_turnLoop 107 = .ok (.aload_n 0, 1) := by decide +kernel
theorem dX8_turnLoop_108 : decode cX8_turnLoop 108 = .ok (.iload_n 3, 1) := by decide +kernel
theorem dX8_turnLoop_109 : decode cX8_turnLoop 109 = .ok (.iload_n 2, 1) := by decide +kernel
theorem dX8_turnLoop_110 : decode cX8_turnLoop 110 = .ok (.iconst 4, 1) := by decide +kernel
theorem dX8_turnLoop_111 : decode cX8_turnLoop 111 = .ok (.idiv, 1) := by decide +kernel
theorem dX8_turnLoop_112 : decode cX8_turnLoop 112 = .ok (.iconst 2, 1) := by decide +kernel
theorem dX8_turnLoop_113 : decode cX8_turnLoop 113 = .ok (.irem, 1) := by decide +kernel
theorem dX8_turnLoop_114 : decode cX8_turnLoop 114 = .ok (.iconst 1, 1) := by decide +kernel
theorem dX8_turnLoop_115 : decode cX8_turnLoop 115 = .ok (.if_icmp .ne 7, 3) := by decide +kernel
theorem dX8_turnLoop_118 : decode cX8_turnLoop 118 = .ok (.iconst 1, 1) := by decide +kernel
theorem dX8_turnLoop_119 : decode cX8_turnLoop 119 = .ok (.goto 4, 3) := by decide +kernel
theorem dX8_turnLoop_122 : decode cX8_turnLoop 122 = .ok (.iconst 0, 1) := by decide +kernel
theorem dX8_turnLoop_123 : decode cX8_turnLoop 123 = .ok (.invokestatic 164, 3) := by decide +kernel
theorem dX8_turnLoop_126 : decode cX8_turnLoop 126 = .ok (.pop, 1) := by decide +kernel
theorem dX8_turnLoop_127 : decode cX8_turnLoop 127 = .ok (.goto 18, 3) := by decide +kernel
theorem dX8_turnLoop_130 : decode cX8_turnLoop 130 = .ok (.aload_n 0, 1) := by decide +kernel
theorem dX8_turnLoop_131 : decode cX8_turnLoop 131 = .ok (.iload_n 3, 1) := by decide +kernel
theorem dX8_turnLoop_132 : decode cX8_turnLoop 132 = .ok (.iconst 0, 1) := by decide +kernel
theorem dX8_turnLoop_133 : decode cX8_turnLoop 133 = .ok (.invokestatic 57, 3) := by decide +kernel
theorem dX8_turnLoop_136 : decode cX8_turnLoop 136 = .ok (.ifCond .le 9, 3) := by decide +kernel
theorem dX8_turnLoop_139 : decode cX8_turnLoop 139 = .ok (.aload_n 0, 1) := by decide +kernel
theorem dX8_turnLoop_140 : decode cX8_turnLoop 140 = .ok (.iload_n 3, 1) := by decide +kernel
theorem dX8_turnLoop_141 : decode cX8_turnLoop 141 = .ok (.invokestatic 213, 3) := by decide +kernel
theorem dX8_turnLoop_144 : decode cX8_turnLoop 144 = .ok (.pop, 1) := by decide +kernel
theorem dX8_turnLoop_145 : decode cX8_turnLoop 145 = .ok (.return_, 1) := by decide +kernel
theorem dX8_simulate_0 : decode cX8_simulate 0 = .ok (.aload_n 0, 1) := by decide +kernel
theorem dX8_simulate_1 : decode cX8_simulate 1 = .ok (.iload_n 3, 1) := by decide +kernel
theorem dX8_simulate_2 : decode cX8_simulate 2 = .ok (.i2l, 1) := by decide +kernel
theorem dX8_simulate_3 : decode cX8_simulate 3 = .ok (.lconst 1, 1) := by decide +kernel
theorem dX8_simulate_4 : decode cX8_simulate 4 = .ok (.ldc2_w 208, 3) := by decide +kernel
theorem dX8_simulate_7 : decode cX8_simulate 7 = .ok (.invokestatic 37, 3) := by decide +kernel
theorem dX8_simulate_10 : decode cX8_simulate 10 = .ok (.ifCond .eq 7, 3) := by decide +kernel
theorem dX8_simulate_13 : decode cX8_simulate 13 = .ok (.iconst 0, 1) := by decide +kernel
theorem dX8_simulate_14 : decode cX8_simulate 14 = .ok (.goto 4, 3) := by decide +kernel
theorem dX8_simulate_17 : decode cX8_simulate 17 = .ok (.iconst 1, 1) := by decide +kernel
theorem dX8_simulate_18 : decode cX8_simulate 18 = .ok (.invokevirtual 98, 3) := by decide +kernel
theorem dX8_simulate_21 : decode cX8_simulate 21 = .ok (.ifCond .eq 5, 3) := by decide +kernel
theorem dX8_simulate_24 : decode cX8_simulate 24 = .ok (.iconst 0, 1) := by decide +kernel
theorem dX8_simulate_25 : decode cX8_simulate 25 = .ok (.ireturn, 1) := by decide +kernel
theorem dX8_simulate_26 : decode cX8_simulate 26 = .ok (.aload_n 0, 1) := by decide +kernel
theorem dX8_simulate_27 : decode cX8_simulate 27 = .ok (.getfield 13, 3) := by decide +kernel
theorem dX8_simulate_30 : decode cX8_simulate 30 = .ok (.iconst 0, 1) := by decide +kernel
theorem dX8_simulate_31 : decode cX8_simulate 31 = .ok (.aload_n 0, 1) := by decide +kernel
theorem dX8_simulate_32 : decode cX8_simulate 32 = .ok (.getfield 16, 3) := by decide +kernel
theorem dX8_simulate_35 : decode cX8_simulate 35 = .ok (.iconst 0, 1) := by decide +kernel
theorem dX8_simulate_36 : decode cX8_simulate 36 = .ok (.invokestatic 177, 3) := by decide +kernel
theorem dX8_simulate_39 : decode cX8_simulate 39 = .ok (.lload_n 1, 1) := by decide +kernel
theorem dX8_simulate_40 : decode cX8_simulate 40 = .ok (.lstore 4, 2) := by decide +kernel
theorem dX8_simulate_42 : decode cX8_simulate 42 = .ok (.iconst 0, 1) := by decide +kernel
theorem dX8_simulate_43 : decode cX8_simulate 43 = .ok (.istore 6, 2) := by decide +kernel
theorem dX8_simulate_45 : decode cX8_simulate 45 = .ok (.iload 6, 2) := by decide +kernel
theorem dX8_simulate_47 : decode cX8_simulate 47 = .ok (.iload_n 3, 1) := by decide +kernel
theorem dX8_simulate_48 : decode cX8_simulate 48 = .ok (.if_icmp .ge 100, 3) := by decide +kernel
theorem dX8_simulate_51 : decode cX8_simulate 51 = .ok (.lload 4, 2) := by decide +kernel
theorem dX8_simulate_53 : decode cX8_simulate 53 = .ok (.ldc2_w 247, 3) := by decide +kernel
theorem dX8_simulate_56 : decode cX8_simulate 56 = .ok (.lmul, 1) := by decide +kernel
theorem dX8_simulate_57 : decode cX8_simulate 57 = .ok (.ldc2_w 249, 3) := by decide +kernel
theorem dX8_simulate_60 : decode cX8_simulate 60 = .ok (.ladd, 1) := by decide +kernel
theorem dX8_simulate_61 : decode cX8_simulate 61 = .ok (.lstore 4, 2) := by decide +kernel
theorem dX8_simulate_63 : decode cX8_simulate 63 = .ok (.lload 4, 2) := by decide +kernel
theorem dX8_simulate_65 : decode cX8_simulate 65 = .ok (.bipush 33, 2) := by decide +kernel
theorem dX8_simulate_67 : decode cX8_simulate 67 = .ok (.lushr, 1) := by decide +kernel
theorem dX8_simulate_68 : decode cX8_simulate 68 = .ok (.l2i, 1) := by decide +kernel
theorem dX8_simulate_69 : decode cX8_simulate 69 = .ok (.istore 7, 2) := by decide +kernel
theorem dX8_simulate_71 : decode cX8_simulate 71 = .ok (.iload 7, 2) := by decide +kernel
theorem dX8_simulate_73 : decode cX8_simulate 73 = .ok (.bipush 16, 2) := by decide +kernel
theorem dX8_simulate_75 : decode cX8_simulate 75 = .ok (.idiv, 1) := by decide +kernel
theorem dX8_simulate_76 : decode cX8_simulate 76 = .ok (.istore 8, 2) := by decide +kernel
theorem dX8_simulate_78 : decode cX8_simulate 78 = .ok (.iload 7, 2) := by decide +kernel
theorem dX8_simulate_80 : decode cX8_simulate 80 = .ok (.bipush 16, 2) := by decide +kernel
theorem dX8_simulate_82 : decode cX8_simulate 82 = .ok (.irem, 1) := by decide +kernel
theorem dX8_simulate_83 : decode cX8_simulate 83 = .ok (.istore 9, 2) := by decide +kernel
theorem dX8_simulate_85 : decode cX8_simulate 85 = .ok (.iload 9, 2) := by decide +kernel
theorem dX8_simulate_87 : decode cX8_simulate 87 = .ok (.bipush 9, 2) := by decide +kernel
theorem dX8_simulate_89 : decode cX8_simulate 89 = .ok (.if_icmp .ge 17, 3) := by decide +kernel
theorem dX8_simulate_92 : decode cX8_simulate 92 = .ok (.aload_n 0, 1) := by decide +kernel
theorem dX8_simulate_93 : decode cX8_simulate 93 = .ok (.getfield 16, 3) := by decide +kernel
theorem dX8_simulate_96 : decode cX8_simulate 96 = .ok (.iload 9, 2) := by decide +kernel
theorem dX8_simulate_98 : decode cX8_simulate 98 = .ok (.iload 8, 2) := by decide +kernel
theorem dX8_simulate_100 : decode cX8_simulate 100 = .ok (.invokestatic 251, 3) := by decide +kernel
theorem dX8_simulate_103 : decode cX8_simulate 103 = .ok (.goto 39, 3) := by decide +kernel
theorem dX8_simulate_106 : decode cX8_simulate 106 = .ok (.iload 9, 2) := by decide +kernel
theorem dX8_simulate_108 : decode cX8_simulate 108 = .ok (.bipush 12, 2) := by decide +kernel
theorem dX8_simulate_110 : decode cX8_simulate 110 = .ok (.if_icmp .ge 17, 3) := by decide +kernel
theorem dX8_simulate_113 : decode cX8_simulate 113 = .ok (.aload_n 0, 1) := by decide +kernel
theorem dX8_simulate_114 : decode cX8_simulate 114 = .ok (.getfield 16, 3) := by decide +kernel
theorem dX8_simulate_117 : decode cX8_simulate 117 = .ok (.iload 9, 2) := by decide +kernel
theorem dX8_simulate_119 : decode cX8_simulate 119 = .ok (.iload 8, 2) := by decide +kernel
theorem dX8_simulate_121 : decode cX8_simulate 121 = .ok (.invokestatic 255, 3) := by decide +kernel
theorem dX8_simulate_124 : decode cX8_simulate 124 = .ok (.goto 18, 3) := by decide +kernel
theorem dX8_simulate_127 : decode cX8_simulate 127 = .ok (.aload_n 0, 1) := by decide +kernel
theorem dX8_simulate_128 : decode cX8_simulate 128 = .ok (.getfield 16, 3) := by decide +kernel
theorem dX8_simulate_131 : decode cX8_simulate 131 = .ok (.iconst 1, 1) := by decide +kernel
theorem dX8_simulate_132 : decode cX8_simulate 132 = .ok (.iload 8, 2) := by decide +kernel
theorem dX8_simulate_134 : decode cX8_simulate 134 = .ok (.bipush 50, 2) := by decide +kernel
theorem dX8_simulate_136 : decode cX8_simulate 136 = .ok (.irem, 1) := by decide +kernel
theorem dX8_simulate_137 : decode cX8_simulate 137 = .ok (.iadd, 1) := by decide +kernel
theorem dX8_simulate_138 : decode cX8_simulate 138 = .ok (.invokestatic 90, 3) := by decide +kernel
theorem dX8_simulate_141 : decode cX8_simulate 141 = .ok (.pop, 1) := by decide +kernel
theorem dX8_simulate_142 : decode cX8_simulate 142 = .ok (.iinc 6 1, 3) := by decide +kernel
theorem dX8_simulate_145 : decode cX8_simulate 145 = .ok (.goto (-100), 3) := by decide +kernel
theorem dX8_simulate_148 : decode cX8_simulate 148 = .ok (.sipush 1000, 3) := by decide +kernel
theorem dX8_simulate_151 : decode cX8_simulate 151 = .ok (.aload_n 0, 1) := by decide +kernel
theorem dX8_simulate_152 : decode cX8_simulate 152 = .ok (.getfield 16, 3) := by decide +kernel
theorem dX8_simulate_155 : decode cX8_simulate 155 = .ok (.invokestatic 186, 3) := by decide +kernel
theorem dX8_simulate_158 : decode cX8_simulate 158 = .ok (.imul, 1) := by decide +kernel
theorem dX8_simulate_159 : decode cX8_simulate 159 = .ok (.aload_n 0, 1) := by decide +kernel
theorem dX8_simulate_160 : decode cX8_simulate 160 = .ok (.getfield 16, 3) := by decide +kernel
theorem dX8_simulate_163 : decode cX8_simulate 163 = .ok (.lconst 0, 1) := by decide +kernel
theorem dX8_simulate_164 : decode cX8_simulate 164 = .ok (.invokestatic 78, 3) := by decide +kernel
theorem dX8_simulate_167 : decode cX8_simulate 167 = .ok (.iadd, 1) := by decide +kernel
theorem dX8_simulate_168 : decode cX8_simulate 168 = .ok (.ireturn, 1) := by decide +kernel
theorem dX8_save_0 : decode cX8_save 0 = .ok (.aload_n 0, 1) := by decide +kernel
theorem dX8_save_1 : decode cX8_save 1 = .ok (.iload_n 1, 1) := by decide +kernel
theorem dX8_save_2 : decode cX8_save 2 = .ok (.i2l, 1) := by decide +kernel
theorem dX8_save_3 : decode cX8_save 3 = .ok (.lconst 0, 1) := by decide +kernel
theorem dX8_save_4 : decode cX8_save 4 = .ok (.lconst 1, 1) := by decide +kernel
theorem dX8_save_5 : decode cX8_save 5 = .ok (.invokestatic 37, 3) := by decide +kernel
theorem dX8_save_8 : decode cX8_save 8 = .ok (.ifCond .eq 7, 3) := by decide +kernel
theorem dX8_save_11 : decode cX8_save 11 = .ok (.iconst 0, 1) := by decide +kernel
theorem dX8_save_12 : decode cX8_save 12 = .ok (.goto 4, 3) := by decide +kernel
theorem dX8_save_15 : decode cX8_save 15 = .ok (.iconst 1, 1) := by decide +kernel
theorem dX8_save_16 : decode cX8_save 16 = .ok (.invokevirtual 98, 3) := by decide +kernel
theorem dX8_save_19 : decode cX8_save 19 = .ok (.ifCond .eq 5, 3) := by decide +kernel
theorem dX8_save_22 : decode cX8_save 22 = .ok (.iconst 0, 1) := by decide +kernel
theorem dX8_save_23 : decode cX8_save 23 = .ok (.ireturn, 1) := by decide +kernel
theorem dX8_save_24 : decode cX8_save 24 = .ok (.aload_n 0, 1) := by decide +kernel
theorem dX8_save_25 : decode cX8_save 25 = .ok (.getfield 13, 3) := by decide +kernel
theorem dX8_save_28 : decode cX8_save 28 = .ok (.iconst 0, 1) := by decide +kernel
theorem dX8_save_29 : decode cX8_save 29 = .ok (.aload_n 0, 1) := by decide +kernel
theorem dX8_save_30 : decode cX8_save 30 = .ok (.getfield 22, 3) := by decide +kernel
theorem dX8_save_33 : decode cX8_save 33 = .ok (.sipush 427, 3) := by decide +kernel
theorem dX8_save_36 : decode cX8_save 36 = .ok (.iload_n 1, 1) := by decide +kernel
theorem dX8_save_37 : decode cX8_save 37 = .ok (.imul, 1) := by decide +kernel
theorem dX8_save_38 : decode cX8_save 38 = .ok (.invokestatic 177, 3) := by decide +kernel
theorem dX8_save_41 : decode cX8_save 41 = .ok (.aload_n 0, 1) := by decide +kernel
theorem dX8_save_42 : decode cX8_save 42 = .ok (.getfield 25, 3) := by decide +kernel
theorem dX8_save_45 : decode cX8_save 45 = .ok (.iload_n 1, 1) := by decide +kernel
theorem dX8_save_46 : decode cX8_save 46 = .ok (.iconst 1, 1) := by decide +kernel
theorem dX8_save_47 : decode cX8_save 47 = .ok (.bastore, 1) := by decide +kernel
theorem dX8_save_48 : decode cX8_save 48 = .ok (.aload_n 0, 1) := by decide +kernel
theorem dX8_save_49 : decode cX8_save 49 = .ok (.getfield 13, 3) := by decide +kernel
theorem dX8_save_52 : decode cX8_save 52 = .ok (.iconst 2, 1) := by decide +kernel
theorem dX8_save_53 : decode cX8_save 53 = .ok (.iaload, 1) := by decide +kernel
theorem dX8_save_54 : decode cX8_save 54 = .ok (.ireturn, 1) := by decide +kernel
theorem dX8_restore_0 : decode cX8_restore 0 = .ok (.aload_n 0, 1) := by decide +kernel
theorem dX8_restore_1 : decode cX8_restore 1 = .ok (.iload_n 1, 1) := by decide +kernel
theorem dX8_restore_2 : decode cX8_restore 2 = .ok (.i2l, 1) := by decide +kernel
theorem dX8_restore_3 : decode cX8_restore 3 = .ok (.lconst 0, 1) := by decide +kernel
theorem dX8_restore_4 : decode cX8_restore 4 = .ok (.lconst 1, 1) := by decide +kernel
theorem dX8_restore_5 : decode cX8_restore 5 = .ok (.invokestatic 37, 3) := by decide +kernel
theorem dX8_restore_8 : decode cX8_restore 8 = .ok (.ifCond .ne 7, 3) := by decide +kernel
theorem dX8_restore_11 : decode cX8_restore 11 = .ok (.iconst 1, 1) := by decide +kernel
theorem dX8_restore_12 : decode cX8_restore 12 = .ok (.goto 17, 3) := by decide +kernel
theorem dX8_restore_15 : decode cX8_restore 15 = .ok (.aload_n 0, 1) := by decide +kernel
theorem dX8_restore_16 : decode cX8_restore 16 = .ok (.getfield 25, 3) := by decide +kernel
theorem dX8_restore_19 : decode cX8_restore 19 = .ok (.iload_n 1, 1) := by decide +kernel
theorem dX8_restore_20 : decode cX8_restore 20 = .ok (.baload, 1) := by decide +kernel
theorem dX8_restore_21 : decode cX8_restore 21 = .ok (.ifCond .ne 7, 3) := by decide +kernel
theorem dX8_restore_24 : decode cX8_restore 24 = .ok (.iconst 2, 1) := by decide +kernel
theorem dX8_restore_25 : decode cX8_restore 25 = .ok (.goto 4, 3) := by decide +kernel
theorem dX8_restore_28 : decode cX8_restore 28 = .ok (.iconst 0, 1) := by decide +kernel
theorem dX8_restore_29 : decode cX8_restore 29 = .ok (.invokevirtual 98, 3) := by decide +kernel
theorem dX8_restore_32 : decode cX8_restore 32 = .ok (.ifCond .eq 5, 3) := by decide +kernel
theorem dX8_restore_35 : decode cX8_restore 35 = .ok (.iconst 0, 1) := by decide +kernel
theorem dX8_restore_36 : decode cX8_restore 36 = .ok (.ireturn, 1) := by decide +kernel
theorem dX8_restore_37 : decode cX8_restore 37 = .ok (.aload_n 0, 1) := by decide +kernel
theorem dX8_restore_38 : decode cX8_restore 38 = .ok (.getfield 22, 3) := by decide +kernel
theorem dX8_restore_41 : decode cX8_restore 41 = .ok (.sipush 427, 3) := by decide +kernel
theorem dX8_restore_44 : decode cX8_restore 44 = .ok (.iload_n 1, 1) := by decide +kernel
theorem dX8_restore_45 : decode cX8_restore 45 = .ok (.imul, 1) := by decide +kernel
theorem dX8_restore_46 : decode cX8_restore 46 = .ok (.aload_n 0, 1) := by decide +kernel
theorem dX8_restore_47 : decode cX8_restore 47 = .ok (.getfield 13, 3) := by decide +kernel
theorem dX8_restore_50 : decode cX8_restore 50 = .ok (.iconst 0, 1) := by decide +kernel
theorem dX8_restore_51 : decode cX8_restore 51 = .ok (.invokestatic 177, 3) := by decide +kernel
theorem dX8_restore_54 : decode cX8_restore 54 = .ok (.aload_n 0, 1) := by decide +kernel
theorem dX8_restore_55 : decode cX8_restore 55 = .ok (.iconst 0, 1) := by decide +kernel
theorem dX8_restore_56 : decode cX8_restore 56 = .ok (.putfield 181, 3) := by decide +kernel
theorem dX8_restore_59 : decode cX8_restore 59 = .ok (.aload_n 0, 1) := by decide +kernel
theorem dX8_restore_60 : decode cX8_restore 60 = .ok (.getfield 13, 3) := by decide +kernel
theorem dX8_restore_63 : decode cX8_restore 63 = .ok (.iconst 2, 1) := by decide +kernel
theorem dX8_restore_64 : decode cX8_restore 64 = .ok (.iaload, 1) := by decide +kernel
theorem dX8_restore_65 : decode cX8_restore 65 = .ok (.ireturn, 1) := by decide +kernel
theorem dJ9_floorMod_7cf53_0 : decode cJ9_floorMod_7cf53 0 = .ok (.iload_n 0, 1) := by decide +kernel
theorem dJ9_floorMod_7cf53_1 : decode cJ9_floorMod_7cf53 1 = .ok (.iload_n 1, 1) := by decide +kernel
theorem dJ9_floorMod_7cf53_2 : decode cJ9_floorMod_7cf53 2 = .ok (.irem, 1) := by decide +kernel
theorem dJ9_floorMod_7cf53_3 : decode cJ9_floorMod_7cf53 3 = .ok (.istore_n 2, 1) := by decide +kernel
theorem dJ9_floorMod_7cf53_4 : decode cJ9_floorMod_7cf53 4 = .ok (.iload_n 0, 1) := by decide +kernel
theorem dJ9_floorMod_7cf53_5 : decode cJ9_floorMod_7cf53 5 = .ok (.iload_n 1, 1) := by decide +kernel
theorem dJ9_floorMod_7cf53_6 : decode cJ9_floorMod_7cf53 6 = .ok (.ixor, 1) := by decide +kernel
theorem dJ9_floorMod_7cf53_7 : decode cJ9_floorMod_7cf53 7 = .ok (.ifCond .ge 11, 3) := by decide +kernel
theorem dJ9_floorMod_7cf53_10 : decode cJ9_floorMod_7cf53 10 = .ok (.iload_n 2, 1) := by decide +kernel
theorem dJ9_floorMod_7cf53_11 : decode cJ9_floorMod_7cf53 11 = .ok (.ifCond .eq 7, 3) := by decide +kernel
theorem dJ9_floorMod_7cf53_14 : decode cJ9_floorMod_7cf53 14 = .ok (.iload_n 2, 1) := by decide +kernel
theorem dJ9_floorMod_7cf53_15 : decode cJ9_floorMod_7cf53 15 = .ok (.iload_n 1, 1) := by decide +kernel
theorem dJ9_floorMod_7cf53_16 : decode cJ9_floorMod_7cf53 16 = .ok (.iadd, 1) := by decide +kernel
theorem dJ9_floorMod_7cf53_17 : decode cJ9_floorMod_7cf53 17 = .ok (.ireturn, 1) := by decide +kernel
theorem dJ9_floorMod_7cf53_18 : decode cJ9_floorMod_7cf53 18 = .ok (.iload_n 2, 1) := by decide +kernel
theorem dJ9_floorMod_7cf53_19 : decode cJ9_floorMod_7cf53 19 = .ok (.ireturn, 1) := by decide +kernel
theorem dJ9_max_7cf53_0 : decode cJ9_max_7cf53 0 = .ok (.iload_n 0, 1) := by decide +kernel
theorem dJ9_max_7cf53_1 : decode cJ9_max_7cf53 1 = .ok (.iload_n 1, 1) := by decide +kernel
theorem dJ9_max_7cf53_2 : decode cJ9_max_7cf53 2 = .ok (.if_icmp .lt 7, 3) := by decide +kernel
theorem dJ9_max_7cf53_5 : decode cJ9_max_7cf53 5 = .ok (.iload_n 0, 1) := by decide +kernel
theorem dJ9_max_7cf53_6 : decode cJ9_max_7cf53 6 = .ok (.goto 4, 3) := by decide +kernel
theorem dJ9_max_7cf53_9 : decode cJ9_max_7cf53 9 = .ok (.iload_n 1, 1) := by decide +kernel
theorem dJ9_max_7cf53_10 : decode cJ9_max_7cf53 10 = .ok (.ireturn, 1) := by decide +kernel
theorem dJ9_min_7cf53_0 : decode cJ9_min_7cf53 0 = .ok (.iload_n 0, 1) := by decide +kernel
theorem dJ9_min_7cf53_1 : decode cJ9_min_7cf53 1 = .ok (.iload_n 1, 1) := by decide +kernel
theorem dJ9_min_7cf53_2 : decode cJ9_min_7cf53 2 = .ok (.if_icmp .gt 7, 3) := by decide +kernel
theorem dJ9_min_7cf53_5 : decode cJ9_min_7cf53 5 = .ok (.iload_n 0, 1) := by decide +kernel
theorem dJ9_min_7cf53_6 : decode cJ9_min_7cf53 6 = .ok (.goto 4, 3) := by decide +kernel
theorem dJ9_min_7cf53_9 : decode cJ9_min_7cf53 9 = .ok (.iload_n 1, 1) := by decide +kernel
theorem dJ9_min_7cf53_10 : decode cJ9_min_7cf53 10 = .ok (.ireturn, 1) := by decide +kernel
theorem dJ0_length_8abf5_0 : decode cJ0_length_8abf5 0 = .ok (.aload_n 0, 1) := by decide +kernel
theorem dJ0_length_8abf5_1 : decode cJ0_length_8abf5 1 = .ok (.getfield 9, 3) := by decide +kernel
theorem dJ0_length_8abf5_4 : decode cJ0_length_8abf5 4 = .ok (.arraylength, 1) := by decide +kernel
theorem dJ0_length_8abf5_5 : decode cJ0_length_8abf5 5 = .ok (.aload_n 0, 1) := by decide +kernel
theorem dJ0_length_8abf5_6 : decode cJ0_length_8abf5 6 = .ok (.invokevirtual 335, 3) := by decide +kernel
theorem dJ0_length_8abf5_9 : decode cJ0_length_8abf5 9 = .ok (.ishr, 1) := by decide +kernel
theorem dJ0_length_8abf5_10 : decode cJ0_length_8abf5 10 = .ok (.ireturn, 1) := by decide +kernel
theorem dJ0_charAt_5068e_0 : decode cJ0_charAt_5068e 0 = .ok (.aload_n 0, 1) := by decide +kernel
theorem dJ0_charAt_5068e_1 : decode cJ0_charAt_5068e 1 = .ok (.invokevirtual 492, 3) := by decide +kernel
theorem dJ0_charAt_5068e_4 : decode cJ0_charAt_5068e 4 = .ok (.ifCond .eq 12, 3) := by decide +kernel
theorem dJ0_charAt_5068e_7 : decode cJ0_charAt_5068e 7 = .ok (.aload_n 0, 1) := by decide +kernel
theorem dJ0_charAt_5068e_8 : decode cJ0_charAt_5068e 8 = .ok (.getfield 9, 3) := by decide +kernel
theorem dJ0_charAt_5068e_11 : decode cJ0_charAt_5068e 11 = .ok (.iload_n 1, 1) := by decide +kernel
theorem dJ0_charAt_5068e_12 : decode cJ0_charAt_5068e 12 = .ok (.invokestatic 495, 3) := by decide +kernel
theorem dJ0_charAt_5068e_15 : decode cJ0_charAt_5068e 15 = .ok (.ireturn, 1) := by decide +kernel
theorem dJ0_charAt_5068e_16 : decode cJ0_charAt_5068e 16 = .ok (.aload_n 0, 1) := by decide +kernel
theorem dJ0_charAt_5068e_17 : decode cJ0_charAt_5068e 17 = .ok (.getfield 9, 3) := by decide +kernel
theorem dJ0_charAt_5068e_20 : decode cJ0_charAt_5068e 20 = .ok (.iload_n 1, 1) := by decide +kernel
theorem dJ0_charAt_5068e_21 : decode cJ0_charAt_5068e 21 = .ok (.invokestatic 498, 3) := by decide +kernel
theorem dJ0_charAt_5068e_24 : decode cJ0_charAt_5068e 24 = .ok (.ireturn, 1) := by decide +kernel
theorem dJ0_coder_7d493_0 : decode cJ0_coder_7d493 0 = .ok (.getstatic 38, 3) := by decide +kernel
theorem dJ0_coder_7d493_3 : decode cJ0_coder_7d493 3 = .ok (.ifCond .eq 10, 3) := by decide +kernel
theorem dJ0_coder_7d493_6 : decode cJ0_coder_7d493 6 = .ok (.aload_n 0, 1) := by decide +kernel
theorem dJ0_coder_7d493_7 : decode cJ0_coder_7d493 7 = .ok (.getfield 15, 3) := by decide +kernel
theorem dJ0_coder_7d493_10 : decode cJ0_coder_7d493 10 = .ok (.goto 4, 3) := by decide +kernel
theorem dJ0_coder_7d493_13 : decode cJ0_coder_7d493 13 = .ok (.iconst 1, 1) := by decide +kernel
theorem dJ0_coder_7d493_14 : decode cJ0_coder_7d493 14 = .ok (.ireturn, 1) := by decide +kernel
theorem dJ0_isLatin1_aae02_0 : decode cJ0_isLatin1_aae02 0 = .ok (.getstatic 38, 3) := by decide +kernel
theorem dJ0_isLatin1_aae02_3 : decode cJ0_isLatin1_aae02 3 = .ok (.ifCond .eq 14, 3) := by decide +kernel
theorem dJ0_isLatin1_aae02_6 : decode cJ0_isLatin1_aae02 6 = .ok (.aload_n 0, 1) := by decide +kernel
theorem dJ0_isLatin1_aae02_7 : decode cJ0_isLatin1_aae02 7 = .ok (.getfield 15, 3) := by decide +kernel
theorem dJ0_isLatin1_aae02_10 : decode cJ0_isLatin1_aae02 10 = .ok (.ifCond .ne 7, 3) := by decide +kernel
theorem dJ0_isLatin1_aae02_13 : decode cJ0_isLatin1_aae02 13 = .ok (.iconst 1, 1) := by decide +kernel
theorem dJ0_isLatin1_aae02_14 : decode cJ0_isLatin1_aae02 14 = .ok (.goto 4, 3) := by decide +kernel
theorem dJ0_isLatin1_aae02_17 : decode cJ0_isLatin1_aae02 17 = .ok (.iconst 0, 1) := by decide +kernel
theorem dJ0_isLatin1_aae02_18 : decode cJ0_isLatin1_aae02 18 = .ok (.ireturn, 1) := by decide +kernel
theorem dJ0_checkIndex_df160_0 : decode cJ0_checkIndex_df160 0 = .ok (.iload_n 0, 1) := by decide +kernel
theorem dJ0_checkIndex_df160_1 : decode cJ0_checkIndex_df160 1 = .ok (.iload_n 1, 1) := by decide +kernel
theorem dJ0_checkIndex_df160_2 : decode cJ0_checkIndex_df160 2 = .ok (.getstatic 1053, 3) := by decide +kernel
theorem dJ0_checkIndex_df160_5 : decode cJ0_checkIndex_df160 5 = .ok (.invokestatic 1059, 3) := by decide +kernel
theorem dJ0_checkIndex_df160_8 : decode cJ0_checkIndex_df160 8 = .ok (.pop, 1) := by decide +kernel
theorem dJ0_checkIndex_df160_9 : decode cJ0_checkIndex_df160 9 = .ok (.return_, 1) := by decide +kernel
theorem dJ1_charAt_3b067_0 : decode cJ1_charAt_3b067 0 = .ok (.iload_n 1, 1) := by decide +kernel
theorem dJ1_charAt_3b067_1 : decode cJ1_charAt_3b067 1 = .ok (.aload_n 0, 1) := by decide +kernel
theorem dJ1_charAt_3b067_2 : decode cJ1_charAt_3b067 2 = .ok (.arraylength, 1) := by decide +kernel
theorem dJ1_charAt_3b067_3 : decode cJ1_charAt_3b067 3 = .ok (.invokestatic 9, 3) := by decide +kernel
theorem dJ1_charAt_3b067_6 : decode cJ1_charAt_3b067 6 = .ok (.aload_n 0, 1) := by decide +kernel
theorem dJ1_charAt_3b067_7 : decode cJ1_charAt_3b067 7 = .ok (.iload_n 1, 1) := by decide +kernel
theorem dJ1_charAt_3b067_8 : decode cJ1_charAt_3b067 8 = .ok (.baload, 1) := by decide +kernel
theorem dJ1_charAt_3b067_9 : decode cJ1_charAt_3b067 9 = .ok (.sipush 255, 3) := by decide +kernel
theorem dJ1_charAt_3b067_12 : decode cJ1_charAt_3b067 12 = .ok (.iand, 1) := by decide +kernel
theorem dJ1_charAt_3b067_13 : decode cJ1_charAt_3b067 13 = .ok (.i2c, 1) := by decide +kernel
theorem dJ1_charAt_3b067_14 : decode cJ1_charAt_3b067 14 = .ok (.ireturn, 1) := by decide +kernel
theorem dJ2_getChar_3b067_0 : decode cJ2_getChar_3b067 0 = .ok (.getstatic 44, 3) := by decide +kernel
theorem dJ2_getChar_3b067_3 : decode cJ2_getChar_3b067 3 = .ok (.ifCond .ne 25, 3) := by decide +kernel
theorem dJ2_getChar_3b067_6 : decode cJ2_getChar_3b067 6 = .ok (.iload_n 1, 1) := by decide +kernel
theorem dJ2_getChar_3b067_7 : decode cJ2_getChar_3b067 7 = .ok (.ifCond .lt 11, 3) := by decide +kernel
theorem dJ2_getChar_3b067_10 : decode cJ2_getChar_3b067 10 = .ok (.iload_n 1, 1) := by decide +kernel
theorem dJ2_getChar_3b067_11 : decode cJ2_getChar_3b067 11 = .ok (.aload_n 0, 1) := by decide +kernel
theorem dJ2_getChar_3b067_12 : decode cJ2_getChar_3b067 12 = .ok (.invokestatic 48, 3) := by decide +kernel
theorem dJ2_getChar_3b067_15 : decode cJ2_getChar_3b067 15 = .ok (.if_icmp .lt 13, 3) := by decide +kernel
theorem dJ2_getChar_3b067_18 : decode cJ2_getChar_3b067 18 = .ok (.new 52, 3) := by decide +kernel
theorem dJ2_getChar_3b067_21 : decode cJ2_getChar_3b067 21 = .ok (.dup, 1) := by decide +kernel
theorem dJ2_getChar_3b067_22 : decode cJ2_getChar_3b067 22 = .ok (.ldc 54, 2) := by decide +kernel
theorem dJ2_getChar_3b067_24 : decode cJ2_getChar_3b067 24 = .ok (.invokespecial 56, 3) := by decide +kernel
theorem dJ2_getChar_3b067_27 : decode cJ2_getChar_3b067 27 = .ok (.athrow, 1) := by decide +kernel
theorem dJ2_getChar_3b067_28 : decode cJ2_getChar_3b067 28 = .ok (.iload_n 1, 1) := by decide +kernel
theorem dJ2_getChar_3b067_29 : decode cJ2_getChar_3b067 29 = .ok (.iconst 1, 1) := by decide +kernel
theorem dJ2_getChar_3b067_30 : decode cJ2_getChar_3b067 30 = .ok (.ishl, 1) := by decide +kernel
theorem dJ2_getChar_3b067_31 : decode cJ2_getChar_3b067 31 = .ok (.istore_n 1, 1) := by decide +kernel
theorem dJ2_getChar_3b067_32 : decode cJ2_getChar_3b067 32 = .ok (.aload_n 0, 1) := by decide +kernel
theorem dJ2_getChar_3b067_33 : decode cJ2_getChar_3b067 33 = .ok (.iload_n 1, 1) := by decide +kernel
theorem dJ2_getChar_3b067_34 : decode cJ2_getChar_3b067 34 = .ok (.iinc 1 1, 3) := by decide +kernel
theorem dJ2_getChar_3b067_37 : decode cJ2_getChar_3b067 37 = .ok (.baload, 1) := by decide +kernel
theorem dJ2_getChar_3b067_38 : decode cJ2_getChar_3b067 38 = .ok (.sipush 255, 3) := by decide +kernel
theorem dJ2_getChar_3b067_41 : decode cJ2_getChar_3b067 41 = .ok (.iand, 1) := by decide +kernel
theorem dJ2_getChar_3b067_42 : decode cJ2_getChar_3b067 42 = .ok (.getstatic 59, 3) := by decide +kernel
theorem dJ2_getChar_3b067_45 : decode cJ2_getChar_3b067 45 = .ok (.ishl, 1) := by decide +kernel
theorem dJ2_getChar_3b067_46 : decode cJ2_getChar_3b067 46 = .ok (.aload_n 0, 1) := by decide +kernel
theorem dJ2_getChar_3b067_47 : decode cJ2_getChar_3b067 47 = .ok (.iload_n 1, 1) := by decide +kernel
theorem dJ2_getChar_3b067_48 : decode cJ2_getChar_3b067 48 = .ok (.baload, 1) := by decide +kernel
theorem dJ2_getChar_3b067_49 : decode cJ2_getChar_3b067 49 = .ok (.sipush 255, 3) := by decide +kernel
theorem dJ2_getChar_3b067_52 : decode cJ2_getChar_3b067 52 = .ok (.iand, 1) := by decide +kernel
theorem dJ2_getChar_3b067_53 : decode cJ2_getChar_3b067 53 = .ok (.getstatic 63, 3) := by decide +kernel
theorem dJ2_getChar_3b067_56 : decode cJ2_getChar_3b067 56 = .ok (.ishl, 1) := by decide +kernel
theorem dJ2_getChar_3b067_57 : decode cJ2_getChar_3b067 57 = .ok (.ior, 1) := by decide +kernel
theorem dJ2_getChar_3b067_58 : decode cJ2_getChar_3b067 58 = .ok (.i2c, 1) := by decide +kernel
theorem dJ2_getChar_3b067_59 : decode cJ2_getChar_3b067 59 = .ok (.ireturn, 1) := by decide +kernel
theorem dJ2_length_9d52b_0 : decode cJ2_length_9d52b 0 = .ok (.aload_n 0, 1) := by decide +kernel
theorem dJ2_length_9d52b_1 : decode cJ2_length_9d52b 1 = .ok (.arraylength, 1) := by decide +kernel
theorem dJ2_length_9d52b_2 : decode cJ2_length_9d52b 2 = .ok (.iconst 1, 1) := by decide +kernel
theorem dJ2_length_9d52b_3 : decode cJ2_length_9d52b 3 = .ok (.ishr, 1) := by decide +kernel
theorem dJ2_length_9d52b_4 : decode cJ2_length_9d52b 4 = .ok (.ireturn, 1) := by decide +kernel
theorem dJ2_charAt_3b067_0 : decode cJ2_charAt_3b067 0 = .ok (.iload_n 1, 1) := by decide +kernel
theorem dJ2_charAt_3b067_1 : decode cJ2_charAt_3b067 1 = .ok (.aload_n 0, 1) := by decide +kernel
theorem dJ2_charAt_3b067_2 : decode cJ2_charAt_3b067 2 = .ok (.invokestatic 67, 3) := by decide +kernel
theorem dJ2_charAt_3b067_5 : decode cJ2_charAt_3b067 5 = .ok (.aload_n 0, 1) := by decide +kernel
theorem dJ2_charAt_3b067_6 : decode cJ2_charAt_3b067 6 = .ok (.iload_n 1, 1) := by decide +kernel
theorem dJ2_charAt_3b067_7 : decode cJ2_charAt_3b067 7 = .ok (.invokestatic 71, 3) := by decide +kernel
theorem dJ2_charAt_3b067_10 : decode cJ2_charAt_3b067 10 = .ok (.ireturn, 1) := by decide +kernel
theorem dJ2_checkIndex_2214a_0 : decode cJ2_checkIndex_2214a 0 = .ok (.iload_n 0, 1) := by decide +kernel
theorem dJ2_checkIndex_2214a_1 : decode cJ2_checkIndex_2214a 1 = .ok (.aload_n 1, 1) := by decide +kernel
theorem dJ2_checkIndex_2214a_2 : decode cJ2_checkIndex_2214a 2 = .ok (.invokestatic 48, 3) := by decide +kernel
theorem dJ2_checkIndex_2214a_5 : decode cJ2_checkIndex_2214a 5 = .ok (.invokestatic 414, 3) := by decide +kernel
theorem dJ2_checkIndex_2214a_8 : decode cJ2_checkIndex_2214a 8 = .ok (.return_, 1) := by decide +kernel
theorem dJ3_checkIndex_8e157_0 : decode cJ3_checkIndex_8e157 0 = .ok (.iload_n 0, 1) := by decide +kernel
theorem dJ3_checkIndex_8e157_1 : decode cJ3_checkIndex_8e157 1 = .ok (.ifCond .lt 8, 3) := by decide +kernel
theorem dJ3_checkIndex_8e157_4 : decode cJ3_checkIndex_8e157 4 = .ok (.iload_n 0, 1) := by decide +kernel
theorem dJ3_checkIndex_8e157_5 : decode cJ3_checkIndex_8e157 5 = .ok (.iload_n 1, 1) := by decide +kernel
theorem dJ3_checkIndex_8e157_6 : decode cJ3_checkIndex_8e157 6 = .ok (.if_icmp .lt 10, 3) := by decide +kernel
theorem dJ3_checkIndex_8e157_9 : decode cJ3_checkIndex_8e157 9 = .ok (.aload_n 2, 1) := by decide +kernel
theorem dJ3_checkIndex_8e157_10 : decode cJ3_checkIndex_8e157 10 = .ok (.iload_n 0, 1) := by decide +kernel
theorem dJ3_checkIndex_8e157_11 : decode cJ3_checkIndex_8e157 11 = .ok (.iload_n 1, 1) := by decide +kernel
theorem dJ3_checkIndex_8e157_12 : decode cJ3_checkIndex_8e157 12 = .ok (.invokestatic 95, 3) := by decide +kernel
theorem dJ3_checkIndex_8e157_15 : decode cJ3_checkIndex_8e157 15 = .ok (.athrow, 1) := by decide +kernel
theorem dJ3_checkIndex_8e157_16 : decode cJ3_checkIndex_8e157 16 = .ok (.iload_n 0, 1) := by decide +kernel
theorem dJ3_checkIndex_8e157_17 : decode cJ3_checkIndex_8e157 17 = .ok (.ireturn, 1) := by decide +kernel
theorem dL_append_0 : decode cL_append 0 = .ok (.aload_n 2, 1) := by decide +kernel
theorem dL_append_1 : decode cL_append 1 = .ok (.iconst 0, 1) := by decide +kernel
theorem dL_append_2 : decode cL_append 2 = .ok (.aload_n 0, 1) := by decide +kernel
theorem dL_append_3 : decode cL_append 3 = .ok (.iload_n 1, 1) := by decide +kernel
theorem dL_append_4 : decode cL_append 4 = .ok (.invokevirtual 7, 3) := by decide +kernel
theorem dL_append_7 : decode cL_append 7 = .ok (.i2l, 1) := by decide +kernel
theorem dL_append_8 : decode cL_append 8 = .ok (.lastore, 1) := by decide +kernel
theorem dL_append_9 : decode cL_append 9 = .ok (.goto 9, 3) := by decide +kernel
theorem dL_append_12 : decode cL_append 12 = .ok (.astore_n 3, 1) := by decide +kernel
theorem dL_append_13 : decode cL_append 13 = .ok (.iconst 1, 1) := by decide +kernel
theorem dL_append_14 : decode cL_append 14 = .ok (.ireturn, 1) := by decide +kernel
theorem dL_append_15 : decode cL_append 15 = .ok (.astore_n 3, 1) := by decide +kernel
theorem dL_append_16 : decode cL_append 16 = .ok (.iconst 2, 1) := by decide +kernel
theorem dL_append_17 : decode cL_append 17 = .ok (.ireturn, 1) := by decide +kernel
theorem dL_append_18 : decode cL_append 18 = .ok (.iconst 0, 1) := by decide +kernel
theorem dL_append_19 : decode cL_append 19 = .ok (.ireturn, 1) := by decide +kernel
theorem dL_load_0 : decode cL_load 0 = .ok (.aload_n 1, 1) := by decide +kernel
theorem dL_load_1 : decode cL_load 1 = .ok (.iconst 0, 1) := by decide +kernel
theorem dL_load_2 : decode cL_load 2 = .ok (.aload_n 0, 1) := by decide +kernel
theorem dL_load_3 : decode cL_load 3 = .ok (.invokevirtual 17, 3) := by decide +kernel
theorem dL_load_6 : decode cL_load 6 = .ok (.i2l, 1) := by decide +kernel
theorem dL_load_7 : decode cL_load 7 = .ok (.lastore, 1) := by decide +kernel
theorem dL_load_8 : decode cL_load 8 = .ok (.goto 6, 3) := by decide +kernel
theorem dL_load_11 : decode cL_load 11 = .ok (.astore_n 2, 1) := by decide +kernel
theorem dL_load_12 : decode cL_load 12 = .ok (.iconst 1, 1) := by decide +kernel
theorem dL_load_13 : decode cL_load 13 = .ok (.ireturn, 1) := by decide +kernel
theorem dL_load_14 : decode cL_load 14 = .ok (.iconst 0, 1) := by decide +kernel
theorem dL_load_15 : decode cL_load 15 = .ok (.ireturn, 1) := by decide +kernel
theorem dL_about_0 : decode cL_about 0 = .ok (.aload_n 2, 1) := by decide +kernel
theorem dL_about_1 : decode cL_about 1 = .ok (.iconst 0, 1) := by decide +kernel
theorem dL_about_2 : decode cL_about 2 = .ok (.aload_n 0, 1) := by decide +kernel
theorem dL_about_3 : decode cL_about 3 = .ok (.iload_n 1, 1) := by decide +kernel
theorem dL_about_4 : decode cL_about 4 = .ok (.invokevirtual 21, 3) := by decide +kernel
theorem dL_about_7 : decode cL_about 7 = .ok (.i2l, 1) := by decide +kernel
theorem dL_about_8 : decode cL_about 8 = .ok (.lastore, 1) := by decide +kernel
theorem dL_about_9 : decode cL_about 9 = .ok (.goto 6, 3) := by decide +kernel
theorem dL_about_12 : decode cL_about 12 = .ok (.astore_n 3, 1) := by decide +kernel
theorem dL_about_13 : decode cL_about 13 = .ok (.iconst 1, 1) := by decide +kernel
theorem dL_about_14 : decode cL_about 14 = .ok (.ireturn, 1) := by decide +kernel
theorem dL_about_15 : decode cL_about 15 = .ok (.iconst 0, 1) := by decide +kernel
theorem dL_about_16 : decode cL_about 16 = .ok (.ireturn, 1) := by decide +kernel
theorem dL_reelOf_0 : decode cL_reelOf 0 = .ok (.aload_n 3, 1) := by decide +kernel
theorem dL_reelOf_1 : decode cL_reelOf 1 = .ok (.iconst 0, 1) := by decide +kernel
theorem dL_reelOf_2 : decode cL_reelOf 2 = .ok (.aload_n 0, 1) := by decide +kernel
theorem dL_reelOf_3 : decode cL_reelOf 3 = .ok (.iload_n 1, 1) := by decide +kernel
theorem dL_reelOf_4 : decode cL_reelOf 4 = .ok (.iload_n 2, 1) := by decide +kernel
theorem dL_reelOf_5 : decode cL_reelOf 5 = .ok (.invokevirtual 24, 3) := by decide +kernel
theorem dL_reelOf_8 : decode cL_reelOf 8 = .ok (.i2l, 1) := by decide +kernel
theorem dL_reelOf_9 : decode cL_reelOf 9 = .ok (.lastore, 1) := by decide +kernel
theorem dL_reelOf_10 : decode cL_reelOf 10 = .ok (.goto 11, 3) := by decide +kernel
theorem dL_reelOf_13 : decode cL_reelOf 13 = .ok (.astore 4, 2) := by decide +kernel
theorem dL_reelOf_15 : decode cL_reelOf 15 = .ok (.iconst 1, 1) := by decide +kernel
theorem dL_reelOf_16 : decode cL_reelOf 16 = .ok (.ireturn, 1) := by decide +kernel
theorem dL_reelOf_17 : decode cL_reelOf 17 = .ok (.astore 4, 2) := by decide +kernel
theorem dL_reelOf_19 : decode cL_reelOf 19 = .ok (.iconst 2, 1) := by decide +kernel
theorem dL_reelOf_20 : decode cL_reelOf 20 = .ok (.ireturn, 1) := by decide +kernel
theorem dL_reelOf_21 : decode cL_reelOf 21 = .ok (.iconst 0, 1) := by decide +kernel
theorem dL_reelOf_22 : decode cL_reelOf 22 = .ok (.ireturn, 1) := by decide +kernel
theorem dL_sound_0 : decode cL_sound 0 = .ok (.aload_n 3, 1) := by decide +kernel
theorem dL_sound_1 : decode cL_sound 1 = .ok (.iconst 0, 1) := by decide +kernel
theorem dL_sound_2 : decode cL_sound 2 = .ok (.aload_n 0, 1) := by decide +kernel
theorem dL_sound_3 : decode cL_sound 3 = .ok (.iload_n 1, 1) := by decide +kernel
theorem dL_sound_4 : decode cL_sound 4 = .ok (.iload_n 2, 1) := by decide +kernel
theorem dL_sound_5 : decode cL_sound 5 = .ok (.invokevirtual 30, 3) := by decide +kernel
theorem dL_sound_8 : decode cL_sound 8 = .ok (.i2l, 1) := by decide +kernel
theorem dL_sound_9 : decode cL_sound 9 = .ok (.lastore, 1) := by decide +kernel
theorem dL_sound_10 : decode cL_sound 10 = .ok (.goto 7, 3) := by decide +kernel
theorem dL_sound_13 : decode cL_sound 13 = .ok (.astore 4, 2) := by decide +kernel
theorem dL_sound_15 : decode cL_sound 15 = .ok (.iconst 1, 1) := by decide +kernel
theorem dL_sound_16 : decode cL_sound 16 = .ok (.ireturn, 1) := by decide +kernel
theorem dL_sound_17 : decode cL_sound 17 = .ok (.iconst 0, 1) := by decide +kernel
theorem dL_sound_18 : decode cL_sound 18 = .ok (.ireturn, 1) := by decide +kernel
theorem dL_silence_0 : decode cL_silence 0 = .ok (.aload 4, 2) := by decide +kernel
theorem dL_silence_2 : decode cL_silence 2 = .ok (.iconst 0, 1) := by decide +kernel
theorem dL_silence_3 : decode cL_silence 3 = .ok (.aload_n 0, 1) := by decide +kernel
theorem dL_silence_4 : decode cL_silence 4 = .ok (.iload_n 1, 1) := by decide +kernel
theorem dL_silence_5 : decode cL_silence 5 = .ok (.iload_n 2, 1) := by decide +kernel
theorem dL_silence_6 : decode cL_silence 6 = .ok (.iload_n 3, 1) := by decide +kernel
theorem dL_silence_7 : decode cL_silence 7 = .ok (.invokevirtual 33, 3) := by decide +kernel
theorem dL_silence_10 : decode cL_silence 10 = .ok (.i2l, 1) := by decide +kernel
theorem dL_silence_11 : decode cL_silence 11 = .ok (.lastore, 1) := by decide +kernel
theorem dL_silence_12 : decode cL_silence 12 = .ok (.goto 11, 3) := by decide +kernel
theorem dL_silence_15 : decode cL_silence 15 = .ok (.astore 5, 2) := by decide +kernel
theorem dL_silence_17 : decode cL_silence 17 = .ok (.iconst 1, 1) := by decide +kernel
theorem dL_silence_18 : decode cL_silence 18 = .ok (.ireturn, 1) := by decide +kernel
theorem dL_silence_19 : decode cL_silence 19 = .ok (.astore 5, 2) := by decide +kernel
theorem dL_silence_21 : decode cL_silence 21 = .ok (.iconst 2, 1) := by decide +kernel
theorem dL_silence_22 : decode cL_silence 22 = .ok (.ireturn, 1) := by decide +kernel
theorem dL_silence_23 : decode cL_silence 23 = .ok (.iconst 0, 1) := by decide +kernel
theorem dL_silence_24 : decode cL_silence 24 = .ok (.ireturn, 1) := by decide +kernel
theorem dL_piece_0 : decode cL_piece 0 = .ok (.aload 4, 2) := by decide +kernel
theorem dL_piece_2 : decode cL_piece 2 = .ok (.iconst 0, 1) := by decide +kernel
theorem dL_piece_3 : decode cL_piece 3 = .ok (.aload_n 0, 1) := by decide +kernel
theorem dL_piece_4 : decode cL_piece 4 = .ok (.iload_n 1, 1) := by decide +kernel
theorem dL_piece_5 : decode cL_piece 5 = .ok (.iload_n 2, 1) := by decide +kernel
theorem dL_piece_6 : decode cL_piece 6 = .ok (.iload_n 3, 1) := by decide +kernel
theorem dL_piece_7 : decode cL_piece 7 = .ok (.invokevirtual 37, 3) := by decide +kernel
theorem dL_piece_10 : decode cL_piece 10 = .ok (.i2l, 1) := by decide +kernel
theorem dL_piece_11 : decode cL_piece 11 = .ok (.lastore, 1) := by decide +kernel
theorem dL_piece_12 : decode cL_piece 12 = .ok (.goto 11, 3) := by decide +kernel
theorem dL_piece_15 : decode cL_piece 15 = .ok (.astore 5, 2) := by decide +kernel
theorem dL_piece_17 : decode cL_piece 17 = .ok (.iconst 1, 1) := by decide +kernel
theorem dL_piece_18 : decode cL_piece 18 = .ok (.ireturn, 1) := by decide +kernel
theorem dL_piece_19 : decode cL_piece 19 = .ok (.astore 5, 2) := by decide +kernel
theorem dL_piece_21 : decode cL_piece 21 = .ok (.iconst 2, 1) := by decide +kernel
theorem dL_piece_22 : decode cL_piece 22 = .ok (.ireturn, 1) := by decide +kernel
theorem dL_piece_23 : decode cL_piece 23 = .ok (.iconst 0, 1) := by decide +kernel
theorem dL_piece_24 : decode cL_piece 24 = .ok (.ireturn, 1) := by decide +kernel
theorem dL_loopOf_0 : decode cL_loopOf 0 = .ok (.aload_n 3, 1) := by decide +kernel
theorem dL_loopOf_1 : decode cL_loopOf 1 = .ok (.iconst 0, 1) := by decide +kernel
theorem dL_loopOf_2 : decode cL_loopOf 2 = .ok (.aload_n 0, 1) := by decide +kernel
theorem dL_loopOf_3 : decode cL_loopOf 3 = .ok (.iload_n 1, 1) := by decide +kernel
theorem dL_loopOf_4 : decode cL_loopOf 4 = .ok (.iload_n 2, 1) := by decide +kernel
theorem dL_loopOf_5 : decode cL_loopOf 5 = .ok (.invokevirtual 40, 3) := by decide +kernel
theorem dL_loopOf_8 : decode cL_loopOf 8 = .ok (.i2l, 1) := by decide +kernel
theorem dL_loopOf_9 : decode cL_loopOf 9 = .ok (.lastore, 1) := by decide +kernel
theorem dL_loopOf_10 : decode cL_loopOf 10 = .ok (.goto 11, 3) := by decide +kernel
theorem dL_loopOf_13 : decode cL_loopOf 13 = .ok (.astore 4, 2) := by decide +kernel
theorem dL_loopOf_15 : decode cL_loopOf 15 = .ok (.iconst 1, 1) := by decide +kernel
theorem dL_loopOf_16 : decode cL_loopOf 16 = .ok (.ireturn, 1) := by decide +kernel
theorem dL_loopOf_17 : decode cL_loopOf 17 = .ok (.astore 4, 2) := by decide +kernel
theorem dL_loopOf_19 : decode cL_loopOf 19 = .ok (.iconst 2, 1) := by decide +kernel
theorem dL_loopOf_20 : decode cL_loopOf 20 = .ok (.ireturn, 1) := by decide +kernel
theorem dL_loopOf_21 : decode cL_loopOf 21 = .ok (.iconst 0, 1) := by decide +kernel
theorem dL_loopOf_22 : decode cL_loopOf 22 = .ok (.ireturn, 1) := by decide +kernel
theorem dL_cell_0 : decode cL_cell 0 = .ok (.aload_n 3, 1) := by decide +kernel
theorem dL_cell_1 : decode cL_cell 1 = .ok (.iconst 0, 1) := by decide +kernel
theorem dL_cell_2 : decode cL_cell 2 = .ok (.aload_n 0, 1) := by decide +kernel
theorem dL_cell_3 : decode cL_cell 3 = .ok (.iload_n 1, 1) := by decide +kernel
theorem dL_cell_4 : decode cL_cell 4 = .ok (.iload_n 2, 1) := by decide +kernel
theorem dL_cell_5 : decode cL_cell 5 = .ok (.invokevirtual 43, 3) := by decide +kernel
theorem dL_cell_8 : decode cL_cell 8 = .ok (.i2l, 1) := by decide +kernel
theorem dL_cell_9 : decode cL_cell 9 = .ok (.lastore, 1) := by decide +kernel
theorem dL_cell_10 : decode cL_cell 10 = .ok (.goto 7, 3) := by decide +kernel
theorem dL_cell_13 : decode cL_cell 13 = .ok (.astore 4, 2) := by decide +kernel
theorem dL_cell_15 : decode cL_cell 15 = .ok (.iconst 1, 1) := by decide +kernel
theorem dL_cell_16 : decode cL_cell 16 = .ok (.ireturn, 1) := by decide +kernel
theorem dL_cell_17 : decode cL_cell 17 = .ok (.iconst 0, 1) := by decide +kernel
theorem dL_cell_18 : decode cL_cell 18 = .ok (.ireturn, 1) := by decide +kernel
theorem dL_reel_0 : decode cL_reel 0 = .ok (.aload_n 2, 1) := by decide +kernel
theorem dL_reel_1 : decode cL_reel 1 = .ok (.iconst 0, 1) := by decide +kernel
theorem dL_reel_2 : decode cL_reel 2 = .ok (.aload_n 0, 1) := by decide +kernel
theorem dL_reel_3 : decode cL_reel 3 = .ok (.iload_n 1, 1) := by decide +kernel
theorem dL_reel_4 : decode cL_reel 4 = .ok (.invokevirtual 46, 3) := by decide +kernel
theorem dL_reel_7 : decode cL_reel 7 = .ok (.i2l, 1) := by decide +kernel
theorem dL_reel_8 : decode cL_reel 8 = .ok (.lastore, 1) := by decide +kernel
theorem dL_reel_9 : decode cL_reel 9 = .ok (.goto 9, 3) := by decide +kernel
theorem dL_reel_12 : decode cL_reel 12 = .ok (.astore_n 3, 1) := by decide +kernel
theorem dL_reel_13 : decode cL_reel 13 = .ok (.iconst 1, 1) := by decide +kernel
theorem dL_reel_14 : decode cL_reel 14 = .ok (.ireturn, 1) := by decide +kernel
theorem dL_reel_15 : decode cL_reel 15 = .ok (.astore_n 3, 1) := by decide +kernel
theorem dL_reel_16 : decode cL_reel 16 = .ok (.iconst 2, 1) := by decide +kernel
theorem dL_reel_17 : decode cL_reel 17 = .ok (.ireturn, 1) := by decide +kernel
theorem dL_reel_18 : decode cL_reel 18 = .ok (.iconst 0, 1) := by decide +kernel
theorem dL_reel_19 : decode cL_reel 19 = .ok (.ireturn, 1) := by decide +kernel
theorem dL_paint_0 : decode cL_paint 0 = .ok (.aload 5, 2) := by decide +kernel
theorem dL_paint_2 : decode cL_paint 2 = .ok (.iconst 0, 1) := by decide +kernel
theorem dL_paint_3 : decode cL_paint 3 = .ok (.aload_n 0, 1) := by decide +kernel
theorem dL_paint_4 : decode cL_paint 4 = .ok (.iload_n 1, 1) := by decide +kernel
theorem dL_paint_5 : decode cL_paint 5 = .ok (.iload_n 2, 1) := by decide +kernel
theorem dL_paint_6 : decode cL_paint 6 = .ok (.iload_n 3, 1) := by decide +kernel
theorem dL_paint_7 : decode cL_paint 7 = .ok (.iload 4, 2) := by decide +kernel
theorem dL_paint_9 : decode cL_paint 9 = .ok (.invokevirtual 49, 3) := by decide +kernel
theorem dL_paint_12 : decode cL_paint 12 = .ok (.i2l, 1) := by decide +kernel
theorem dL_paint_13 : decode cL_paint 13 = .ok (.lastore, 1) := by decide +kernel
theorem dL_paint_14 : decode cL_paint 14 = .ok (.goto 11, 3) := by decide +kernel
theorem dL_paint_17 : decode cL_paint 17 = .ok (.astore 6, 2) := by decide +kernel
theorem dL_paint_19 : decode cL_paint 19 = .ok (.iconst 1, 1) := by decide +kernel
theorem dL_paint_20 : decode cL_paint 20 = .ok (.ireturn, 1) := by decide +kernel
theorem dL_paint_21 : decode cL_paint 21 = .ok (.astore 6, 2) := by decide +kernel
theorem dL_paint_23 : decode cL_paint 23 = .ok (.iconst 2, 1) := by decide +kernel
theorem dL_paint_24 : decode cL_paint 24 = .ok (.ireturn, 1) := by decide +kernel
theorem dL_paint_25 : decode cL_paint 25 = .ok (.iconst 0, 1) := by decide +kernel
theorem dL_paint_26 : decode cL_paint 26 = .ok (.ireturn, 1) := by decide +kernel
theorem dL_loop_0 : decode cL_loop 0 = .ok (.aload_n 1, 1) := by decide +kernel
theorem dL_loop_1 : decode cL_loop 1 = .ok (.iconst 0, 1) := by decide +kernel
theorem dL_loop_2 : decode cL_loop 2 = .ok (.aload_n 0, 1) := by decide +kernel
theorem dL_loop_3 : decode cL_loop 3 = .ok (.invokevirtual 53, 3) := by decide +kernel
theorem dL_loop_6 : decode cL_loop 6 = .ok (.i2l, 1) := by decide +kernel
theorem dL_loop_7 : decode cL_loop 7 = .ok (.lastore, 1) := by decide +kernel
theorem dL_loop_8 : decode cL_loop 8 = .ok (.goto 6, 3) := by decide +kernel
theorem dL_loop_11 : decode cL_loop 11 = .ok (.astore_n 2, 1) := by decide +kernel
theorem dL_loop_12 : decode cL_loop 12 = .ok (.iconst 1, 1) := by decide +kernel
theorem dL_loop_13 : decode cL_loop 13 = .ok (.ireturn, 1) := by decide +kernel
theorem dL_loop_14 : decode cL_loop 14 = .ok (.iconst 0, 1) := by decide +kernel
theorem dL_loop_15 : decode cL_loop 15 = .ok (.ireturn, 1) := by decide +kernel
theorem dL_splice_0 : decode cL_splice 0 = .ok (.aload 5, 2) := by decide +kernel
theorem dL_splice_2 : decode cL_splice 2 = .ok (.iconst 0, 1) := by decide +kernel
theorem dL_splice_3 : decode cL_splice 3 = .ok (.aload_n 0, 1) := by decide +kernel
theorem dL_splice_4 : decode cL_splice 4 = .ok (.iload_n 1, 1) := by decide +kernel
theorem dL_splice_5 : decode cL_splice 5 = .ok (.iload_n 2, 1) := by decide +kernel
theorem dL_splice_6 : decode cL_splice 6 = .ok (.iload_n 3, 1) := by decide +kernel
theorem dL_splice_7 : decode cL_splice 7 = .ok (.iload 4, 2) := by decide +kernel
theorem dL_splice_9 : decode cL_splice 9 = .ok (.invokevirtual 56, 3) := by decide +kernel
theorem dL_splice_12 : decode cL_splice 12 = .ok (.i2l, 1) := by decide +kernel
theorem dL_splice_13 : decode cL_splice 13 = .ok (.lastore, 1) := by decide +kernel
theorem dL_splice_14 : decode cL_splice 14 = .ok (.goto 7, 3) := by decide +kernel
theorem dL_splice_17 : decode cL_splice 17 = .ok (.astore 6, 2) := by decide +kernel
theorem dL_splice_19 : decode cL_splice 19 = .ok (.iconst 1, 1) := by decide +kernel
theorem dL_splice_20 : decode cL_splice 20 = .ok (.ireturn, 1) := by decide +kernel
theorem dL_splice_21 : decode cL_splice 21 = .ok (.iconst 0, 1) := by decide +kernel
theorem dL_splice_22 : decode cL_splice 22 = .ok (.ireturn, 1) := by decide +kernel
theorem dL_unsplice_0 : decode cL_unsplice 0 = .ok (.aload_n 2, 1) := by decide +kernel
theorem dL_unsplice_1 : decode cL_unsplice 1 = .ok (.iconst 0, 1) := by decide +kernel
theorem dL_unsplice_2 : decode cL_unsplice 2 = .ok (.aload_n 0, 1) := by decide +kernel
theorem dL_unsplice_3 : decode cL_unsplice 3 = .ok (.iload_n 1, 1) := by decide +kernel
theorem dL_unsplice_4 : decode cL_unsplice 4 = .ok (.invokevirtual 59, 3) := by decide +kernel
theorem dL_unsplice_7 : decode cL_unsplice 7 = .ok (.i2l, 1) := by decide +kernel
theorem dL_unsplice_8 : decode cL_unsplice 8 = .ok (.lastore, 1) := by decide +kernel
theorem dL_unsplice_9 : decode cL_unsplice 9 = .ok (.goto 9, 3) := by decide +kernel
theorem dL_unsplice_12 : decode cL_unsplice 12 = .ok (.astore_n 3, 1) := by decide +kernel
theorem dL_unsplice_13 : decode cL_unsplice 13 = .ok (.iconst 1, 1) := by decide +kernel
theorem dL_unsplice_14 : decode cL_unsplice 14 = .ok (.ireturn, 1) := by decide +kernel
theorem dL_unsplice_15 : decode cL_unsplice 15 = .ok (.astore_n 3, 1) := by decide +kernel
theorem dL_unsplice_16 : decode cL_unsplice 16 = .ok (.iconst 2, 1) := by decide +kernel
theorem dL_unsplice_17 : decode cL_unsplice 17 = .ok (.ireturn, 1) := by decide +kernel
theorem dL_unsplice_18 : decode cL_unsplice 18 = .ok (.iconst 0, 1) := by decide +kernel
theorem dL_unsplice_19 : decode cL_unsplice 19 = .ok (.ireturn, 1) := by decide +kernel
theorem dL_speed_0 : decode cL_speed 0 = .ok (.aload 4, 2) := by decide +kernel
theorem dL_speed_2 : decode cL_speed 2 = .ok (.iconst 0, 1) := by decide +kernel
theorem dL_speed_3 : decode cL_speed 3 = .ok (.aload_n 0, 1) := by decide +kernel
theorem dL_speed_4 : decode cL_speed 4 = .ok (.iload_n 1, 1) := by decide +kernel
theorem dL_speed_5 : decode cL_speed 5 = .ok (.iload_n 2, 1) := by decide +kernel
theorem dL_speed_6 : decode cL_speed 6 = .ok (.iload_n 3, 1) := by decide +kernel
theorem dL_speed_7 : decode cL_speed 7 = .ok (.invokevirtual 62, 3) := by decide +kernel
theorem dL_speed_10 : decode cL_speed 10 = .ok (.i2l, 1) := by decide +kernel
theorem dL_speed_11 : decode cL_speed 11 = .ok (.lastore, 1) := by decide +kernel
theorem dL_speed_12 : decode cL_speed 12 = .ok (.goto 11, 3) := by decide +kernel
theorem dL_speed_15 : decode cL_speed 15 = .ok (.astore 5, 2) := by decide +kernel
theorem dL_speed_17 : decode cL_speed 17 = .ok (.iconst 1, 1) := by decide +kernel
theorem dL_speed_18 : decode cL_speed 18 = .ok (.ireturn, 1) := by decide +kernel
theorem dL_speed_19 : decode cL_speed 19 = .ok (.astore 5, 2) := by decide +kernel
theorem dL_speed_21 : decode cL_speed 21 = .ok (.iconst 2, 1) := by decide +kernel
theorem dL_speed_22 : decode cL_speed 22 = .ok (.ireturn, 1) := by decide +kernel
theorem dL_speed_23 : decode cL_speed 23 = .ok (.iconst 0, 1) := by decide +kernel
theorem dL_speed_24 : decode cL_speed 24 = .ok (.ireturn, 1) := by decide +kernel
theorem dL_mute_0 : decode cL_mute 0 = .ok (.aload_n 3, 1) := by decide +kernel
theorem dL_mute_1 : decode cL_mute 1 = .ok (.iconst 0, 1) := by decide +kernel
theorem dL_mute_2 : decode cL_mute 2 = .ok (.aload_n 0, 1) := by decide +kernel
theorem dL_mute_3 : decode cL_mute 3 = .ok (.iload_n 1, 1) := by decide +kernel
theorem dL_mute_4 : decode cL_mute 4 = .ok (.iload_n 2, 1) := by decide +kernel
theorem dL_mute_5 : decode cL_mute 5 = .ok (.invokevirtual 65, 3) := by decide +kernel
theorem dL_mute_8 : decode cL_mute 8 = .ok (.i2l, 1) := by decide +kernel
theorem dL_mute_9 : decode cL_mute 9 = .ok (.lastore, 1) := by decide +kernel
theorem dL_mute_10 : decode cL_mute 10 = .ok (.goto 7, 3) := by decide +kernel
theorem dL_mute_13 : decode cL_mute 13 = .ok (.astore 4, 2) := by decide +kernel
theorem dL_mute_15 : decode cL_mute 15 = .ok (.iconst 1, 1) := by decide +kernel
theorem dL_mute_16 : decode cL_mute 16 = .ok (.ireturn, 1) := by decide +kernel
theorem dL_mute_17 : decode cL_mute 17 = .ok (.iconst 0, 1) := by decide +kernel
theorem dL_mute_18 : decode cL_mute 18 = .ok (.ireturn, 1) := by decide +kernel
theorem dL_ticks_0 : decode cL_ticks 0 = .ok (.aload_n 2, 1) := by decide +kernel
theorem dL_ticks_1 : decode cL_ticks 1 = .ok (.iconst 0, 1) := by decide +kernel
theorem dL_ticks_2 : decode cL_ticks 2 = .ok (.aload_n 0, 1) := by decide +kernel
theorem dL_ticks_3 : decode cL_ticks 3 = .ok (.iload_n 1, 1) := by decide +kernel
theorem dL_ticks_4 : decode cL_ticks 4 = .ok (.invokevirtual 69, 3) := by decide +kernel
theorem dL_ticks_7 : decode cL_ticks 7 = .ok (.i2l, 1) := by decide +kernel
theorem dL_ticks_8 : decode cL_ticks 8 = .ok (.lastore, 1) := by decide +kernel
theorem dL_ticks_9 : decode cL_ticks 9 = .ok (.goto 6, 3) := by decide +kernel
theorem dL_ticks_12 : decode cL_ticks 12 = .ok (.astore_n 3, 1) := by decide +kernel
theorem dL_ticks_13 : decode cL_ticks 13 = .ok (.iconst 1, 1) := by decide +kernel
theorem dL_ticks_14 : decode cL_ticks 14 = .ok (.ireturn, 1) := by decide +kernel
theorem dL_ticks_15 : decode cL_ticks 15 = .ok (.iconst 0, 1) := by decide +kernel
theorem dL_ticks_16 : decode cL_ticks 16 = .ok (.ireturn, 1) := by decide +kernel
theorem dL_record_0 : decode cL_record 0 = .ok (.aload_n 3, 1) := by decide +kernel
theorem dL_record_1 : decode cL_record 1 = .ok (.iconst 0, 1) := by decide +kernel
theorem dL_record_2 : decode cL_record 2 = .ok (.aload_n 0, 1) := by decide +kernel
theorem dL_record_3 : decode cL_record 3 = .ok (.iload_n 1, 1) := by decide +kernel
theorem dL_record_4 : decode cL_record 4 = .ok (.iload_n 2, 1) := by decide +kernel
theorem dL_record_5 : decode cL_record 5 = .ok (.invokevirtual 72, 3) := by decide +kernel
theorem dL_record_8 : decode cL_record 8 = .ok (.i2l, 1) := by decide +kernel
theorem dL_record_9 : decode cL_record 9 = .ok (.lastore, 1) := by decide +kernel
theorem dL_record_10 : decode cL_record 10 = .ok (.goto 11, 3) := by decide +kernel
theorem dL_record_13 : decode cL_record 13 = .ok (.astore 4, 2) := by decide +kernel
theorem dL_record_15 : decode cL_record 15 = .ok (.iconst 1, 1) := by decide +kernel
theorem dL_record_16 : decode cL_record 16 = .ok (.ireturn, 1) := by decide +kernel
theorem dL_record_17 : decode cL_record 17 = .ok (.astore 4, 2) := by decide +kernel
theorem dL_record_19 : decode cL_record 19 = .ok (.iconst 2, 1) := by decide +kernel
theorem dL_record_20 : decode cL_record 20 = .ok (.ireturn, 1) := by decide +kernel
theorem dL_record_21 : decode cL_record 21 = .ok (.iconst 0, 1) := by decide +kernel
theorem dL_record_22 : decode cL_record 22 = .ok (.ireturn, 1) := by decide +kernel
theorem dL_undo_0 : decode cL_undo 0 = .ok (.aload_n 1, 1) := by decide +kernel
theorem dL_undo_1 : decode cL_undo 1 = .ok (.iconst 0, 1) := by decide +kernel
theorem dL_undo_2 : decode cL_undo 2 = .ok (.aload_n 0, 1) := by decide +kernel
theorem dL_undo_3 : decode cL_undo 3 = .ok (.invokevirtual 75, 3) := by decide +kernel
theorem dL_undo_6 : decode cL_undo 6 = .ok (.i2l, 1) := by decide +kernel
theorem dL_undo_7 : decode cL_undo 7 = .ok (.lastore, 1) := by decide +kernel
theorem dL_undo_8 : decode cL_undo 8 = .ok (.goto 6, 3) := by decide +kernel
theorem dL_undo_11 : decode cL_undo 11 = .ok (.astore_n 2, 1) := by decide +kernel
theorem dL_undo_12 : decode cL_undo 12 = .ok (.iconst 1, 1) := by decide +kernel
theorem dL_undo_13 : decode cL_undo 13 = .ok (.ireturn, 1) := by decide +kernel
theorem dL_undo_14 : decode cL_undo 14 = .ok (.iconst 0, 1) := by decide +kernel
theorem dL_undo_15 : decode cL_undo 15 = .ok (.ireturn, 1) := by decide +kernel
theorem dL_soundIn_0 : decode cL_soundIn 0 = .ok (.aload_n 2, 1) := by decide +kernel
theorem dL_soundIn_1 : decode cL_soundIn 1 = .ok (.iconst 0, 1) := by decide +kernel
theorem dL_soundIn_2 : decode cL_soundIn 2 = .ok (.aload_n 0, 1) := by decide +kernel
theorem dL_soundIn_3 : decode cL_soundIn 3 = .ok (.iload_n 1, 1) := by decide +kernel
theorem dL_soundIn_4 : decode cL_soundIn 4 = .ok (.invokevirtual 78, 3) := by decide +kernel
theorem dL_soundIn_7 : decode cL_soundIn 7 = .ok (.i2l, 1) := by decide +kernel
theorem dL_soundIn_8 : decode cL_soundIn 8 = .ok (.lastore, 1) := by decide +kernel
theorem dL_soundIn_9 : decode cL_soundIn 9 = .ok (.goto 6, 3) := by decide +kernel
theorem dL_soundIn_12 : decode cL_soundIn 12 = .ok (.astore_n 3, 1) := by decide +kernel
theorem dL_soundIn_13 : decode cL_soundIn 13 = .ok (.iconst 1, 1) := by decide +kernel
theorem dL_soundIn_14 : decode cL_soundIn 14 = .ok (.ireturn, 1) := by decide +kernel
theorem dL_soundIn_15 : decode cL_soundIn 15 = .ok (.iconst 0, 1) := by decide +kernel
theorem dL_soundIn_16 : decode cL_soundIn 16 = .ok (.ireturn, 1) := by decide +kernel
theorem dL_meet_0 : decode cL_meet 0 = .ok (.aload 4, 2) := by decide +kernel
theorem dL_meet_2 : decode cL_meet 2 = .ok (.iconst 0, 1) := by decide +kernel
theorem dL_meet_3 : decode cL_meet 3 = .ok (.aload_n 0, 1) := by decide +kernel
theorem dL_meet_4 : decode cL_meet 4 = .ok (.iload_n 1, 1) := by decide +kernel
theorem dL_meet_5 : decode cL_meet 5 = .ok (.iload_n 2, 1) := by decide +kernel
theorem dL_meet_6 : decode cL_meet 6 = .ok (.iload_n 3, 1) := by decide +kernel
theorem dL_meet_7 : decode cL_meet 7 = .ok (.invokevirtual 81, 3) := by decide +kernel
theorem dL_meet_10 : decode cL_meet 10 = .ok (.i2l, 1) := by decide +kernel
theorem dL_meet_11 : decode cL_meet 11 = .ok (.lastore, 1) := by decide +kernel
theorem dL_meet_12 : decode cL_meet 12 = .ok (.goto 11, 3) := by decide +kernel
theorem dL_meet_15 : decode cL_meet 15 = .ok (.astore 5, 2) := by decide +kernel
theorem dL_meet_17 : decode cL_meet 17 = .ok (.iconst 1, 1) := by decide +kernel
theorem dL_meet_18 : decode cL_meet 18 = .ok (.ireturn, 1) := by decide +kernel
theorem dL_meet_19 : decode cL_meet 19 = .ok (.astore 5, 2) := by decide +kernel
theorem dL_meet_21 : decode cL_meet 21 = .ok (.iconst 2, 1) := by decide +kernel
theorem dL_meet_22 : decode cL_meet 22 = .ok (.ireturn, 1) := by decide +kernel
theorem dL_meet_23 : decode cL_meet 23 = .ok (.iconst 0, 1) := by decide +kernel
theorem dL_meet_24 : decode cL_meet 24 = .ok (.ireturn, 1) := by decide +kernel
theorem dL_loudest_0 : decode cL_loudest 0 = .ok (.aload_n 3, 1) := by decide +kernel
theorem dL_loudest_1 : decode cL_loudest 1 = .ok (.iconst 0, 1) := by decide +kernel
theorem dL_loudest_2 : decode cL_loudest 2 = .ok (.aload_n 0, 1) := by decide +kernel
theorem dL_loudest_3 : decode cL_loudest 3 = .ok (.iload_n 1, 1) := by decide +kernel
theorem dL_loudest_4 : decode cL_loudest 4 = .ok (.iload_n 2, 1) := by decide +kernel
theorem dL_loudest_5 : decode cL_loudest 5 = .ok (.invokevirtual 84, 3) := by decide +kernel
theorem dL_loudest_8 : decode cL_loudest 8 = .ok (.i2l, 1) := by decide +kernel
theorem dL_loudest_9 : decode cL_loudest 9 = .ok (.lastore, 1) := by decide +kernel
theorem dL_loudest_10 : decode cL_loudest 10 = .ok (.goto 7, 3) := by decide +kernel
theorem dL_loudest_13 : decode cL_loudest 13 = .ok (.astore 4, 2) := by decide +kernel
theorem dL_loudest_15 : decode cL_loudest 15 = .ok (.iconst 1, 1) := by decide +kernel
theorem dL_loudest_16 : decode cL_loudest 16 = .ok (.ireturn, 1) := by decide +kernel
theorem dL_loudest_17 : decode cL_loudest 17 = .ok (.iconst 0, 1) := by decide +kernel
theorem dL_loudest_18 : decode cL_loudest 18 = .ok (.ireturn, 1) := by decide +kernel
theorem dL_turnedBy_0 : decode cL_turnedBy 0 = .ok (.aload_n 3, 1) := by decide +kernel
theorem dL_turnedBy_1 : decode cL_turnedBy 1 = .ok (.iconst 0, 1) := by decide +kernel
theorem dL_turnedBy_2 : decode cL_turnedBy 2 = .ok (.aload_n 0, 1) := by decide +kernel
theorem dL_turnedBy_3 : decode cL_turnedBy 3 = .ok (.iload_n 1, 1) := by decide +kernel
theorem dL_turnedBy_4 : decode cL_turnedBy 4 = .ok (.iload_n 2, 1) := by decide +kernel
theorem dL_turnedBy_5 : decode cL_turnedBy 5 = .ok (.invokevirtual 87, 3) := by decide +kernel
theorem dL_turnedBy_8 : decode cL_turnedBy 8 = .ok (.i2l, 1) := by decide +kernel
theorem dL_turnedBy_9 : decode cL_turnedBy 9 = .ok (.lastore, 1) := by decide +kernel
theorem dL_turnedBy_10 : decode cL_turnedBy 10 = .ok (.goto 7, 3) := by decide +kernel
theorem dL_turnedBy_13 : decode cL_turnedBy 13 = .ok (.astore 4, 2) := by decide +kernel
theorem dL_turnedBy_15 : decode cL_turnedBy 15 = .ok (.iconst 1, 1) := by decide +kernel
theorem dL_turnedBy_16 : decode cL_turnedBy 16 = .ok (.ireturn, 1) := by decide +kernel
theorem dL_turnedBy_17 : decode cL_turnedBy 17 = .ok (.iconst 0, 1) := by decide +kernel
theorem dL_turnedBy_18 : decode cL_turnedBy 18 = .ok (.ireturn, 1) := by decide +kernel
theorem dL_runScript_0 : decode cL_runScript 0 = .ok (.aload 4, 2) := by decide +kernel
theorem dL_runScript_2 : decode cL_runScript 2 = .ok (.iconst 0, 1) := by decide +kernel
theorem dL_runScript_3 : decode cL_runScript 3 = .ok (.aload_n 0, 1) := by decide +kernel
theorem dL_runScript_4 : decode cL_runScript 4 = .ok (.iload_n 1, 1) := by decide +kernel
theorem dL_runScript_5 : decode cL_runScript 5 = .ok (.lload_n 2, 1) := by decide +kernel
theorem dL_runScript_6 : decode cL_runScript 6 = .ok (.invokevirtual 90, 3) := by decide +kernel
theorem dL_runScript_9 : decode cL_runScript 9 = .ok (.i2l, 1) := by decide +kernel
theorem dL_runScript_10 : decode cL_runScript 10 = .ok (.lastore, 1) := by decide +kernel
theorem dL_runScript_11 : decode cL_runScript 11 = .ok (.goto 7, 3) := by decide +kernel
theorem dL_runScript_14 : decode cL_runScript 14 = .ok (.astore 5, 2) := by decide +kernel
theorem dL_runScript_16 : decode cL_runScript 16 = .ok (.iconst 1, 1) := by decide +kernel
theorem dL_runScript_17 : decode cL_runScript 17 = .ok (.ireturn, 1) := by decide +kernel
theorem dL_runScript_18 : decode cL_runScript 18 = .ok (.iconst 0, 1) := by decide +kernel
theorem dL_runScript_19 : decode cL_runScript 19 = .ok (.ireturn, 1) := by decide +kernel
theorem dL_simulate_0 : decode cL_simulate 0 = .ok (.aload 4, 2) := by decide +kernel
theorem dL_simulate_2 : decode cL_simulate 2 = .ok (.iconst 0, 1) := by decide +kernel
theorem dL_simulate_3 : decode cL_simulate 3 = .ok (.aload_n 0, 1) := by decide +kernel
theorem dL_simulate_4 : decode cL_simulate 4 = .ok (.lload_n 1, 1) := by decide +kernel
theorem dL_simulate_5 : decode cL_simulate 5 = .ok (.iload_n 3, 1) := by decide +kernel
theorem dL_simulate_6 : decode cL_simulate 6 = .ok (.invokevirtual 94, 3) := by decide +kernel
theorem dL_simulate_9 : decode cL_simulate 9 = .ok (.i2l, 1) := by decide +kernel
theorem dL_simulate_10 : decode cL_simulate 10 = .ok (.lastore, 1) := by decide +kernel
theorem dL_simulate_11 : decode cL_simulate 11 = .ok (.goto 7, 3) := by decide +kernel
theorem dL_simulate_14 : decode cL_simulate 14 = .ok (.astore 5, 2) := by decide +kernel
theorem dL_simulate_16 : decode cL_simulate 16 = .ok (.iconst 1, 1) := by decide +kernel
theorem dL_simulate_17 : decode cL_simulate 17 = .ok (.ireturn, 1) := by decide +kernel
theorem dL_simulate_18 : decode cL_simulate 18 = .ok (.iconst 0, 1) := by decide +kernel
theorem dL_simulate_19 : decode cL_simulate 19 = .ok (.ireturn, 1) := by decide +kernel
theorem dL_save_0 : decode cL_save 0 = .ok (.aload_n 2, 1) := by decide +kernel
theorem dL_save_1 : decode cL_save 1 = .ok (.iconst 0, 1) := by decide +kernel
theorem dL_save_2 : decode cL_save 2 = .ok (.aload_n 0, 1) := by decide +kernel
theorem dL_save_3 : decode cL_save 3 = .ok (.iload_n 1, 1) := by decide +kernel
theorem dL_save_4 : decode cL_save 4 = .ok (.invokevirtual 98, 3) := by decide +kernel
theorem dL_save_7 : decode cL_save 7 = .ok (.i2l, 1) := by decide +kernel
theorem dL_save_8 : decode cL_save 8 = .ok (.lastore, 1) := by decide +kernel
theorem dL_save_9 : decode cL_save 9 = .ok (.goto 6, 3) := by decide +kernel
theorem dL_save_12 : decode cL_save 12 = .ok (.astore_n 3, 1) := by decide +kernel
theorem dL_save_13 : decode cL_save 13 = .ok (.iconst 1, 1) := by decide +kernel
theorem dL_save_14 : decode cL_save 14 = .ok (.ireturn, 1) := by decide +kernel
theorem dL_save_15 : decode cL_save 15 = .ok (.iconst 0, 1) := by decide +kernel
theorem dL_save_16 : decode cL_save 16 = .ok (.ireturn, 1) := by decide +kernel
theorem dL_restore_0 : decode cL_restore 0 = .ok (.aload_n 2, 1) := by decide +kernel
theorem dL_restore_1 : decode cL_restore 1 = .ok (.iconst 0, 1) := by decide +kernel
theorem dL_restore_2 : decode cL_restore 2 = .ok (.aload_n 0, 1) := by decide +kernel
theorem dL_restore_3 : decode cL_restore 3 = .ok (.iload_n 1, 1) := by decide +kernel
theorem dL_restore_4 : decode cL_restore 4 = .ok (.invokevirtual 101, 3) := by decide +kernel
theorem dL_restore_7 : decode cL_restore 7 = .ok (.i2l, 1) := by decide +kernel
theorem dL_restore_8 : decode cL_restore 8 = .ok (.lastore, 1) := by decide +kernel
theorem dL_restore_9 : decode cL_restore 9 = .ok (.goto 9, 3) := by decide +kernel
theorem dL_restore_12 : decode cL_restore 12 = .ok (.astore_n 3, 1) := by decide +kernel
theorem dL_restore_13 : decode cL_restore 13 = .ok (.iconst 1, 1) := by decide +kernel
theorem dL_restore_14 : decode cL_restore 14 = .ok (.ireturn, 1) := by decide +kernel
theorem dL_restore_15 : decode cL_restore 15 = .ok (.astore_n 3, 1) := by decide +kernel
theorem dL_restore_16 : decode cL_restore 16 = .ok (.iconst 2, 1) := by decide +kernel
theorem dL_restore_17 : decode cL_restore 17 = .ok (.ireturn, 1) := by decide +kernel
theorem dL_restore_18 : decode cL_restore 18 = .ok (.iconst 0, 1) := by decide +kernel
theorem dL_restore_19 : decode cL_restore 19 = .ok (.ireturn, 1) := by decide +kernel
