theorem dX7_init_0 : decode cX7_init 0 = .ok (.aload_n 0, 1) := by decide +kernel
theorem dX7_init_1 : decode cX7_init 1 = .ok (.invokespecial 1, 3) := by decide +kernel
theorem dX7_init_4 : decode cX7_init 4 = .ok (.aload_n 0, 1) := by decide +kernel
theorem dX7_init_5 : decode cX7_init 5 = .ok (.new 7, 3) := by decide +kernel
theorem dX7_init_8 : decode cX7_init 8 = .ok (.dup, 1) := by decide +kernel
theorem dX7_init_9 : decode cX7_init 9 = .ok (.invokespecial 9, 3) := by decide +kernel
theorem dX7_init_12 : decode cX7_init 12 = .ok (.putfield 10, 3) := by decide +kernel
theorem dX7_init_15 : decode cX7_init 15 = .ok (.aload_n 0, 1) := by decide +kernel
theorem dX7_init_16 : decode cX7_init 16 = .ok (.new 7, 3) := by decide +kernel
theorem dX7_init_19 : decode cX7_init 19 = .ok (.dup, 1) := by decide +kernel
theorem dX7_init_20 : decode cX7_init 20 = .ok (.invokespecial 9, 3) := by decide +kernel
theorem dX7_init_23 : decode cX7_init 23 = .ok (.putfield 16, 3) := by decide +kernel
theorem dX7_init_26 : decode cX7_init 26 = .ok (.aload_n 0, 1) := by decide +kernel
theorem dX7_init_27 : decode cX7_init 27 = .ok (.new 19, 3) := by decide +kernel
theorem dX7_init_30 : decode cX7_init 30 = .ok (.dup, 1) := by decide +kernel
theorem dX7_init_31 : decode cX7_init 31 = .ok (.invokespecial 21, 3) := by decide +kernel
theorem dX7_init_34 : decode cX7_init 34 = .ok (.putfield 22, 3) := by decide +kernel
theorem dX7_init_37 : decode cX7_init 37 = .ok (.aload_n 0, 1) := by decide +kernel
theorem dX7_init_38 : decode cX7_init 38 = .ok (.new 26, 3) := by decide +kernel
theorem dX7_init_41 : decode cX7_init 41 = .ok (.dup, 1) := by decide +kernel
theorem dX7_init_42 : decode cX7_init 42 = .ok (.invokespecial 28, 3) := by decide +kernel
theorem dX7_init_45 : decode cX7_init 45 = .ok (.putfield 29, 3) := by decide +kernel
theorem dX7_init_48 : decode cX7_init 48 = .ok (.aload_n 0, 1) := by decide +kernel
theorem dX7_init_49 : decode cX7_init 49 = .ok (.new 26, 3) := by decide +kernel
theorem dX7_init_52 : decode cX7_init 52 = .ok (.dup, 1) := by decide +kernel
theorem dX7_init_53 : decode cX7_init 53 = .ok (.invokespecial 28, 3) := by decide +kernel
theorem dX7_init_56 : decode cX7_init 56 = .ok (.putfield 33, 3) := by decide +kernel
theorem dX7_init_59 : decode cX7_init 59 = .ok (.aload_n 0, 1) := by decide +kernel
theorem dX7_init_60 : decode cX7_init 60 = .ok (.new 36, 3) := by decide +kernel
theorem dX7_init_63 : decode cX7_init 63 = .ok (.dup, 1) := by decide +kernel
theorem dX7_init_64 : decode cX7_init 64 = .ok (.invokespecial 38, 3) := by decide +kernel
theorem dX7_init_67 : decode cX7_init 67 = .ok (.putfield 39, 3) := by decide +kernel
theorem dX7_init_70 : decode cX7_init 70 = .ok (.return_, 1) := by decide +kernel
theorem dX7_append_0 : decode cX7_append 0 = .ok (.iload_n 1, 1) := by decide +kernel
theorem dX7_append_1 : decode cX7_append 1 = .ok (.iconst 0, 1) := by decide +kernel
theorem dX7_append_2 : decode cX7_append 2 = .ok (.sipush 255, 3) := by decide +kernel
theorem dX7_append_5 : decode cX7_append 5 = .ok (.invokestatic 43, 3) := by decide +kernel
theorem dX7_append_8 : decode cX7_append 8 = .ok (.ifCond .eq 13, 3) := by decide +kernel
theorem dX7_append_11 : decode cX7_append 11 = .ok (.new 47, 3) := by decide +kernel
theorem dX7_append_14 : decode cX7_append 14 = .ok (.dup, 1) := by decide +kernel
theorem dX7_append_15 : decode cX7_append 15 = .ok (.ldc 49, 2) := by decide +kernel
theorem dX7_append_17 : decode cX7_append 17 = .ok (.invokespecial 51, 3) := by decide +kernel
theorem dX7_append_20 : decode cX7_append 20 = .ok (.athrow, 1) := by decide +kernel
theorem dX7_append_21 : decode cX7_append 21 = .ok (.aload_n 0, 1) := by decide +kernel
theorem dX7_append_22 : decode cX7_append 22 = .ok (.getfield 39, 3) := by decide +kernel
theorem dX7_append_25 : decode cX7_append 25 = .ok (.invokevirtual 54, 3) := by decide +kernel
theorem dX7_append_28 : decode cX7_append 28 = .ok (.ifCond .eq 13, 3) := by decide +kernel
theorem dX7_append_31 : decode cX7_append 31 = .ok (.new 58, 3) := by decide +kernel
theorem dX7_append_34 : decode cX7_append 34 = .ok (.dup, 1) := by decide +kernel
theorem dX7_append_35 : decode cX7_append 35 = .ok (.ldc 60, 2) := by decide +kernel
theorem dX7_append_37 : decode cX7_append 37 = .ok (.invokespecial 62, 3) := by decide +kernel
theorem dX7_append_40 : decode cX7_append 40 = .ok (.athrow, 1) := by decide +kernel
theorem dX7_append_41 : decode cX7_append 41 = .ok (.aload_n 0, 1) := by decide +kernel
theorem dX7_append_42 : decode cX7_append 42 = .ok (.getfield 39, 3) := by decide +kernel
theorem dX7_append_45 : decode cX7_append 45 = .ok (.iload_n 1, 1) := by decide +kernel
theorem dX7_append_46 : decode cX7_append 46 = .ok (.invokevirtual 63, 3) := by decide +kernel
theorem dX7_append_49 : decode cX7_append 49 = .ok (.ireturn, 1) := by decide +kernel
theorem dX7_clearText_0 : decode cX7_clearText 0 = .ok (.aload_n 0, 1) := by decide +kernel
theorem dX7_clearText_1 : decode cX7_clearText 1 = .ok (.getfield 39, 3) := by decide +kernel
theorem dX7_clearText_4 : decode cX7_clearText 4 = .ok (.invokevirtual 67, 3) := by decide +kernel
theorem dX7_clearText_7 : decode cX7_clearText 7 = .ok (.ireturn, 1) := by decide +kernel
theorem dX7_errorPosition_0 : decode cX7_errorPosition 0 = .ok (.aload_n 0, 1) := by decide +kernel
theorem dX7_errorPosition_1 : decode cX7_errorPosition 1 = .ok (.getfield 39, 3) := by decide +kernel
theorem dX7_errorPosition_4 : decode cX7_errorPosition 4 = .ok (.invokevirtual 71, 3) := by decide +kernel
theorem dX7_errorPosition_7 : decode cX7_errorPosition 7 = .ok (.ireturn, 1) := by decide +kernel
theorem dX7_load_0 : decode cX7_load 0 = .ok (.aload_n 0, 1) := by decide +kernel
theorem dX7_load_1 : decode cX7_load 1 = .ok (.getfield 39, 3) := by decide +kernel
theorem dX7_load_4 : decode cX7_load 4 = .ok (.invokevirtual 71, 3) := by decide +kernel
theorem dX7_load_7 : decode cX7_load 7 = .ok (.iconst (-1), 1) := by decide +kernel
theorem dX7_load_8 : decode cX7_load 8 = .ok (.if_icmp .eq 13, 3) := by decide +kernel
theorem dX7_load_11 : decode cX7_load 11 = .ok (.new 58, 3) := by decide +kernel
theorem dX7_load_14 : decode cX7_load 14 = .ok (.dup, 1) := by decide +kernel
theorem dX7_load_15 : decode cX7_load 15 = .ok (.ldc 74, 2) := by decide +kernel
theorem dX7_load_17 : decode cX7_load 17 = .ok (.invokespecial 62, 3) := by decide +kernel
theorem dX7_load_20 : decode cX7_load 20 = .ok (.athrow, 1) := by decide +kernel
theorem dX7_load_21 : decode cX7_load 21 = .ok (.aload_n 0, 1) := by decide +kernel
theorem dX7_load_22 : decode cX7_load 22 = .ok (.getfield 10, 3) := by decide +kernel
theorem dX7_load_25 : decode cX7_load 25 = .ok (.invokevirtual 76, 3) := by decide +kernel
theorem dX7_load_28 : decode cX7_load 28 = .ok (.aload_n 0, 1) := by decide +kernel
theorem dX7_load_29 : decode cX7_load 29 = .ok (.getfield 22, 3) := by decide +kernel
theorem dX7_load_32 : decode cX7_load 32 = .ok (.invokevirtual 79, 3) := by decide +kernel
theorem dX7_load_35 : decode cX7_load 35 = .ok (.aload_n 0, 1) := by decide +kernel
theorem dX7_load_36 : decode cX7_load 36 = .ok (.getfield 29, 3) := by decide +kernel
theorem dX7_load_39 : decode cX7_load 39 = .ok (.iconst 0, 1) := by decide +kernel
theorem dX7_load_40 : decode cX7_load 40 = .ok (.putfield 82, 3) := by decide +kernel
theorem dX7_load_43 : decode cX7_load 43 = .ok (.aload_n 0, 1) := by decide +kernel
theorem dX7_load_44 : decode cX7_load 44 = .ok (.getfield 33, 3) := by decide +kernel
theorem dX7_load_47 : decode cX7_load 47 = .ok (.iconst 0, 1) := by decide +kernel
theorem dX7_load_48 : decode cX7_load 48 = .ok (.putfield 82, 3) := by decide +kernel
theorem dX7_load_51 : decode cX7_load 51 = .ok (.iconst 0, 1) := by decide +kernel
theorem dX7_load_52 : decode cX7_load 52 = .ok (.istore_n 1, 1) := by decide +kernel
theorem dX7_load_53 : decode cX7_load 53 = .ok (.aload_n 0, 1) := by decide +kernel
theorem dX7_load_54 : decode cX7_load 54 = .ok (.getfield 39, 3) := by decide +kernel
theorem dX7_load_57 : decode cX7_load 57 = .ok (.invokevirtual 86, 3) := by decide +kernel
theorem dX7_load_60 : decode cX7_load 60 = .ok (.iconst 0, 1) := by decide +kernel
theorem dX7_load_61 : decode cX7_load 61 = .ok (.istore_n 2, 1) := by decide +kernel
theorem dX7_load_62 : decode cX7_load 62 = .ok (.iload_n 2, 1) := by decide +kernel
theorem dX7_load_63 : decode cX7_load 63 = .ok (.bipush 120, 2) := by decide +kernel
theorem dX7_load_65 : decode cX7_load 65 = .ok (.if_icmp .ge 71, 3) := by decide +kernel
theorem dX7_load_68 : decode cX7_load 68 = .ok (.aload_n 0, 1) := by decide +kernel
theorem dX7_load_69 : decode cX7_load 69 = .ok (.getfield 39, 3) := by decide +kernel
theorem dX7_load_72 : decode cX7_load 72 = .ok (.invokevirtual 89, 3) := by decide +kernel
theorem dX7_load_75 : decode cX7_load 75 = .ok (.ifCond .eq 61, 3) := by decide +kernel
theorem dX7_load_78 : decode cX7_load 78 = .ok (.aload_n 0, 1) := by decide +kernel
theorem dX7_load_79 : decode cX7_load 79 = .ok (.getfield 10, 3) := by decide +kernel
theorem dX7_load_82 : decode cX7_load 82 = .ok (.aload_n 0, 1) := by decide +kernel
theorem dX7_load_83 : decode cX7_load 83 = .ok (.getfield 39, 3) := by decide +kernel
theorem dX7_load_86 : decode cX7_load 86 = .ok (.getfield 92, 3) := by decide +kernel
theorem dX7_load_89 : decode cX7_load 89 = .ok (.aload_n 0, 1) := by decide +kernel
theorem dX7_load_90 : decode cX7_load 90 = .ok (.getfield 39, 3) := by decide +kernel
theorem dX7_load_93 : decode cX7_load 93 = .ok (.iconst 0, 1) := by decide +kernel
theorem dX7_load_94 : decode cX7_load 94 = .ok (.invokevirtual 96, 3) := by decide +kernel
theorem dX7_load_97 : decode cX7_load 97 = .ok (.aload_n 0, 1) := by decide +kernel
theorem dX7_load_98 : decode cX7_load 98 = .ok (.getfield 39, 3) := by decide +kernel
theorem dX7_load_101 : decode cX7_load 101 = .ok (.iconst 1, 1) := by decide +kernel
theorem dX7_load_102 : decode cX7_load 102 = .ok (.invokevirtual 96, 3) := by decide +kernel
theorem dX7_load_105 : decode cX7_load 105 = .ok (.aload_n 0, 1) := by decide +kernel
theorem dX7_load_106 : decode cX7_load 106 = .ok (.getfield 39, 3) := by decide +kernel
theorem dX7_load_109 : decode cX7_load 109 = .ok (.iconst 2, 1) := by decide +kernel
theorem dX7_load_110 : decode cX7_load 110 = .ok (.invokevirtual 96, 3) := by decide +kernel
theorem dX7_load_113 : decode cX7_load 113 = .ok (.aload_n 0, 1) := by decide +kernel
theorem dX7_load_114 : decode cX7_load 114 = .ok (.getfield 39, 3) := by decide +kernel
theorem dX7_load_117 : decode cX7_load 117 = .ok (.iconst 3, 1) := by decide +kernel
theorem dX7_load_118 : decode cX7_load 118 = .ok (.invokevirtual 96, 3) := by decide +kernel
theorem dX7_load_121 : decode cX7_load 121 = .ok (.invokevirtual 99, 3) := by decide +kernel
theorem dX7_load_124 : decode cX7_load 124 = .ok (.ifCond .ne 6, 3) := by decide +kernel
theorem dX7_load_127 : decode cX7_load 127 = .ok (.iinc 1 1, 3) := by decide +kernel
theorem dX7_load_130 : decode cX7_load 130 = .ok (.iinc 2 1, 3) := by decide +kernel
theorem dX7_load_133 : decode cX7_load 133 = .ok (.goto (-71), 3) := by decide +kernel
theorem dX7_load_136 : decode cX7_load 136 = .ok (.iload_n 1, 1) := by decide +kernel
theorem dX7_load_137 : decode cX7_load 137 = .ok (.ireturn, 1) := by decide +kernel
theorem dX7_about_0 : decode cX7_about 0 = .ok (.iload_n 1, 1) := by decide +kernel
theorem dX7_about_1 : decode cX7_about 1 = .ok (.iconst 0, 1) := by decide +kernel
theorem dX7_about_2 : decode cX7_about 2 = .ok (.bipush 7, 2) := by decide +kernel
theorem dX7_about_4 : decode cX7_about 4 = .ok (.invokestatic 43, 3) := by decide +kernel
theorem dX7_about_7 : decode cX7_about 7 = .ok (.ifCond .eq 13, 3) := by decide +kernel
theorem dX7_about_10 : decode cX7_about 10 = .ok (.new 47, 3) := by decide +kernel
theorem dX7_about_13 : decode cX7_about 13 = .ok (.dup, 1) := by decide +kernel
theorem dX7_about_14 : decode cX7_about 14 = .ok (.ldc 103, 2) := by decide +kernel
theorem dX7_about_16 : decode cX7_about 16 = .ok (.invokespecial 51, 3) := by decide +kernel
theorem dX7_about_19 : decode cX7_about 19 = .ok (.athrow, 1) := by decide +kernel
theorem dX7_about_20 : decode cX7_about 20 = .ok (.iload_n 1, 1) := by decide +kernel
theorem dX7_about_21 : decode cX7_about 21 = .ok (.tableswitch 100 0 6 #[43, 51, 59, 67, 76, 84, 92], 43) := by decide +kernel
theorem dX7_about_64 : decode cX7_about 64 = .ok (.aload_n 0, 1) := by decide +kernel
theorem dX7_about_65 : decode cX7_about 65 = .ok (.getfield 10, 3) := by decide +kernel
theorem dX7_about_68 : decode cX7_about 68 = .ok (.getfield 105, 3) := by decide +kernel
theorem dX7_about_71 : decode cX7_about 71 = .ok (.ireturn, 1) := by decide +kernel
theorem dX7_about_72 : decode cX7_about 72 = .ok (.aload_n 0, 1) := by decide +kernel
theorem dX7_about_73 : decode cX7_about 73 = .ok (.getfield 10, 3) := by decide +kernel
theorem dX7_about_76 : decode cX7_about 76 = .ok (.getfield 108, 3) := by decide +kernel
theorem dX7_about_79 : decode cX7_about 79 = .ok (.ireturn, 1) := by decide +kernel
theorem dX7_about_80 : decode cX7_about 80 = .ok (.aload_n 0, 1) := by decide +kernel
theorem dX7_about_81 : decode cX7_about 81 = .ok (.getfield 10, 3) := by decide +kernel
theorem dX7_about_84 : decode cX7_about 84 = .ok (.getfield 111, 3) := by decide +kernel
theorem dX7_about_87 : decode cX7_about 87 = .ok (.ireturn, 1) := by decide +kernel
theorem dX7_about_88 : decode cX7_about 88 = .ok (.aload_n 0, 1) := by decide +kernel
theorem dX7_about_89 : decode cX7_about 89 = .ok (.getfield 10, 3) := by decide +kernel
theorem dX7_about_92 : decode cX7_about 92 = .ok (.iconst 0, 1) := by decide +kernel
theorem dX7_about_93 : decode cX7_about 93 = .ok (.invokevirtual 114, 3) := by decide +kernel
theorem dX7_about_96 : decode cX7_about 96 = .ok (.ireturn, 1) := by decide +kernel
theorem dX7_about_97 : decode cX7_about 97 = .ok (.aload_n 0, 1) := by decide +kernel
theorem dX7_about_98 : decode cX7_about 98 = .ok (.getfield 10, 3) := by decide +kernel
theorem dX7_about_101 : decode cX7_about 101 = .ok (.invokevirtual 117, 3) := by decide +kernel
theorem dX7_about_104 : decode cX7_about 104 = .ok (.ireturn, 1) := by decide +kernel
theorem dX7_about_105 : decode cX7_about 105 = .ok (.aload_n 0, 1) := by decide +kernel
theorem dX7_about_106 : decode cX7_about 106 = .ok (.getfield 10, 3) := by decide +kernel
theorem dX7_about_109 : decode cX7_about 109 = .ok (.invokevirtual 120, 3) := by decide +kernel
theorem dX7_about_112 : decode cX7_about 112 = .ok (.ireturn, 1) := by decide +kernel
theorem dX7_about_113 : decode cX7_about 113 = .ok (.aload_n 0, 1) := by decide +kernel
theorem dX7_about_114 : decode cX7_about 114 = .ok (.getfield 10, 3) := by decide +kernel
theorem dX7_about_117 : decode cX7_about 117 = .ok (.invokevirtual 123, 3) := by decide +kernel
theorem dX7_about_120 : decode cX7_about 120 = .ok (.ireturn, 1) := by decide +kernel
theorem dX7_about_121 : decode cX7_about 121 = .ok (.aload_n 0, 1) := by decide +kernel
theorem dX7_about_122 : decode cX7_about 122 = .ok (.getfield 10, 3) := by decide +kernel
theorem dX7_about_125 : decode cX7_about 125 = .ok (.getfield 126, 3) := by decide +kernel
theorem dX7_about_128 : decode cX7_about 128 = .ok (.ireturn, 1) := by decide +kernel
theorem dX7_reelOf_0 : decode cX7_reelOf 0 = .ok (.aload_n 0, 1) := by decide +kernel
theorem dX7_reelOf_1 : decode cX7_reelOf 1 = .ok (.getfield 10, 3) := by decide +kernel
theorem dX7_reelOf_4 : decode cX7_reelOf 4 = .ok (.iload_n 1, 1) := by decide +kernel
theorem dX7_reelOf_5 : decode cX7_reelOf 5 = .ok (.invokevirtual 129, 3) := by decide +kernel
theorem dX7_reelOf_8 : decode cX7_reelOf 8 = .ok (.astore_n 3, 1) := by decide +kernel
theorem dX7_reelOf_9 : decode cX7_reelOf 9 = .ok (.aload_n 3, 1) := by decide +kernel
theorem dX7_reelOf_10 : decode cX7_reelOf 10 = .ok (.ifnonnull 13, 3) := by decide +kernel
theorem dX7_reelOf_13 : decode cX7_reelOf 13 = .ok (.new 133, 3) := by decide +kernel
theorem dX7_reelOf_16 : decode cX7_reelOf 16 = .ok (.dup, 1) := by decide +kernel
theorem dX7_reelOf_17 : decode cX7_reelOf 17 = .ok (.ldc 135, 2) := by decide +kernel
theorem dX7_reelOf_19 : decode cX7_reelOf 19 = .ok (.invokespecial 137, 3) := by decide +kernel
theorem dX7_reelOf_22 : decode cX7_reelOf 22 = .ok (.athrow, 1) := by decide +kernel
theorem dX7_reelOf_23 : decode cX7_reelOf 23 = .ok (.iload_n 2, 1) := by decide +kernel
theorem dX7_reelOf_24 : decode cX7_reelOf 24 = .ok (.iconst 0, 1) := by decide +kernel
theorem dX7_reelOf_25 : decode cX7_reelOf 25 = .ok (.iconst 4, 1) := by decide +kernel
theorem dX7_reelOf_26 : decode cX7_reelOf 26 = .ok (.invokestatic 43, 3) := by decide +kernel
theorem dX7_reelOf_29 : decode cX7_reelOf 29 = .ok (.ifCond .eq 13, 3) := by decide +kernel
theorem dX7_reelOf_32 : decode cX7_reelOf 32 = .ok (.new 47, 3) := by decide +kernel
theorem dX7_reelOf_35 : decode cX7_reelOf 35 = .ok (.dup, 1) := by decide +kernel
theorem dX7_reelOf_36 : decode cX7_reelOf 36 = .ok (.ldc 103, 2) := by decide +kernel
theorem dX7_reelOf_38 : decode cX7_reelOf 38 = .ok (.invokespecial 51, 3) := by decide +kernel
theorem dX7_reelOf_41 : decode cX7_reelOf 41 = .ok (.athrow, 1) := by decide +kernel
theorem dX7_reelOf_42 : decode cX7_reelOf 42 = .ok (.iload_n 2, 1) := by decide +kernel
theorem dX7_reelOf_43 : decode cX7_reelOf 43 = .ok (.tableswitch 51 0 3 #[29, 34, 40, 46], 29) := by decide +kernel
theorem dX7_reelOf_72 : decode cX7_reelOf 72 = .ok (.aload_n 3, 1) := by decide +kernel
theorem dX7_reelOf_73 : decode cX7_reelOf 73 = .ok (.getfield 138, 3) := by decide +kernel
theorem dX7_reelOf_76 : decode cX7_reelOf 76 = .ok (.ireturn, 1) := by decide +kernel
theorem dX7_reelOf_77 : decode cX7_reelOf 77 = .ok (.aload_n 3, 1) := by decide +kernel
theorem dX7_reelOf_78 : decode cX7_reelOf 78 = .ok (.iconst 1, 1) := by decide +kernel
theorem dX7_reelOf_79 : decode cX7_reelOf 79 = .ok (.invokevirtual 143, 3) := by decide +kernel
theorem dX7_reelOf_82 : decode cX7_reelOf 82 = .ok (.ireturn, 1) := by decide +kernel
theorem dX7_reelOf_83 : decode cX7_reelOf 83 = .ok (.aload_n 3, 1) := by decide +kernel
theorem dX7_reelOf_84 : decode cX7_reelOf 84 = .ok (.iconst 0, 1) := by decide +kernel
theorem dX7_reelOf_85 : decode cX7_reelOf 85 = .ok (.invokevirtual 143, 3) := by decide +kernel
theorem dX7_reelOf_88 : decode cX7_reelOf 88 = .ok (.ireturn, 1) := by decide +kernel
theorem dX7_reelOf_89 : decode cX7_reelOf 89 = .ok (.aload_n 3, 1) := by decide +kernel
theorem dX7_reelOf_90 : decode cX7_reelOf 90 = .ok (.invokevirtual 147, 3) := by decide +kernel
theorem dX7_reelOf_93 : decode cX7_reelOf 93 = .ok (.ireturn, 1) := by decide +kernel
theorem dX7_reelOf_94 : decode cX7_reelOf 94 = .ok (.aload_n 3, 1) := by decide +kernel
theorem dX7_reelOf_95 : decode cX7_reelOf 95 = .ok (.invokevirtual 150, 3) := by decide +kernel
theorem dX7_reelOf_98 : decode cX7_reelOf 98 = .ok (.ireturn, 1) := by decide +kernel
theorem dX7_sound_0 : decode cX7_sound 0 = .ok (.aload_n 0, 1) := by decide +kernel
theorem dX7_sound_1 : decode cX7_sound 1 = .ok (.getfield 10, 3) := by decide +kernel
theorem dX7_sound_4 : decode cX7_sound 4 = .ok (.iload_n 1, 1) := by decide +kernel
theorem dX7_sound_5 : decode cX7_sound 5 = .ok (.invokevirtual 129, 3) := by decide +kernel
theorem dX7_sound_8 : decode cX7_sound 8 = .ok (.astore_n 3, 1) := by decide +kernel
theorem dX7_sound_9 : decode cX7_sound 9 = .ok (.aload_n 3, 1) := by decide +kernel
theorem dX7_sound_10 : decode cX7_sound 10 = .ok (.ifnull 11, 3) := by decide +kernel
theorem dX7_sound_13 : decode cX7_sound 13 = .ok (.aload_n 3, 1) := by decide +kernel
theorem dX7_sound_14 : decode cX7_sound 14 = .ok (.iload_n 2, 1) := by decide +kernel
theorem dX7_sound_15 : decode cX7_sound 15 = .ok (.invokevirtual 153, 3) := by decide +kernel
theorem dX7_sound_18 : decode cX7_sound 18 = .ok (.ifCond .ne 13, 3) := by decide +kernel
theorem dX7_sound_21 : decode cX7_sound 21 = .ok (.new 133, 3) := by decide +kernel
theorem dX7_sound_24 : decode cX7_sound 24 = .ok (.dup, 1) := by decide +kernel
theorem dX7_sound_25 : decode cX7_sound 25 = .ok (.ldc 157, 2) := by decide +kernel
theorem dX7_sound_27 : decode cX7_sound 27 = .ok (.invokespecial 137, 3) := by decide +kernel
theorem dX7_sound_30 : decode cX7_sound 30 = .ok (.athrow, 1) := by decide +kernel
theorem dX7_sound_31 : decode cX7_sound 31 = .ok (.aload_n 3, 1) := by decide +kernel
theorem dX7_sound_32 : decode cX7_sound 32 = .ok (.getfield 159, 3) := by decide +kernel
theorem dX7_sound_35 : decode cX7_sound 35 = .ok (.iload_n 2, 1) := by decide +kernel
theorem dX7_sound_36 : decode cX7_sound 36 = .ok (.invokestatic 163, 3) := by decide +kernel
theorem dX7_sound_39 : decode cX7_sound 39 = .ok (.ireturn, 1) := by decide +kernel
theorem dX7_silence_0 : decode cX7_silence 0 = .ok (.aload_n 0, 1) := by decide +kernel
theorem dX7_silence_1 : decode cX7_silence 1 = .ok (.getfield 10, 3) := by decide +kernel
theorem dX7_silence_4 : decode cX7_silence 4 = .ok (.iload_n 1, 1) := by decide +kernel
theorem dX7_silence_5 : decode cX7_silence 5 = .ok (.invokevirtual 129, 3) := by decide +kernel
theorem dX7_silence_8 : decode cX7_silence 8 = .ok (.astore 4, 2) := by decide +kernel
theorem dX7_silence_10 : decode cX7_silence 10 = .ok (.aload 4, 2) := by decide +kernel
theorem dX7_silence_12 : decode cX7_silence 12 = .ok (.ifnull 14, 3) := by decide +kernel
theorem dX7_silence_15 : decode cX7_silence 15 = .ok (.aload 4, 2) := by decide +kernel
theorem dX7_silence_17 : decode cX7_silence 17 = .ok (.iload_n 2, 1) := by decide +kernel
theorem dX7_silence_18 : decode cX7_silence 18 = .ok (.iconst 1, 1) := by decide +kernel
theorem dX7_silence_19 : decode cX7_silence 19 = .ok (.invokevirtual 167, 3) := by decide +kernel
theorem dX7_silence_22 : decode cX7_silence 22 = .ok (.iconst (-1), 1) := by decide +kernel
theorem dX7_silence_23 : decode cX7_silence 23 = .ok (.if_icmp .ne 13, 3) := by decide +kernel
theorem dX7_silence_26 : decode cX7_silence 26 = .ok (.new 133, 3) := by decide +kernel
theorem dX7_silence_29 : decode cX7_silence 29 = .ok (.dup, 1) := by decide +kernel
theorem dX7_silence_30 : decode cX7_silence 30 = .ok (.ldc 171, 2) := by decide +kernel
theorem dX7_silence_32 : decode cX7_silence 32 = .ok (.invokespecial 137, 3) := by decide +kernel
theorem dX7_silence_35 : decode cX7_silence 35 = .ok (.athrow, 1) := by decide +kernel
theorem dX7_silence_36 : decode cX7_silence 36 = .ok (.iload_n 3, 1) := by decide +kernel
theorem dX7_silence_37 : decode cX7_silence 37 = .ok (.iconst 0, 1) := by decide +kernel
theorem dX7_silence_38 : decode cX7_silence 38 = .ok (.iconst 2, 1) := by decide +kernel
theorem dX7_silence_39 : decode cX7_silence 39 = .ok (.invokestatic 43, 3) := by decide +kernel
theorem dX7_silence_42 : decode cX7_silence 42 = .ok (.ifCond .eq 13, 3) := by decide +kernel
theorem dX7_silence_45 : decode cX7_silence 45 = .ok (.new 47, 3) := by decide +kernel
theorem dX7_silence_48 : decode cX7_silence 48 = .ok (.dup, 1) := by decide +kernel
theorem dX7_silence_49 : decode cX7_silence 49 = .ok (.ldc 103, 2) := by decide +kernel
theorem dX7_silence_51 : decode cX7_silence 51 = .ok (.invokespecial 51, 3) := by decide +kernel
theorem dX7_silence_54 : decode cX7_silence 54 = .ok (.athrow, 1) := by decide +kernel
theorem dX7_silence_55 : decode cX7_silence 55 = .ok (.aload 4, 2) := by decide +kernel
theorem dX7_silence_57 : decode cX7_silence 57 = .ok (.iload_n 2, 1) := by decide +kernel
theorem dX7_silence_58 : decode cX7_silence 58 = .ok (.iconst 1, 1) := by decide +kernel
theorem dX7_silence_59 : decode cX7_silence 59 = .ok (.invokevirtual 167, 3) := by decide +kernel
theorem dX7_silence_62 : decode cX7_silence 62 = .ok (.istore 5, 2) := by decide +kernel
theorem dX7_silence_64 : decode cX7_silence 64 = .ok (.iload_n 3, 1) := by decide +kernel
theorem dX7_silence_65 : decode cX7_silence 65 = .ok (.lookupswitch 38 #[(0, 27), (1, 30)], 27) := by decide +kernel
theorem dX7_silence_92 : decode cX7_silence 92 = .ok (.iload 5, 2) := by decide +kernel
theorem dX7_silence_94 : decode cX7_silence 94 = .ok (.ireturn, 1) := by decide +kernel
theorem dX7_silence_95 : decode cX7_silence 95 = .ok (.aload 4, 2) := by decide +kernel
theorem dX7_silence_97 : decode cX7_silence 97 = .ok (.iload 5, 2) := by decide +kernel
theorem dX7_silence_99 : decode cX7_silence 99 = .ok (.invokevirtual 173, 3) := by decide +kernel
theorem dX7_silence_102 : decode cX7_silence 102 = .ok (.ireturn, 1) := by decide +kernel
theorem dX7_silence_103 : decode cX7_silence 103 = .ok (.aload 4, 2) := by decide +kernel
theorem dX7_silence_105 : decode cX7_silence 105 = .ok (.iload 5, 2) := by decide +kernel
theorem dX7_silence_107 : decode cX7_silence 107 = .ok (.invokevirtual 176, 3) := by decide +kernel
theorem dX7_silence_110 : decode cX7_silence 110 = .ok (.ireturn, 1) := by decide +kernel
theorem dX7_piece_0 : decode cX7_piece 0 = .ok (.aload_n 0, 1) := by decide +kernel
theorem dX7_piece_1 : decode cX7_piece 1 = .ok (.getfield 10, 3) := by decide +kernel
theorem dX7_piece_4 : decode cX7_piece 4 = .ok (.iload_n 1, 1) := by decide +kernel
theorem dX7_piece_5 : decode cX7_piece 5 = .ok (.invokevirtual 129, 3) := by decide +kernel
theorem dX7_piece_8 : decode cX7_piece 8 = .ok (.astore 4, 2) := by decide +kernel
theorem dX7_piece_10 : decode cX7_piece 10 = .ok (.aload 4, 2) := by decide +kernel
theorem dX7_piece_12 : decode cX7_piece 12 = .ok (.ifnull 14, 3) := by decide +kernel
theorem dX7_piece_15 : decode cX7_piece 15 = .ok (.aload 4, 2) := by decide +kernel
theorem dX7_piece_17 : decode cX7_piece 17 = .ok (.iload_n 2, 1) := by decide +kernel
theorem dX7_piece_18 : decode cX7_piece 18 = .ok (.iconst 0, 1) := by decide +kernel
theorem dX7_piece_19 : decode cX7_piece 19 = .ok (.invokevirtual 167, 3) := by decide +kernel
theorem dX7_piece_22 : decode cX7_piece 22 = .ok (.iconst (-1), 1) := by decide +kernel
theorem dX7_piece_23 : decode cX7_piece 23 = .ok (.if_icmp .ne 13, 3) := by decide +kernel
theorem dX7_piece_26 : decode cX7_piece 26 = .ok (.new 133, 3) := by decide +kernel
theorem dX7_piece_29 : decode cX7_piece 29 = .ok (.dup, 1) := by decide +kernel
theorem dX7_piece_30 : decode cX7_piece 30 = .ok (.ldc 179, 2) := by decide +kernel
theorem dX7_piece_32 : decode cX7_piece 32 = .ok (.invokespecial 137, 3) := by decide +kernel
theorem dX7_piece_35 : decode cX7_piece 35 = .ok (.athrow, 1) := by decide +kernel
theorem dX7_piece_36 : decode cX7_piece 36 = .ok (.iload_n 3, 1) := by decide +kernel
theorem dX7_piece_37 : decode cX7_piece 37 = .ok (.iconst 0, 1) := by decide +kernel
theorem dX7_piece_38 : decode cX7_piece 38 = .ok (.iconst 2, 1) := by decide +kernel
theorem dX7_piece_39 : decode cX7_piece 39 = .ok (.invokestatic 43, 3) := by decide +kernel
theorem dX7_piece_42 : decode cX7_piece 42 = .ok (.ifCond .eq 13, 3) := by decide +kernel
theorem dX7_piece_45 : decode cX7_piece 45 = .ok (.new 47, 3) := by decide +kernel
theorem dX7_piece_48 : decode cX7_piece 48 = .ok (.dup, 1) := by decide +kernel
theorem dX7_piece_49 : decode cX7_piece 49 = .ok (.ldc 103, 2) := by decide +kernel
theorem dX7_piece_51 : decode cX7_piece 51 = .ok (.invokespecial 51, 3) := by decide +kernel
theorem dX7_piece_54 : decode cX7_piece 54 = .ok (.athrow, 1) := by decide +kernel
theorem dX7_piece_55 : decode cX7_piece 55 = .ok (.aload 4, 2) := by decide +kernel
theorem dX7_piece_57 : decode cX7_piece 57 = .ok (.iload_n 2, 1) := by decide +kernel
theorem dX7_piece_58 : decode cX7_piece 58 = .ok (.iconst 0, 1) := by decide +kernel
theorem dX7_piece_59 : decode cX7_piece 59 = .ok (.invokevirtual 167, 3) := by decide +kernel
theorem dX7_piece_62 : decode cX7_piece 62 = .ok (.istore 5, 2) := by decide +kernel
theorem dX7_piece_64 : decode cX7_piece 64 = .ok (.iload_n 3, 1) := by decide +kernel
theorem dX7_piece_65 : decode cX7_piece 65 = .ok (.lookupswitch 38 #[(0, 27), (1, 30)], 27) := by decide +kernel
theorem dX7_piece_92 : decode cX7_piece 92 = .ok (.iload 5, 2) := by decide +kernel
theorem dX7_piece_94 : decode cX7_piece 94 = .ok (.ireturn, 1) := by decide +kernel
theorem dX7_piece_95 : decode cX7_piece 95 = .ok (.aload 4, 2) := by decide +kernel
theorem dX7_piece_97 : decode cX7_piece 97 = .ok (.iload 5, 2) := by decide +kernel
theorem dX7_piece_99 : decode cX7_piece 99 = .ok (.invokevirtual 173, 3) := by decide +kernel
theorem dX7_piece_102 : decode cX7_piece 102 = .ok (.ireturn, 1) := by decide +kernel
theorem dX7_piece_103 : decode cX7_piece 103 = .ok (.aload 4, 2) := by decide +kernel
theorem dX7_piece_105 : decode cX7_piece 105 = .ok (.iload 5, 2) := by decide +kernel
theorem dX7_piece_107 : decode cX7_piece 107 = .ok (.invokevirtual 181, 3) := by decide +kernel
theorem dX7_piece_110 : decode cX7_piece 110 = .ok (.ireturn, 1) := by decide +kernel
theorem dX7_loopOf_0 : decode cX7_loopOf 0 = .ok (.aload_n 0, 1) := by decide +kernel
theorem dX7_loopOf_1 : decode cX7_loopOf 1 = .ok (.getfield 10, 3) := by decide +kernel
theorem dX7_loopOf_4 : decode cX7_loopOf 4 = .ok (.iload_n 1, 1) := by decide +kernel
theorem dX7_loopOf_5 : decode cX7_loopOf 5 = .ok (.invokevirtual 184, 3) := by decide +kernel
theorem dX7_loopOf_8 : decode cX7_loopOf 8 = .ok (.astore_n 3, 1) := by decide +kernel
theorem dX7_loopOf_9 : decode cX7_loopOf 9 = .ok (.aload_n 3, 1) := by decide +kernel
theorem dX7_loopOf_10 : decode cX7_loopOf 10 = .ok (.ifnonnull 13, 3) := by decide +kernel
theorem dX7_loopOf_13 : decode cX7_loopOf 13 = .ok (.new 133, 3) := by decide +kernel
theorem dX7_loopOf_16 : decode cX7_loopOf 16 = .ok (.dup, 1) := by decide +kernel
theorem dX7_loopOf_17 : decode cX7_loopOf 17 = .ok (.ldc 188, 2) := by decide +kernel
theorem dX7_loopOf_19 : decode cX7_loopOf 19 = .ok (.invokespecial 137, 3) := by decide +kernel
theorem dX7_loopOf_22 : decode cX7_loopOf 22 = .ok (.athrow, 1) := by decide +kernel
theorem dX7_loopOf_23 : decode cX7_loopOf 23 = .ok (.iload_n 2, 1) := by decide +kernel
theorem dX7_loopOf_24 : decode cX7_loopOf 24 = .ok (.iconst 0, 1) := by decide +kernel
theorem dX7_loopOf_25 : decode cX7_loopOf 25 = .ok (.bipush 8, 2) := by decide +kernel
theorem dX7_loopOf_27 : decode cX7_loopOf 27 = .ok (.invokestatic 43, 3) := by decide +kernel
theorem dX7_loopOf_30 : decode cX7_loopOf 30 = .ok (.ifCond .eq 13, 3) := by decide +kernel
theorem dX7_loopOf_33 : decode cX7_loopOf 33 = .ok (.new 47, 3) := by decide +kernel
theorem dX7_loopOf_36 : decode cX7_loopOf 36 = .ok (.dup, 1) := by decide +kernel
theorem dX7_loopOf_37 : decode cX7_loopOf 37 = .ok (.ldc 103, 2) := by decide +kernel
theorem dX7_loopOf_39 : decode cX7_loopOf 39 = .ok (.invokespecial 51, 3) := by decide +kernel
theorem dX7_loopOf_42 : decode cX7_loopOf 42 = .ok (.athrow, 1) := by decide +kernel
theorem dX7_loopOf_43 : decode cX7_loopOf 43 = .ok (.iload_n 2, 1) := by decide +kernel
theorem dX7_loopOf_44 : decode cX7_loopOf 44 = .ok (.tableswitch 111 0 7 #[48, 53, 58, 63, 68, 77, 93, 106], 48) := by decide +kernel
theorem dX7_loopOf_92 : decode cX7_loopOf 92 = .ok (.aload_n 3, 1) := by decide +kernel
theorem dX7_loopOf_93 : decode cX7_loopOf 93 = .ok (.getfield 190, 3) := by decide +kernel
theorem dX7_loopOf_96 : decode cX7_loopOf 96 = .ok (.ireturn, 1) := by decide +kernel
theorem dX7_loopOf_97 : decode cX7_loopOf 97 = .ok (.aload_n 3, 1) := by decide +kernel
theorem dX7_loopOf_98 : decode cX7_loopOf 98 = .ok (.getfield 193, 3) := by decide +kernel
theorem dX7_loopOf_101 : decode cX7_loopOf 101 = .ok (.ireturn, 1) := by decide +kernel
theorem dX7_loopOf_102 : decode cX7_loopOf 102 = .ok (.aload_n 3, 1) := by decide +kernel
theorem dX7_loopOf_103 : decode cX7_loopOf 103 = .ok (.getfield 196, 3) := by decide +kernel
theorem dX7_loopOf_106 : decode cX7_loopOf 106 = .ok (.ireturn, 1) := by decide +kernel
theorem dX7_loopOf_107 : decode cX7_loopOf 107 = .ok (.aload_n 3, 1) := by decide +kernel
theorem dX7_loopOf_108 : decode cX7_loopOf 108 = .ok (.getfield 199, 3) := by decide +kernel
theorem dX7_loopOf_111 : decode cX7_loopOf 111 = .ok (.ireturn, 1) := by decide +kernel
theorem dX7_loopOf_112 : decode cX7_loopOf 112 = .ok (.aload_n 3, 1) := by decide +kernel
theorem dX7_loopOf_113 : decode cX7_loopOf 113 = .ok (.aload_n 3, 1) := by decide +kernel
theorem dX7_loopOf_114 : decode cX7_loopOf 114 = .ok (.getfield 199, 3) := by decide +kernel
theorem dX7_loopOf_117 : decode cX7_loopOf 117 = .ok (.invokevirtual 202, 3) := by decide +kernel
theorem dX7_loopOf_120 : decode cX7_loopOf 120 = .ok (.ireturn, 1) := by decide +kernel
theorem dX7_loopOf_121 : decode cX7_loopOf 121 = .ok (.aload_n 3, 1) := by decide +kernel
theorem dX7_loopOf_122 : decode cX7_loopOf 122 = .ok (.getfield 205, 3) := by decide +kernel
theorem dX7_loopOf_125 : decode cX7_loopOf 125 = .ok (.aload_n 3, 1) := by decide +kernel
theorem dX7_loopOf_126 : decode cX7_loopOf 126 = .ok (.aload_n 3, 1) := by decide +kernel
theorem dX7_loopOf_127 : decode cX7_loopOf 127 = .ok (.getfield 199, 3) := by decide +kernel
theorem dX7_loopOf_130 : decode cX7_loopOf 130 = .ok (.invokevirtual 202, 3) := by decide +kernel
theorem dX7_loopOf_133 : decode cX7_loopOf 133 = .ok (.invokestatic 163, 3) := by decide +kernel
theorem dX7_loopOf_136 : decode cX7_loopOf 136 = .ok (.ireturn, 1) := by decide +kernel
theorem dX7_loopOf_137 : decode cX7_loopOf 137 = .ok (.aload_n 3, 1) := by decide +kernel
theorem dX7_loopOf_138 : decode cX7_loopOf 138 = .ok (.getfield 206, 3) := by decide +kernel
theorem dX7_loopOf_141 : decode cX7_loopOf 141 = .ok (.ifCond .eq 7, 3) := by decide +kernel
theorem dX7_loopOf_144 : decode cX7_loopOf 144 = .ok (.iconst 1, 1) := by decide +kernel
theorem dX7_loopOf_145 : decode cX7_loopOf 145 = .ok (.goto 4, 3) := by decide +kernel
theorem dX7_loopOf_148 : decode cX7_loopOf 148 = .ok (.iconst 0, 1) := by decide +kernel
theorem dX7_loopOf_149 : decode cX7_loopOf 149 = .ok (.ireturn, 1) := by decide +kernel
theorem dX7_loopOf_150 : decode cX7_loopOf 150 = .ok (.aload_n 3, 1) := by decide +kernel
theorem dX7_loopOf_151 : decode cX7_loopOf 151 = .ok (.invokevirtual 209, 3) := by decide +kernel
theorem dX7_loopOf_154 : decode cX7_loopOf 154 = .ok (.ireturn, 1) := by decide +kernel
theorem dX7_loopOf_155 : decode cX7_loopOf 155 = .ok (.aload_n 3, 1) := by decide +kernel
theorem dX7_loopOf_156 : decode cX7_loopOf 156 = .ok (.getfield 212, 3) := by decide +kernel
theorem dX7_loopOf_159 : decode cX7_loopOf 159 = .ok (.ireturn, 1) := by decide +kernel
theorem dX7_cell_0 : decode cX7_cell 0 = .ok (.aload_n 0, 1) := by decide +kernel
theorem dX7_cell_1 : decode cX7_cell 1 = .ok (.getfield 10, 3) := by decide +kernel
theorem dX7_cell_4 : decode cX7_cell 4 = .ok (.iload_n 1, 1) := by decide +kernel
theorem dX7_cell_5 : decode cX7_cell 5 = .ok (.invokevirtual 184, 3) := by decide +kernel
theorem dX7_cell_8 : decode cX7_cell 8 = .ok (.astore_n 3, 1) := by decide +kernel
theorem dX7_cell_9 : decode cX7_cell 9 = .ok (.aload_n 3, 1) := by decide +kernel
theorem dX7_cell_10 : decode cX7_cell 10 = .ok (.ifnull 17, 3) := by decide +kernel
theorem dX7_cell_13 : decode cX7_cell 13 = .ok (.iload_n 2, 1) := by decide +kernel
theorem dX7_cell_14 : decode cX7_cell 14 = .ok (.iconst 0, 1) := by decide +kernel
theorem dX7_cell_15 : decode cX7_cell 15 = .ok (.aload_n 3, 1) := by decide +kernel
theorem dX7_cell_16 : decode cX7_cell 16 = .ok (.getfield 190, 3) := by decide +kernel
theorem dX7_cell_19 : decode cX7_cell 19 = .ok (.iconst 1, 1) := by decide +kernel
theorem dX7_cell_20 : decode cX7_cell 20 = .ok (.isub, 1) := by decide +kernel
theorem dX7_cell_21 : decode cX7_cell 21 = .ok (.invokestatic 43, 3) := by decide +kernel
theorem dX7_cell_24 : decode cX7_cell 24 = .ok (.ifCond .eq 13, 3) := by decide +kernel
theorem dX7_cell_27 : decode cX7_cell 27 = .ok (.new 133, 3) := by decide +kernel
theorem dX7_cell_30 : decode cX7_cell 30 = .ok (.dup, 1) := by decide +kernel
theorem dX7_cell_31 : decode cX7_cell 31 = .ok (.ldc 215, 2) := by decide +kernel
theorem dX7_cell_33 : decode cX7_cell 33 = .ok (.invokespecial 137, 3) := by decide +kernel
theorem dX7_cell_36 : decode cX7_cell 36 = .ok (.athrow, 1) := by decide +kernel
theorem dX7_cell_37 : decode cX7_cell 37 = .ok (.aload_n 3, 1) := by decide +kernel
theorem dX7_cell_38 : decode cX7_cell 38 = .ok (.getfield 205, 3) := by decide +kernel
theorem dX7_cell_41 : decode cX7_cell 41 = .ok (.iload_n 2, 1) := by decide +kernel
theorem dX7_cell_42 : decode cX7_cell 42 = .ok (.invokestatic 163, 3) := by decide +kernel
theorem dX7_cell_45 : decode cX7_cell 45 = .ok (.ireturn, 1) := by decide +kernel
theorem dX7_reel_0 : decode cX7_reel 0 = .ok (.aload_n 0, 1) := by decide +kernel
theorem dX7_reel_1 : decode cX7_reel 1 = .ok (.bipush 114, 2) := by decide +kernel
theorem dX7_reel_3 : decode cX7_reel 3 = .ok (.iload_n 1, 1) := by decide +kernel
theorem dX7_reel_4 : decode cX7_reel 4 = .ok (.iconst 0, 1) := by decide +kernel
theorem dX7_reel_5 : decode cX7_reel 5 = .ok (.iconst 0, 1) := by decide +kernel
theorem dX7_reel_6 : decode cX7_reel 6 = .ok (.iconst 0, 1) := by decide +kernel
theorem dX7_reel_7 : decode cX7_reel 7 = .ok (.invokevirtual 217, 3) := by decide +kernel
theorem dX7_reel_10 : decode cX7_reel 10 = .ok (.ireturn, 1) := by decide +kernel
theorem dX7_paint_0 : decode cX7_paint 0 = .ok (.aload_n 0, 1) := by decide +kernel
theorem dX7_paint_1 : decode cX7_paint 1 = .ok (.bipush 112, 2) := by decide +kernel
theorem dX7_paint_3 : decode cX7_paint 3 = .ok (.iload_n 1, 1) := by decide +kernel
theorem dX7_paint_4 : decode cX7_paint 4 = .ok (.iload_n 2, 1) := by decide +kernel
theorem dX7_paint_5 : decode cX7_paint 5 = .ok (.iload_n 3, 1) := by decide +kernel
theorem dX7_paint_6 : decode cX7_paint 6 = .ok (.iload 4, 2) := by decide +kernel
theorem dX7_paint_8 : decode cX7_paint 8 = .ok (.invokevirtual 217, 3) := by decide +kernel
theorem dX7_paint_11 : decode cX7_paint 11 = .ok (.ireturn, 1) := by decide +kernel
theorem dX7_loop_0 : decode cX7_loop 0 = .ok (.aload_n 0, 1) := by decide +kernel
theorem dX7_loop_1 : decode cX7_loop 1 = .ok (.bipush 108, 2) := by decide +kernel
theorem dX7_loop_3 : decode cX7_loop 3 = .ok (.iconst 0, 1) := by decide +kernel
theorem dX7_loop_4 : decode cX7_loop 4 = .ok (.iconst 0, 1) := by decide +kernel
theorem dX7_loop_5 : decode cX7_loop 5 = .ok (.iconst 0, 1) := by decide +kernel
theorem dX7_loop_6 : decode cX7_loop 6 = .ok (.iconst 0, 1) := by decide +kernel
theorem dX7_loop_7 : decode cX7_loop 7 = .ok (.invokevirtual 217, 3) := by decide +kernel
theorem dX7_loop_10 : decode cX7_loop 10 = .ok (.ireturn, 1) := by decide +kernel
theorem dX7_splice_0 : decode cX7_splice 0 = .ok (.aload_n 0, 1) := by decide +kernel
theorem dX7_splice_1 : decode cX7_splice 1 = .ok (.bipush 99, 2) := by decide +kernel
theorem dX7_splice_3 : decode cX7_splice 3 = .ok (.iload_n 1, 1) := by decide +kernel
theorem dX7_splice_4 : decode cX7_splice 4 = .ok (.iload_n 2, 1) := by decide +kernel
theorem dX7_splice_5 : decode cX7_splice 5 = .ok (.iload_n 3, 1) := by decide +kernel
theorem dX7_splice_6 : decode cX7_splice 6 = .ok (.iload 4, 2) := by decide +kernel
theorem dX7_splice_8 : decode cX7_splice 8 = .ok (.invokevirtual 217, 3) := by decide +kernel
theorem dX7_splice_11 : decode cX7_splice 11 = .ok (.ireturn, 1) := by decide +kernel
theorem dX7_unsplice_0 : decode cX7_unsplice 0 = .ok (.aload_n 0, 1) := by decide +kernel
theorem dX7_unsplice_1 : decode cX7_unsplice 1 = .ok (.bipush 117, 2) := by decide +kernel
theorem dX7_unsplice_3 : decode cX7_unsplice 3 = .ok (.iload_n 1, 1) := by decide +kernel
theorem dX7_unsplice_4 : decode cX7_unsplice 4 = .ok (.iconst 0, 1) := by decide +kernel
theorem dX7_unsplice_5 : decode cX7_unsplice 5 = .ok (.iconst 0, 1) := by decide +kernel
theorem dX7_unsplice_6 : decode cX7_unsplice 6 = .ok (.iconst 0, 1) := by decide +kernel
theorem dX7_unsplice_7 : decode cX7_unsplice 7 = .ok (.invokevirtual 217, 3) := by decide +kernel
theorem dX7_unsplice_10 : decode cX7_unsplice 10 = .ok (.ireturn, 1) := by decide +kernel
theorem dX7_speed_0 : decode cX7_speed 0 = .ok (.aload_n 0, 1) := by decide +kernel
theorem dX7_speed_1 : decode cX7_speed 1 = .ok (.bipush 118, 2) := by decide +kernel
theorem dX7_speed_3 : decode cX7_speed 3 = .ok (.iload_n 1, 1) := by decide +kernel
theorem dX7_speed_4 : decode cX7_speed 4 = .ok (.iload_n 2, 1) := by decide +kernel
theorem dX7_speed_5 : decode cX7_speed 5 = .ok (.iload_n 3, 1) := by decide +kernel
theorem dX7_speed_6 : decode cX7_speed 6 = .ok (.iconst 0, 1) := by decide +kernel
theorem dX7_speed_7 : decode cX7_speed 7 = .ok (.invokevirtual 217, 3) := by decide +kernel
theorem dX7_speed_10 : decode cX7_speed 10 = .ok (.ireturn, 1) := by decide +kernel
theorem dX7_mute_0 : decode cX7_mute 0 = .ok (.aload_n 0, 1) := by decide +kernel
theorem dX7_mute_1 : decode cX7_mute 1 = .ok (.bipush 109, 2) := by decide +kernel
theorem dX7_mute_3 : decode cX7_mute 3 = .ok (.iload_n 1, 1) := by decide +kernel
theorem dX7_mute_4 : decode cX7_mute 4 = .ok (.iload_n 2, 1) := by decide +kernel
theorem dX7_mute_5 : decode cX7_mute 5 = .ok (.ifCond .eq 7, 3) := by decide +kernel
theorem dX7_mute_8 : decode cX7_mute 8 = .ok (.iconst 1, 1) := by decide +kernel
theorem dX7_mute_9 : decode cX7_mute 9 = .ok (.goto 4, 3) := by decide +kernel
theorem dX7_mute_12 : decode cX7_mute 12 = .ok (.iconst 0, 1) := by decide +kernel
theorem dX7_mute_13 : decode cX7_mute 13 = .ok (.iconst 0, 1) := by decide +kernel
theorem dX7_mute_14 : decode cX7_mute 14 = .ok (.iconst 0, 1) := by decide +kernel
theorem dX7_mute_15 : decode cX7_mute 15 = .ok (.invokevirtual 217, 3) := by decide +kernel
theorem dX7_mute_18 : decode cX7_mute 18 = .ok (.ireturn, 1) := by decide +kernel
theorem dX7_ticks_0 : decode cX7_ticks 0 = .ok (.aload_n 0, 1) := by decide +kernel
theorem dX7_ticks_1 : decode cX7_ticks 1 = .ok (.bipush 116, 2) := by decide +kernel
theorem dX7_ticks_3 : decode cX7_ticks 3 = .ok (.iload_n 1, 1) := by decide +kernel
theorem dX7_ticks_4 : decode cX7_ticks 4 = .ok (.iconst 0, 1) := by decide +kernel
theorem dX7_ticks_5 : decode cX7_ticks 5 = .ok (.iconst 0, 1) := by decide +kernel
theorem dX7_ticks_6 : decode cX7_ticks 6 = .ok (.iconst 0, 1) := by decide +kernel
theorem dX7_ticks_7 : decode cX7_ticks 7 = .ok (.invokevirtual 217, 3) := by decide +kernel
theorem dX7_ticks_10 : decode cX7_ticks 10 = .ok (.ireturn, 1) := by decide +kernel
theorem dX7_record_0 : decode cX7_record 0 = .ok (.aload_n 0, 1) := by decide +kernel
theorem dX7_record_1 : decode cX7_record 1 = .ok (.bipush 119, 2) := by decide +kernel
theorem dX7_record_3 : decode cX7_record 3 = .ok (.iload_n 1, 1) := by decide +kernel
theorem dX7_record_4 : decode cX7_record 4 = .ok (.iload_n 2, 1) := by decide +kernel
theorem dX7_record_5 : decode cX7_record 5 = .ok (.iconst 0, 1) := by decide +kernel
theorem dX7_record_6 : decode cX7_record 6 = .ok (.iconst 0, 1) := by decide +kernel
theorem dX7_record_7 : decode cX7_record 7 = .ok (.invokevirtual 217, 3) := by decide +kernel
theorem dX7_record_10 : decode cX7_record 10 = .ok (.ireturn, 1) := by decide +kernel
theorem dX7_undo_0 : decode cX7_undo 0 = .ok (.aload_n 0, 1) := by decide +kernel
theorem dX7_undo_1 : decode cX7_undo 1 = .ok (.getfield 22, 3) := by decide +kernel
theorem dX7_undo_4 : decode cX7_undo 4 = .ok (.getfield 221, 3) := by decide +kernel
theorem dX7_undo_7 : decode cX7_undo 7 = .ok (.ifCond .ne 13, 3) := by decide +kernel
theorem dX7_undo_10 : decode cX7_undo 10 = .ok (.new 58, 3) := by decide +kernel
theorem dX7_undo_13 : decode cX7_undo 13 = .ok (.dup, 1) := by decide +kernel
theorem dX7_undo_14 : decode cX7_undo 14 = .ok (.ldc 224, 2) := by decide +kernel
theorem dX7_undo_16 : decode cX7_undo 16 = .ok (.invokespecial 62, 3) := by decide +kernel
theorem dX7_undo_19 : decode cX7_undo 19 = .ok (.athrow, 1) := by decide +kernel
theorem dX7_undo_20 : decode cX7_undo 20 = .ok (.aload_n 0, 1) := by decide +kernel
theorem dX7_undo_21 : decode cX7_undo 21 = .ok (.getfield 22, 3) := by decide +kernel
theorem dX7_undo_24 : decode cX7_undo 24 = .ok (.aload_n 0, 1) := by decide +kernel
theorem dX7_undo_25 : decode cX7_undo 25 = .ok (.getfield 10, 3) := by decide +kernel
theorem dX7_undo_28 : decode cX7_undo 28 = .ok (.invokevirtual 226, 3) := by decide +kernel
theorem dX7_undo_31 : decode cX7_undo 31 = .ok (.ireturn, 1) := by decide +kernel
theorem dX7_act_0 : decode cX7_act 0 = .ok (.aload_n 0, 1) := by decide +kernel
theorem dX7_act_1 : decode cX7_act 1 = .ok (.getfield 10, 3) := by decide +kernel
theorem dX7_act_4 : decode cX7_act 4 = .ok (.iload_n 1, 1) := by decide +kernel
theorem dX7_act_5 : decode cX7_act 5 = .ok (.iload_n 2, 1) := by decide +kernel
theorem dX7_act_6 : decode cX7_act 6 = .ok (.iload_n 3, 1) := by decide +kernel
theorem dX7_act_7 : decode cX7_act 7 = .ok (.iload 4, 2) := by decide +kernel
theorem dX7_act_9 : decode cX7_act 9 = .ok (.iload 5, 2) := by decide +kernel
theorem dX7_act_11 : decode cX7_act 11 = .ok (.invokevirtual 230, 3) := by decide +kernel
theorem dX7_act_14 : decode cX7_act 14 = .ok (.invokestatic 233, 3) := by decide +kernel
theorem dX7_act_17 : decode cX7_act 17 = .ok (.aload_n 0, 1) := by decide +kernel
theorem dX7_act_18 : decode cX7_act 18 = .ok (.getfield 22, 3) := by decide +kernel
theorem dX7_act_21 : decode cX7_act 21 = .ok (.aload_n 0, 1) := by decide +kernel
theorem dX7_act_22 : decode cX7_act 22 = .ok (.getfield 10, 3) := by decide +kernel
theorem dX7_act_25 : decode cX7_act 25 = .ok (.invokevirtual 237, 3) := by decide +kernel
theorem dX7_act_28 : decode cX7_act 28 = .ok (.aload_n 0, 1) := by decide +kernel
theorem dX7_act_29 : decode cX7_act 29 = .ok (.getfield 10, 3) := by decide +kernel
theorem dX7_act_32 : decode cX7_act 32 = .ok (.iload_n 1, 1) := by decide +kernel
theorem dX7_act_33 : decode cX7_act 33 = .ok (.iload_n 2, 1) := by decide +kernel
theorem dX7_act_34 : decode cX7_act 34 = .ok (.iload_n 3, 1) := by decide +kernel
theorem dX7_act_35 : decode cX7_act 35 = .ok (.iload 4, 2) := by decide +kernel
theorem dX7_act_37 : decode cX7_act 37 = .ok (.iload 5, 2) := by decide +kernel
theorem dX7_act_39 : decode cX7_act 39 = .ok (.invokevirtual 241, 3) := by decide +kernel
theorem dX7_act_42 : decode cX7_act 42 = .ok (.ireturn, 1) := by decide +kernel
theorem dX7_throwFor_0 : decode cX7_throwFor 0 = .ok (.iload_n 0, 1) := by decide +kernel
theorem dX7_throwFor_1 : decode cX7_throwFor 1 = .ok (.iconst 1, 1) := by decide +kernel
theorem dX7_throwFor_2 : decode cX7_throwFor 2 = .ok (.if_icmp .ne 13, 3) := by decide +kernel
theorem dX7_throwFor_5 : decode cX7_throwFor 5 = .ok (.new 133, 3) := by decide +kernel
theorem dX7_throwFor_8 : decode cX7_throwFor 8 = .ok (.dup, 1) := by decide +kernel
theorem dX7_throwFor_9 : decode cX7_throwFor 9 = .ok (.ldc 244, 2) := by decide +kernel
theorem dX7_throwFor_11 : decode cX7_throwFor 11 = .ok (.invokespecial 137, 3) := by decide +kernel
theorem dX7_throwFor_14 : decode cX7_throwFor 14 = .ok (.athrow, 1) := by decide +kernel
theorem dX7_throwFor_15 : decode cX7_throwFor 15 = .ok (.iload_n 0, 1) := by decide +kernel
theorem dX7_throwFor_16 : decode cX7_throwFor 16 = .ok (.iconst 2, 1) := by decide +kernel
theorem dX7_throwFor_17 : decode cX7_throwFor 17 = .ok (.if_icmp .ne 13, 3) := by decide +kernel
theorem dX7_throwFor_20 : decode cX7_throwFor 20 = .ok (.new 47, 3) := by decide +kernel
theorem dX7_throwFor_23 : decode cX7_throwFor 23 = .ok (.dup, 1) := by decide +kernel
theorem dX7_throwFor_24 : decode cX7_throwFor 24 = .ok (.ldc 246, 2) := by decide +kernel
theorem dX7_throwFor_26 : decode cX7_throwFor 26 = .ok (.invokespecial 51, 3) := by decide +kernel
theorem dX7_throwFor_29 : decode cX7_throwFor 29 = .ok (.athrow, 1) := by decide +kernel
theorem dX7_throwFor_30 : decode cX7_throwFor 30 = .ok (.iload_n 0, 1) := by decide +kernel
theorem dX7_throwFor_31 : decode cX7_throwFor 31 = .ok (.iconst 3, 1) := by decide +kernel
theorem dX7_throwFor_32 : decode cX7_throwFor 32 = .ok (.if_icmp .ne 13, 3) := by decide +kernel
theorem dX7_throwFor_35 : decode cX7_throwFor 35 = .ok (.new 58, 3) := by decide +kernel
theorem dX7_throwFor_38 : decode cX7_throwFor 38 = .ok (.dup, 1) := by decide +kernel
theorem dX7_throwFor_39 : decode cX7_throwFor 39 = .ok (.ldc 248, 2) := by decide +kernel
theorem dX7_throwFor_41 : decode cX7_throwFor 41 = .ok (.invokespecial 62, 3) := by decide +kernel
theorem dX7_throwFor_44 : decode cX7_throwFor 44 = .ok (.athrow, 1) := by decide +kernel
theorem dX7_throwFor_45 : decode cX7_throwFor 45 = .ok (.return_, 1) := by decide +kernel
theorem dX7_soundIn_0 : decode cX7_soundIn 0 = .ok (.iload_n 1, 1) := by decide +kernel
theorem dX7_soundIn_1 : decode cX7_soundIn 1 = .ok (.iconst 0, 1) := by decide +kernel
theorem dX7_soundIn_2 : decode cX7_soundIn 2 = .ok (.ldc 250, 2) := by decide +kernel
theorem dX7_soundIn_4 : decode cX7_soundIn 4 = .ok (.invokestatic 43, 3) := by decide +kernel
theorem dX7_soundIn_7 : decode cX7_soundIn 7 = .ok (.ifCond .eq 13, 3) := by decide +kernel
theorem dX7_soundIn_10 : decode cX7_soundIn 10 = .ok (.new 47, 3) := by decide +kernel
theorem dX7_soundIn_13 : decode cX7_soundIn 13 = .ok (.dup, 1) := by decide +kernel
theorem dX7_soundIn_14 : decode cX7_soundIn 14 = .ok (.ldc 251, 2) := by decide +kernel
theorem dX7_soundIn_16 : decode cX7_soundIn 16 = .ok (.invokespecial 51, 3) := by decide +kernel
theorem dX7_soundIn_19 : decode cX7_soundIn 19 = .ok (.athrow, 1) := by decide +kernel
theorem dX7_soundIn_20 : decode cX7_soundIn 20 = .ok (.aload_n 0, 1) := by decide +kernel
theorem dX7_soundIn_21 : decode cX7_soundIn 21 = .ok (.getfield 10, 3) := by decide +kernel
theorem dX7_soundIn_24 : decode cX7_soundIn 24 = .ok (.iload_n 1, 1) := by decide +kernel
theorem dX7_soundIn_25 : decode cX7_soundIn 25 = .ok (.invokevirtual 114, 3) := by decide +kernel
theorem dX7_soundIn_28 : decode cX7_soundIn 28 = .ok (.ireturn, 1) := by decide +kernel
theorem dX7_meet_0 : decode cX7_meet 0 = .ok (.aload_n 0, 1) := by decide +kernel
theorem dX7_meet_1 : decode cX7_meet 1 = .ok (.getfield 10, 3) := by decide +kernel
theorem dX7_meet_4 : decode cX7_meet 4 = .ok (.iload_n 1, 1) := by decide +kernel
theorem dX7_meet_5 : decode cX7_meet 5 = .ok (.invokevirtual 184, 3) := by decide +kernel
theorem dX7_meet_8 : decode cX7_meet 8 = .ok (.astore 4, 2) := by decide +kernel
theorem dX7_meet_10 : decode cX7_meet 10 = .ok (.aload_n 0, 1) := by decide +kernel
theorem dX7_meet_11 : decode cX7_meet 11 = .ok (.getfield 10, 3) := by decide +kernel
theorem dX7_meet_14 : decode cX7_meet 14 = .ok (.iload_n 2, 1) := by decide +kernel
theorem dX7_meet_15 : decode cX7_meet 15 = .ok (.invokevirtual 184, 3) := by decide +kernel
theorem dX7_meet_18 : decode cX7_meet 18 = .ok (.astore 5, 2) := by decide +kernel
theorem dX7_meet_20 : decode cX7_meet 20 = .ok (.aload 4, 2) := by decide +kernel
theorem dX7_meet_22 : decode cX7_meet 22 = .ok (.ifnull 8, 3) := by decide +kernel
theorem dX7_meet_25 : decode cX7_meet 25 = .ok (.aload 5, 2) := by decide +kernel
theorem dX7_meet_27 : decode cX7_meet 27 = .ok (.ifnonnull 13, 3) := by decide +kernel
theorem dX7_meet_30 : decode cX7_meet 30 = .ok (.new 133, 3) := by decide +kernel
theorem dX7_meet_33 : decode cX7_meet 33 = .ok (.dup, 1) := by decide +kernel
theorem dX7_meet_34 : decode cX7_meet 34 = .ok (.ldc 188, 2) := by decide +kernel
theorem dX7_meet_36 : decode cX7_meet 36 = .ok (.invokespecial 137, 3) := by decide +kernel
theorem dX7_meet_39 : decode cX7_meet 39 = .ok (.athrow, 1) := by decide +kernel
theorem dX7_meet_40 : decode cX7_meet 40 = .ok (.iload_n 3, 1) := by decide +kernel
theorem dX7_meet_41 : decode cX7_meet 41 = .ok (.iconst 0, 1) := by decide +kernel
theorem dX7_meet_42 : decode cX7_meet 42 = .ok (.iconst 1, 1) := by decide +kernel
theorem dX7_meet_43 : decode cX7_meet 43 = .ok (.invokestatic 43, 3) := by decide +kernel
theorem dX7_meet_46 : decode cX7_meet 46 = .ok (.ifCond .eq 13, 3) := by decide +kernel
theorem dX7_meet_49 : decode cX7_meet 49 = .ok (.new 47, 3) := by decide +kernel
theorem dX7_meet_52 : decode cX7_meet 52 = .ok (.dup, 1) := by decide +kernel
theorem dX7_meet_53 : decode cX7_meet 53 = .ok (.ldc 253, 2) := by decide +kernel
theorem dX7_meet_55 : decode cX7_meet 55 = .ok (.invokespecial 51, 3) := by decide +kernel
theorem dX7_meet_58 : decode cX7_meet 58 = .ok (.athrow, 1) := by decide +kernel
theorem dX7_meet_59 : decode cX7_meet 59 = .ok (.iload_n 3, 1) := by decide +kernel
theorem dX7_meet_60 : decode cX7_meet 60 = .ok (.ifCond .ne 13, 3) := by decide +kernel
theorem dX7_meet_63 : decode cX7_meet 63 = .ok (.aload 4, 2) := by decide +kernel
theorem dX7_meet_65 : decode cX7_meet 65 = .ok (.aload 5, 2) := by decide +kernel
theorem dX7_meet_67 : decode cX7_meet 67 = .ok (.invokestatic 255, 3) := by decide +kernel
theorem dX7_meet_70 : decode cX7_meet 70 = .ok (.goto 10, 3) := by decide +kernel
theorem dX7_meet_73 : decode cX7_meet 73 = .ok (.aload 4, 2) := by decide +kernel
theorem dX7_meet_75 : decode cX7_meet 75 = .ok (.aload 5, 2) := by decide +kernel
theorem dX7_meet_77 : decode cX7_meet 77 = .ok (.invokestatic 261, 3) := by decide +kernel
theorem dX7_meet_80 : decode cX7_meet 80 = .ok (.ireturn, 1) := by decide +kernel
theorem dX7_meetAll_0 : decode cX7_meetAll 0 = .ok (.aload_n 0, 1) := by decide +kernel
theorem dX7_meetAll_1 : decode cX7_meetAll 1 = .ok (.getfield 10, 3) := by decide +kernel
theorem dX7_meetAll_4 : decode cX7_meetAll 4 = .ok (.invokestatic 264, 3) := by decide +kernel
theorem dX7_meetAll_7 : decode cX7_meetAll 7 = .ok (.ireturn, 1) := by decide +kernel
theorem dX7_loudest_0 : decode cX7_loudest 0 = .ok (.iload_n 1, 1) := by decide +kernel
theorem dX7_loudest_1 : decode cX7_loudest 1 = .ok (.iconst 1, 1) := by decide +kernel
theorem dX7_loudest_2 : decode cX7_loudest 2 = .ok (.sipush 2000, 3) := by decide +kernel
theorem dX7_loudest_5 : decode cX7_loudest 5 = .ok (.invokestatic 43, 3) := by decide +kernel
theorem dX7_loudest_8 : decode cX7_loudest 8 = .ok (.ifCond .ne 12, 3) := by decide +kernel
theorem dX7_loudest_11 : decode cX7_loudest 11 = .ok (.iload_n 2, 1) := by decide +kernel
theorem dX7_loudest_12 : decode cX7_loudest 12 = .ok (.iconst 0, 1) := by decide +kernel
theorem dX7_loudest_13 : decode cX7_loudest 13 = .ok (.iconst 1, 1) := by decide +kernel
theorem dX7_loudest_14 : decode cX7_loudest 14 = .ok (.invokestatic 43, 3) := by decide +kernel
theorem dX7_loudest_17 : decode cX7_loudest 17 = .ok (.ifCond .eq 14, 3) := by decide +kernel
theorem dX7_loudest_20 : decode cX7_loudest 20 = .ok (.new 47, 3) := by decide +kernel
theorem dX7_loudest_23 : decode cX7_loudest 23 = .ok (.dup, 1) := by decide +kernel
theorem dX7_loudest_24 : decode cX7_loudest 24 = .ok (.ldc_w 267, 3) := by decide +kernel
theorem dX7_loudest_27 : decode cX7_loudest 27 = .ok (.invokespecial 51, 3) := by decide +kernel
theorem dX7_loudest_30 : decode cX7_loudest 30 = .ok (.athrow, 1) := by decide +kernel
theorem dX7_loudest_31 : decode cX7_loudest 31 = .ok (.aload_n 0, 1) := by decide +kernel
theorem dX7_loudest_32 : decode cX7_loudest 32 = .ok (.getfield 10, 3) := by decide +kernel
theorem dX7_loudest_35 : decode cX7_loudest 35 = .ok (.iconst 0, 1) := by decide +kernel
theorem dX7_loudest_36 : decode cX7_loudest 36 = .ok (.invokevirtual 114, 3) := by decide +kernel
theorem dX7_loudest_39 : decode cX7_loudest 39 = .ok (.istore_n 3, 1) := by decide +kernel
theorem dX7_loudest_40 : decode cX7_loudest 40 = .ok (.iconst 0, 1) := by decide +kernel
theorem dX7_loudest_41 : decode cX7_loudest 41 = .ok (.istore 4, 2) := by decide +kernel
theorem dX7_loudest_43 : decode cX7_loudest 43 = .ok (.iconst 1, 1) := by decide +kernel
theorem dX7_loudest_44 : decode cX7_loudest 44 = .ok (.istore 5, 2) := by decide +kernel
theorem dX7_loudest_46 : decode cX7_loudest 46 = .ok (.iload 5, 2) := by decide +kernel
theorem dX7_loudest_48 : decode cX7_loudest 48 = .ok (.iload_n 1, 1) := by decide +kernel
theorem dX7_loudest_49 : decode cX7_loudest 49 = .ok (.if_icmp .gt 33, 3) := by decide +kernel
theorem dX7_loudest_52 : decode cX7_loudest 52 = .ok (.aload_n 0, 1) := by decide +kernel
theorem dX7_loudest_53 : decode cX7_loudest 53 = .ok (.getfield 10, 3) := by decide +kernel
theorem dX7_loudest_56 : decode cX7_loudest 56 = .ok (.iload 5, 2) := by decide +kernel
theorem dX7_loudest_58 : decode cX7_loudest 58 = .ok (.invokevirtual 114, 3) := by decide +kernel
theorem dX7_loudest_61 : decode cX7_loudest 61 = .ok (.istore 6, 2) := by decide +kernel
theorem dX7_loudest_63 : decode cX7_loudest 63 = .ok (.iload 6, 2) := by decide +kernel
theorem dX7_loudest_65 : decode cX7_loudest 65 = .ok (.iload_n 3, 1) := by decide +kernel
theorem dX7_loudest_66 : decode cX7_loudest 66 = .ok (.if_icmp .le 10, 3) := by decide +kernel
theorem dX7_loudest_69 : decode cX7_loudest 69 = .ok (.iload 6, 2) := by decide +kernel
theorem dX7_loudest_71 : decode cX7_loudest 71 = .ok (.istore_n 3, 1) := by decide +kernel
theorem dX7_loudest_72 : decode cX7_loudest 72 = .ok (.iload 5, 2) := by decide +kernel
theorem dX7_loudest_74 : decode cX7_loudest 74 = .ok (.istore 4, 2) := by decide +kernel
theorem dX7_loudest_76 : decode cX7_loudest 76 = .ok (.iinc 5 1, 3) := by decide +kernel
theorem dX7_loudest_79 : decode cX7_loudest 79 = .ok (.goto (-33), 3) := by decide +kernel
theorem dX7_loudest_82 : decode cX7_loudest 82 = .ok (.iload_n 2, 1) := by decide +kernel
theorem dX7_loudest_83 : decode cX7_loudest 83 = .ok (.ifCond .ne 7, 3) := by decide +kernel
theorem dX7_loudest_86 : decode cX7_loudest 86 = .ok (.iload_n 3, 1) := by decide +kernel
theorem dX7_loudest_87 : decode cX7_loudest 87 = .ok (.goto 5, 3) := by decide +kernel
theorem dX7_loudest_90 : decode cX7_loudest 90 = .ok (.iload 4, 2) := by decide +kernel
theorem dX7_loudest_92 : decode cX7_loudest 92 = .ok (.ireturn, 1) := by decide +kernel
theorem dX7_turnedBy_0 : decode cX7_turnedBy 0 = .ok (.aload_n 0, 1) := by decide +kernel
theorem dX7_turnedBy_1 : decode cX7_turnedBy 1 = .ok (.getfield 10, 3) := by decide +kernel
theorem dX7_turnedBy_4 : decode cX7_turnedBy 4 = .ok (.iload_n 1, 1) := by decide +kernel
theorem dX7_turnedBy_5 : decode cX7_turnedBy 5 = .ok (.invokevirtual 184, 3) := by decide +kernel
theorem dX7_turnedBy_8 : decode cX7_turnedBy 8 = .ok (.astore_n 3, 1) := by decide +kernel
theorem dX7_turnedBy_9 : decode cX7_turnedBy 9 = .ok (.aload_n 0, 1) := by decide +kernel
theorem dX7_turnedBy_10 : decode cX7_turnedBy 10 = .ok (.getfield 10, 3) := by decide +kernel
theorem dX7_turnedBy_13 : decode cX7_turnedBy 13 = .ok (.iload_n 2, 1) := by decide +kernel
theorem dX7_turnedBy_14 : decode cX7_turnedBy 14 = .ok (.invokevirtual 184, 3) := by decide +kernel
theorem dX7_turnedBy_17 : decode cX7_turnedBy 17 = .ok (.astore 4, 2) := by decide +kernel
theorem dX7_turnedBy_19 : decode cX7_turnedBy 19 = .ok (.aload_n 3, 1) := by decide +kernel
theorem dX7_turnedBy_20 : decode cX7_turnedBy 20 = .ok (.ifnull 8, 3) := by decide +kernel
theorem dX7_turnedBy_23 : decode cX7_turnedBy 23 = .ok (.aload 4, 2) := by decide +kernel
theorem dX7_turnedBy_25 : decode cX7_turnedBy 25 = .ok (.ifnonnull 13, 3) := by decide +kernel
theorem dX7_turnedBy_28 : decode cX7_turnedBy 28 = .ok (.new 133, 3) := by decide +kernel
theorem dX7_turnedBy_31 : decode cX7_turnedBy 31 = .ok (.dup, 1) := by decide +kernel
theorem dX7_turnedBy_32 : decode cX7_turnedBy 32 = .ok (.ldc 188, 2) := by decide +kernel
theorem dX7_turnedBy_34 : decode cX7_turnedBy 34 = .ok (.invokespecial 137, 3) := by decide +kernel
theorem dX7_turnedBy_37 : decode cX7_turnedBy 37 = .ok (.athrow, 1) := by decide +kernel
theorem dX7_turnedBy_38 : decode cX7_turnedBy 38 = .ok (.aload_n 3, 1) := by decide +kernel
theorem dX7_turnedBy_39 : decode cX7_turnedBy 39 = .ok (.getfield 190, 3) := by decide +kernel
theorem dX7_turnedBy_42 : decode cX7_turnedBy 42 = .ok (.aload 4, 2) := by decide +kernel
theorem dX7_turnedBy_44 : decode cX7_turnedBy 44 = .ok (.getfield 190, 3) := by decide +kernel
theorem dX7_turnedBy_47 : decode cX7_turnedBy 47 = .ok (.if_icmp .eq 5, 3) := by decide +kernel
theorem dX7_turnedBy_50 : decode cX7_turnedBy 50 = .ok (.iconst (-1), 1) := by decide +kernel
theorem dX7_turnedBy_51 : decode cX7_turnedBy 51 = .ok (.ireturn, 1) := by decide +kernel
theorem dX7_turnedBy_52 : decode cX7_turnedBy 52 = .ok (.iconst 0, 1) := by decide +kernel
theorem dX7_turnedBy_53 : decode cX7_turnedBy 53 = .ok (.istore 5, 2) := by decide +kernel
theorem dX7_turnedBy_55 : decode cX7_turnedBy 55 = .ok (.iload 5, 2) := by decide +kernel
theorem dX7_turnedBy_57 : decode cX7_turnedBy 57 = .ok (.aload 4, 2) := by decide +kernel
theorem dX7_turnedBy_59 : decode cX7_turnedBy 59 = .ok (.getfield 190, 3) := by decide +kernel
theorem dX7_turnedBy_62 : decode cX7_turnedBy 62 = .ok (.if_icmp .ge 23, 3) := by decide +kernel
theorem dX7_turnedBy_65 : decode cX7_turnedBy 65 = .ok (.aload_n 3, 1) := by decide +kernel
theorem dX7_turnedBy_66 : decode cX7_turnedBy 66 = .ok (.aload 4, 2) := by decide +kernel
theorem dX7_turnedBy_68 : decode cX7_turnedBy 68 = .ok (.iload 5, 2) := by decide +kernel
theorem dX7_turnedBy_70 : decode cX7_turnedBy 70 = .ok (.invokevirtual 269, 3) := by decide +kernel
theorem dX7_turnedBy_73 : decode cX7_turnedBy 73 = .ok (.ifCond .eq 6, 3) := by decide +kernel
theorem dX7_turnedBy_76 : decode cX7_turnedBy 76 = .ok (.iload 5, 2) := by decide +kernel
theorem dX7_turnedBy_78 : decode cX7_turnedBy 78 = .ok (.ireturn, 1) := by decide +kernel
theorem dX7_turnedBy_79 : decode cX7_turnedBy 79 = .ok (.iinc 5 1, 3) := by decide +kernel
theorem dX7_turnedBy_82 : decode cX7_turnedBy 82 = .ok (.goto (-27), 3) := by decide +kernel
theorem dX7_turnedBy_85 : decode cX7_turnedBy 85 = .ok (.iconst (-1), 1) := by decide +kernel
theorem dX7_turnedBy_86 : decode cX7_turnedBy 86 = .ok (.ireturn, 1) := by decide +kernel
theorem dX7_runScript_0 : decode cX7_runScript 0 = .ok (.iload_n 1, 1) := by decide +kernel
theorem dX7_runScript_1 : decode cX7_runScript 1 = .ok (.iconst 1, 1) := by decide +kernel
theorem dX7_runScript_2 : decode cX7_runScript 2 = .ok (.iconst 2, 1) := by decide +kernel
theorem dX7_runScript_3 : decode cX7_runScript 3 = .ok (.invokestatic 43, 3) := by decide +kernel
theorem dX7_runScript_6 : decode cX7_runScript 6 = .ok (.ifCond .eq 13, 3) := by decide +kernel
theorem dX7_runScript_9 : decode cX7_runScript 9 = .ok (.new 47, 3) := by decide +kernel
theorem dX7_runScript_12 : decode cX7_runScript 12 = .ok (.dup, 1) := by decide +kernel
theorem dX7_runScript_13 : decode cX7_runScript 13 = .ok (.ldc 251, 2) := by decide +kernel
theorem dX7_runScript_15 : decode cX7_runScript 15 = .ok (.invokespecial 51, 3) := by decide +kernel
theorem dX7_runScript_18 : decode cX7_runScript 18 = .ok (.athrow, 1) := by decide +kernel
theorem dX7_runScript_19 : decode cX7_runScript 19 = .ok (.iload_n 1, 1) := by decide +kernel
theorem dX7_runScript_20 : decode cX7_runScript 20 = .ok (.iconst 1, 1) := by decide +kernel
theorem dX7_runScript_21 : decode cX7_runScript 21 = .ok (.if_icmp .ne 9, 3) := by decide +kernel
theorem dX7_runScript_24 : decode cX7_runScript 24 = .ok (.ldc2_w 273, 3) := by decide +kernel
theorem dX7_runScript_27 : decode cX7_runScript 27 = .ok (.goto 6, 3) := by decide +kernel
theorem dX7_runScript_30 : decode cX7_runScript 30 = .ok (.ldc2_w 275, 3) := by decide +kernel
theorem dX7_runScript_33 : decode cX7_runScript 33 = .ok (.lstore 4, 2) := by decide +kernel
theorem dX7_runScript_35 : decode cX7_runScript 35 = .ok (.lload_n 2, 1) := by decide +kernel
theorem dX7_runScript_36 : decode cX7_runScript 36 = .ok (.lconst 0, 1) := by decide +kernel
theorem dX7_runScript_37 : decode cX7_runScript 37 = .ok (.lcmp, 1) := by decide +kernel
theorem dX7_runScript_38 : decode cX7_runScript 38 = .ok (.ifCond .lt 10, 3) := by decide +kernel
theorem dX7_runScript_41 : decode cX7_runScript 41 = .ok (.lload_n 2, 1) := by decide +kernel
theorem dX7_runScript_42 : decode cX7_runScript 42 = .ok (.lload 4, 2) := by decide +kernel
theorem dX7_runScript_44 : decode cX7_runScript 44 = .ok (.lcmp, 1) := by decide +kernel
theorem dX7_runScript_45 : decode cX7_runScript 45 = .ok (.ifCond .lt 14, 3) := by decide +kernel
theorem dX7_runScript_48 : decode cX7_runScript 48 = .ok (.new 47, 3) := by decide +kernel
theorem dX7_runScript_51 : decode cX7_runScript 51 = .ok (.dup, 1) := by decide +kernel
theorem dX7_runScript_52 : decode cX7_runScript 52 = .ok (.ldc_w 277, 3) := by decide +kernel
theorem dX7_runScript_55 : decode cX7_runScript 55 = .ok (.invokespecial 51, 3) := by decide +kernel
theorem dX7_runScript_58 : decode cX7_runScript 58 = .ok (.athrow, 1) := by decide +kernel
theorem dX7_runScript_59 : decode cX7_runScript 59 = .ok (.aload_n 0, 1) := by decide +kernel
theorem dX7_runScript_60 : decode cX7_runScript 60 = .ok (.getfield 16, 3) := by decide +kernel
theorem dX7_runScript_63 : decode cX7_runScript 63 = .ok (.aload_n 0, 1) := by decide +kernel
theorem dX7_runScript_64 : decode cX7_runScript 64 = .ok (.getfield 10, 3) := by decide +kernel
theorem dX7_runScript_67 : decode cX7_runScript 67 = .ok (.invokevirtual 279, 3) := by decide +kernel
theorem dX7_runScript_70 : decode cX7_runScript 70 = .ok (.lload_n 2, 1) := by decide +kernel
theorem dX7_runScript_71 : decode cX7_runScript 71 = .ok (.ldc2_w 273, 3) := by decide +kernel
theorem dX7_runScript_74 : decode cX7_runScript 74 = .ok (.lrem, 1) := by decide +kernel
theorem dX7_runScript_75 : decode cX7_runScript 75 = .ok (.l2i, 1) := by decide +kernel
theorem dX7_runScript_76 : decode cX7_runScript 76 = .ok (.istore 6, 2) := by decide +kernel
theorem dX7_runScript_78 : decode cX7_runScript 78 = .ok (.iload_n 1, 1) := by decide +kernel
theorem dX7_runScript_79 : decode cX7_runScript 79 = .ok (.iconst 1, 1) := by decide +kernel
theorem dX7_runScript_80 : decode cX7_runScript 80 = .ok (.if_icmp .ne 21, 3) := by decide +kernel
theorem dX7_runScript_83 : decode cX7_runScript 83 = .ok (.aload_n 0, 1) := by decide +kernel
theorem dX7_runScript_84 : decode cX7_runScript 84 = .ok (.getfield 16, 3) := by decide +kernel
theorem dX7_runScript_87 : decode cX7_runScript 87 = .ok (.iload 6, 2) := by decide +kernel
theorem dX7_runScript_89 : decode cX7_runScript 89 = .ok (.invokevirtual 282, 3) := by decide +kernel
theorem dX7_runScript_92 : decode cX7_runScript 92 = .ok (.ifCond .eq 7, 3) := by decide +kernel
theorem dX7_runScript_95 : decode cX7_runScript 95 = .ok (.iconst (-1), 1) := by decide +kernel
theorem dX7_runScript_96 : decode cX7_runScript 96 = .ok (.goto 4, 3) := by decide +kernel
theorem dX7_runScript_99 : decode cX7_runScript 99 = .ok (.iconst 0, 1) := by decide +kernel
theorem dX7_runScript_100 : decode cX7_runScript 100 = .ok (.ireturn, 1) := by decide +kernel
theorem dX7_runScript_101 : decode cX7_runScript 101 = .ok (.aload_n 0, 1) := by decide +kernel
theorem dX7_runScript_102 : decode cX7_runScript 102 = .ok (.getfield 16, 3) := by decide +kernel
theorem dX7_runScript_105 : decode cX7_runScript 105 = .ok (.lload_n 2, 1) := by decide +kernel
theorem dX7_runScript_106 : decode cX7_runScript 106 = .ok (.ldc2_w 273, 3) := by decide +kernel
theorem dX7_runScript_109 : decode cX7_runScript 109 = .ok (.ldiv, 1) := by decide +kernel
theorem dX7_runScript_110 : decode cX7_runScript 110 = .ok (.l2i, 1) := by decide +kernel
theorem dX7_runScript_111 : decode cX7_runScript 111 = .ok (.invokevirtual 282, 3) := by decide +kernel
theorem dX7_runScript_114 : decode cX7_runScript 114 = .ok (.ifCond .ne 5, 3) := by decide +kernel
theorem dX7_runScript_117 : decode cX7_runScript 117 = .ok (.iconst 0, 1) := by decide +kernel
theorem dX7_runScript_118 : decode cX7_runScript 118 = .ok (.ireturn, 1) := by decide +kernel
theorem dX7_runScript_119 : decode cX7_runScript 119 = .ok (.aload_n 0, 1) := by decide +kernel
theorem dX7_runScript_120 : decode cX7_runScript 120 = .ok (.getfield 16, 3) := by decide +kernel
theorem dX7_runScript_123 : decode cX7_runScript 123 = .ok (.iload 6, 2) := by decide +kernel
theorem dX7_runScript_125 : decode cX7_runScript 125 = .ok (.invokevirtual 282, 3) := by decide +kernel
theorem dX7_runScript_128 : decode cX7_runScript 128 = .ok (.ifCond .eq 7, 3) := by decide +kernel
theorem dX7_runScript_131 : decode cX7_runScript 131 = .ok (.iconst (-1), 1) := by decide +kernel
theorem dX7_runScript_132 : decode cX7_runScript 132 = .ok (.goto 4, 3) := by decide +kernel
theorem dX7_runScript_135 : decode cX7_runScript 135 = .ok (.iconst 1, 1) := by decide +kernel
theorem dX7_runScript_136 : decode cX7_runScript 136 = .ok (.ireturn, 1) := by decide +kernel
theorem dX7_simulate_0 : decode cX7_simulate 0 = .ok (.iload_n 3, 1) := by decide +kernel
theorem dX7_simulate_1 : decode cX7_simulate 1 = .ok (.iconst 1, 1) := by decide +kernel
theorem dX7_simulate_2 : decode cX7_simulate 2 = .ok (.bipush 60, 2) := by decide +kernel
theorem dX7_simulate_4 : decode cX7_simulate 4 = .ok (.invokestatic 43, 3) := by decide +kernel
theorem dX7_simulate_7 : decode cX7_simulate 7 = .ok (.ifCond .eq 14, 3) := by decide +kernel
theorem dX7_simulate_10 : decode cX7_simulate 10 = .ok (.new 47, 3) := by decide +kernel
theorem dX7_simulate_13 : decode cX7_simulate 13 = .ok (.dup, 1) := by decide +kernel
theorem dX7_simulate_14 : decode cX7_simulate 14 = .ok (.ldc_w 285, 3) := by decide +kernel
theorem dX7_simulate_17 : decode cX7_simulate 17 = .ok (.invokespecial 51, 3) := by decide +kernel
theorem dX7_simulate_20 : decode cX7_simulate 20 = .ok (.athrow, 1) := by decide +kernel
theorem dX7_simulate_21 : decode cX7_simulate 21 = .ok (.aload_n 0, 1) := by decide +kernel
theorem dX7_simulate_22 : decode cX7_simulate 22 = .ok (.getfield 16, 3) := by decide +kernel
theorem dX7_simulate_25 : decode cX7_simulate 25 = .ok (.aload_n 0, 1) := by decide +kernel
theorem dX7_simulate_26 : decode cX7_simulate 26 = .ok (.getfield 10, 3) := by decide +kernel
theorem dX7_simulate_29 : decode cX7_simulate 29 = .ok (.invokevirtual 279, 3) := by decide +kernel
theorem dX7_simulate_32 : decode cX7_simulate 32 = .ok (.lload_n 1, 1) := by decide +kernel
theorem dX7_simulate_33 : decode cX7_simulate 33 = .ok (.lstore 4, 2) := by decide +kernel
theorem dX7_simulate_35 : decode cX7_simulate 35 = .ok (.iconst 0, 1) := by decide +kernel
theorem dX7_simulate_36 : decode cX7_simulate 36 = .ok (.istore 6, 2) := by decide +kernel
theorem dX7_simulate_38 : decode cX7_simulate 38 = .ok (.iload 6, 2) := by decide +kernel
theorem dX7_simulate_40 : decode cX7_simulate 40 = .ok (.iload_n 3, 1) := by decide +kernel
theorem dX7_simulate_41 : decode cX7_simulate 41 = .ok (.if_icmp .ge 31, 3) := by decide +kernel
theorem dX7_simulate_44 : decode cX7_simulate 44 = .ok (.lload 4, 2) := by decide +kernel
theorem dX7_simulate_46 : decode cX7_simulate 46 = .ok (.ldc2_w 287, 3) := by decide +kernel
theorem dX7_simulate_49 : decode cX7_simulate 49 = .ok (.lmul, 1) := by decide +kernel
theorem dX7_simulate_50 : decode cX7_simulate 50 = .ok (.ldc2_w 289, 3) := by decide +kernel
theorem dX7_simulate_53 : decode cX7_simulate 53 = .ok (.ladd, 1) := by decide +kernel
theorem dX7_simulate_54 : decode cX7_simulate 54 = .ok (.lstore 4, 2) := by decide +kernel
theorem dX7_simulate_56 : decode cX7_simulate 56 = .ok (.aload_n 0, 1) := by decide +kernel
theorem dX7_simulate_57 : decode cX7_simulate 57 = .ok (.lload 4, 2) := by decide +kernel
theorem dX7_simulate_59 : decode cX7_simulate 59 = .ok (.bipush 33, 2) := by decide +kernel
theorem dX7_simulate_61 : decode cX7_simulate 61 = .ok (.lushr, 1) := by decide +kernel
theorem dX7_simulate_62 : decode cX7_simulate 62 = .ok (.l2i, 1) := by decide +kernel
theorem dX7_simulate_63 : decode cX7_simulate 63 = .ok (.invokevirtual 291, 3) := by decide +kernel
theorem dX7_simulate_66 : decode cX7_simulate 66 = .ok (.iinc 6 1, 3) := by decide +kernel
theorem dX7_simulate_69 : decode cX7_simulate 69 = .ok (.goto (-31), 3) := by decide +kernel
theorem dX7_simulate_72 : decode cX7_simulate 72 = .ok (.sipush 1000, 3) := by decide +kernel
theorem dX7_simulate_75 : decode cX7_simulate 75 = .ok (.aload_n 0, 1) := by decide +kernel
theorem dX7_simulate_76 : decode cX7_simulate 76 = .ok (.getfield 16, 3) := by decide +kernel
theorem dX7_simulate_79 : decode cX7_simulate 79 = .ok (.invokevirtual 123, 3) := by decide +kernel
theorem dX7_simulate_82 : decode cX7_simulate 82 = .ok (.imul, 1) := by decide +kernel
theorem dX7_simulate_83 : decode cX7_simulate 83 = .ok (.aload_n 0, 1) := by decide +kernel
theorem dX7_simulate_84 : decode cX7_simulate 84 = .ok (.getfield 16, 3) := by decide +kernel
theorem dX7_simulate_87 : decode cX7_simulate 87 = .ok (.iconst 0, 1) := by decide +kernel
theorem dX7_simulate_88 : decode cX7_simulate 88 = .ok (.invokevirtual 114, 3) := by decide +kernel
theorem dX7_simulate_91 : decode cX7_simulate 91 = .ok (.iadd, 1) := by decide +kernel
theorem dX7_simulate_92 : decode cX7_simulate 92 = .ok (.ireturn, 1) := by decide +kernel
theorem dX7_takeTurn_0 : decode cX7_takeTurn 0 = .ok (.iload_n 1, 1) := by decide +kernel
theorem dX7_takeTurn_1 : decode cX7_takeTurn 1 = .ok (.bipush 16, 2) := by decide +kernel
theorem dX7_takeTurn_3 : decode cX7_takeTurn 3 = .ok (.idiv, 1) := by decide +kernel
theorem dX7_takeTurn_4 : decode cX7_takeTurn 4 = .ok (.istore_n 2, 1) := by decide +kernel
theorem dX7_takeTurn_5 : decode cX7_takeTurn 5 = .ok (.iload_n 1, 1) := by decide +kernel
theorem dX7_takeTurn_6 : decode cX7_takeTurn 6 = .ok (.bipush 16, 2) := by decide +kernel
theorem dX7_takeTurn_8 : decode cX7_takeTurn 8 = .ok (.irem, 1) := by decide +kernel
theorem dX7_takeTurn_9 : decode cX7_takeTurn 9 = .ok (.tableswitch 304 0 11 #[63, 85, 102, 102, 102, 147, 147, 147, 147, 193, 227, 278], 63) := by decide +kernel
theorem dX7_takeTurn_72 : decode cX7_takeTurn 72 = .ok (.aload_n 0, 1) := by decide +kernel
theorem dX7_takeTurn_73 : decode cX7_takeTurn 73 = .ok (.getfield 16, 3) := by decide +kernel
theorem dX7_takeTurn_76 : decode cX7_takeTurn 76 = .ok (.bipush 114, 2) := by decide +kernel
theorem dX7_takeTurn_78 : decode cX7_takeTurn 78 = .ok (.iconst 2, 1) := by decide +kernel
theorem dX7_takeTurn_79 : decode cX7_takeTurn 79 = .ok (.iload_n 2, 1) := by decide +kernel
theorem dX7_takeTurn_80 : decode cX7_takeTurn 80 = .ok (.bipush 59, 2) := by decide +kernel
theorem dX7_takeTurn_82 : decode cX7_takeTurn 82 = .ok (.irem, 1) := by decide +kernel
theorem dX7_takeTurn_83 : decode cX7_takeTurn 83 = .ok (.iadd, 1) := by decide +kernel
theorem dX7_takeTurn_84 : decode cX7_takeTurn 84 = .ok (.iconst 0, 1) := by decide +kernel
theorem dX7_takeTurn_85 : decode cX7_takeTurn 85 = .ok (.iconst 0, 1) := by decide +kernel
theorem dX7_takeTurn_86 : decode cX7_takeTurn 86 = .ok (.iconst 0, 1) := by decide +kernel
theorem dX7_takeTurn_87 : decode cX7_takeTurn 87 = .ok (.invokevirtual 99, 3) := by decide +kernel
theorem dX7_takeTurn_90 : decode cX7_takeTurn 90 = .ok (.pop, 1) := by decide +kernel
theorem dX7_takeTurn_91 : decode cX7_takeTurn 91 = .ok (.goto 241, 3) := by decide +kernel
theorem dX7_takeTurn_94 : decode cX7_takeTurn 94 = .ok (.aload_n 0, 1) := by decide +kernel
theorem dX7_takeTurn_95 : decode cX7_takeTurn 95 = .ok (.getfield 16, 3) := by decide +kernel
theorem dX7_takeTurn_98 : decode cX7_takeTurn 98 = .ok (.bipush 108, 2) := by decide +kernel
theorem dX7_takeTurn_100 : decode cX7_takeTurn 100 = .ok (.iconst 0, 1) := by decide +kernel
theorem dX7_takeTurn_101 : decode cX7_takeTurn 101 = .ok (.iconst 0, 1) := by decide +kernel
theorem dX7_takeTurn_102 : decode cX7_takeTurn 102 = .ok (.iconst 0, 1) := by decide +kernel
theorem dX7_takeTurn_103 : decode cX7_takeTurn 103 = .ok (.iconst 0, 1) := by decide +kernel
theorem dX7_takeTurn_104 : decode cX7_takeTurn 104 = .ok (.invokevirtual 99, 3) := by decide +kernel
theorem dX7_takeTurn_107 : decode cX7_takeTurn 107 = .ok (.pop, 1) := by decide +kernel
theorem dX7_takeTurn_108 : decode cX7_takeTurn 108 = .ok (.goto 224, 3) := by decide +kernel
theorem dX7_takeTurn_111 : decode cX7_takeTurn 111 = .ok (.aload_n 0, 1) := by decide +kernel
theorem dX7_takeTurn_112 : decode cX7_takeTurn 112 = .ok (.getfield 16, 3) := by decide +kernel
theorem dX7_takeTurn_115 : decode cX7_takeTurn 115 = .ok (.bipush 112, 2) := by decide +kernel
theorem dX7_takeTurn_117 : decode cX7_takeTurn 117 = .ok (.iload_n 2, 1) := by decide +kernel
theorem dX7_takeTurn_118 : decode cX7_takeTurn 118 = .ok (.iconst 3, 1) := by decide +kernel
theorem dX7_takeTurn_119 : decode cX7_takeTurn 119 = .ok (.irem, 1) := by decide +kernel
theorem dX7_takeTurn_120 : decode cX7_takeTurn 120 = .ok (.iload_n 2, 1) := by decide +kernel
theorem dX7_takeTurn_121 : decode cX7_takeTurn 121 = .ok (.iconst 4, 1) := by decide +kernel
theorem dX7_takeTurn_122 : decode cX7_takeTurn 122 = .ok (.idiv, 1) := by decide +kernel
theorem dX7_takeTurn_123 : decode cX7_takeTurn 123 = .ok (.bipush 60, 2) := by decide +kernel
theorem dX7_takeTurn_125 : decode cX7_takeTurn 125 = .ok (.irem, 1) := by decide +kernel
theorem dX7_takeTurn_126 : decode cX7_takeTurn 126 = .ok (.iload_n 2, 1) := by decide +kernel
theorem dX7_takeTurn_127 : decode cX7_takeTurn 127 = .ok (.iconst 4, 1) := by decide +kernel
theorem dX7_takeTurn_128 : decode cX7_takeTurn 128 = .ok (.idiv, 1) := by decide +kernel
theorem dX7_takeTurn_129 : decode cX7_takeTurn 129 = .ok (.bipush 60, 2) := by decide +kernel
theorem dX7_takeTurn_131 : decode cX7_takeTurn 131 = .ok (.irem, 1) := by decide +kernel
theorem dX7_takeTurn_132 : decode cX7_takeTurn 132 = .ok (.iload_n 2, 1) := by decide +kernel
theorem dX7_takeTurn_133 : decode cX7_takeTurn 133 = .ok (.sipush 256, 3) := by decide +kernel
theorem dX7_takeTurn_136 : decode cX7_takeTurn 136 = .ok (.idiv, 1) := by decide +kernel
theorem dX7_takeTurn_137 : decode cX7_takeTurn 137 = .ok (.bipush 8, 2) := by decide +kernel
theorem dX7_takeTurn_139 : decode cX7_takeTurn 139 = .ok (.irem, 1) := by decide +kernel
theorem dX7_takeTurn_140 : decode cX7_takeTurn 140 = .ok (.iadd, 1) := by decide +kernel
theorem dX7_takeTurn_141 : decode cX7_takeTurn 141 = .ok (.iload_n 2, 1) := by decide +kernel
theorem dX7_takeTurn_142 : decode cX7_takeTurn 142 = .ok (.sipush 2048, 3) := by decide +kernel
theorem dX7_takeTurn_145 : decode cX7_takeTurn 145 = .ok (.idiv, 1) := by decide +kernel
theorem dX7_takeTurn_146 : decode cX7_takeTurn 146 = .ok (.bipush 10, 2) := by decide +kernel
theorem dX7_takeTurn_148 : decode cX7_takeTurn 148 = .ok (.irem, 1) := by decide +kernel
theorem dX7_takeTurn_149 : decode cX7_takeTurn 149 = .ok (.invokevirtual 99, 3) := by decide +kernel
theorem dX7_takeTurn_152 : decode cX7_takeTurn 152 = .ok (.pop, 1) := by decide +kernel
theorem dX7_takeTurn_153 : decode cX7_takeTurn 153 = .ok (.goto 179, 3) := by decide +kernel
theorem dX7_takeTurn_156 : decode cX7_takeTurn 156 = .ok (.aload_n 0, 1) := by decide +kernel
theorem dX7_takeTurn_157 : decode cX7_takeTurn 157 = .ok (.getfield 16, 3) := by decide +kernel
theorem dX7_takeTurn_160 : decode cX7_takeTurn 160 = .ok (.bipush 99, 2) := by decide +kernel
theorem dX7_takeTurn_162 : decode cX7_takeTurn 162 = .ok (.iload_n 2, 1) := by decide +kernel
theorem dX7_takeTurn_163 : decode cX7_takeTurn 163 = .ok (.iconst 4, 1) := by decide +kernel
theorem dX7_takeTurn_164 : decode cX7_takeTurn 164 = .ok (.irem, 1) := by decide +kernel
theorem dX7_takeTurn_165 : decode cX7_takeTurn 165 = .ok (.iload_n 2, 1) := by decide +kernel
theorem dX7_takeTurn_166 : decode cX7_takeTurn 166 = .ok (.iconst 4, 1) := by decide +kernel
theorem dX7_takeTurn_167 : decode cX7_takeTurn 167 = .ok (.idiv, 1) := by decide +kernel
theorem dX7_takeTurn_168 : decode cX7_takeTurn 168 = .ok (.iconst 3, 1) := by decide +kernel
theorem dX7_takeTurn_169 : decode cX7_takeTurn 169 = .ok (.irem, 1) := by decide +kernel
theorem dX7_takeTurn_170 : decode cX7_takeTurn 170 = .ok (.iload_n 2, 1) := by decide +kernel
theorem dX7_takeTurn_171 : decode cX7_takeTurn 171 = .ok (.bipush 16, 2) := by decide +kernel
theorem dX7_takeTurn_173 : decode cX7_takeTurn 173 = .ok (.idiv, 1) := by decide +kernel
theorem dX7_takeTurn_174 : decode cX7_takeTurn 174 = .ok (.bipush 61, 2) := by decide +kernel
theorem dX7_takeTurn_176 : decode cX7_takeTurn 176 = .ok (.irem, 1) := by decide +kernel
theorem dX7_takeTurn_177 : decode cX7_takeTurn 177 = .ok (.iload_n 2, 1) := by decide +kernel
theorem dX7_takeTurn_178 : decode cX7_takeTurn 178 = .ok (.bipush 16, 2) := by decide +kernel
theorem dX7_takeTurn_180 : decode cX7_takeTurn 180 = .ok (.idiv, 1) := by decide +kernel
theorem dX7_takeTurn_181 : decode cX7_takeTurn 181 = .ok (.bipush 61, 2) := by decide +kernel
theorem dX7_takeTurn_183 : decode cX7_takeTurn 183 = .ok (.irem, 1) := by decide +kernel
theorem dX7_takeTurn_184 : decode cX7_takeTurn 184 = .ok (.iconst 1, 1) := by decide +kernel
theorem dX7_takeTurn_185 : decode cX7_takeTurn 185 = .ok (.iadd, 1) := by decide +kernel
theorem dX7_takeTurn_186 : decode cX7_takeTurn 186 = .ok (.iload_n 2, 1) := by decide +kernel
theorem dX7_takeTurn_187 : decode cX7_takeTurn 187 = .ok (.sipush 1024, 3) := by decide +kernel
theorem dX7_takeTurn_190 : decode cX7_takeTurn 190 = .ok (.idiv, 1) := by decide +kernel
theorem dX7_takeTurn_191 : decode cX7_takeTurn 191 = .ok (.bipush 20, 2) := by decide +kernel
theorem dX7_takeTurn_193 : decode cX7_takeTurn 193 = .ok (.irem, 1) := by decide +kernel
theorem dX7_takeTurn_194 : decode cX7_takeTurn 194 = .ok (.iadd, 1) := by decide +kernel
theorem dX7_takeTurn_195 : decode cX7_takeTurn 195 = .ok (.invokevirtual 99, 3) := by decide +kernel
theorem dX7_takeTurn_198 : decode cX7_takeTurn 198 = .ok (.pop, 1) := by decide +kernel
theorem dX7_takeTurn_199 : decode cX7_takeTurn 199 = .ok (.goto 133, 3) := by decide +kernel
theorem dX7_takeTurn_202 : decode cX7_takeTurn 202 = .ok (.aload_n 0, 1) := by decide +kernel
theorem dX7_takeTurn_203 : decode cX7_takeTurn 203 = .ok (.getfield 16, 3) := by decide +kernel
theorem dX7_takeTurn_206 : decode cX7_takeTurn 206 = .ok (.bipush 118, 2) := by decide +kernel
theorem dX7_takeTurn_208 : decode cX7_takeTurn 208 = .ok (.iload_n 2, 1) := by decide +kernel
theorem dX7_takeTurn_209 : decode cX7_takeTurn 209 = .ok (.iconst 4, 1) := by decide +kernel
theorem dX7_takeTurn_210 : decode cX7_takeTurn 210 = .ok (.irem, 1) := by decide +kernel
theorem dX7_takeTurn_211 : decode cX7_takeTurn 211 = .ok (.iconst 1, 1) := by decide +kernel
theorem dX7_takeTurn_212 : decode cX7_takeTurn 212 = .ok (.iload_n 2, 1) := by decide +kernel
theorem dX7_takeTurn_213 : decode cX7_takeTurn 213 = .ok (.iconst 4, 1) := by decide +kernel
theorem dX7_takeTurn_214 : decode cX7_takeTurn 214 = .ok (.idiv, 1) := by decide +kernel
theorem dX7_takeTurn_215 : decode cX7_takeTurn 215 = .ok (.bipush 9, 2) := by decide +kernel
theorem dX7_takeTurn_217 : decode cX7_takeTurn 217 = .ok (.irem, 1) := by decide +kernel
theorem dX7_takeTurn_218 : decode cX7_takeTurn 218 = .ok (.iadd, 1) := by decide +kernel
theorem dX7_takeTurn_219 : decode cX7_takeTurn 219 = .ok (.iconst 1, 1) := by decide +kernel
theorem dX7_takeTurn_220 : decode cX7_takeTurn 220 = .ok (.iload_n 2, 1) := by decide +kernel
theorem dX7_takeTurn_221 : decode cX7_takeTurn 221 = .ok (.bipush 64, 2) := by decide +kernel
theorem dX7_takeTurn_223 : decode cX7_takeTurn 223 = .ok (.idiv, 1) := by decide +kernel
theorem dX7_takeTurn_224 : decode cX7_takeTurn 224 = .ok (.bipush 9, 2) := by decide +kernel
theorem dX7_takeTurn_226 : decode cX7_takeTurn 226 = .ok (.irem, 1) := by decide +kernel
theorem dX7_takeTurn_227 : decode cX7_takeTurn 227 = .ok (.iadd, 1) := by decide +kernel
theorem dX7_takeTurn_228 : decode cX7_takeTurn 228 = .ok (.iconst 0, 1) := by decide +kernel
theorem dX7_takeTurn_229 : decode cX7_takeTurn 229 = .ok (.invokevirtual 99, 3) := by decide +kernel
theorem dX7_takeTurn_232 : decode cX7_takeTurn 232 = .ok (.pop, 1) := by decide +kernel
theorem dX7_takeTurn_233 : decode cX7_takeTurn 233 = .ok (.goto 99, 3) := by decide +kernel
theorem dX7_takeTurn_236 : decode cX7_takeTurn 236 = .ok (.iload_n 2, 1) := by decide +kernel
theorem dX7_takeTurn_237 : decode cX7_takeTurn 237 = .ok (.bipush 8, 2) := by decide +kernel
theorem dX7_takeTurn_239 : decode cX7_takeTurn 239 = .ok (.idiv, 1) := by decide +kernel
theorem dX7_takeTurn_240 : decode cX7_takeTurn 240 = .ok (.iconst 2, 1) := by decide +kernel
theorem dX7_takeTurn_241 : decode cX7_takeTurn 241 = .ok (.irem, 1) := by decide +kernel
theorem dX7_takeTurn_242 : decode cX7_takeTurn 242 = .ok (.ifCond .ne 26, 3) := by decide +kernel
theorem dX7_takeTurn_245 : decode cX7_takeTurn 245 = .ok (.aload_n 0, 1) := by decide +kernel
theorem dX7_takeTurn_246 : decode cX7_takeTurn 246 = .ok (.getfield 16, 3) := by decide +kernel
theorem dX7_takeTurn_249 : decode cX7_takeTurn 249 = .ok (.bipush 109, 2) := by decide +kernel
theorem dX7_takeTurn_251 : decode cX7_takeTurn 251 = .ok (.iload_n 2, 1) := by decide +kernel
theorem dX7_takeTurn_252 : decode cX7_takeTurn 252 = .ok (.iconst 4, 1) := by decide +kernel
theorem dX7_takeTurn_253 : decode cX7_takeTurn 253 = .ok (.irem, 1) := by decide +kernel
theorem dX7_takeTurn_254 : decode cX7_takeTurn 254 = .ok (.iload_n 2, 1) := by decide +kernel
theorem dX7_takeTurn_255 : decode cX7_takeTurn 255 = .ok (.iconst 4, 1) := by decide +kernel
theorem dX7_takeTurn_256 : decode cX7_takeTurn 256 = .ok (.idiv, 1) := by decide +kernel
theorem dX7_takeTurn_257 : decode cX7_takeTurn 257 = .ok (.iconst 2, 1) := by decide +kernel
theorem dX7_takeTurn_258 : decode cX7_takeTurn 258 = .ok (.irem, 1) := by decide +kernel
theorem dX7_takeTurn_259 : decode cX7_takeTurn 259 = .ok (.iconst 0, 1) := by decide +kernel
theorem dX7_takeTurn_260 : decode cX7_takeTurn 260 = .ok (.iconst 0, 1) := by decide +kernel
theorem dX7_takeTurn_261 : decode cX7_takeTurn 261 = .ok (.invokevirtual 99, 3) := by decide +kernel
theorem dX7_takeTurn_264 : decode cX7_takeTurn 264 = .ok (.pop, 1) := by decide +kernel
theorem dX7_takeTurn_265 : decode cX7_takeTurn 265 = .ok (.goto 67, 3) := by decide +kernel
theorem dX7_takeTurn_268 : decode cX7_takeTurn 268 = .ok (.aload_n 0, 1) := by decide +kernel
theorem dX7_takeTurn_269 : decode cX7_takeTurn 269 = .ok (.getfield 16, 3) := by decide +kernel
theorem dX7_takeTurn_272 : decode cX7_takeTurn 272 = .ok (.bipush 117, 2) := by decide +kernel
theorem dX7_takeTurn_274 : decode cX7_takeTurn 274 = .ok (.iload_n 2, 1) := by decide +kernel
theorem dX7_takeTurn_275 : decode cX7_takeTurn 275 = .ok (.iconst 4, 1) := by decide +kernel
theorem dX7_takeTurn_276 : decode cX7_takeTurn 276 = .ok (.irem, 1) := by decide +kernel
theorem dX7_takeTurn_277 : decode cX7_takeTurn 277 = .ok (.iconst 0, 1) := by decide +kernel
theorem dX7_takeTurn_278 : decode cX7_takeTurn 278 = .ok (.iconst 0, 1) := by decide +kernel
theorem dX7_takeTurn_279 : decode cX7_takeTurn 279 = .ok (.iconst 0, 1) := by decide +kernel
theorem dX7_takeTurn_280 : decode cX7_takeTurn 280 = .ok (.invokevirtual 99, 3) := by decide +kernel
theorem dX7_takeTurn_283 : decode cX7_takeTurn 283 = .ok (.pop, 1) := by decide +kernel
theorem dX7_takeTurn_284 : decode cX7_takeTurn 284 = .ok (.goto 48, 3) := by decide +kernel
theorem dX7_takeTurn_287 : decode cX7_takeTurn 287 = .ok (.aload_n 0, 1) := by decide +kernel
theorem dX7_takeTurn_288 : decode cX7_takeTurn 288 = .ok (.getfield 16, 3) := by decide +kernel
theorem dX7_takeTurn_291 : decode cX7_takeTurn 291 = .ok (.bipush 119, 2) := by decide +kernel
theorem dX7_takeTurn_293 : decode cX7_takeTurn 293 = .ok (.iload_n 2, 1) := by decide +kernel
theorem dX7_takeTurn_294 : decode cX7_takeTurn 294 = .ok (.iconst 3, 1) := by decide +kernel
theorem dX7_takeTurn_295 : decode cX7_takeTurn 295 = .ok (.irem, 1) := by decide +kernel
theorem dX7_takeTurn_296 : decode cX7_takeTurn 296 = .ok (.iconst 1, 1) := by decide +kernel
theorem dX7_takeTurn_297 : decode cX7_takeTurn 297 = .ok (.iload_n 2, 1) := by decide +kernel
theorem dX7_takeTurn_298 : decode cX7_takeTurn 298 = .ok (.iconst 4, 1) := by decide +kernel
theorem dX7_takeTurn_299 : decode cX7_takeTurn 299 = .ok (.idiv, 1) := by decide +kernel
theorem dX7_takeTurn_300 : decode cX7_takeTurn 300 = .ok (.bipush 40, 2) := by decide +kernel
theorem dX7_takeTurn_302 : decode cX7_takeTurn 302 = .ok (.irem, 1) := by decide +kernel
theorem dX7_takeTurn_303 : decode cX7_takeTurn 303 = .ok (.iadd, 1) := by decide +kernel
theorem dX7_takeTurn_304 : decode cX7_takeTurn 304 = .ok (.iconst 0, 1) := by decide +kernel
theorem dX7_takeTurn_305 : decode cX7_takeTurn 305 = .ok (.iconst 0, 1) := by decide +kernel
theorem dX7_takeTurn_306 : decode cX7_takeTurn 306 = .ok (.invokevirtual 99, 3) := by decide +kernel
theorem dX7_takeTurn_309 : decode cX7_takeTurn 309 = .ok (.pop, 1) := by decide +kernel
theorem dX7_takeTurn_310 : decode cX7_takeTurn 310 = .ok (.goto 22, 3) := by decide +kernel
theorem dX7_takeTurn_313 : decode cX7_takeTurn 313 = .ok (.aload_n 0, 1) := by decide +kernel
theorem dX7_takeTurn_314 : decode cX7_takeTurn 314 = .ok (.getfield 16, 3) := by decide +kernel
theorem dX7_takeTurn_317 : decode cX7_takeTurn 317 = .ok (.bipush 116, 2) := by decide +kernel
theorem dX7_takeTurn_319 : decode cX7_takeTurn 319 = .ok (.iconst 1, 1) := by decide +kernel
theorem dX7_takeTurn_320 : decode cX7_takeTurn 320 = .ok (.iload_n 2, 1) := by decide +kernel
theorem dX7_takeTurn_321 : decode cX7_takeTurn 321 = .ok (.bipush 50, 2) := by decide +kernel
theorem dX7_takeTurn_323 : decode cX7_takeTurn 323 = .ok (.irem, 1) := by decide +kernel
theorem dX7_takeTurn_324 : decode cX7_takeTurn 324 = .ok (.iadd, 1) := by decide +kernel
theorem dX7_takeTurn_325 : decode cX7_takeTurn 325 = .ok (.iconst 0, 1) := by decide +kernel
theorem dX7_takeTurn_326 : decode cX7_takeTurn 326 = .ok (.iconst 0, 1) := by decide +kernel
theorem dX7_takeTurn_327 : decode cX7_takeTurn 327 = .ok (.iconst 0, 1) := by decide +kernel
theorem dX7_takeTurn_328 : decode cX7_takeTurn 328 = .ok (.invokevirtual 99, 3) := by decide +kernel
theorem dX7_takeTurn_331 : decode cX7_takeTurn 331 = .ok (.pop, 1) := by decide +kernel
theorem dX7_takeTurn_332 : decode cX7_takeTurn 332 = .ok (.return_, 1) := by decide +kernel
theorem dX7_save_0 : decode cX7_save 0 = .ok (.aload_n 0, 1) := by decide +kernel
theorem dX7_save_1 : decode cX7_save 1 = .ok (.iload_n 1, 1) := by decide +kernel
theorem dX7_save_2 : decode cX7_save 2 = .ok (.invokevirtual 294, 3) := by decide +kernel
theorem dX7_save_5 : decode cX7_save 5 = .ok (.astore_n 2, 1) := by decide +kernel
theorem dX7_save_6 : decode cX7_save 6 = .ok (.aload_n 2, 1) := by decide +kernel
theorem dX7_save_7 : decode cX7_save 7 = .ok (.ifnonnull 14, 3) := by decide +kernel
theorem dX7_save_10 : decode cX7_save 10 = .ok (.new 133, 3) := by decide +kernel
theorem dX7_save_13 : decode cX7_save 13 = .ok (.dup, 1) := by decide +kernel
theorem dX7_save_14 : decode cX7_save 14 = .ok (.ldc_w 298, 3) := by decide +kernel
theorem dX7_save_17 : decode cX7_save 17 = .ok (.invokespecial 137, 3) := by decide +kernel
theorem dX7_save_20 : decode cX7_save 20 = .ok (.athrow, 1) := by decide +kernel
theorem dX7_save_21 : decode cX7_save 21 = .ok (.aload_n 2, 1) := by decide +kernel
theorem dX7_save_22 : decode cX7_save 22 = .ok (.getfield 300, 3) := by decide +kernel
theorem dX7_save_25 : decode cX7_save 25 = .ok (.aload_n 0, 1) := by decide +kernel
theorem dX7_save_26 : decode cX7_save 26 = .ok (.getfield 10, 3) := by decide +kernel
theorem dX7_save_29 : decode cX7_save 29 = .ok (.invokevirtual 279, 3) := by decide +kernel
theorem dX7_save_32 : decode cX7_save 32 = .ok (.aload_n 2, 1) := by decide +kernel
theorem dX7_save_33 : decode cX7_save 33 = .ok (.iconst 1, 1) := by decide +kernel
theorem dX7_save_34 : decode cX7_save 34 = .ok (.putfield 82, 3) := by decide +kernel
theorem dX7_save_37 : decode cX7_save 37 = .ok (.aload_n 0, 1) := by decide +kernel
theorem dX7_save_38 : decode cX7_save 38 = .ok (.getfield 10, 3) := by decide +kernel
theorem dX7_save_41 : decode cX7_save 41 = .ok (.getfield 111, 3) := by decide +kernel
theorem dX7_save_44 : decode cX7_save 44 = .ok (.ireturn, 1) := by decide +kernel
theorem dX7_restore_0 : decode cX7_restore 0 = .ok (.aload_n 0, 1) := by decide +kernel
theorem dX7_restore_1 : decode cX7_restore 1 = .ok (.iload_n 1, 1) := by decide +kernel
theorem dX7_restore_2 : decode cX7_restore 2 = .ok (.invokevirtual 294, 3) := by decide +kernel
theorem dX7_restore_5 : decode cX7_restore 5 = .ok (.astore_n 2, 1) := by decide +kernel
theorem dX7_restore_6 : decode cX7_restore 6 = .ok (.aload_n 2, 1) := by decide +kernel
theorem dX7_restore_7 : decode cX7_restore 7 = .ok (.ifnonnull 14, 3) := by decide +kernel
theorem dX7_restore_10 : decode cX7_restore 10 = .ok (.new 133, 3) := by decide +kernel
theorem dX7_restore_13 : decode cX7_restore 13 = .ok (.dup, 1) := by decide +kernel
theorem dX7_restore_14 : decode cX7_restore 14 = .ok (.ldc_w 298, 3) := by decide +kernel
theorem dX7_restore_17 : decode cX7_restore 17 = .ok (.invokespecial 137, 3) := by decide +kernel
theorem dX7_restore_20 : decode cX7_restore 20 = .ok (.athrow, 1) := by decide +kernel
theorem dX7_restore_21 : decode cX7_restore 21 = .ok (.aload_n 2, 1) := by decide +kernel
theorem dX7_restore_22 : decode cX7_restore 22 = .ok (.getfield 82, 3) := by decide +kernel
theorem dX7_restore_25 : decode cX7_restore 25 = .ok (.ifCond .ne 14, 3) := by decide +kernel
theorem dX7_restore_28 : decode cX7_restore 28 = .ok (.new 58, 3) := by decide +kernel
theorem dX7_restore_31 : decode cX7_restore 31 = .ok (.dup, 1) := by decide +kernel
theorem dX7_restore_32 : decode cX7_restore 32 = .ok (.ldc_w 303, 3) := by decide +kernel
theorem dX7_restore_35 : decode cX7_restore 35 = .ok (.invokespecial 62, 3) := by decide +kernel
theorem dX7_restore_38 : decode cX7_restore 38 = .ok (.athrow, 1) := by decide +kernel
theorem dX7_restore_39 : decode cX7_restore 39 = .ok (.aload_n 0, 1) := by decide +kernel
theorem dX7_restore_40 : decode cX7_restore 40 = .ok (.getfield 10, 3) := by decide +kernel
theorem dX7_restore_43 : decode cX7_restore 43 = .ok (.aload_n 2, 1) := by decide +kernel
theorem dX7_restore_44 : decode cX7_restore 44 = .ok (.getfield 300, 3) := by decide +kernel
theorem dX7_restore_47 : decode cX7_restore 47 = .ok (.invokevirtual 279, 3) := by decide +kernel
theorem dX7_restore_50 : decode cX7_restore 50 = .ok (.aload_n 0, 1) := by decide +kernel
theorem dX7_restore_51 : decode cX7_restore 51 = .ok (.getfield 22, 3) := by decide +kernel
theorem dX7_restore_54 : decode cX7_restore 54 = .ok (.invokevirtual 79, 3) := by decide +kernel
theorem dX7_restore_57 : decode cX7_restore 57 = .ok (.aload_n 0, 1) := by decide +kernel
theorem dX7_restore_58 : decode cX7_restore 58 = .ok (.getfield 10, 3) := by decide +kernel
theorem dX7_restore_61 : decode cX7_restore 61 = .ok (.getfield 111, 3) := by decide +kernel
theorem dX7_restore_64 : decode cX7_restore 64 = .ok (.ireturn, 1) := by decide +kernel
theorem dX7_slotAt_0 : decode cX7_slotAt 0 = .ok (.iload_n 1, 1) := by decide +kernel
theorem dX7_slotAt_1 : decode cX7_slotAt 1 = .ok (.ifCond .ne 10, 3) := by decide +kernel
theorem dX7_slotAt_4 : decode cX7_slotAt 4 = .ok (.aload_n 0, 1) := by decide +kernel
theorem dX7_slotAt_5 : decode cX7_slotAt 5 = .ok (.getfield 29, 3) := by decide +kernel
theorem dX7_slotAt_8 : decode cX7_slotAt 8 = .ok (.goto 16, 3) := by decide +kernel
theorem dX7_slotAt_11 : decode cX7_slotAt 11 = .ok (.iload_n 1, 1) := by decide +kernel
theorem dX7_slotAt_12 : decode cX7_slotAt 12 = .ok (.iconst 1, 1) := by decide +kernel
theorem dX7_slotAt_13 : decode cX7_slotAt 13 = .ok (.if_icmp .ne 10, 3) := by decide +kernel
theorem dX7_slotAt_16 : decode cX7_slotAt 16 = .ok (.aload_n 0, 1) := by decide +kernel
theorem dX7_slotAt_17 : decode cX7_slotAt 17 = .ok (.getfield 33, 3) := by decide +kernel
theorem dX7_slotAt_20 : decode cX7_slotAt 20 = .ok (.goto 4, 3) := by decide +kernel
theorem dX7_slotAt_23 : decode cX7_slotAt 23 = .ok (.aconst_null, 1) := by decide +kernel
theorem dX7_slotAt_24 : decode cX7_slotAt 24 = .ok (.areturn, 1) := by decide +kernel
theorem dX7_outside_0 : decode cX7_outside 0 = .ok (.iload_n 0, 1) := by decide +kernel
theorem dX7_outside_1 : decode cX7_outside 1 = .ok (.iload_n 1, 1) := by decide +kernel
theorem dX7_outside_2 : decode cX7_outside 2 = .ok (.if_icmp .lt 8, 3) := by decide +kernel
theorem dX7_outside_5 : decode cX7_outside 5 = .ok (.iload_n 0, 1) := by decide +kernel
theorem dX7_outside_6 : decode cX7_outside 6 = .ok (.iload_n 2, 1) := by decide +kernel
theorem dX7_outside_7 : decode cX7_outside 7 = .ok (.if_icmp .le 7, 3) := by decide +kernel
theorem dX7_outside_10 : decode cX7_outside 10 = .ok (.iconst 1, 1) := by decide +kernel
theorem dX7_outside_11 : decode cX7_outside 11 = .ok (.goto 4, 3) := by decide +kernel
theorem dX7_outside_14 : decode cX7_outside 14 = .ok (.iconst 0, 1) := by decide +kernel
theorem dX7_outside_15 : decode cX7_outside 15 = .ok (.ireturn, 1) := by decide +kernel
theorem dX7_get_0 : decode cX7_get 0 = .ok (.iload_n 1, 1) := by decide +kernel
theorem dX7_get_1 : decode cX7_get 1 = .ok (.ifCond .lt 9, 3) := by decide +kernel
theorem dX7_get_4 : decode cX7_get 4 = .ok (.iload_n 1, 1) := by decide +kernel
theorem dX7_get_5 : decode cX7_get 5 = .ok (.aload_n 0, 1) := by decide +kernel
theorem dX7_get_6 : decode cX7_get 6 = .ok (.arraylength, 1) := by decide +kernel
theorem dX7_get_7 : decode cX7_get 7 = .ok (.if_icmp .lt 7, 3) := by decide +kernel
theorem dX7_get_10 : decode cX7_get 10 = .ok (.iconst 0, 1) := by decide +kernel
theorem dX7_get_11 : decode cX7_get 11 = .ok (.goto 6, 3) := by decide +kernel
theorem dX7_get_14 : decode cX7_get 14 = .ok (.aload_n 0, 1) := by decide +kernel
theorem dX7_get_15 : decode cX7_get 15 = .ok (.iload_n 1, 1) := by decide +kernel
theorem dX7_get_16 : decode cX7_get 16 = .ok (.iaload, 1) := by decide +kernel
theorem dX7_get_17 : decode cX7_get 17 = .ok (.ireturn, 1) := by decide +kernel
theorem dX7_put_0 : decode cX7_put 0 = .ok (.iload_n 1, 1) := by decide +kernel
theorem dX7_put_1 : decode cX7_put 1 = .ok (.ifCond .lt 13, 3) := by decide +kernel
theorem dX7_put_4 : decode cX7_put 4 = .ok (.iload_n 1, 1) := by decide +kernel
theorem dX7_put_5 : decode cX7_put 5 = .ok (.aload_n 0, 1) := by decide +kernel
theorem dX7_put_6 : decode cX7_put 6 = .ok (.arraylength, 1) := by decide +kernel
theorem dX7_put_7 : decode cX7_put 7 = .ok (.if_icmp .ge 7, 3) := by decide +kernel
theorem dX7_put_10 : decode cX7_put 10 = .ok (.aload_n 0, 1) := by decide +kernel
theorem dX7_put_11 : decode cX7_put 11 = .ok (.iload_n 1, 1) := by decide +kernel
theorem dX7_put_12 : decode cX7_put 12 = .ok (.iload_n 2, 1) := by decide +kernel
theorem dX7_put_13 : decode cX7_put 13 = .ok (.iastore, 1) := by decide +kernel
theorem dX7_put_14 : decode cX7_put 14 = .ok (.return_, 1) := by decide +kernel
theorem dX7_copyRow_0 : decode cX7_copyRow 0 = .ok (.aload_n 0, 1) := by decide +kernel
theorem dX7_copyRow_1 : decode cX7_copyRow 1 = .ok (.arraylength, 1) := by decide +kernel
theorem dX7_copyRow_2 : decode cX7_copyRow 2 = .ok (.aload_n 1, 1) := by decide +kernel
theorem dX7_copyRow_3 : decode cX7_copyRow 3 = .ok (.arraylength, 1) := by decide +kernel
theorem dX7_copyRow_4 : decode cX7_copyRow 4 = .ok (.invokestatic 305, 3) := by decide +kernel
theorem dX7_copyRow_7 : decode cX7_copyRow 7 = .ok (.istore_n 3, 1) := by decide +kernel
theorem dX7_copyRow_8 : decode cX7_copyRow 8 = .ok (.aload_n 0, 1) := by decide +kernel
theorem dX7_copyRow_9 : decode cX7_copyRow 9 = .ok (.iconst 0, 1) := by decide +kernel
theorem dX7_copyRow_10 : decode cX7_copyRow 10 = .ok (.aload_n 1, 1) := by decide +kernel
theorem dX7_copyRow_11 : decode cX7_copyRow 11 = .ok (.iconst 0, 1) := by decide +kernel
theorem dX7_copyRow_12 : decode cX7_copyRow 12 = .ok (.iconst 0, 1) := by decide +kernel
theorem dX7_copyRow_13 : decode cX7_copyRow 13 = .ok (.iload_n 2, 1) := by decide +kernel
theorem dX7_copyRow_14 : decode cX7_copyRow 14 = .ok (.iload_n 3, 1) := by decide +kernel
theorem dX7_copyRow_15 : decode cX7_copyRow 15 = .ok (.invokestatic 305, 3) := by decide +kernel
theorem dX7_copyRow_18 : decode cX7_copyRow 18 = .ok (.invokestatic 311, 3) := by decide +kernel
theorem dX7_copyRow_21 : decode cX7_copyRow 21 = .ok (.invokestatic 314, 3) := by decide +kernel
theorem dX7_copyRow_24 : decode cX7_copyRow 24 = .ok (.return_, 1) := by decide +kernel
