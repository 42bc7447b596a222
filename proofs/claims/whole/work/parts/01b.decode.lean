theorem dX0_init_0 : decode cX0_init 0 = .ok (.aload_n 0, 1) := by decide +kernel
theorem dX0_init_1 : decode cX0_init 1 = .ok (.invokespecial 3, 3) := by decide +kernel
theorem dX0_init_4 : decode cX0_init 4 = .ok (.aload_n 0, 1) := by decide +kernel
theorem dX0_init_5 : decode cX0_init 5 = .ok (.iconst 5, 1) := by decide +kernel
theorem dX0_init_6 : decode cX0_init 6 = .ok (.anewarray 9, 3) := by decide +kernel
theorem dX0_init_9 : decode cX0_init 9 = .ok (.putfield 11, 3) := by decide +kernel
theorem dX0_init_12 : decode cX0_init 12 = .ok (.iconst 0, 1) := by decide +kernel
theorem dX0_init_13 : decode cX0_init 13 = .ok (.istore_n 1, 1) := by decide +kernel
theorem dX0_init_14 : decode cX0_init 14 = .ok (.iload_n 1, 1) := by decide +kernel
theorem dX0_init_15 : decode cX0_init 15 = .ok (.iconst 5, 1) := by decide +kernel
theorem dX0_init_16 : decode cX0_init 16 = .ok (.if_icmp .ge 23, 3) := by decide +kernel
theorem dX0_init_19 : decode cX0_init 19 = .ok (.aload_n 0, 1) := by decide +kernel
theorem dX0_init_20 : decode cX0_init 20 = .ok (.getfield 11, 3) := by decide +kernel
theorem dX0_init_23 : decode cX0_init 23 = .ok (.iload_n 1, 1) := by decide +kernel
theorem dX0_init_24 : decode cX0_init 24 = .ok (.new 9, 3) := by decide +kernel
theorem dX0_init_27 : decode cX0_init 27 = .ok (.dup, 1) := by decide +kernel
theorem dX0_init_28 : decode cX0_init 28 = .ok (.iload_n 1, 1) := by decide +kernel
theorem dX0_init_29 : decode cX0_init 29 = .ok (.invokespecial 17, 3) := by decide +kernel
theorem dX0_init_32 : decode cX0_init 32 = .ok (.aastore, 1) := by decide +kernel
theorem dX0_init_33 : decode cX0_init 33 = .ok (.iinc 1 1, 3) := by decide +kernel
theorem dX0_init_36 : decode cX0_init 36 = .ok (.goto (-22), 3) := by decide +kernel
theorem dX0_init_39 : decode cX0_init 39 = .ok (.aload_n 0, 1) := by decide +kernel
theorem dX0_init_40 : decode cX0_init 40 = .ok (.new 20, 3) := by decide +kernel
theorem dX0_init_43 : decode cX0_init 43 = .ok (.dup, 1) := by decide +kernel
theorem dX0_init_44 : decode cX0_init 44 = .ok (.invokespecial 22, 3) := by decide +kernel
theorem dX0_init_47 : decode cX0_init 47 = .ok (.putfield 23, 3) := by decide +kernel
theorem dX0_init_50 : decode cX0_init 50 = .ok (.aload_n 0, 1) := by decide +kernel
theorem dX0_init_51 : decode cX0_init 51 = .ok (.bipush 100, 2) := by decide +kernel
theorem dX0_init_53 : decode cX0_init 53 = .ok (.newarray .int, 2) := by decide +kernel
theorem dX0_init_55 : decode cX0_init 55 = .ok (.putfield 27, 3) := by decide +kernel
theorem dX0_init_58 : decode cX0_init 58 = .ok (.return_, 1) := by decide +kernel
theorem dX0_begin_0 : decode cX0_begin 0 = .ok (.aload_n 0, 1) := by decide +kernel
theorem dX0_begin_1 : decode cX0_begin 1 = .ok (.iload_n 2, 1) := by decide +kernel
theorem dX0_begin_2 : decode cX0_begin 2 = .ok (.putfield 31, 3) := by decide +kernel
theorem dX0_begin_5 : decode cX0_begin 5 = .ok (.aload_n 0, 1) := by decide +kernel
theorem dX0_begin_6 : decode cX0_begin 6 = .ok (.iconst 0, 1) := by decide +kernel
theorem dX0_begin_7 : decode cX0_begin 7 = .ok (.putfield 35, 3) := by decide +kernel
theorem dX0_begin_10 : decode cX0_begin 10 = .ok (.aload_n 0, 1) := by decide +kernel
theorem dX0_begin_11 : decode cX0_begin 11 = .ok (.iconst 0, 1) := by decide +kernel
theorem dX0_begin_12 : decode cX0_begin 12 = .ok (.putfield 38, 3) := by decide +kernel
theorem dX0_begin_15 : decode cX0_begin 15 = .ok (.aload_n 0, 1) := by decide +kernel
theorem dX0_begin_16 : decode cX0_begin 16 = .ok (.iconst 0, 1) := by decide +kernel
theorem dX0_begin_17 : decode cX0_begin 17 = .ok (.putfield 41, 3) := by decide +kernel
theorem dX0_begin_20 : decode cX0_begin 20 = .ok (.aload_n 0, 1) := by decide +kernel
theorem dX0_begin_21 : decode cX0_begin 21 = .ok (.iconst 0, 1) := by decide +kernel
theorem dX0_begin_22 : decode cX0_begin 22 = .ok (.putfield 44, 3) := by decide +kernel
theorem dX0_begin_25 : decode cX0_begin 25 = .ok (.aload_n 0, 1) := by decide +kernel
theorem dX0_begin_26 : decode cX0_begin 26 = .ok (.iconst 0, 1) := by decide +kernel
theorem dX0_begin_27 : decode cX0_begin 27 = .ok (.putfield 47, 3) := by decide +kernel
theorem dX0_begin_30 : decode cX0_begin 30 = .ok (.iconst 0, 1) := by decide +kernel
theorem dX0_begin_31 : decode cX0_begin 31 = .ok (.istore_n 3, 1) := by decide +kernel
theorem dX0_begin_32 : decode cX0_begin 32 = .ok (.iload_n 3, 1) := by decide +kernel
theorem dX0_begin_33 : decode cX0_begin 33 = .ok (.bipush 100, 2) := by decide +kernel
theorem dX0_begin_35 : decode cX0_begin 35 = .ok (.if_icmp .ge 16, 3) := by decide +kernel
theorem dX0_begin_38 : decode cX0_begin 38 = .ok (.aload_n 0, 1) := by decide +kernel
theorem dX0_begin_39 : decode cX0_begin 39 = .ok (.getfield 27, 3) := by decide +kernel
theorem dX0_begin_42 : decode cX0_begin 42 = .ok (.iload_n 3, 1) := by decide +kernel
theorem dX0_begin_43 : decode cX0_begin 43 = .ok (.iconst (-1), 1) := by decide +kernel
theorem dX0_begin_44 : decode cX0_begin 44 = .ok (.iastore, 1) := by decide +kernel
theorem dX0_begin_45 : decode cX0_begin 45 = .ok (.iinc 3 1, 3) := by decide +kernel
theorem dX0_begin_48 : decode cX0_begin 48 = .ok (.goto (-16), 3) := by decide +kernel
theorem dX0_begin_51 : decode cX0_begin 51 = .ok (.aload_n 0, 1) := by decide +kernel
theorem dX0_begin_52 : decode cX0_begin 52 = .ok (.getfield 23, 3) := by decide +kernel
theorem dX0_begin_55 : decode cX0_begin 55 = .ok (.invokevirtual 50, 3) := by decide +kernel
theorem dX0_begin_58 : decode cX0_begin 58 = .ok (.iconst 0, 1) := by decide +kernel
theorem dX0_begin_59 : decode cX0_begin 59 = .ok (.istore_n 3, 1) := by decide +kernel
theorem dX0_begin_60 : decode cX0_begin 60 = .ok (.iload_n 3, 1) := by decide +kernel
theorem dX0_begin_61 : decode cX0_begin 61 = .ok (.iconst 5, 1) := by decide +kernel
theorem dX0_begin_62 : decode cX0_begin 62 = .ok (.if_icmp .ge 29, 3) := by decide +kernel
theorem dX0_begin_65 : decode cX0_begin 65 = .ok (.aload_n 0, 1) := by decide +kernel
theorem dX0_begin_66 : decode cX0_begin 66 = .ok (.getfield 11, 3) := by decide +kernel
theorem dX0_begin_69 : decode cX0_begin 69 = .ok (.iload_n 3, 1) := by decide +kernel
theorem dX0_begin_70 : decode cX0_begin 70 = .ok (.aaload, 1) := by decide +kernel
theorem dX0_begin_71 : decode cX0_begin 71 = .ok (.iload_n 1, 1) := by decide +kernel
theorem dX0_begin_72 : decode cX0_begin 72 = .ok (.invokevirtual 53, 3) := by decide +kernel
theorem dX0_begin_75 : decode cX0_begin 75 = .ok (.aload_n 0, 1) := by decide +kernel
theorem dX0_begin_76 : decode cX0_begin 76 = .ok (.aload_n 0, 1) := by decide +kernel
theorem dX0_begin_77 : decode cX0_begin 77 = .ok (.getfield 11, 3) := by decide +kernel
theorem dX0_begin_80 : decode cX0_begin 80 = .ok (.iload_n 3, 1) := by decide +kernel
theorem dX0_begin_81 : decode cX0_begin 81 = .ok (.aaload, 1) := by decide +kernel
theorem dX0_begin_82 : decode cX0_begin 82 = .ok (.invokevirtual 55, 3) := by decide +kernel
theorem dX0_begin_85 : decode cX0_begin 85 = .ok (.iinc 3 1, 3) := by decide +kernel
theorem dX0_begin_88 : decode cX0_begin 88 = .ok (.goto (-28), 3) := by decide +kernel
theorem dX0_begin_91 : decode cX0_begin 91 = .ok (.return_, 1) := by decide +kernel
theorem dX0_copyFrom_0 : decode cX0_copyFrom 0 = .ok (.aload_n 0, 1) := by decide +kernel
theorem dX0_copyFrom_1 : decode cX0_copyFrom 1 = .ok (.aload_n 1, 1) := by decide +kernel
theorem dX0_copyFrom_2 : decode cX0_copyFrom 2 = .ok (.getfield 31, 3) := by decide +kernel
theorem dX0_copyFrom_5 : decode cX0_copyFrom 5 = .ok (.putfield 31, 3) := by decide +kernel
theorem dX0_copyFrom_8 : decode cX0_copyFrom 8 = .ok (.aload_n 0, 1) := by decide +kernel
theorem dX0_copyFrom_9 : decode cX0_copyFrom 9 = .ok (.aload_n 1, 1) := by decide +kernel
theorem dX0_copyFrom_10 : decode cX0_copyFrom 10 = .ok (.getfield 35, 3) := by decide +kernel
theorem dX0_copyFrom_13 : decode cX0_copyFrom 13 = .ok (.putfield 35, 3) := by decide +kernel
theorem dX0_copyFrom_16 : decode cX0_copyFrom 16 = .ok (.aload_n 0, 1) := by decide +kernel
theorem dX0_copyFrom_17 : decode cX0_copyFrom 17 = .ok (.aload_n 1, 1) := by decide +kernel
theorem dX0_copyFrom_18 : decode cX0_copyFrom 18 = .ok (.getfield 38, 3) := by decide +kernel
theorem dX0_copyFrom_21 : decode cX0_copyFrom 21 = .ok (.putfield 38, 3) := by decide +kernel
theorem dX0_copyFrom_24 : decode cX0_copyFrom 24 = .ok (.aload_n 0, 1) := by decide +kernel
theorem dX0_copyFrom_25 : decode cX0_copyFrom 25 = .ok (.aload_n 1, 1) := by decide +kernel
theorem dX0_copyFrom_26 : decode cX0_copyFrom 26 = .ok (.getfield 41, 3) := by decide +kernel
theorem dX0_copyFrom_29 : decode cX0_copyFrom 29 = .ok (.putfield 41, 3) := by decide +kernel
theorem dX0_copyFrom_32 : decode cX0_copyFrom 32 = .ok (.aload_n 0, 1) := by decide +kernel
theorem dX0_copyFrom_33 : decode cX0_copyFrom 33 = .ok (.aload_n 1, 1) := by decide +kernel
theorem dX0_copyFrom_34 : decode cX0_copyFrom 34 = .ok (.getfield 44, 3) := by decide +kernel
theorem dX0_copyFrom_37 : decode cX0_copyFrom 37 = .ok (.putfield 44, 3) := by decide +kernel
theorem dX0_copyFrom_40 : decode cX0_copyFrom 40 = .ok (.aload_n 0, 1) := by decide +kernel
theorem dX0_copyFrom_41 : decode cX0_copyFrom 41 = .ok (.aload_n 1, 1) := by decide +kernel
theorem dX0_copyFrom_42 : decode cX0_copyFrom 42 = .ok (.getfield 47, 3) := by decide +kernel
theorem dX0_copyFrom_45 : decode cX0_copyFrom 45 = .ok (.putfield 47, 3) := by decide +kernel
theorem dX0_copyFrom_48 : decode cX0_copyFrom 48 = .ok (.aload_n 1, 1) := by decide +kernel
theorem dX0_copyFrom_49 : decode cX0_copyFrom 49 = .ok (.getfield 27, 3) := by decide +kernel
theorem dX0_copyFrom_52 : decode cX0_copyFrom 52 = .ok (.iconst 0, 1) := by decide +kernel
theorem dX0_copyFrom_53 : decode cX0_copyFrom 53 = .ok (.aload_n 0, 1) := by decide +kernel
theorem dX0_copyFrom_54 : decode cX0_copyFrom 54 = .ok (.getfield 27, 3) := by decide +kernel
theorem dX0_copyFrom_57 : decode cX0_copyFrom 57 = .ok (.iconst 0, 1) := by decide +kernel
theorem dX0_copyFrom_58 : decode cX0_copyFrom 58 = .ok (.bipush 100, 2) := by decide +kernel
theorem dX0_copyFrom_60 : decode cX0_copyFrom 60 = .ok (.invokestatic 59, 3) := by decide +kernel
theorem dX0_copyFrom_63 : decode cX0_copyFrom 63 = .ok (.aload_n 0, 1) := by decide +kernel
theorem dX0_copyFrom_64 : decode cX0_copyFrom 64 = .ok (.getfield 23, 3) := by decide +kernel
theorem dX0_copyFrom_67 : decode cX0_copyFrom 67 = .ok (.aload_n 1, 1) := by decide +kernel
theorem dX0_copyFrom_68 : decode cX0_copyFrom 68 = .ok (.getfield 23, 3) := by decide +kernel
theorem dX0_copyFrom_71 : decode cX0_copyFrom 71 = .ok (.invokevirtual 65, 3) := by decide +kernel
theorem dX0_copyFrom_74 : decode cX0_copyFrom 74 = .ok (.iconst 0, 1) := by decide +kernel
theorem dX0_copyFrom_75 : decode cX0_copyFrom 75 = .ok (.istore_n 2, 1) := by decide +kernel
theorem dX0_copyFrom_76 : decode cX0_copyFrom 76 = .ok (.iload_n 2, 1) := by decide +kernel
theorem dX0_copyFrom_77 : decode cX0_copyFrom 77 = .ok (.iconst 5, 1) := by decide +kernel
theorem dX0_copyFrom_78 : decode cX0_copyFrom 78 = .ok (.if_icmp .ge 24, 3) := by decide +kernel
theorem dX0_copyFrom_81 : decode cX0_copyFrom 81 = .ok (.aload_n 0, 1) := by decide +kernel
theorem dX0_copyFrom_82 : decode cX0_copyFrom 82 = .ok (.getfield 11, 3) := by decide +kernel
theorem dX0_copyFrom_85 : decode cX0_copyFrom 85 = .ok (.iload_n 2, 1) := by decide +kernel
theorem dX0_copyFrom_86 : decode cX0_copyFrom 86 = .ok (.aaload, 1) := by decide +kernel
theorem dX0_copyFrom_87 : decode cX0_copyFrom 87 = .ok (.aload_n 1, 1) := by decide +kernel
theorem dX0_copyFrom_88 : decode cX0_copyFrom 88 = .ok (.getfield 11, 3) := by decide +kernel
theorem dX0_copyFrom_91 : decode cX0_copyFrom 91 = .ok (.iload_n 2, 1) := by decide +kernel
theorem dX0_copyFrom_92 : decode cX0_copyFrom 92 = .ok (.aaload, 1) := by decide +kernel
theorem dX0_copyFrom_93 : decode cX0_copyFrom 93 = .ok (.invokevirtual 69, 3) := by decide +kernel
theorem dX0_copyFrom_96 : decode cX0_copyFrom 96 = .ok (.iinc 2 1, 3) := by decide +kernel
theorem dX0_copyFrom_99 : decode cX0_copyFrom 99 = .ok (.goto (-23), 3) := by decide +kernel
theorem dX0_copyFrom_102 : decode cX0_copyFrom 102 = .ok (.return_, 1) := by decide +kernel
theorem dX0_advance_0 : decode cX0_advance 0 = .ok (.iconst 0, 1) := by decide +kernel
theorem dX0_advance_1 : decode cX0_advance 1 = .ok (.istore_n 2, 1) := by decide +kernel
theorem dX0_advance_2 : decode cX0_advance 2 = .ok (.iload_n 2, 1) := by decide +kernel
theorem dX0_advance_3 : decode cX0_advance 3 = .ok (.iload_n 1, 1) := by decide +kernel
theorem dX0_advance_4 : decode cX0_advance 4 = .ok (.if_icmp .ge 168, 3) := by decide +kernel
theorem dX0_advance_7 : decode cX0_advance 7 = .ok (.aload_n 0, 1) := by decide +kernel
theorem dX0_advance_8 : decode cX0_advance 8 = .ok (.dup, 1) := by decide +kernel
theorem dX0_advance_9 : decode cX0_advance 9 = .ok (.getfield 35, 3) := by decide +kernel
theorem dX0_advance_12 : decode cX0_advance 12 = .ok (.iconst 1, 1) := by decide +kernel
theorem dX0_advance_13 : decode cX0_advance 13 = .ok (.iadd, 1) := by decide +kernel
theorem dX0_advance_14 : decode cX0_advance 14 = .ok (.putfield 35, 3) := by decide +kernel
theorem dX0_advance_17 : decode cX0_advance 17 = .ok (.iconst 0, 1) := by decide +kernel
theorem dX0_advance_18 : decode cX0_advance 18 = .ok (.istore_n 3, 1) := by decide +kernel
theorem dX0_advance_19 : decode cX0_advance 19 = .ok (.aload_n 0, 1) := by decide +kernel
theorem dX0_advance_20 : decode cX0_advance 20 = .ok (.getfield 23, 3) := by decide +kernel
theorem dX0_advance_23 : decode cX0_advance 23 = .ok (.getfield 71, 3) := by decide +kernel
theorem dX0_advance_26 : decode cX0_advance 26 = .ok (.istore 4, 2) := by decide +kernel
theorem dX0_advance_28 : decode cX0_advance 28 = .ok (.iload 4, 2) := by decide +kernel
theorem dX0_advance_30 : decode cX0_advance 30 = .ok (.ifCond .le 99, 3) := by decide +kernel
theorem dX0_advance_33 : decode cX0_advance 33 = .ok (.aload_n 0, 1) := by decide +kernel
theorem dX0_advance_34 : decode cX0_advance 34 = .ok (.getfield 23, 3) := by decide +kernel
theorem dX0_advance_37 : decode cX0_advance 37 = .ok (.iload_n 3, 1) := by decide +kernel
theorem dX0_advance_38 : decode cX0_advance 38 = .ok (.aload_n 0, 1) := by decide +kernel
theorem dX0_advance_39 : decode cX0_advance 39 = .ok (.getfield 35, 3) := by decide +kernel
theorem dX0_advance_42 : decode cX0_advance 42 = .ok (.invokevirtual 74, 3) := by decide +kernel
theorem dX0_advance_45 : decode cX0_advance 45 = .ok (.ifCond .ne 9, 3) := by decide +kernel
theorem dX0_advance_48 : decode cX0_advance 48 = .ok (.iinc 3 1, 3) := by decide +kernel
theorem dX0_advance_51 : decode cX0_advance 51 = .ok (.goto 72, 3) := by decide +kernel
theorem dX0_advance_54 : decode cX0_advance 54 = .ok (.aload_n 0, 1) := by decide +kernel
theorem dX0_advance_55 : decode cX0_advance 55 = .ok (.getfield 23, 3) := by decide +kernel
theorem dX0_advance_58 : decode cX0_advance 58 = .ok (.iload_n 3, 1) := by decide +kernel
theorem dX0_advance_59 : decode cX0_advance 59 = .ok (.invokevirtual 78, 3) := by decide +kernel
theorem dX0_advance_62 : decode cX0_advance 62 = .ok (.aload_n 0, 1) := by decide +kernel
theorem dX0_advance_63 : decode cX0_advance 63 = .ok (.getfield 23, 3) := by decide +kernel
theorem dX0_advance_66 : decode cX0_advance 66 = .ok (.getfield 81, 3) := by decide +kernel
theorem dX0_advance_69 : decode cX0_advance 69 = .ok (.astore 5, 2) := by decide +kernel
theorem dX0_advance_71 : decode cX0_advance 71 = .ok (.aload 5, 2) := by decide +kernel
theorem dX0_advance_73 : decode cX0_advance 73 = .ok (.getfield 85, 3) := by decide +kernel
theorem dX0_advance_76 : decode cX0_advance 76 = .ok (.invokestatic 90, 3) := by decide +kernel
theorem dX0_advance_79 : decode cX0_advance 79 = .ok (.ifCond .eq 44, 3) := by decide +kernel
theorem dX0_advance_82 : decode cX0_advance 82 = .ok (.aload 5, 2) := by decide +kernel
theorem dX0_advance_84 : decode cX0_advance 84 = .ok (.getfield 94, 3) := by decide +kernel
theorem dX0_advance_87 : decode cX0_advance 87 = .ok (.invokestatic 90, 3) := by decide +kernel
theorem dX0_advance_90 : decode cX0_advance 90 = .ok (.ifCond .eq 33, 3) := by decide +kernel
theorem dX0_advance_93 : decode cX0_advance 93 = .ok (.aload_n 0, 1) := by decide +kernel
theorem dX0_advance_94 : decode cX0_advance 94 = .ok (.aload_n 0, 1) := by decide +kernel
theorem dX0_advance_95 : decode cX0_advance 95 = .ok (.getfield 11, 3) := by decide +kernel
theorem dX0_advance_98 : decode cX0_advance 98 = .ok (.aload 5, 2) := by decide +kernel
theorem dX0_advance_100 : decode cX0_advance 100 = .ok (.getfield 94, 3) := by decide +kernel
theorem dX0_advance_103 : decode cX0_advance 103 = .ok (.aaload, 1) := by decide +kernel
theorem dX0_advance_104 : decode cX0_advance 104 = .ok (.aload_n 0, 1) := by decide +kernel
theorem dX0_advance_105 : decode cX0_advance 105 = .ok (.aload_n 0, 1) := by decide +kernel
theorem dX0_advance_106 : decode cX0_advance 106 = .ok (.getfield 11, 3) := by decide +kernel
theorem dX0_advance_109 : decode cX0_advance 109 = .ok (.aload 5, 2) := by decide +kernel
theorem dX0_advance_111 : decode cX0_advance 111 = .ok (.getfield 94, 3) := by decide +kernel
theorem dX0_advance_114 : decode cX0_advance 114 = .ok (.aaload, 1) := by decide +kernel
theorem dX0_advance_115 : decode cX0_advance 115 = .ok (.aload 5, 2) := by decide +kernel
theorem dX0_advance_117 : decode cX0_advance 117 = .ok (.invokevirtual 97, 3) := by decide +kernel
theorem dX0_advance_120 : decode cX0_advance 120 = .ok (.invokevirtual 101, 3) := by decide +kernel
theorem dX0_advance_123 : decode cX0_advance 123 = .ok (.iinc 4 (-1), 3) := by decide +kernel
theorem dX0_advance_126 : decode cX0_advance 126 = .ok (.goto (-98), 3) := by decide +kernel
theorem dX0_advance_129 : decode cX0_advance 129 = .ok (.iconst 0, 1) := by decide +kernel
theorem dX0_advance_130 : decode cX0_advance 130 = .ok (.istore 4, 2) := by decide +kernel
theorem dX0_advance_132 : decode cX0_advance 132 = .ok (.iload 4, 2) := by decide +kernel
theorem dX0_advance_134 : decode cX0_advance 134 = .ok (.iconst 5, 1) := by decide +kernel
theorem dX0_advance_135 : decode cX0_advance 135 = .ok (.if_icmp .ge 31, 3) := by decide +kernel
theorem dX0_advance_138 : decode cX0_advance 138 = .ok (.aload_n 0, 1) := by decide +kernel
theorem dX0_advance_139 : decode cX0_advance 139 = .ok (.aload_n 0, 1) := by decide +kernel
theorem dX0_advance_140 : decode cX0_advance 140 = .ok (.getfield 11, 3) := by decide +kernel
theorem dX0_advance_143 : decode cX0_advance 143 = .ok (.iload 4, 2) := by decide +kernel
theorem dX0_advance_145 : decode cX0_advance 145 = .ok (.aaload, 1) := by decide +kernel
theorem dX0_advance_146 : decode cX0_advance 146 = .ok (.aload_n 0, 1) := by decide +kernel
theorem dX0_advance_147 : decode cX0_advance 147 = .ok (.aload_n 0, 1) := by decide +kernel
theorem dX0_advance_148 : decode cX0_advance 148 = .ok (.getfield 11, 3) := by decide +kernel
theorem dX0_advance_151 : decode cX0_advance 151 = .ok (.iload 4, 2) := by decide +kernel
theorem dX0_advance_153 : decode cX0_advance 153 = .ok (.aaload, 1) := by decide +kernel
theorem dX0_advance_154 : decode cX0_advance 154 = .ok (.invokevirtual 105, 3) := by decide +kernel
theorem dX0_advance_157 : decode cX0_advance 157 = .ok (.invokevirtual 101, 3) := by decide +kernel
theorem dX0_advance_160 : decode cX0_advance 160 = .ok (.iinc 4 1, 3) := by decide +kernel
theorem dX0_advance_163 : decode cX0_advance 163 = .ok (.goto (-31), 3) := by decide +kernel
theorem dX0_advance_166 : decode cX0_advance 166 = .ok (.iinc 2 1, 3) := by decide +kernel
theorem dX0_advance_169 : decode cX0_advance 169 = .ok (.goto (-167), 3) := by decide +kernel
theorem dX0_advance_172 : decode cX0_advance 172 = .ok (.return_, 1) := by decide +kernel
theorem dX0_revive_0 : decode cX0_revive 0 = .ok (.aload_n 1, 1) := by decide +kernel
theorem dX0_revive_1 : decode cX0_revive 1 = .ok (.iconst 1, 1) := by decide +kernel
theorem dX0_revive_2 : decode cX0_revive 2 = .ok (.putfield 109, 3) := by decide +kernel
theorem dX0_revive_5 : decode cX0_revive 5 = .ok (.aload_n 1, 1) := by decide +kernel
theorem dX0_revive_6 : decode cX0_revive 6 = .ok (.aload_n 1, 1) := by decide +kernel
theorem dX0_revive_7 : decode cX0_revive 7 = .ok (.getfield 113, 3) := by decide +kernel
theorem dX0_revive_10 : decode cX0_revive 10 = .ok (.getfield 117, 3) := by decide +kernel
theorem dX0_revive_13 : decode cX0_revive 13 = .ok (.putfield 122, 3) := by decide +kernel
theorem dX0_revive_16 : decode cX0_revive 16 = .ok (.aload_n 0, 1) := by decide +kernel
theorem dX0_revive_17 : decode cX0_revive 17 = .ok (.aload_n 1, 1) := by decide +kernel
theorem dX0_revive_18 : decode cX0_revive 18 = .ok (.invokevirtual 55, 3) := by decide +kernel
theorem dX0_revive_21 : decode cX0_revive 21 = .ok (.return_, 1) := by decide +kernel
theorem dX0_add_0 : decode cX0_add 0 = .ok (.aload_n 1, 1) := by decide +kernel
theorem dX0_add_1 : decode cX0_add 1 = .ok (.getfield 113, 3) := by decide +kernel
theorem dX0_add_4 : decode cX0_add 4 = .ok (.invokevirtual 125, 3) := by decide +kernel
theorem dX0_add_7 : decode cX0_add 7 = .ok (.iconst 1, 1) := by decide +kernel
theorem dX0_add_8 : decode cX0_add 8 = .ok (.iadd, 1) := by decide +kernel
theorem dX0_add_9 : decode cX0_add 9 = .ok (.istore 4, 2) := by decide +kernel
theorem dX0_add_11 : decode cX0_add 11 = .ok (.aload_n 1, 1) := by decide +kernel
theorem dX0_add_12 : decode cX0_add 12 = .ok (.getfield 113, 3) := by decide +kernel
theorem dX0_add_15 : decode cX0_add 15 = .ok (.aload_n 1, 1) := by decide +kernel
theorem dX0_add_16 : decode cX0_add 16 = .ok (.getfield 129, 3) := by decide +kernel
theorem dX0_add_19 : decode cX0_add 19 = .ok (.iload_n 2, 1) := by decide +kernel
theorem dX0_add_20 : decode cX0_add 20 = .ok (.iload_n 3, 1) := by decide +kernel
theorem dX0_add_21 : decode cX0_add 21 = .ok (.invokevirtual 132, 3) := by decide +kernel
theorem dX0_add_24 : decode cX0_add 24 = .ok (.pop, 1) := by decide +kernel
theorem dX0_add_25 : decode cX0_add 25 = .ok (.aload_n 0, 1) := by decide +kernel
theorem dX0_add_26 : decode cX0_add 26 = .ok (.aload_n 1, 1) := by decide +kernel
theorem dX0_add_27 : decode cX0_add 27 = .ok (.invokevirtual 136, 3) := by decide +kernel
theorem dX0_add_30 : decode cX0_add 30 = .ok (.iload 4, 2) := by decide +kernel
theorem dX0_add_32 : decode cX0_add 32 = .ok (.ireturn, 1) := by decide +kernel
theorem dX0_resetTimer_0 : decode cX0_resetTimer 0 = .ok (.aload_n 0, 1) := by decide +kernel
theorem dX0_resetTimer_1 : decode cX0_resetTimer 1 = .ok (.getfield 31, 3) := by decide +kernel
theorem dX0_resetTimer_4 : decode cX0_resetTimer 4 = .ok (.iconst 5, 1) := by decide +kernel
theorem dX0_resetTimer_5 : decode cX0_resetTimer 5 = .ok (.aload_n 1, 1) := by decide +kernel
theorem dX0_resetTimer_6 : decode cX0_resetTimer 6 = .ok (.getfield 129, 3) := by decide +kernel
theorem dX0_resetTimer_9 : decode cX0_resetTimer 9 = .ok (.imul, 1) := by decide +kernel
theorem dX0_resetTimer_10 : decode cX0_resetTimer 10 = .ok (.iadd, 1) := by decide +kernel
theorem dX0_resetTimer_11 : decode cX0_resetTimer 11 = .ok (.aload_n 1, 1) := by decide +kernel
theorem dX0_resetTimer_12 : decode cX0_resetTimer 12 = .ok (.getfield 138, 3) := by decide +kernel
theorem dX0_resetTimer_15 : decode cX0_resetTimer 15 = .ok (.iadd, 1) := by decide +kernel
theorem dX0_resetTimer_16 : decode cX0_resetTimer 16 = .ok (.ldc 141, 2) := by decide +kernel
theorem dX0_resetTimer_18 : decode cX0_resetTimer 18 = .ok (.imul, 1) := by decide +kernel
theorem dX0_resetTimer_19 : decode cX0_resetTimer 19 = .ok (.bipush 20, 2) := by decide +kernel
theorem dX0_resetTimer_21 : decode cX0_resetTimer 21 = .ok (.iushr, 1) := by decide +kernel
theorem dX0_resetTimer_22 : decode cX0_resetTimer 22 = .ok (.istore_n 2, 1) := by decide +kernel
theorem dX0_resetTimer_23 : decode cX0_resetTimer 23 = .ok (.aload_n 1, 1) := by decide +kernel
theorem dX0_resetTimer_24 : decode cX0_resetTimer 24 = .ok (.bipush 8, 2) := by decide +kernel
theorem dX0_resetTimer_26 : decode cX0_resetTimer 26 = .ok (.iload_n 2, 1) := by decide +kernel
theorem dX0_resetTimer_27 : decode cX0_resetTimer 27 = .ok (.bipush 7, 2) := by decide +kernel
theorem dX0_resetTimer_29 : decode cX0_resetTimer 29 = .ok (.iand, 1) := by decide +kernel
theorem dX0_resetTimer_30 : decode cX0_resetTimer 30 = .ok (.iadd, 1) := by decide +kernel
theorem dX0_resetTimer_31 : decode cX0_resetTimer 31 = .ok (.putfield 142, 3) := by decide +kernel
theorem dX0_resetTimer_34 : decode cX0_resetTimer 34 = .ok (.return_, 1) := by decide +kernel
theorem dX0_countDown_0 : decode cX0_countDown 0 = .ok (.aload_n 1, 1) := by decide +kernel
theorem dX0_countDown_1 : decode cX0_countDown 1 = .ok (.getfield 109, 3) := by decide +kernel
theorem dX0_countDown_4 : decode cX0_countDown 4 = .ok (.ifCond .eq 18, 3) := by decide +kernel
theorem dX0_countDown_7 : decode cX0_countDown 7 = .ok (.aload_n 1, 1) := by decide +kernel
theorem dX0_countDown_8 : decode cX0_countDown 8 = .ok (.getfield 145, 3) := by decide +kernel
theorem dX0_countDown_11 : decode cX0_countDown 11 = .ok (.iconst 2, 1) := by decide +kernel
theorem dX0_countDown_12 : decode cX0_countDown 12 = .ok (.if_icmp .eq 12, 3) := by decide +kernel
theorem dX0_countDown_15 : decode cX0_countDown 15 = .ok (.aload_n 1, 1) := by decide +kernel
theorem dX0_countDown_16 : decode cX0_countDown 16 = .ok (.invokevirtual 148, 3) := by decide +kernel
theorem dX0_countDown_19 : decode cX0_countDown 19 = .ok (.ifCond .ne 5, 3) := by decide +kernel
theorem dX0_countDown_22 : decode cX0_countDown 22 = .ok (.iconst 0, 1) := by decide +kernel
theorem dX0_countDown_23 : decode cX0_countDown 23 = .ok (.ireturn, 1) := by decide +kernel
theorem dX0_countDown_24 : decode cX0_countDown 24 = .ok (.aload_n 1, 1) := by decide +kernel
theorem dX0_countDown_25 : decode cX0_countDown 25 = .ok (.dup, 1) := by decide +kernel
theorem dX0_countDown_26 : decode cX0_countDown 26 = .ok (.getfield 142, 3) := by decide +kernel
theorem dX0_countDown_29 : decode cX0_countDown 29 = .ok (.iconst 1, 1) := by decide +kernel
theorem dX0_countDown_30 : decode cX0_countDown 30 = .ok (.isub, 1) := by decide +kernel
theorem dX0_countDown_31 : decode cX0_countDown 31 = .ok (.putfield 142, 3) := by decide +kernel
theorem dX0_countDown_34 : decode cX0_countDown 34 = .ok (.aload_n 1, 1) := by decide +kernel
theorem dX0_countDown_35 : decode cX0_countDown 35 = .ok (.getfield 142, 3) := by decide +kernel
theorem dX0_countDown_38 : decode cX0_countDown 38 = .ok (.ifCond .eq 5, 3) := by decide +kernel
theorem dX0_countDown_41 : decode cX0_countDown 41 = .ok (.iconst 0, 1) := by decide +kernel
theorem dX0_countDown_42 : decode cX0_countDown 42 = .ok (.ireturn, 1) := by decide +kernel
theorem dX0_countDown_43 : decode cX0_countDown 43 = .ok (.aload_n 1, 1) := by decide +kernel
theorem dX0_countDown_44 : decode cX0_countDown 44 = .ok (.getfield 145, 3) := by decide +kernel
theorem dX0_countDown_47 : decode cX0_countDown 47 = .ok (.iconst 2, 1) := by decide +kernel
theorem dX0_countDown_48 : decode cX0_countDown 48 = .ok (.if_icmp .eq 9, 3) := by decide +kernel
theorem dX0_countDown_51 : decode cX0_countDown 51 = .ok (.aload_n 0, 1) := by decide +kernel
theorem dX0_countDown_52 : decode cX0_countDown 52 = .ok (.aload_n 1, 1) := by decide +kernel
theorem dX0_countDown_53 : decode cX0_countDown 53 = .ok (.invokevirtual 152, 3) := by decide +kernel
theorem dX0_countDown_56 : decode cX0_countDown 56 = .ok (.ireturn, 1) := by decide +kernel
theorem dX0_countDown_57 : decode cX0_countDown 57 = .ok (.aload_n 1, 1) := by decide +kernel
theorem dX0_countDown_58 : decode cX0_countDown 58 = .ok (.iconst 3, 1) := by decide +kernel
theorem dX0_countDown_59 : decode cX0_countDown 59 = .ok (.putfield 142, 3) := by decide +kernel
theorem dX0_countDown_62 : decode cX0_countDown 62 = .ok (.iconst 3, 1) := by decide +kernel
theorem dX0_countDown_63 : decode cX0_countDown 63 = .ok (.ireturn, 1) := by decide +kernel
theorem dX0_stand_0 : decode cX0_stand 0 = .ok (.aload_n 0, 1) := by decide +kernel
theorem dX0_stand_1 : decode cX0_stand 1 = .ok (.dup, 1) := by decide +kernel
theorem dX0_stand_2 : decode cX0_stand 2 = .ok (.getfield 38, 3) := by decide +kernel
theorem dX0_stand_5 : decode cX0_stand 5 = .ok (.iconst 1, 1) := by decide +kernel
theorem dX0_stand_6 : decode cX0_stand 6 = .ok (.iadd, 1) := by decide +kernel
theorem dX0_stand_7 : decode cX0_stand 7 = .ok (.putfield 38, 3) := by decide +kernel
theorem dX0_stand_10 : decode cX0_stand 10 = .ok (.aload_n 1, 1) := by decide +kernel
theorem dX0_stand_11 : decode cX0_stand 11 = .ok (.dup, 1) := by decide +kernel
theorem dX0_stand_12 : decode cX0_stand 12 = .ok (.getfield 129, 3) := by decide +kernel
theorem dX0_stand_15 : decode cX0_stand 15 = .ok (.iconst 1, 1) := by decide +kernel
theorem dX0_stand_16 : decode cX0_stand 16 = .ok (.iadd, 1) := by decide +kernel
theorem dX0_stand_17 : decode cX0_stand 17 = .ok (.putfield 129, 3) := by decide +kernel
theorem dX0_stand_20 : decode cX0_stand 20 = .ok (.aload_n 1, 1) := by decide +kernel
theorem dX0_stand_21 : decode cX0_stand 21 = .ok (.iconst 1, 1) := by decide +kernel
theorem dX0_stand_22 : decode cX0_stand 22 = .ok (.putfield 145, 3) := by decide +kernel
theorem dX0_stand_25 : decode cX0_stand 25 = .ok (.aload_n 1, 1) := by decide +kernel
theorem dX0_stand_26 : decode cX0_stand 26 = .ok (.aload_n 1, 1) := by decide +kernel
theorem dX0_stand_27 : decode cX0_stand 27 = .ok (.getfield 138, 3) := by decide +kernel
theorem dX0_stand_30 : decode cX0_stand 30 = .ok (.putfield 155, 3) := by decide +kernel
theorem dX0_stand_33 : decode cX0_stand 33 = .ok (.aload_n 1, 1) := by decide +kernel
theorem dX0_stand_34 : decode cX0_stand 34 = .ok (.iconst 1, 1) := by decide +kernel
theorem dX0_stand_35 : decode cX0_stand 35 = .ok (.aload_n 1, 1) := by decide +kernel
theorem dX0_stand_36 : decode cX0_stand 36 = .ok (.getfield 138, 3) := by decide +kernel
theorem dX0_stand_39 : decode cX0_stand 39 = .ok (.ishl, 1) := by decide +kernel
theorem dX0_stand_40 : decode cX0_stand 40 = .ok (.putfield 158, 3) := by decide +kernel
theorem dX0_stand_43 : decode cX0_stand 43 = .ok (.aload_n 0, 1) := by decide +kernel
theorem dX0_stand_44 : decode cX0_stand 44 = .ok (.aload_n 1, 1) := by decide +kernel
theorem dX0_stand_45 : decode cX0_stand 45 = .ok (.invokevirtual 55, 3) := by decide +kernel
theorem dX0_stand_48 : decode cX0_stand 48 = .ok (.iconst 0, 1) := by decide +kernel
theorem dX0_stand_49 : decode cX0_stand 49 = .ok (.istore_n 2, 1) := by decide +kernel
theorem dX0_stand_50 : decode cX0_stand 50 = .ok (.iload_n 2, 1) := by decide +kernel
theorem dX0_stand_51 : decode cX0_stand 51 = .ok (.iconst 5, 1) := by decide +kernel
theorem dX0_stand_52 : decode cX0_stand 52 = .ok (.if_icmp .ge 65, 3) := by decide +kernel
theorem dX0_stand_55 : decode cX0_stand 55 = .ok (.iload_n 2, 1) := by decide +kernel
theorem dX0_stand_56 : decode cX0_stand 56 = .ok (.aload_n 1, 1) := by decide +kernel
theorem dX0_stand_57 : decode cX0_stand 57 = .ok (.getfield 138, 3) := by decide +kernel
theorem dX0_stand_60 : decode cX0_stand 60 = .ok (.if_icmp .eq 51, 3) := by decide +kernel
theorem dX0_stand_63 : decode cX0_stand 63 = .ok (.aload_n 1, 1) := by decide +kernel
theorem dX0_stand_64 : decode cX0_stand 64 = .ok (.getfield 113, 3) := by decide +kernel
theorem dX0_stand_67 : decode cX0_stand 67 = .ok (.iload_n 2, 1) := by decide +kernel
theorem dX0_stand_68 : decode cX0_stand 68 = .ok (.invokevirtual 161, 3) := by decide +kernel
theorem dX0_stand_71 : decode cX0_stand 71 = .ok (.ifCond .eq 40, 3) := by decide +kernel
theorem dX0_stand_74 : decode cX0_stand 74 = .ok (.aload_n 0, 1) := by decide +kernel
theorem dX0_stand_75 : decode cX0_stand 75 = .ok (.iconst 0, 1) := by decide +kernel
theorem dX0_stand_76 : decode cX0_stand 76 = .ok (.aload_n 1, 1) := by decide +kernel
theorem dX0_stand_77 : decode cX0_stand 77 = .ok (.iload_n 2, 1) := by decide +kernel
theorem dX0_stand_78 : decode cX0_stand 78 = .ok (.invokevirtual 163, 3) := by decide +kernel
theorem dX0_stand_81 : decode cX0_stand 81 = .ok (.astore_n 3, 1) := by decide +kernel
theorem dX0_stand_82 : decode cX0_stand 82 = .ok (.aload_n 3, 1) := by decide +kernel
theorem dX0_stand_83 : decode cX0_stand 83 = .ok (.aload_n 1, 1) := by decide +kernel
theorem dX0_stand_84 : decode cX0_stand 84 = .ok (.getfield 113, 3) := by decide +kernel
theorem dX0_stand_87 : decode cX0_stand 87 = .ok (.invokevirtual 125, 3) := by decide +kernel
theorem dX0_stand_90 : decode cX0_stand 90 = .ok (.putfield 167, 3) := by decide +kernel
theorem dX0_stand_93 : decode cX0_stand 93 = .ok (.aload_n 3, 1) := by decide +kernel
theorem dX0_stand_94 : decode cX0_stand 94 = .ok (.aload_n 1, 1) := by decide +kernel
theorem dX0_stand_95 : decode cX0_stand 95 = .ok (.getfield 113, 3) := by decide +kernel
theorem dX0_stand_98 : decode cX0_stand 98 = .ok (.invokevirtual 170, 3) := by decide +kernel
theorem dX0_stand_101 : decode cX0_stand 101 = .ok (.putfield 173, 3) := by decide +kernel
theorem dX0_stand_104 : decode cX0_stand 104 = .ok (.aload_n 0, 1) := by decide +kernel
theorem dX0_stand_105 : decode cX0_stand 105 = .ok (.getfield 23, 3) := by decide +kernel
theorem dX0_stand_108 : decode cX0_stand 108 = .ok (.invokevirtual 176, 3) := by decide +kernel
theorem dX0_stand_111 : decode cX0_stand 111 = .ok (.iinc 2 1, 3) := by decide +kernel
theorem dX0_stand_114 : decode cX0_stand 114 = .ok (.goto (-64), 3) := by decide +kernel
theorem dX0_stand_117 : decode cX0_stand 117 = .ok (.aload_n 1, 1) := by decide +kernel
theorem dX0_stand_118 : decode cX0_stand 118 = .ok (.getfield 113, 3) := by decide +kernel
theorem dX0_stand_121 : decode cX0_stand 121 = .ok (.aload_n 1, 1) := by decide +kernel
theorem dX0_stand_122 : decode cX0_stand 122 = .ok (.getfield 158, 3) := by decide +kernel
theorem dX0_stand_125 : decode cX0_stand 125 = .ok (.invokevirtual 179, 3) := by decide +kernel
theorem dX0_stand_128 : decode cX0_stand 128 = .ok (.ifCond .eq 7, 3) := by decide +kernel
theorem dX0_stand_131 : decode cX0_stand 131 = .ok (.iconst 1, 1) := by decide +kernel
theorem dX0_stand_132 : decode cX0_stand 132 = .ok (.goto 4, 3) := by decide +kernel
theorem dX0_stand_135 : decode cX0_stand 135 = .ok (.iconst 0, 1) := by decide +kernel
theorem dX0_stand_136 : decode cX0_stand 136 = .ok (.ireturn, 1) := by decide +kernel
theorem dX0_finish_0 : decode cX0_finish 0 = .ok (.iload_n 2, 1) := by decide +kernel
theorem dX0_finish_1 : decode cX0_finish 1 = .ok (.iconst 1, 1) := by decide +kernel
theorem dX0_finish_2 : decode cX0_finish 2 = .ok (.if_icmp .ne 8, 3) := by decide +kernel
theorem dX0_finish_5 : decode cX0_finish 5 = .ok (.aload_n 0, 1) := by decide +kernel
theorem dX0_finish_6 : decode cX0_finish 6 = .ok (.aload_n 1, 1) := by decide +kernel
theorem dX0_finish_7 : decode cX0_finish 7 = .ok (.invokevirtual 182, 3) := by decide +kernel
theorem dX0_finish_10 : decode cX0_finish 10 = .ok (.iload_n 2, 1) := by decide +kernel
theorem dX0_finish_11 : decode cX0_finish 11 = .ok (.iconst 1, 1) := by decide +kernel
theorem dX0_finish_12 : decode cX0_finish 12 = .ok (.if_icmp .eq 8, 3) := by decide +kernel
theorem dX0_finish_15 : decode cX0_finish 15 = .ok (.iload_n 2, 1) := by decide +kernel
theorem dX0_finish_16 : decode cX0_finish 16 = .ok (.iconst 2, 1) := by decide +kernel
theorem dX0_finish_17 : decode cX0_finish 17 = .ok (.if_icmp .ne 8, 3) := by decide +kernel
theorem dX0_finish_20 : decode cX0_finish 20 = .ok (.aload_n 0, 1) := by decide +kernel
theorem dX0_finish_21 : decode cX0_finish 21 = .ok (.aload_n 1, 1) := by decide +kernel
theorem dX0_finish_22 : decode cX0_finish 22 = .ok (.invokevirtual 136, 3) := by decide +kernel
theorem dX0_finish_25 : decode cX0_finish 25 = .ok (.iload_n 2, 1) := by decide +kernel
theorem dX0_finish_26 : decode cX0_finish 26 = .ok (.iconst 1, 1) := by decide +kernel
theorem dX0_finish_27 : decode cX0_finish 27 = .ok (.if_icmp .eq 8, 3) := by decide +kernel
theorem dX0_finish_30 : decode cX0_finish 30 = .ok (.iload_n 2, 1) := by decide +kernel
theorem dX0_finish_31 : decode cX0_finish 31 = .ok (.iconst 3, 1) := by decide +kernel
theorem dX0_finish_32 : decode cX0_finish 32 = .ok (.if_icmp .ne 8, 3) := by decide +kernel
theorem dX0_finish_35 : decode cX0_finish 35 = .ok (.aload_n 0, 1) := by decide +kernel
theorem dX0_finish_36 : decode cX0_finish 36 = .ok (.aload_n 1, 1) := by decide +kernel
theorem dX0_finish_37 : decode cX0_finish 37 = .ok (.invokevirtual 185, 3) := by decide +kernel
theorem dX0_finish_40 : decode cX0_finish 40 = .ok (.return_, 1) := by decide +kernel
theorem dX0_becomeLeader_0 : decode cX0_becomeLeader 0 = .ok (.aload_n 0, 1) := by decide +kernel
theorem dX0_becomeLeader_1 : decode cX0_becomeLeader 1 = .ok (.dup, 1) := by decide +kernel
theorem dX0_becomeLeader_2 : decode cX0_becomeLeader 2 = .ok (.getfield 41, 3) := by decide +kernel
theorem dX0_becomeLeader_5 : decode cX0_becomeLeader 5 = .ok (.iconst 1, 1) := by decide +kernel
theorem dX0_becomeLeader_6 : decode cX0_becomeLeader 6 = .ok (.iadd, 1) := by decide +kernel
theorem dX0_becomeLeader_7 : decode cX0_becomeLeader 7 = .ok (.putfield 41, 3) := by decide +kernel
theorem dX0_becomeLeader_10 : decode cX0_becomeLeader 10 = .ok (.aload_n 1, 1) := by decide +kernel
theorem dX0_becomeLeader_11 : decode cX0_becomeLeader 11 = .ok (.getfield 129, 3) := by decide +kernel
theorem dX0_becomeLeader_14 : decode cX0_becomeLeader 14 = .ok (.ifCond .lt 25, 3) := by decide +kernel
theorem dX0_becomeLeader_17 : decode cX0_becomeLeader 17 = .ok (.aload_n 1, 1) := by decide +kernel
theorem dX0_becomeLeader_18 : decode cX0_becomeLeader 18 = .ok (.getfield 129, 3) := by decide +kernel
theorem dX0_becomeLeader_21 : decode cX0_becomeLeader 21 = .ok (.bipush 100, 2) := by decide +kernel
theorem dX0_becomeLeader_23 : decode cX0_becomeLeader 23 = .ok (.if_icmp .ge 16, 3) := by decide +kernel
theorem dX0_becomeLeader_26 : decode cX0_becomeLeader 26 = .ok (.aload_n 0, 1) := by decide +kernel
theorem dX0_becomeLeader_27 : decode cX0_becomeLeader 27 = .ok (.getfield 27, 3) := by decide +kernel
theorem dX0_becomeLeader_30 : decode cX0_becomeLeader 30 = .ok (.aload_n 1, 1) := by decide +kernel
theorem dX0_becomeLeader_31 : decode cX0_becomeLeader 31 = .ok (.getfield 129, 3) := by decide +kernel
theorem dX0_becomeLeader_34 : decode cX0_becomeLeader 34 = .ok (.aload_n 1, 1) := by decide +kernel
theorem dX0_becomeLeader_35 : decode cX0_becomeLeader 35 = .ok (.getfield 138, 3) := by decide +kernel
theorem dX0_becomeLeader_38 : decode cX0_becomeLeader 38 = .ok (.iastore, 1) := by decide +kernel
theorem dX0_becomeLeader_39 : decode cX0_becomeLeader 39 = .ok (.aload_n 1, 1) := by decide +kernel
theorem dX0_becomeLeader_40 : decode cX0_becomeLeader 40 = .ok (.invokevirtual 188, 3) := by decide +kernel
theorem dX0_becomeLeader_43 : decode cX0_becomeLeader 43 = .ok (.aload_n 1, 1) := by decide +kernel
theorem dX0_becomeLeader_44 : decode cX0_becomeLeader 44 = .ok (.getfield 113, 3) := by decide +kernel
theorem dX0_becomeLeader_47 : decode cX0_becomeLeader 47 = .ok (.aload_n 1, 1) := by decide +kernel
theorem dX0_becomeLeader_48 : decode cX0_becomeLeader 48 = .ok (.getfield 129, 3) := by decide +kernel
theorem dX0_becomeLeader_51 : decode cX0_becomeLeader 51 = .ok (.iconst 3, 1) := by decide +kernel
theorem dX0_becomeLeader_52 : decode cX0_becomeLeader 52 = .ok (.iconst 0, 1) := by decide +kernel
theorem dX0_becomeLeader_53 : decode cX0_becomeLeader 53 = .ok (.invokevirtual 132, 3) := by decide +kernel
theorem dX0_becomeLeader_56 : decode cX0_becomeLeader 56 = .ok (.pop, 1) := by decide +kernel
theorem dX0_becomeLeader_57 : decode cX0_becomeLeader 57 = .ok (.return_, 1) := by decide +kernel
theorem dX0_commit_0 : decode cX0_commit 0 = .ok (.aload_n 1, 1) := by decide +kernel
theorem dX0_commit_1 : decode cX0_commit 1 = .ok (.getfield 113, 3) := by decide +kernel
theorem dX0_commit_4 : decode cX0_commit 4 = .ok (.astore_n 2, 1) := by decide +kernel
theorem dX0_commit_5 : decode cX0_commit 5 = .ok (.aload_n 2, 1) := by decide +kernel
theorem dX0_commit_6 : decode cX0_commit 6 = .ok (.invokevirtual 125, 3) := by decide +kernel
theorem dX0_commit_9 : decode cX0_commit 9 = .ok (.istore_n 3, 1) := by decide +kernel
theorem dX0_commit_10 : decode cX0_commit 10 = .ok (.iload_n 3, 1) := by decide +kernel
theorem dX0_commit_11 : decode cX0_commit 11 = .ok (.aload_n 1, 1) := by decide +kernel
theorem dX0_commit_12 : decode cX0_commit 12 = .ok (.getfield 122, 3) := by decide +kernel
theorem dX0_commit_15 : decode cX0_commit 15 = .ok (.if_icmp .le 38, 3) := by decide +kernel
theorem dX0_commit_18 : decode cX0_commit 18 = .ok (.aload_n 2, 1) := by decide +kernel
theorem dX0_commit_19 : decode cX0_commit 19 = .ok (.iload_n 3, 1) := by decide +kernel
theorem dX0_commit_20 : decode cX0_commit 20 = .ok (.invokevirtual 191, 3) := by decide +kernel
theorem dX0_commit_23 : decode cX0_commit 23 = .ok (.aload_n 1, 1) := by decide +kernel
theorem dX0_commit_24 : decode cX0_commit 24 = .ok (.getfield 129, 3) := by decide +kernel
theorem dX0_commit_27 : decode cX0_commit 27 = .ok (.if_icmp .ne 20, 3) := by decide +kernel
theorem dX0_commit_30 : decode cX0_commit 30 = .ok (.aload_n 2, 1) := by decide +kernel
theorem dX0_commit_31 : decode cX0_commit 31 = .ok (.aload_n 1, 1) := by decide +kernel
theorem dX0_commit_32 : decode cX0_commit 32 = .ok (.iload_n 3, 1) := by decide +kernel
theorem dX0_commit_33 : decode cX0_commit 33 = .ok (.invokevirtual 195, 3) := by decide +kernel
theorem dX0_commit_36 : decode cX0_commit 36 = .ok (.invokevirtual 179, 3) := by decide +kernel
theorem dX0_commit_39 : decode cX0_commit 39 = .ok (.ifCond .eq 8, 3) := by decide +kernel
theorem dX0_commit_42 : decode cX0_commit 42 = .ok (.aload_n 1, 1) := by decide +kernel
theorem dX0_commit_43 : decode cX0_commit 43 = .ok (.iload_n 3, 1) := by decide +kernel
theorem dX0_commit_44 : decode cX0_commit 44 = .ok (.putfield 122, 3) := by decide +kernel
theorem dX0_commit_47 : decode cX0_commit 47 = .ok (.iinc 3 (-1), 3) := by decide +kernel
theorem dX0_commit_50 : decode cX0_commit 50 = .ok (.goto (-40), 3) := by decide +kernel
theorem dX0_commit_53 : decode cX0_commit 53 = .ok (.aload_n 1, 1) := by decide +kernel
theorem dX0_commit_54 : decode cX0_commit 54 = .ok (.invokevirtual 198, 3) := by decide +kernel
theorem dX0_commit_57 : decode cX0_commit 57 = .ok (.ifCond .ne 4, 3) := by decide +kernel
theorem dX0_commit_60 : decode cX0_commit 60 = .ok (.return_, 1) := by decide +kernel
theorem dX0_commit_61 : decode cX0_commit 61 = .ok (.aload_n 2, 1) := by decide +kernel
theorem dX0_commit_62 : decode cX0_commit 62 = .ok (.invokevirtual 201, 3) := by decide +kernel
theorem dX0_commit_65 : decode cX0_commit 65 = .ok (.ifCond .eq 20, 3) := by decide +kernel
theorem dX0_commit_68 : decode cX0_commit 68 = .ok (.aload_n 2, 1) := by decide +kernel
theorem dX0_commit_69 : decode cX0_commit 69 = .ok (.aload_n 1, 1) := by decide +kernel
theorem dX0_commit_70 : decode cX0_commit 70 = .ok (.getfield 129, 3) := by decide +kernel
theorem dX0_commit_73 : decode cX0_commit 73 = .ok (.iconst 2, 1) := by decide +kernel
theorem dX0_commit_74 : decode cX0_commit 74 = .ok (.aload_n 2, 1) := by decide +kernel
theorem dX0_commit_75 : decode cX0_commit 75 = .ok (.getfield 204, 3) := by decide +kernel
theorem dX0_commit_78 : decode cX0_commit 78 = .ok (.invokevirtual 132, 3) := by decide +kernel
theorem dX0_commit_81 : decode cX0_commit 81 = .ok (.pop, 1) := by decide +kernel
theorem dX0_commit_82 : decode cX0_commit 82 = .ok (.goto 19, 3) := by decide +kernel
theorem dX0_commit_85 : decode cX0_commit 85 = .ok (.aload_n 1, 1) := by decide +kernel
theorem dX0_commit_86 : decode cX0_commit 86 = .ok (.invokevirtual 148, 3) := by decide +kernel
theorem dX0_commit_89 : decode cX0_commit 89 = .ok (.ifCond .ne 12, 3) := by decide +kernel
theorem dX0_commit_92 : decode cX0_commit 92 = .ok (.aload_n 1, 1) := by decide +kernel
theorem dX0_commit_93 : decode cX0_commit 93 = .ok (.invokevirtual 207, 3) := by decide +kernel
theorem dX0_commit_96 : decode cX0_commit 96 = .ok (.aload_n 0, 1) := by decide +kernel
theorem dX0_commit_97 : decode cX0_commit 97 = .ok (.aload_n 1, 1) := by decide +kernel
theorem dX0_commit_98 : decode cX0_commit 98 = .ok (.invokevirtual 55, 3) := by decide +kernel
theorem dX0_commit_101 : decode cX0_commit 101 = .ok (.return_, 1) := by decide +kernel
theorem dX0_sendToMembers_0 : decode cX0_sendToMembers 0 = .ok (.iconst 0, 1) := by decide +kernel
theorem dX0_sendToMembers_1 : decode cX0_sendToMembers 1 = .ok (.istore_n 2, 1) := by decide +kernel
theorem dX0_sendToMembers_2 : decode cX0_sendToMembers 2 = .ok (.iload_n 2, 1) := by decide +kernel
theorem dX0_sendToMembers_3 : decode cX0_sendToMembers 3 = .ok (.iconst 5, 1) := by decide +kernel
theorem dX0_sendToMembers_4 : decode cX0_sendToMembers 4 = .ok (.if_icmp .ge 34, 3) := by decide +kernel
theorem dX0_sendToMembers_7 : decode cX0_sendToMembers 7 = .ok (.iload_n 2, 1) := by decide +kernel
theorem dX0_sendToMembers_8 : decode cX0_sendToMembers 8 = .ok (.aload_n 1, 1) := by decide +kernel
theorem dX0_sendToMembers_9 : decode cX0_sendToMembers 9 = .ok (.getfield 138, 3) := by decide +kernel
theorem dX0_sendToMembers_12 : decode cX0_sendToMembers 12 = .ok (.if_icmp .eq 20, 3) := by decide +kernel
theorem dX0_sendToMembers_15 : decode cX0_sendToMembers 15 = .ok (.aload_n 1, 1) := by decide +kernel
theorem dX0_sendToMembers_16 : decode cX0_sendToMembers 16 = .ok (.getfield 113, 3) := by decide +kernel
theorem dX0_sendToMembers_19 : decode cX0_sendToMembers 19 = .ok (.iload_n 2, 1) := by decide +kernel
theorem dX0_sendToMembers_20 : decode cX0_sendToMembers 20 = .ok (.invokevirtual 161, 3) := by decide +kernel
theorem dX0_sendToMembers_23 : decode cX0_sendToMembers 23 = .ok (.ifCond .eq 9, 3) := by decide +kernel
theorem dX0_sendToMembers_26 : decode cX0_sendToMembers 26 = .ok (.aload_n 0, 1) := by decide +kernel
theorem dX0_sendToMembers_27 : decode cX0_sendToMembers 27 = .ok (.aload_n 1, 1) := by decide +kernel
theorem dX0_sendToMembers_28 : decode cX0_sendToMembers 28 = .ok (.iload_n 2, 1) := by decide +kernel
theorem dX0_sendToMembers_29 : decode cX0_sendToMembers 29 = .ok (.invokevirtual 210, 3) := by decide +kernel
theorem dX0_sendToMembers_32 : decode cX0_sendToMembers 32 = .ok (.iinc 2 1, 3) := by decide +kernel
theorem dX0_sendToMembers_35 : decode cX0_sendToMembers 35 = .ok (.goto (-33), 3) := by decide +kernel
theorem dX0_sendToMembers_38 : decode cX0_sendToMembers 38 = .ok (.return_, 1) := by decide +kernel
theorem dX0_sendTo_0 : decode cX0_sendTo 0 = .ok (.aload_n 1, 1) := by decide +kernel
theorem dX0_sendTo_1 : decode cX0_sendTo 1 = .ok (.getfield 113, 3) := by decide +kernel
theorem dX0_sendTo_4 : decode cX0_sendTo 4 = .ok (.astore_n 3, 1) := by decide +kernel
theorem dX0_sendTo_5 : decode cX0_sendTo 5 = .ok (.aload_n 1, 1) := by decide +kernel
theorem dX0_sendTo_6 : decode cX0_sendTo 6 = .ok (.getfield 213, 3) := by decide +kernel
theorem dX0_sendTo_9 : decode cX0_sendTo 9 = .ok (.iload_n 2, 1) := by decide +kernel
theorem dX0_sendTo_10 : decode cX0_sendTo 10 = .ok (.iaload, 1) := by decide +kernel
theorem dX0_sendTo_11 : decode cX0_sendTo 11 = .ok (.istore 4, 2) := by decide +kernel
theorem dX0_sendTo_13 : decode cX0_sendTo 13 = .ok (.iload 4, 2) := by decide +kernel
theorem dX0_sendTo_15 : decode cX0_sendTo 15 = .ok (.aload_n 3, 1) := by decide +kernel
theorem dX0_sendTo_16 : decode cX0_sendTo 16 = .ok (.getfield 117, 3) := by decide +kernel
theorem dX0_sendTo_19 : decode cX0_sendTo 19 = .ok (.if_icmp .gt 17, 3) := by decide +kernel
theorem dX0_sendTo_22 : decode cX0_sendTo 22 = .ok (.aload_n 3, 1) := by decide +kernel
theorem dX0_sendTo_23 : decode cX0_sendTo 23 = .ok (.aload_n 0, 1) := by decide +kernel
theorem dX0_sendTo_24 : decode cX0_sendTo 24 = .ok (.iconst 4, 1) := by decide +kernel
theorem dX0_sendTo_25 : decode cX0_sendTo 25 = .ok (.aload_n 1, 1) := by decide +kernel
theorem dX0_sendTo_26 : decode cX0_sendTo 26 = .ok (.iload_n 2, 1) := by decide +kernel
theorem dX0_sendTo_27 : decode cX0_sendTo 27 = .ok (.invokevirtual 163, 3) := by decide +kernel
theorem dX0_sendTo_30 : decode cX0_sendTo 30 = .ok (.invokevirtual 216, 3) := by decide +kernel
theorem dX0_sendTo_33 : decode cX0_sendTo 33 = .ok (.goto 51, 3) := by decide +kernel
theorem dX0_sendTo_36 : decode cX0_sendTo 36 = .ok (.aload_n 0, 1) := by decide +kernel
theorem dX0_sendTo_37 : decode cX0_sendTo 37 = .ok (.iconst 2, 1) := by decide +kernel
theorem dX0_sendTo_38 : decode cX0_sendTo 38 = .ok (.aload_n 1, 1) := by decide +kernel
theorem dX0_sendTo_39 : decode cX0_sendTo 39 = .ok (.iload_n 2, 1) := by decide +kernel
theorem dX0_sendTo_40 : decode cX0_sendTo 40 = .ok (.invokevirtual 163, 3) := by decide +kernel
theorem dX0_sendTo_43 : decode cX0_sendTo 43 = .ok (.astore 5, 2) := by decide +kernel
theorem dX0_sendTo_45 : decode cX0_sendTo 45 = .ok (.aload 5, 2) := by decide +kernel
theorem dX0_sendTo_47 : decode cX0_sendTo 47 = .ok (.iload 4, 2) := by decide +kernel
theorem dX0_sendTo_49 : decode cX0_sendTo 49 = .ok (.iconst 1, 1) := by decide +kernel
theorem dX0_sendTo_50 : decode cX0_sendTo 50 = .ok (.isub, 1) := by decide +kernel
theorem dX0_sendTo_51 : decode cX0_sendTo 51 = .ok (.putfield 167, 3) := by decide +kernel
theorem dX0_sendTo_54 : decode cX0_sendTo 54 = .ok (.aload 5, 2) := by decide +kernel
theorem dX0_sendTo_56 : decode cX0_sendTo 56 = .ok (.aload_n 3, 1) := by decide +kernel
theorem dX0_sendTo_57 : decode cX0_sendTo 57 = .ok (.iload 4, 2) := by decide +kernel
theorem dX0_sendTo_59 : decode cX0_sendTo 59 = .ok (.iconst 1, 1) := by decide +kernel
theorem dX0_sendTo_60 : decode cX0_sendTo 60 = .ok (.isub, 1) := by decide +kernel
theorem dX0_sendTo_61 : decode cX0_sendTo 61 = .ok (.invokevirtual 191, 3) := by decide +kernel
theorem dX0_sendTo_64 : decode cX0_sendTo 64 = .ok (.putfield 173, 3) := by decide +kernel
theorem dX0_sendTo_67 : decode cX0_sendTo 67 = .ok (.aload 5, 2) := by decide +kernel
theorem dX0_sendTo_69 : decode cX0_sendTo 69 = .ok (.aload_n 1, 1) := by decide +kernel
theorem dX0_sendTo_70 : decode cX0_sendTo 70 = .ok (.getfield 122, 3) := by decide +kernel
theorem dX0_sendTo_73 : decode cX0_sendTo 73 = .ok (.putfield 220, 3) := by decide +kernel
theorem dX0_sendTo_76 : decode cX0_sendTo 76 = .ok (.aload_n 3, 1) := by decide +kernel
theorem dX0_sendTo_77 : decode cX0_sendTo 77 = .ok (.iload 4, 2) := by decide +kernel
theorem dX0_sendTo_79 : decode cX0_sendTo 79 = .ok (.aload 5, 2) := by decide +kernel
theorem dX0_sendTo_81 : decode cX0_sendTo 81 = .ok (.invokevirtual 221, 3) := by decide +kernel
theorem dX0_sendTo_84 : decode cX0_sendTo 84 = .ok (.aload_n 0, 1) := by decide +kernel
theorem dX0_sendTo_85 : decode cX0_sendTo 85 = .ok (.getfield 23, 3) := by decide +kernel
theorem dX0_sendTo_88 : decode cX0_sendTo 88 = .ok (.invokevirtual 176, 3) := by decide +kernel
theorem dX0_sendTo_91 : decode cX0_sendTo 91 = .ok (.return_, 1) := by decide +kernel
theorem dX0_open_0 : decode cX0_open 0 = .ok (.aload_n 0, 1) := by decide +kernel
theorem dX0_open_1 : decode cX0_open 1 = .ok (.getfield 23, 3) := by decide +kernel
theorem dX0_open_4 : decode cX0_open 4 = .ok (.getfield 225, 3) := by decide +kernel
theorem dX0_open_7 : decode cX0_open 7 = .ok (.astore 4, 2) := by decide +kernel
theorem dX0_open_9 : decode cX0_open 9 = .ok (.aload 4, 2) := by decide +kernel
theorem dX0_open_11 : decode cX0_open 11 = .ok (.invokevirtual 228, 3) := by decide +kernel
theorem dX0_open_14 : decode cX0_open 14 = .ok (.aload 4, 2) := by decide +kernel
theorem dX0_open_16 : decode cX0_open 16 = .ok (.iload_n 1, 1) := by decide +kernel
theorem dX0_open_17 : decode cX0_open 17 = .ok (.putfield 229, 3) := by decide +kernel
theorem dX0_open_20 : decode cX0_open 20 = .ok (.aload 4, 2) := by decide +kernel
theorem dX0_open_22 : decode cX0_open 22 = .ok (.aload_n 2, 1) := by decide +kernel
theorem dX0_open_23 : decode cX0_open 23 = .ok (.getfield 138, 3) := by decide +kernel
theorem dX0_open_26 : decode cX0_open 26 = .ok (.putfield 85, 3) := by decide +kernel
theorem dX0_open_29 : decode cX0_open 29 = .ok (.aload 4, 2) := by decide +kernel
theorem dX0_open_31 : decode cX0_open 31 = .ok (.iload_n 3, 1) := by decide +kernel
theorem dX0_open_32 : decode cX0_open 32 = .ok (.putfield 94, 3) := by decide +kernel
theorem dX0_open_35 : decode cX0_open 35 = .ok (.aload 4, 2) := by decide +kernel
theorem dX0_open_37 : decode cX0_open 37 = .ok (.aload_n 2, 1) := by decide +kernel
theorem dX0_open_38 : decode cX0_open 38 = .ok (.getfield 129, 3) := by decide +kernel
theorem dX0_open_41 : decode cX0_open 41 = .ok (.putfield 232, 3) := by decide +kernel
theorem dX0_open_44 : decode cX0_open 44 = .ok (.aload 4, 2) := by decide +kernel
theorem dX0_open_46 : decode cX0_open 46 = .ok (.aload_n 0, 1) := by decide +kernel
theorem dX0_open_47 : decode cX0_open 47 = .ok (.getfield 35, 3) := by decide +kernel
theorem dX0_open_50 : decode cX0_open 50 = .ok (.aload_n 0, 1) := by decide +kernel
theorem dX0_open_51 : decode cX0_open 51 = .ok (.getfield 23, 3) := by decide +kernel
theorem dX0_open_54 : decode cX0_open 54 = .ok (.getfield 233, 3) := by decide +kernel
theorem dX0_open_57 : decode cX0_open 57 = .ok (.iadd, 1) := by decide +kernel
theorem dX0_open_58 : decode cX0_open 58 = .ok (.putfield 236, 3) := by decide +kernel
theorem dX0_open_61 : decode cX0_open 61 = .ok (.aload 4, 2) := by decide +kernel
theorem dX0_open_63 : decode cX0_open 63 = .ok (.aload_n 0, 1) := by decide +kernel
theorem dX0_open_64 : decode cX0_open 64 = .ok (.getfield 35, 3) := by decide +kernel
theorem dX0_open_67 : decode cX0_open 67 = .ok (.putfield 239, 3) := by decide +kernel
theorem dX0_open_70 : decode cX0_open 70 = .ok (.aload 4, 2) := by decide +kernel
theorem dX0_open_72 : decode cX0_open 72 = .ok (.areturn, 1) := by decide +kernel
theorem dX0_receive_0 : decode cX0_receive 0 = .ok (.aload_n 1, 1) := by decide +kernel
theorem dX0_receive_1 : decode cX0_receive 1 = .ok (.getfield 109, 3) := by decide +kernel
theorem dX0_receive_4 : decode cX0_receive 4 = .ok (.ifCond .ne 18, 3) := by decide +kernel
theorem dX0_receive_7 : decode cX0_receive 7 = .ok (.aload_n 0, 1) := by decide +kernel
theorem dX0_receive_8 : decode cX0_receive 8 = .ok (.getfield 23, 3) := by decide +kernel
theorem dX0_receive_11 : decode cX0_receive 11 = .ok (.dup, 1) := by decide +kernel
theorem dX0_receive_12 : decode cX0_receive 12 = .ok (.getfield 242, 3) := by decide +kernel
theorem dX0_receive_15 : decode cX0_receive 15 = .ok (.iconst 1, 1) := by decide +kernel
theorem dX0_receive_16 : decode cX0_receive 16 = .ok (.iadd, 1) := by decide +kernel
theorem dX0_receive_17 : decode cX0_receive 17 = .ok (.putfield 242, 3) := by decide +kernel
theorem dX0_receive_20 : decode cX0_receive 20 = .ok (.iconst 0, 1) := by decide +kernel
theorem dX0_receive_21 : decode cX0_receive 21 = .ok (.ireturn, 1) := by decide +kernel
theorem dX0_receive_22 : decode cX0_receive 22 = .ok (.aload_n 2, 1) := by decide +kernel
theorem dX0_receive_23 : decode cX0_receive 23 = .ok (.getfield 232, 3) := by decide +kernel
theorem dX0_receive_26 : decode cX0_receive 26 = .ok (.aload_n 1, 1) := by decide +kernel
theorem dX0_receive_27 : decode cX0_receive 27 = .ok (.getfield 129, 3) := by decide +kernel
theorem dX0_receive_30 : decode cX0_receive 30 = .ok (.if_icmp .le 20, 3) := by decide +kernel
theorem dX0_receive_33 : decode cX0_receive 33 = .ok (.aload_n 1, 1) := by decide +kernel
theorem dX0_receive_34 : decode cX0_receive 34 = .ok (.aload_n 2, 1) := by decide +kernel
theorem dX0_receive_35 : decode cX0_receive 35 = .ok (.getfield 232, 3) := by decide +kernel
theorem dX0_receive_38 : decode cX0_receive 38 = .ok (.putfield 129, 3) := by decide +kernel
theorem dX0_receive_41 : decode cX0_receive 41 = .ok (.aload_n 1, 1) := by decide +kernel
theorem dX0_receive_42 : decode cX0_receive 42 = .ok (.iconst (-1), 1) := by decide +kernel
theorem dX0_receive_43 : decode cX0_receive 43 = .ok (.putfield 155, 3) := by decide +kernel
theorem dX0_receive_46 : decode cX0_receive 46 = .ok (.aload_n 1, 1) := by decide +kernel
theorem dX0_receive_47 : decode cX0_receive 47 = .ok (.invokevirtual 207, 3) := by decide +kernel
theorem dX0_receive_50 : decode cX0_receive 50 = .ok (.aload_n 2, 1) := by decide +kernel
theorem dX0_receive_51 : decode cX0_receive 51 = .ok (.getfield 229, 3) := by decide +kernel
theorem dX0_receive_54 : decode cX0_receive 54 = .ok (.tableswitch 51 0 3 #[30, 37, 51, 44], 30) := by decide +kernel
theorem dX0_receive_84 : decode cX0_receive 84 = .ok (.aload_n 0, 1) := by decide +kernel
theorem dX0_receive_85 : decode cX0_receive 85 = .ok (.aload_n 1, 1) := by decide +kernel
theorem dX0_receive_86 : decode cX0_receive 86 = .ok (.aload_n 2, 1) := by decide +kernel
theorem dX0_receive_87 : decode cX0_receive 87 = .ok (.invokevirtual 245, 3) := by decide +kernel
theorem dX0_receive_90 : decode cX0_receive 90 = .ok (.ireturn, 1) := by decide +kernel
theorem dX0_receive_91 : decode cX0_receive 91 = .ok (.aload_n 0, 1) := by decide +kernel
theorem dX0_receive_92 : decode cX0_receive 92 = .ok (.aload_n 1, 1) := by decide +kernel
theorem dX0_receive_93 : decode cX0_receive 93 = .ok (.aload_n 2, 1) := by decide +kernel
theorem dX0_receive_94 : decode cX0_receive 94 = .ok (.invokevirtual 248, 3) := by decide +kernel
theorem dX0_receive_97 : decode cX0_receive 97 = .ok (.ireturn, 1) := by decide +kernel
theorem dX0_receive_98 : decode cX0_receive 98 = .ok (.aload_n 0, 1) := by decide +kernel
theorem dX0_receive_99 : decode cX0_receive 99 = .ok (.aload_n 1, 1) := by decide +kernel
theorem dX0_receive_100 : decode cX0_receive 100 = .ok (.aload_n 2, 1) := by decide +kernel
theorem dX0_receive_101 : decode cX0_receive 101 = .ok (.invokevirtual 251, 3) := by decide +kernel
theorem dX0_receive_104 : decode cX0_receive 104 = .ok (.ireturn, 1) := by decide +kernel
theorem dX0_receive_105 : decode cX0_receive 105 = .ok (.aload_n 2, 1) := by decide +kernel
theorem dX0_receive_106 : decode cX0_receive 106 = .ok (.getfield 232, 3) := by decide +kernel
theorem dX0_receive_109 : decode cX0_receive 109 = .ok (.aload_n 1, 1) := by decide +kernel
theorem dX0_receive_110 : decode cX0_receive 110 = .ok (.getfield 129, 3) := by decide +kernel
theorem dX0_receive_113 : decode cX0_receive 113 = .ok (.if_icmp .ge 13, 3) := by decide +kernel
theorem dX0_receive_116 : decode cX0_receive 116 = .ok (.aload_n 0, 1) := by decide +kernel
theorem dX0_receive_117 : decode cX0_receive 117 = .ok (.aload_n 1, 1) := by decide +kernel
theorem dX0_receive_118 : decode cX0_receive 118 = .ok (.aload_n 2, 1) := by decide +kernel
theorem dX0_receive_119 : decode cX0_receive 119 = .ok (.iconst 0, 1) := by decide +kernel
theorem dX0_receive_120 : decode cX0_receive 120 = .ok (.iconst 0, 1) := by decide +kernel
theorem dX0_receive_121 : decode cX0_receive 121 = .ok (.invokevirtual 254, 3) := by decide +kernel
theorem dX0_receive_124 : decode cX0_receive 124 = .ok (.iconst 0, 1) := by decide +kernel
theorem dX0_receive_125 : decode cX0_receive 125 = .ok (.ireturn, 1) := by decide +kernel
theorem dX0_receive_126 : decode cX0_receive 126 = .ok (.aload_n 1, 1) := by decide +kernel
theorem dX0_receive_127 : decode cX0_receive 127 = .ok (.invokevirtual 207, 3) := by decide +kernel
theorem dX0_receive_130 : decode cX0_receive 130 = .ok (.aload_n 0, 1) := by decide +kernel
theorem dX0_receive_131 : decode cX0_receive 131 = .ok (.aload_n 1, 1) := by decide +kernel
theorem dX0_receive_132 : decode cX0_receive 132 = .ok (.invokevirtual 55, 3) := by decide +kernel
theorem dX0_receive_135 : decode cX0_receive 135 = .ok (.aload_n 2, 1) := by decide +kernel
theorem dX0_receive_136 : decode cX0_receive 136 = .ok (.getfield 229, 3) := by decide +kernel
theorem dX0_receive_139 : decode cX0_receive 139 = .ok (.iconst 2, 1) := by decide +kernel
theorem dX0_receive_140 : decode cX0_receive 140 = .ok (.if_icmp .ne 12, 3) := by decide +kernel
theorem dX0_receive_143 : decode cX0_receive 143 = .ok (.aload_n 0, 1) := by decide +kernel
theorem dX0_receive_144 : decode cX0_receive 144 = .ok (.aload_n 1, 1) := by decide +kernel
theorem dX0_receive_145 : decode cX0_receive 145 = .ok (.aload_n 2, 1) := by decide +kernel
theorem dX0_receive_146 : decode cX0_receive 146 = .ok (.invokevirtual 258, 3) := by decide +kernel
theorem dX0_receive_149 : decode cX0_receive 149 = .ok (.goto 9, 3) := by decide +kernel
theorem dX0_receive_152 : decode cX0_receive 152 = .ok (.aload_n 0, 1) := by decide +kernel
theorem dX0_receive_153 : decode cX0_receive 153 = .ok (.aload_n 1, 1) := by decide +kernel
theorem dX0_receive_154 : decode cX0_receive 154 = .ok (.aload_n 2, 1) := by decide +kernel
theorem dX0_receive_155 : decode cX0_receive 155 = .ok (.invokevirtual 261, 3) := by decide +kernel
theorem dX0_receive_158 : decode cX0_receive 158 = .ok (.ireturn, 1) := by decide +kernel
theorem dX0_takeRequest_0 : decode cX0_takeRequest 0 = .ok (.aload_n 2, 1) := by decide +kernel
theorem dX0_takeRequest_1 : decode cX0_takeRequest 1 = .ok (.getfield 232, 3) := by decide +kernel
theorem dX0_takeRequest_4 : decode cX0_takeRequest 4 = .ok (.aload_n 1, 1) := by decide +kernel
theorem dX0_takeRequest_5 : decode cX0_takeRequest 5 = .ok (.getfield 129, 3) := by decide +kernel
theorem dX0_takeRequest_8 : decode cX0_takeRequest 8 = .ok (.if_icmp .ne 44, 3) := by decide +kernel
theorem dX0_takeRequest_11 : decode cX0_takeRequest 11 = .ok (.aload_n 1, 1) := by decide +kernel
theorem dX0_takeRequest_12 : decode cX0_takeRequest 12 = .ok (.getfield 155, 3) := by decide +kernel
theorem dX0_takeRequest_15 : decode cX0_takeRequest 15 = .ok (.iconst (-1), 1) := by decide +kernel
theorem dX0_takeRequest_16 : decode cX0_takeRequest 16 = .ok (.if_icmp .eq 14, 3) := by decide +kernel
theorem dX0_takeRequest_19 : decode cX0_takeRequest 19 = .ok (.aload_n 1, 1) := by decide +kernel
theorem dX0_takeRequest_20 : decode cX0_takeRequest 20 = .ok (.getfield 155, 3) := by decide +kernel
theorem dX0_takeRequest_23 : decode cX0_takeRequest 23 = .ok (.aload_n 2, 1) := by decide +kernel
theorem dX0_takeRequest_24 : decode cX0_takeRequest 24 = .ok (.getfield 85, 3) := by decide +kernel
theorem dX0_takeRequest_27 : decode cX0_takeRequest 27 = .ok (.if_icmp .ne 25, 3) := by decide +kernel
theorem dX0_takeRequest_30 : decode cX0_takeRequest 30 = .ok (.aload_n 1, 1) := by decide +kernel
theorem dX0_takeRequest_31 : decode cX0_takeRequest 31 = .ok (.getfield 113, 3) := by decide +kernel
theorem dX0_takeRequest_34 : decode cX0_takeRequest 34 = .ok (.aload_n 2, 1) := by decide +kernel
theorem dX0_takeRequest_35 : decode cX0_takeRequest 35 = .ok (.getfield 167, 3) := by decide +kernel
theorem dX0_takeRequest_38 : decode cX0_takeRequest 38 = .ok (.aload_n 2, 1) := by decide +kernel
theorem dX0_takeRequest_39 : decode cX0_takeRequest 39 = .ok (.getfield 173, 3) := by decide +kernel
theorem dX0_takeRequest_42 : decode cX0_takeRequest 42 = .ok (.invokevirtual 264, 3) := by decide +kernel
theorem dX0_takeRequest_45 : decode cX0_takeRequest 45 = .ok (.ifCond .eq 7, 3) := by decide +kernel
theorem dX0_takeRequest_48 : decode cX0_takeRequest 48 = .ok (.iconst 1, 1) := by decide +kernel
theorem dX0_takeRequest_49 : decode cX0_takeRequest 49 = .ok (.goto 4, 3) := by decide +kernel
theorem dX0_takeRequest_52 : decode cX0_takeRequest 52 = .ok (.iconst 0, 1) := by decide +kernel
theorem dX0_takeRequest_53 : decode cX0_takeRequest 53 = .ok (.istore_n 3, 1) := by decide +kernel
theorem dX0_takeRequest_54 : decode cX0_takeRequest 54 = .ok (.iload_n 3, 1) := by decide +kernel
theorem dX0_takeRequest_55 : decode cX0_takeRequest 55 = .ok (.ifCond .eq 16, 3) := by decide +kernel
theorem dX0_takeRequest_58 : decode cX0_takeRequest 58 = .ok (.aload_n 1, 1) := by decide +kernel
theorem dX0_takeRequest_59 : decode cX0_takeRequest 59 = .ok (.aload_n 2, 1) := by decide +kernel
theorem dX0_takeRequest_60 : decode cX0_takeRequest 60 = .ok (.getfield 85, 3) := by decide +kernel
theorem dX0_takeRequest_63 : decode cX0_takeRequest 63 = .ok (.putfield 155, 3) := by decide +kernel
theorem dX0_takeRequest_66 : decode cX0_takeRequest 66 = .ok (.aload_n 0, 1) := by decide +kernel
theorem dX0_takeRequest_67 : decode cX0_takeRequest 67 = .ok (.aload_n 1, 1) := by decide +kernel
theorem dX0_takeRequest_68 : decode cX0_takeRequest 68 = .ok (.invokevirtual 55, 3) := by decide +kernel
theorem dX0_takeRequest_71 : decode cX0_takeRequest 71 = .ok (.aload_n 0, 1) := by decide +kernel
theorem dX0_takeRequest_72 : decode cX0_takeRequest 72 = .ok (.iconst 1, 1) := by decide +kernel
theorem dX0_takeRequest_73 : decode cX0_takeRequest 73 = .ok (.aload_n 1, 1) := by decide +kernel
theorem dX0_takeRequest_74 : decode cX0_takeRequest 74 = .ok (.aload_n 2, 1) := by decide +kernel
theorem dX0_takeRequest_75 : decode cX0_takeRequest 75 = .ok (.getfield 85, 3) := by decide +kernel
theorem dX0_takeRequest_78 : decode cX0_takeRequest 78 = .ok (.invokevirtual 163, 3) := by decide +kernel
theorem dX0_takeRequest_81 : decode cX0_takeRequest 81 = .ok (.astore 4, 2) := by decide +kernel
theorem dX0_takeRequest_83 : decode cX0_takeRequest 83 = .ok (.aload 4, 2) := by decide +kernel
theorem dX0_takeRequest_85 : decode cX0_takeRequest 85 = .ok (.iload_n 3, 1) := by decide +kernel
theorem dX0_takeRequest_86 : decode cX0_takeRequest 86 = .ok (.putfield 267, 3) := by decide +kernel
theorem dX0_takeRequest_89 : decode cX0_takeRequest 89 = .ok (.aload_n 0, 1) := by decide +kernel
theorem dX0_takeRequest_90 : decode cX0_takeRequest 90 = .ok (.getfield 23, 3) := by decide +kernel
theorem dX0_takeRequest_93 : decode cX0_takeRequest 93 = .ok (.invokevirtual 176, 3) := by decide +kernel
theorem dX0_takeRequest_96 : decode cX0_takeRequest 96 = .ok (.iconst 0, 1) := by decide +kernel
theorem dX0_takeRequest_97 : decode cX0_takeRequest 97 = .ok (.ireturn, 1) := by decide +kernel
theorem dX0_takeReply_0 : decode cX0_takeReply 0 = .ok (.aload_n 1, 1) := by decide +kernel
theorem dX0_takeReply_1 : decode cX0_takeReply 1 = .ok (.getfield 145, 3) := by decide +kernel
theorem dX0_takeReply_4 : decode cX0_takeReply 4 = .ok (.iconst 1, 1) := by decide +kernel
theorem dX0_takeReply_5 : decode cX0_takeReply 5 = .ok (.if_icmp .ne 21, 3) := by decide +kernel
theorem dX0_takeReply_8 : decode cX0_takeReply 8 = .ok (.aload_n 2, 1) := by decide +kernel
theorem dX0_takeReply_9 : decode cX0_takeReply 9 = .ok (.getfield 232, 3) := by decide +kernel
theorem dX0_takeReply_12 : decode cX0_takeReply 12 = .ok (.aload_n 1, 1) := by decide +kernel
theorem dX0_takeReply_13 : decode cX0_takeReply 13 = .ok (.getfield 129, 3) := by decide +kernel
theorem dX0_takeReply_16 : decode cX0_takeReply 16 = .ok (.if_icmp .ne 10, 3) := by decide +kernel
theorem dX0_takeReply_19 : decode cX0_takeReply 19 = .ok (.aload_n 2, 1) := by decide +kernel
theorem dX0_takeReply_20 : decode cX0_takeReply 20 = .ok (.getfield 267, 3) := by decide +kernel
theorem dX0_takeReply_23 : decode cX0_takeReply 23 = .ok (.ifCond .ne 5, 3) := by decide +kernel
theorem dX0_takeReply_26 : decode cX0_takeReply 26 = .ok (.iconst 0, 1) := by decide +kernel
theorem dX0_takeReply_27 : decode cX0_takeReply 27 = .ok (.ireturn, 1) := by decide +kernel
theorem dX0_takeReply_28 : decode cX0_takeReply 28 = .ok (.aload_n 1, 1) := by decide +kernel
theorem dX0_takeReply_29 : decode cX0_takeReply 29 = .ok (.dup, 1) := by decide +kernel
theorem dX0_takeReply_30 : decode cX0_takeReply 30 = .ok (.getfield 158, 3) := by decide +kernel
theorem dX0_takeReply_33 : decode cX0_takeReply 33 = .ok (.iconst 1, 1) := by decide +kernel
theorem dX0_takeReply_34 : decode cX0_takeReply 34 = .ok (.aload_n 2, 1) := by decide +kernel
theorem dX0_takeReply_35 : decode cX0_takeReply 35 = .ok (.getfield 85, 3) := by decide +kernel
theorem dX0_takeReply_38 : decode cX0_takeReply 38 = .ok (.ishl, 1) := by decide +kernel
theorem dX0_takeReply_39 : decode cX0_takeReply 39 = .ok (.ior, 1) := by decide +kernel
theorem dX0_takeReply_40 : decode cX0_takeReply 40 = .ok (.putfield 158, 3) := by decide +kernel
theorem dX0_takeReply_43 : decode cX0_takeReply 43 = .ok (.aload_n 1, 1) := by decide +kernel
theorem dX0_takeReply_44 : decode cX0_takeReply 44 = .ok (.getfield 113, 3) := by decide +kernel
theorem dX0_takeReply_47 : decode cX0_takeReply 47 = .ok (.aload_n 1, 1) := by decide +kernel
theorem dX0_takeReply_48 : decode cX0_takeReply 48 = .ok (.getfield 158, 3) := by decide +kernel
theorem dX0_takeReply_51 : decode cX0_takeReply 51 = .ok (.invokevirtual 179, 3) := by decide +kernel
theorem dX0_takeReply_54 : decode cX0_takeReply 54 = .ok (.ifCond .eq 7, 3) := by decide +kernel
theorem dX0_takeReply_57 : decode cX0_takeReply 57 = .ok (.iconst 1, 1) := by decide +kernel
theorem dX0_takeReply_58 : decode cX0_takeReply 58 = .ok (.goto 4, 3) := by decide +kernel
theorem dX0_takeReply_61 : decode cX0_takeReply 61 = .ok (.iconst 0, 1) := by decide +kernel
theorem dX0_takeReply_62 : decode cX0_takeReply 62 = .ok (.ireturn, 1) := by decide +kernel
theorem dX0_takeAnswer_0 : decode cX0_takeAnswer 0 = .ok (.aload_n 2, 1) := by decide +kernel
theorem dX0_takeAnswer_1 : decode cX0_takeAnswer 1 = .ok (.getfield 85, 3) := by decide +kernel
theorem dX0_takeAnswer_4 : decode cX0_takeAnswer 4 = .ok (.istore_n 3, 1) := by decide +kernel
theorem dX0_takeAnswer_5 : decode cX0_takeAnswer 5 = .ok (.aload_n 1, 1) := by decide +kernel
theorem dX0_takeAnswer_6 : decode cX0_takeAnswer 6 = .ok (.getfield 145, 3) := by decide +kernel
theorem dX0_takeAnswer_9 : decode cX0_takeAnswer 9 = .ok (.iconst 2, 1) := by decide +kernel
theorem dX0_takeAnswer_10 : decode cX0_takeAnswer 10 = .ok (.if_icmp .ne 14, 3) := by decide +kernel
theorem dX0_takeAnswer_13 : decode cX0_takeAnswer 13 = .ok (.aload_n 2, 1) := by decide +kernel
theorem dX0_takeAnswer_14 : decode cX0_takeAnswer 14 = .ok (.getfield 232, 3) := by decide +kernel
theorem dX0_takeAnswer_17 : decode cX0_takeAnswer 17 = .ok (.aload_n 1, 1) := by decide +kernel
theorem dX0_takeAnswer_18 : decode cX0_takeAnswer 18 = .ok (.getfield 129, 3) := by decide +kernel
theorem dX0_takeAnswer_21 : decode cX0_takeAnswer 21 = .ok (.if_icmp .eq 5, 3) := by decide +kernel
theorem dX0_takeAnswer_24 : decode cX0_takeAnswer 24 = .ok (.iconst 0, 1) := by decide +kernel
theorem dX0_takeAnswer_25 : decode cX0_takeAnswer 25 = .ok (.ireturn, 1) := by decide +kernel
theorem dX0_takeAnswer_26 : decode cX0_takeAnswer 26 = .ok (.aload_n 2, 1) := by decide +kernel
theorem dX0_takeAnswer_27 : decode cX0_takeAnswer 27 = .ok (.getfield 267, 3) := by decide +kernel
theorem dX0_takeAnswer_30 : decode cX0_takeAnswer 30 = .ok (.ifCond .ne 38, 3) := by decide +kernel
theorem dX0_takeAnswer_33 : decode cX0_takeAnswer 33 = .ok (.aload_n 1, 1) := by decide +kernel
theorem dX0_takeAnswer_34 : decode cX0_takeAnswer 34 = .ok (.getfield 213, 3) := by decide +kernel
theorem dX0_takeAnswer_37 : decode cX0_takeAnswer 37 = .ok (.iload_n 3, 1) := by decide +kernel
theorem dX0_takeAnswer_38 : decode cX0_takeAnswer 38 = .ok (.iconst 1, 1) := by decide +kernel
theorem dX0_takeAnswer_39 : decode cX0_takeAnswer 39 = .ok (.aload_n 1, 1) := by decide +kernel
theorem dX0_takeAnswer_40 : decode cX0_takeAnswer 40 = .ok (.getfield 213, 3) := by decide +kernel
theorem dX0_takeAnswer_43 : decode cX0_takeAnswer 43 = .ok (.iload_n 3, 1) := by decide +kernel
theorem dX0_takeAnswer_44 : decode cX0_takeAnswer 44 = .ok (.iaload, 1) := by decide +kernel
theorem dX0_takeAnswer_45 : decode cX0_takeAnswer 45 = .ok (.iconst 1, 1) := by decide +kernel
theorem dX0_takeAnswer_46 : decode cX0_takeAnswer 46 = .ok (.isub, 1) := by decide +kernel
theorem dX0_takeAnswer_47 : decode cX0_takeAnswer 47 = .ok (.aload_n 2, 1) := by decide +kernel
theorem dX0_takeAnswer_48 : decode cX0_takeAnswer 48 = .ok (.getfield 167, 3) := by decide +kernel
theorem dX0_takeAnswer_51 : decode cX0_takeAnswer 51 = .ok (.iconst 1, 1) := by decide +kernel
theorem dX0_takeAnswer_52 : decode cX0_takeAnswer 52 = .ok (.iadd, 1) := by decide +kernel
theorem dX0_takeAnswer_53 : decode cX0_takeAnswer 53 = .ok (.invokestatic 270, 3) := by decide +kernel
theorem dX0_takeAnswer_56 : decode cX0_takeAnswer 56 = .ok (.invokestatic 276, 3) := by decide +kernel
theorem dX0_takeAnswer_59 : decode cX0_takeAnswer 59 = .ok (.iastore, 1) := by decide +kernel
theorem dX0_takeAnswer_60 : decode cX0_takeAnswer 60 = .ok (.aload_n 0, 1) := by decide +kernel
theorem dX0_takeAnswer_61 : decode cX0_takeAnswer 61 = .ok (.aload_n 1, 1) := by decide +kernel
theorem dX0_takeAnswer_62 : decode cX0_takeAnswer 62 = .ok (.iload_n 3, 1) := by decide +kernel
theorem dX0_takeAnswer_63 : decode cX0_takeAnswer 63 = .ok (.invokevirtual 210, 3) := by decide +kernel
theorem dX0_takeAnswer_66 : decode cX0_takeAnswer 66 = .ok (.iconst 0, 1) := by decide +kernel
theorem dX0_takeAnswer_67 : decode cX0_takeAnswer 67 = .ok (.ireturn, 1) := by decide +kernel
theorem dX0_takeAnswer_68 : decode cX0_takeAnswer 68 = .ok (.aload_n 1, 1) := by decide +kernel
theorem dX0_takeAnswer_69 : decode cX0_takeAnswer 69 = .ok (.getfield 279, 3) := by decide +kernel
theorem dX0_takeAnswer_72 : decode cX0_takeAnswer 72 = .ok (.iload_n 3, 1) := by decide +kernel
theorem dX0_takeAnswer_73 : decode cX0_takeAnswer 73 = .ok (.aload_n 1, 1) := by decide +kernel
theorem dX0_takeAnswer_74 : decode cX0_takeAnswer 74 = .ok (.getfield 279, 3) := by decide +kernel
theorem dX0_takeAnswer_77 : decode cX0_takeAnswer 77 = .ok (.iload_n 3, 1) := by decide +kernel
theorem dX0_takeAnswer_78 : decode cX0_takeAnswer 78 = .ok (.iaload, 1) := by decide +kernel
theorem dX0_takeAnswer_79 : decode cX0_takeAnswer 79 = .ok (.aload_n 2, 1) := by decide +kernel
theorem dX0_takeAnswer_80 : decode cX0_takeAnswer 80 = .ok (.getfield 167, 3) := by decide +kernel
theorem dX0_takeAnswer_83 : decode cX0_takeAnswer 83 = .ok (.invokestatic 276, 3) := by decide +kernel
theorem dX0_takeAnswer_86 : decode cX0_takeAnswer 86 = .ok (.iastore, 1) := by decide +kernel
theorem dX0_takeAnswer_87 : decode cX0_takeAnswer 87 = .ok (.aload_n 1, 1) := by decide +kernel
theorem dX0_takeAnswer_88 : decode cX0_takeAnswer 88 = .ok (.getfield 213, 3) := by decide +kernel
theorem dX0_takeAnswer_91 : decode cX0_takeAnswer 91 = .ok (.iload_n 3, 1) := by decide +kernel
theorem dX0_takeAnswer_92 : decode cX0_takeAnswer 92 = .ok (.aload_n 1, 1) := by decide +kernel
theorem dX0_takeAnswer_93 : decode cX0_takeAnswer 93 = .ok (.getfield 279, 3) := by decide +kernel
theorem dX0_takeAnswer_96 : decode cX0_takeAnswer 96 = .ok (.iload_n 3, 1) := by decide +kernel
theorem dX0_takeAnswer_97 : decode cX0_takeAnswer 97 = .ok (.iaload, 1) := by decide +kernel
theorem dX0_takeAnswer_98 : decode cX0_takeAnswer 98 = .ok (.iconst 1, 1) := by decide +kernel
theorem dX0_takeAnswer_99 : decode cX0_takeAnswer 99 = .ok (.iadd, 1) := by decide +kernel
theorem dX0_takeAnswer_100 : decode cX0_takeAnswer 100 = .ok (.iastore, 1) := by decide +kernel
theorem dX0_takeAnswer_101 : decode cX0_takeAnswer 101 = .ok (.aload_n 1, 1) := by decide +kernel
theorem dX0_takeAnswer_102 : decode cX0_takeAnswer 102 = .ok (.getfield 282, 3) := by decide +kernel
theorem dX0_takeAnswer_105 : decode cX0_takeAnswer 105 = .ok (.iload_n 3, 1) := by decide +kernel
theorem dX0_takeAnswer_106 : decode cX0_takeAnswer 106 = .ok (.aload_n 1, 1) := by decide +kernel
theorem dX0_takeAnswer_107 : decode cX0_takeAnswer 107 = .ok (.getfield 282, 3) := by decide +kernel
theorem dX0_takeAnswer_110 : decode cX0_takeAnswer 110 = .ok (.iload_n 3, 1) := by decide +kernel
theorem dX0_takeAnswer_111 : decode cX0_takeAnswer 111 = .ok (.iaload, 1) := by decide +kernel
theorem dX0_takeAnswer_112 : decode cX0_takeAnswer 112 = .ok (.aload_n 2, 1) := by decide +kernel
theorem dX0_takeAnswer_113 : decode cX0_takeAnswer 113 = .ok (.getfield 239, 3) := by decide +kernel
theorem dX0_takeAnswer_116 : decode cX0_takeAnswer 116 = .ok (.invokestatic 276, 3) := by decide +kernel
theorem dX0_takeAnswer_119 : decode cX0_takeAnswer 119 = .ok (.iastore, 1) := by decide +kernel
theorem dX0_takeAnswer_120 : decode cX0_takeAnswer 120 = .ok (.iconst 2, 1) := by decide +kernel
theorem dX0_takeAnswer_121 : decode cX0_takeAnswer 121 = .ok (.ireturn, 1) := by decide +kernel
theorem dX0_takeAppend_0 : decode cX0_takeAppend 0 = .ok (.aload_n 1, 1) := by decide +kernel
theorem dX0_takeAppend_1 : decode cX0_takeAppend 1 = .ok (.getfield 113, 3) := by decide +kernel
theorem dX0_takeAppend_4 : decode cX0_takeAppend 4 = .ok (.astore_n 3, 1) := by decide +kernel
theorem dX0_takeAppend_5 : decode cX0_takeAppend 5 = .ok (.aload_n 3, 1) := by decide +kernel
theorem dX0_takeAppend_6 : decode cX0_takeAppend 6 = .ok (.aload_n 2, 1) := by decide +kernel
theorem dX0_takeAppend_7 : decode cX0_takeAppend 7 = .ok (.getfield 167, 3) := by decide +kernel
theorem dX0_takeAppend_10 : decode cX0_takeAppend 10 = .ok (.aload_n 2, 1) := by decide +kernel
theorem dX0_takeAppend_11 : decode cX0_takeAppend 11 = .ok (.getfield 173, 3) := by decide +kernel
theorem dX0_takeAppend_14 : decode cX0_takeAppend 14 = .ok (.invokevirtual 285, 3) := by decide +kernel
theorem dX0_takeAppend_17 : decode cX0_takeAppend 17 = .ok (.ifCond .ne 25, 3) := by decide +kernel
theorem dX0_takeAppend_20 : decode cX0_takeAppend 20 = .ok (.aload_n 0, 1) := by decide +kernel
theorem dX0_takeAppend_21 : decode cX0_takeAppend 21 = .ok (.aload_n 1, 1) := by decide +kernel
theorem dX0_takeAppend_22 : decode cX0_takeAppend 22 = .ok (.aload_n 2, 1) := by decide +kernel
theorem dX0_takeAppend_23 : decode cX0_takeAppend 23 = .ok (.iconst 0, 1) := by decide +kernel
theorem dX0_takeAppend_24 : decode cX0_takeAppend 24 = .ok (.aload_n 3, 1) := by decide +kernel
theorem dX0_takeAppend_25 : decode cX0_takeAppend 25 = .ok (.invokevirtual 125, 3) := by decide +kernel
theorem dX0_takeAppend_28 : decode cX0_takeAppend 28 = .ok (.aload_n 2, 1) := by decide +kernel
theorem dX0_takeAppend_29 : decode cX0_takeAppend 29 = .ok (.getfield 167, 3) := by decide +kernel
theorem dX0_takeAppend_32 : decode cX0_takeAppend 32 = .ok (.iconst 1, 1) := by decide +kernel
theorem dX0_takeAppend_33 : decode cX0_takeAppend 33 = .ok (.isub, 1) := by decide +kernel
theorem dX0_takeAppend_34 : decode cX0_takeAppend 34 = .ok (.invokestatic 270, 3) := by decide +kernel
theorem dX0_takeAppend_37 : decode cX0_takeAppend 37 = .ok (.invokevirtual 254, 3) := by decide +kernel
theorem dX0_takeAppend_40 : decode cX0_takeAppend 40 = .ok (.iconst 0, 1) := by decide +kernel
theorem dX0_takeAppend_41 : decode cX0_takeAppend 41 = .ok (.ireturn, 1) := by decide +kernel
theorem dX0_takeAppend_42 : decode cX0_takeAppend 42 = .ok (.aload_n 2, 1) := by decide +kernel
theorem dX0_takeAppend_43 : decode cX0_takeAppend 43 = .ok (.getfield 167, 3) := by decide +kernel
theorem dX0_takeAppend_46 : decode cX0_takeAppend 46 = .ok (.istore 4, 2) := by decide +kernel
theorem dX0_takeAppend_48 : decode cX0_takeAppend 48 = .ok (.iconst 0, 1) := by decide +kernel
theorem dX0_takeAppend_49 : decode cX0_takeAppend 49 = .ok (.istore 5, 2) := by decide +kernel
theorem dX0_takeAppend_51 : decode cX0_takeAppend 51 = .ok (.iload 5, 2) := by decide +kernel
theorem dX0_takeAppend_53 : decode cX0_takeAppend 53 = .ok (.aload_n 2, 1) := by decide +kernel
theorem dX0_takeAppend_54 : decode cX0_takeAppend 54 = .ok (.getfield 288, 3) := by decide +kernel
theorem dX0_takeAppend_57 : decode cX0_takeAppend 57 = .ok (.if_icmp .ge 105, 3) := by decide +kernel
theorem dX0_takeAppend_60 : decode cX0_takeAppend 60 = .ok (.iload 5, 2) := by decide +kernel
theorem dX0_takeAppend_62 : decode cX0_takeAppend 62 = .ok (.iconst 4, 1) := by decide +kernel
theorem dX0_takeAppend_63 : decode cX0_takeAppend 63 = .ok (.if_icmp .ge 99, 3) := by decide +kernel
theorem dX0_takeAppend_66 : decode cX0_takeAppend 66 = .ok (.iload 4, 2) := by decide +kernel
theorem dX0_takeAppend_68 : decode cX0_takeAppend 68 = .ok (.iconst 1, 1) := by decide +kernel
theorem dX0_takeAppend_69 : decode cX0_takeAppend 69 = .ok (.iadd, 1) := by decide +kernel
theorem dX0_takeAppend_70 : decode cX0_takeAppend 70 = .ok (.istore 6, 2) := by decide +kernel
theorem dX0_takeAppend_72 : decode cX0_takeAppend 72 = .ok (.aload_n 3, 1) := by decide +kernel
theorem dX0_takeAppend_73 : decode cX0_takeAppend 73 = .ok (.iload 6, 2) := by decide +kernel
theorem dX0_takeAppend_75 : decode cX0_takeAppend 75 = .ok (.invokevirtual 289, 3) := by decide +kernel
theorem dX0_takeAppend_78 : decode cX0_takeAppend 78 = .ok (.ifCond .eq 34, 3) := by decide +kernel
theorem dX0_takeAppend_81 : decode cX0_takeAppend 81 = .ok (.aload_n 3, 1) := by decide +kernel
theorem dX0_takeAppend_82 : decode cX0_takeAppend 82 = .ok (.iload 6, 2) := by decide +kernel
theorem dX0_takeAppend_84 : decode cX0_takeAppend 84 = .ok (.invokevirtual 191, 3) := by decide +kernel
theorem dX0_takeAppend_87 : decode cX0_takeAppend 87 = .ok (.aload_n 2, 1) := by decide +kernel
theorem dX0_takeAppend_88 : decode cX0_takeAppend 88 = .ok (.getfield 292, 3) := by decide +kernel
theorem dX0_takeAppend_91 : decode cX0_takeAppend 91 = .ok (.iload 5, 2) := by decide +kernel
theorem dX0_takeAppend_93 : decode cX0_takeAppend 93 = .ok (.iaload, 1) := by decide +kernel
theorem dX0_takeAppend_94 : decode cX0_takeAppend 94 = .ok (.if_icmp .eq 18, 3) := by decide +kernel
theorem dX0_takeAppend_97 : decode cX0_takeAppend 97 = .ok (.aload_n 0, 1) := by decide +kernel
theorem dX0_takeAppend_98 : decode cX0_takeAppend 98 = .ok (.dup, 1) := by decide +kernel
theorem dX0_takeAppend_99 : decode cX0_takeAppend 99 = .ok (.getfield 44, 3) := by decide +kernel
theorem dX0_takeAppend_102 : decode cX0_takeAppend 102 = .ok (.aload_n 3, 1) := by decide +kernel
theorem dX0_takeAppend_103 : decode cX0_takeAppend 103 = .ok (.iload 6, 2) := by decide +kernel
theorem dX0_takeAppend_105 : decode cX0_takeAppend 105 = .ok (.invokevirtual 295, 3) := by decide +kernel
theorem dX0_takeAppend_108 : decode cX0_takeAppend 108 = .ok (.iadd, 1) := by decide +kernel
theorem dX0_takeAppend_109 : decode cX0_takeAppend 109 = .ok (.putfield 44, 3) := by decide +kernel
theorem dX0_takeAppend_112 : decode cX0_takeAppend 112 = .ok (.iload 6, 2) := by decide +kernel
theorem dX0_takeAppend_114 : decode cX0_takeAppend 114 = .ok (.aload_n 3, 1) := by decide +kernel
theorem dX0_takeAppend_115 : decode cX0_takeAppend 115 = .ok (.invokevirtual 125, 3) := by decide +kernel
theorem dX0_takeAppend_118 : decode cX0_takeAppend 118 = .ok (.if_icmp .le 34, 3) := by decide +kernel
theorem dX0_takeAppend_121 : decode cX0_takeAppend 121 = .ok (.aload_n 3, 1) := by decide +kernel
theorem dX0_takeAppend_122 : decode cX0_takeAppend 122 = .ok (.aload_n 2, 1) := by decide +kernel
theorem dX0_takeAppend_123 : decode cX0_takeAppend 123 = .ok (.getfield 292, 3) := by decide +kernel
theorem dX0_takeAppend_126 : decode cX0_takeAppend 126 = .ok (.iload 5, 2) := by decide +kernel
theorem dX0_takeAppend_128 : decode cX0_takeAppend 128 = .ok (.iaload, 1) := by decide +kernel
theorem dX0_takeAppend_129 : decode cX0_takeAppend 129 = .ok (.aload_n 2, 1) := by decide +kernel
theorem dX0_takeAppend_130 : decode cX0_takeAppend 130 = .ok (.getfield 298, 3) := by decide +kernel
theorem dX0_takeAppend_133 : decode cX0_takeAppend 133 = .ok (.iload 5, 2) := by decide +kernel
theorem dX0_takeAppend_135 : decode cX0_takeAppend 135 = .ok (.iaload, 1) := by decide +kernel
theorem dX0_takeAppend_136 : decode cX0_takeAppend 136 = .ok (.aload_n 2, 1) := by decide +kernel
theorem dX0_takeAppend_137 : decode cX0_takeAppend 137 = .ok (.getfield 301, 3) := by decide +kernel
theorem dX0_takeAppend_140 : decode cX0_takeAppend 140 = .ok (.iload 5, 2) := by decide +kernel
theorem dX0_takeAppend_142 : decode cX0_takeAppend 142 = .ok (.iaload, 1) := by decide +kernel
theorem dX0_takeAppend_143 : decode cX0_takeAppend 143 = .ok (.invokevirtual 132, 3) := by decide +kernel
theorem dX0_takeAppend_146 : decode cX0_takeAppend 146 = .ok (.ifCond .ne 6, 3) := by decide +kernel
theorem dX0_takeAppend_149 : decode cX0_takeAppend 149 = .ok (.goto 13, 3) := by decide +kernel
theorem dX0_takeAppend_152 : decode cX0_takeAppend 152 = .ok (.iload 6, 2) := by decide +kernel
theorem dX0_takeAppend_154 : decode cX0_takeAppend 154 = .ok (.istore 4, 2) := by decide +kernel
theorem dX0_takeAppend_156 : decode cX0_takeAppend 156 = .ok (.iinc 5 1, 3) := by decide +kernel
theorem dX0_takeAppend_159 : decode cX0_takeAppend 159 = .ok (.goto (-108), 3) := by decide +kernel
theorem dX0_takeAppend_162 : decode cX0_takeAppend 162 = .ok (.aload_n 1, 1) := by decide +kernel
theorem dX0_takeAppend_163 : decode cX0_takeAppend 163 = .ok (.aload_n 1, 1) := by decide +kernel
theorem dX0_takeAppend_164 : decode cX0_takeAppend 164 = .ok (.getfield 122, 3) := by decide +kernel
theorem dX0_takeAppend_167 : decode cX0_takeAppend 167 = .ok (.aload_n 2, 1) := by decide +kernel
theorem dX0_takeAppend_168 : decode cX0_takeAppend 168 = .ok (.getfield 220, 3) := by decide +kernel
theorem dX0_takeAppend_171 : decode cX0_takeAppend 171 = .ok (.iload 4, 2) := by decide +kernel
theorem dX0_takeAppend_173 : decode cX0_takeAppend 173 = .ok (.invokestatic 270, 3) := by decide +kernel
theorem dX0_takeAppend_176 : decode cX0_takeAppend 176 = .ok (.invokestatic 276, 3) := by decide +kernel
theorem dX0_takeAppend_179 : decode cX0_takeAppend 179 = .ok (.putfield 122, 3) := by decide +kernel
theorem dX0_takeAppend_182 : decode cX0_takeAppend 182 = .ok (.aload_n 0, 1) := by decide +kernel
theorem dX0_takeAppend_183 : decode cX0_takeAppend 183 = .ok (.aload_n 1, 1) := by decide +kernel
theorem dX0_takeAppend_184 : decode cX0_takeAppend 184 = .ok (.aload_n 2, 1) := by decide +kernel
theorem dX0_takeAppend_185 : decode cX0_takeAppend 185 = .ok (.iconst 1, 1) := by decide +kernel
theorem dX0_takeAppend_186 : decode cX0_takeAppend 186 = .ok (.iload 4, 2) := by decide +kernel
theorem dX0_takeAppend_188 : decode cX0_takeAppend 188 = .ok (.invokevirtual 254, 3) := by decide +kernel
theorem dX0_takeAppend_191 : decode cX0_takeAppend 191 = .ok (.iconst 0, 1) := by decide +kernel
theorem dX0_takeAppend_192 : decode cX0_takeAppend 192 = .ok (.ireturn, 1) := by decide +kernel
theorem dX0_takeSnapshot_0 : decode cX0_takeSnapshot 0 = .ok (.aload_n 2, 1) := by decide +kernel
theorem dX0_takeSnapshot_1 : decode cX0_takeSnapshot 1 = .ok (.getfield 167, 3) := by decide +kernel
theorem dX0_takeSnapshot_4 : decode cX0_takeSnapshot 4 = .ok (.aload_n 1, 1) := by decide +kernel
theorem dX0_takeSnapshot_5 : decode cX0_takeSnapshot 5 = .ok (.getfield 122, 3) := by decide +kernel
theorem dX0_takeSnapshot_8 : decode cX0_takeSnapshot 8 = .ok (.if_icmp .le 29, 3) := by decide +kernel
theorem dX0_takeSnapshot_11 : decode cX0_takeSnapshot 11 = .ok (.aload_n 1, 1) := by decide +kernel
theorem dX0_takeSnapshot_12 : decode cX0_takeSnapshot 12 = .ok (.getfield 113, 3) := by decide +kernel
theorem dX0_takeSnapshot_15 : decode cX0_takeSnapshot 15 = .ok (.aload_n 2, 1) := by decide +kernel
theorem dX0_takeSnapshot_16 : decode cX0_takeSnapshot 16 = .ok (.invokevirtual 304, 3) := by decide +kernel
theorem dX0_takeSnapshot_19 : decode cX0_takeSnapshot 19 = .ok (.aload_n 1, 1) := by decide +kernel
theorem dX0_takeSnapshot_20 : decode cX0_takeSnapshot 20 = .ok (.aload_n 2, 1) := by decide +kernel
theorem dX0_takeSnapshot_21 : decode cX0_takeSnapshot 21 = .ok (.getfield 167, 3) := by decide +kernel
theorem dX0_takeSnapshot_24 : decode cX0_takeSnapshot 24 = .ok (.putfield 122, 3) := by decide +kernel
theorem dX0_takeSnapshot_27 : decode cX0_takeSnapshot 27 = .ok (.aload_n 0, 1) := by decide +kernel
theorem dX0_takeSnapshot_28 : decode cX0_takeSnapshot 28 = .ok (.dup, 1) := by decide +kernel
theorem dX0_takeSnapshot_29 : decode cX0_takeSnapshot 29 = .ok (.getfield 47, 3) := by decide +kernel
theorem dX0_takeSnapshot_32 : decode cX0_takeSnapshot 32 = .ok (.iconst 1, 1) := by decide +kernel
theorem dX0_takeSnapshot_33 : decode cX0_takeSnapshot 33 = .ok (.iadd, 1) := by decide +kernel
theorem dX0_takeSnapshot_34 : decode cX0_takeSnapshot 34 = .ok (.putfield 47, 3) := by decide +kernel
theorem dX0_takeSnapshot_37 : decode cX0_takeSnapshot 37 = .ok (.aload_n 0, 1) := by decide +kernel
theorem dX0_takeSnapshot_38 : decode cX0_takeSnapshot 38 = .ok (.aload_n 1, 1) := by decide +kernel
theorem dX0_takeSnapshot_39 : decode cX0_takeSnapshot 39 = .ok (.aload_n 2, 1) := by decide +kernel
theorem dX0_takeSnapshot_40 : decode cX0_takeSnapshot 40 = .ok (.iconst 1, 1) := by decide +kernel
theorem dX0_takeSnapshot_41 : decode cX0_takeSnapshot 41 = .ok (.aload_n 1, 1) := by decide +kernel
theorem dX0_takeSnapshot_42 : decode cX0_takeSnapshot 42 = .ok (.getfield 122, 3) := by decide +kernel
theorem dX0_takeSnapshot_45 : decode cX0_takeSnapshot 45 = .ok (.invokevirtual 254, 3) := by decide +kernel
theorem dX0_takeSnapshot_48 : decode cX0_takeSnapshot 48 = .ok (.iconst 0, 1) := by decide +kernel
theorem dX0_takeSnapshot_49 : decode cX0_takeSnapshot 49 = .ok (.ireturn, 1) := by decide +kernel
theorem dX0_answer_0 : decode cX0_answer 0 = .ok (.aload_n 0, 1) := by decide +kernel
theorem dX0_answer_1 : decode cX0_answer 1 = .ok (.iconst 3, 1) := by decide +kernel
theorem dX0_answer_2 : decode cX0_answer 2 = .ok (.aload_n 1, 1) := by decide +kernel
theorem dX0_answer_3 : decode cX0_answer 3 = .ok (.aload_n 2, 1) := by decide +kernel
theorem dX0_answer_4 : decode cX0_answer 4 = .ok (.getfield 85, 3) := by decide +kernel
theorem dX0_answer_7 : decode cX0_answer 7 = .ok (.invokevirtual 163, 3) := by decide +kernel
theorem dX0_answer_10 : decode cX0_answer 10 = .ok (.astore 5, 2) := by decide +kernel
theorem dX0_answer_12 : decode cX0_answer 12 = .ok (.aload 5, 2) := by decide +kernel
theorem dX0_answer_14 : decode cX0_answer 14 = .ok (.iload_n 3, 1) := by decide +kernel
theorem dX0_answer_15 : decode cX0_answer 15 = .ok (.putfield 267, 3) := by decide +kernel
theorem dX0_answer_18 : decode cX0_answer 18 = .ok (.aload 5, 2) := by decide +kernel
theorem dX0_answer_20 : decode cX0_answer 20 = .ok (.iload 4, 2) := by decide +kernel
theorem dX0_answer_22 : decode cX0_answer 22 = .ok (.putfield 167, 3) := by decide +kernel
theorem dX0_answer_25 : decode cX0_answer 25 = .ok (.aload 5, 2) := by decide +kernel
theorem dX0_answer_27 : decode cX0_answer 27 = .ok (.aload_n 2, 1) := by decide +kernel
theorem dX0_answer_28 : decode cX0_answer 28 = .ok (.getfield 239, 3) := by decide +kernel
theorem dX0_answer_31 : decode cX0_answer 31 = .ok (.putfield 239, 3) := by decide +kernel
theorem dX0_answer_34 : decode cX0_answer 34 = .ok (.aload_n 0, 1) := by decide +kernel
theorem dX0_answer_35 : decode cX0_answer 35 = .ok (.getfield 23, 3) := by decide +kernel
theorem dX0_answer_38 : decode cX0_answer 38 = .ok (.invokevirtual 176, 3) := by decide +kernel
theorem dX0_answer_41 : decode cX0_answer 41 = .ok (.return_, 1) := by decide +kernel
theorem dX1_init_0 : decode cX1_init 0 = .ok (.aload_n 0, 1) := by decide +kernel
theorem dX1_init_1 : decode cX1_init 1 = .ok (.invokespecial 3, 3) := by decide +kernel
theorem dX1_init_4 : decode cX1_init 4 = .ok (.aload_n 0, 1) := by decide +kernel
theorem dX1_init_5 : decode cX1_init 5 = .ok (.bipush 24, 2) := by decide +kernel
theorem dX1_init_7 : decode cX1_init 7 = .ok (.newarray .int, 2) := by decide +kernel
theorem dX1_init_9 : decode cX1_init 9 = .ok (.putfield 9, 3) := by decide +kernel
theorem dX1_init_12 : decode cX1_init 12 = .ok (.aload_n 0, 1) := by decide +kernel
theorem dX1_init_13 : decode cX1_init 13 = .ok (.bipush 24, 2) := by decide +kernel
theorem dX1_init_15 : decode cX1_init 15 = .ok (.newarray .int, 2) := by decide +kernel
theorem dX1_init_17 : decode cX1_init 17 = .ok (.putfield 15, 3) := by decide +kernel
theorem dX1_init_20 : decode cX1_init 20 = .ok (.aload_n 0, 1) := by decide +kernel
theorem dX1_init_21 : decode cX1_init 21 = .ok (.bipush 24, 2) := by decide +kernel
theorem dX1_init_23 : decode cX1_init 23 = .ok (.newarray .int, 2) := by decide +kernel
theorem dX1_init_25 : decode cX1_init 25 = .ok (.putfield 18, 3) := by decide +kernel
theorem dX1_init_28 : decode cX1_init 28 = .ok (.return_, 1) := by decide +kernel
theorem dX1_clear_0 : decode cX1_clear 0 = .ok (.aload_n 0, 1) := by decide +kernel
theorem dX1_clear_1 : decode cX1_clear 1 = .ok (.iconst 0, 1) := by decide +kernel
theorem dX1_clear_2 : decode cX1_clear 2 = .ok (.putfield 21, 3) := by decide +kernel
theorem dX1_clear_5 : decode cX1_clear 5 = .ok (.aload_n 0, 1) := by decide +kernel
theorem dX1_clear_6 : decode cX1_clear 6 = .ok (.iconst 0, 1) := by decide +kernel
theorem dX1_clear_7 : decode cX1_clear 7 = .ok (.putfield 25, 3) := by decide +kernel
theorem dX1_clear_10 : decode cX1_clear 10 = .ok (.aload_n 0, 1) := by decide +kernel
theorem dX1_clear_11 : decode cX1_clear 11 = .ok (.iconst 0, 1) := by decide +kernel
theorem dX1_clear_12 : decode cX1_clear 12 = .ok (.putfield 28, 3) := by decide +kernel
theorem dX1_clear_15 : decode cX1_clear 15 = .ok (.aload_n 0, 1) := by decide +kernel
theorem dX1_clear_16 : decode cX1_clear 16 = .ok (.iconst 0, 1) := by decide +kernel
theorem dX1_clear_17 : decode cX1_clear 17 = .ok (.putfield 31, 3) := by decide +kernel
theorem dX1_clear_20 : decode cX1_clear 20 = .ok (.aload_n 0, 1) := by decide +kernel
theorem dX1_clear_21 : decode cX1_clear 21 = .ok (.iconst 0, 1) := by decide +kernel
theorem dX1_clear_22 : decode cX1_clear 22 = .ok (.putfield 34, 3) := by decide +kernel
theorem dX1_clear_25 : decode cX1_clear 25 = .ok (.aload_n 0, 1) := by decide +kernel
theorem dX1_clear_26 : decode cX1_clear 26 = .ok (.iload_n 1, 1) := by decide +kernel
theorem dX1_clear_27 : decode cX1_clear 27 = .ok (.putfield 37, 3) := by decide +kernel
theorem dX1_clear_30 : decode cX1_clear 30 = .ok (.aload_n 0, 1) := by decide +kernel
theorem dX1_clear_31 : decode cX1_clear 31 = .ok (.invokevirtual 40, 3) := by decide +kernel
theorem dX1_clear_34 : decode cX1_clear 34 = .ok (.return_, 1) := by decide +kernel
theorem dX1_copyFrom_0 : decode cX1_copyFrom 0 = .ok (.aload_n 1, 1) := by decide +kernel
theorem dX1_copyFrom_1 : decode cX1_copyFrom 1 = .ok (.getfield 9, 3) := by decide +kernel
theorem dX1_copyFrom_4 : decode cX1_copyFrom 4 = .ok (.iconst 0, 1) := by decide +kernel
theorem dX1_copyFrom_5 : decode cX1_copyFrom 5 = .ok (.aload_n 0, 1) := by decide +kernel
theorem dX1_copyFrom_6 : decode cX1_copyFrom 6 = .ok (.getfield 9, 3) := by decide +kernel
theorem dX1_copyFrom_9 : decode cX1_copyFrom 9 = .ok (.iconst 0, 1) := by decide +kernel
theorem dX1_copyFrom_10 : decode cX1_copyFrom 10 = .ok (.bipush 24, 2) := by decide +kernel
theorem dX1_copyFrom_12 : decode cX1_copyFrom 12 = .ok (.invokestatic 43, 3) := by decide +kernel
theorem dX1_copyFrom_15 : decode cX1_copyFrom 15 = .ok (.aload_n 1, 1) := by decide +kernel
theorem dX1_copyFrom_16 : decode cX1_copyFrom 16 = .ok (.getfield 15, 3) := by decide +kernel
theorem dX1_copyFrom_19 : decode cX1_copyFrom 19 = .ok (.iconst 0, 1) := by decide +kernel
theorem dX1_copyFrom_20 : decode cX1_copyFrom 20 = .ok (.aload_n 0, 1) := by decide +kernel
theorem dX1_copyFrom_21 : decode cX1_copyFrom 21 = .ok (.getfield 15, 3) := by decide +kernel
theorem dX1_copyFrom_24 : decode cX1_copyFrom 24 = .ok (.iconst 0, 1) := by decide +kernel
theorem dX1_copyFrom_25 : decode cX1_copyFrom 25 = .ok (.bipush 24, 2) := by decide +kernel
theorem dX1_copyFrom_27 : decode cX1_copyFrom 27 = .ok (.invokestatic 43, 3) := by decide +kernel
theorem dX1_copyFrom_30 : decode cX1_copyFrom 30 = .ok (.aload_n 1, 1) := by decide +kernel
theorem dX1_copyFrom_31 : decode cX1_copyFrom 31 = .ok (.getfield 18, 3) := by decide +kernel
theorem dX1_copyFrom_34 : decode cX1_copyFrom 34 = .ok (.iconst 0, 1) := by decide +kernel
theorem dX1_copyFrom_35 : decode cX1_copyFrom 35 = .ok (.aload_n 0, 1) := by decide +kernel
theorem dX1_copyFrom_36 : decode cX1_copyFrom 36 = .ok (.getfield 18, 3) := by decide +kernel
theorem dX1_copyFrom_39 : decode cX1_copyFrom 39 = .ok (.iconst 0, 1) := by decide +kernel
theorem dX1_copyFrom_40 : decode cX1_copyFrom 40 = .ok (.bipush 24, 2) := by decide +kernel
theorem dX1_copyFrom_42 : decode cX1_copyFrom 42 = .ok (.invokestatic 43, 3) := by decide +kernel
theorem dX1_copyFrom_45 : decode cX1_copyFrom 45 = .ok (.aload_n 0, 1) := by decide +kernel
theorem dX1_copyFrom_46 : decode cX1_copyFrom 46 = .ok (.aload_n 1, 1) := by decide +kernel
theorem dX1_copyFrom_47 : decode cX1_copyFrom 47 = .ok (.getfield 21, 3) := by decide +kernel
theorem dX1_copyFrom_50 : decode cX1_copyFrom 50 = .ok (.putfield 21, 3) := by decide +kernel
theorem dX1_copyFrom_53 : decode cX1_copyFrom 53 = .ok (.aload_n 0, 1) := by decide +kernel
theorem dX1_copyFrom_54 : decode cX1_copyFrom 54 = .ok (.aload_n 1, 1) := by decide +kernel
theorem dX1_copyFrom_55 : decode cX1_copyFrom 55 = .ok (.getfield 25, 3) := by decide +kernel
theorem dX1_copyFrom_58 : decode cX1_copyFrom 58 = .ok (.putfield 25, 3) := by decide +kernel
theorem dX1_copyFrom_61 : decode cX1_copyFrom 61 = .ok (.aload_n 0, 1) := by decide +kernel
theorem dX1_copyFrom_62 : decode cX1_copyFrom 62 = .ok (.aload_n 1, 1) := by decide +kernel
theorem dX1_copyFrom_63 : decode cX1_copyFrom 63 = .ok (.getfield 28, 3) := by decide +kernel
theorem dX1_copyFrom_66 : decode cX1_copyFrom 66 = .ok (.putfield 28, 3) := by decide +kernel
theorem dX1_copyFrom_69 : decode cX1_copyFrom 69 = .ok (.aload_n 0, 1) := by decide +kernel
theorem dX1_copyFrom_70 : decode cX1_copyFrom 70 = .ok (.aload_n 1, 1) := by decide +kernel
theorem dX1_copyFrom_71 : decode cX1_copyFrom 71 = .ok (.getfield 31, 3) := by decide +kernel
theorem dX1_copyFrom_74 : decode cX1_copyFrom 74 = .ok (.putfield 31, 3) := by decide +kernel
theorem dX1_copyFrom_77 : decode cX1_copyFrom 77 = .ok (.aload_n 0, 1) := by decide +kernel
theorem dX1_copyFrom_78 : decode cX1_copyFrom 78 = .ok (.aload_n 1, 1) := by decide +kernel
theorem dX1_copyFrom_79 : decode cX1_copyFrom 79 = .ok (.getfield 34, 3) := by decide +kernel
theorem dX1_copyFrom_82 : decode cX1_copyFrom 82 = .ok (.putfield 34, 3) := by decide +kernel
theorem dX1_copyFrom_85 : decode cX1_copyFrom 85 = .ok (.aload_n 0, 1) := by decide +kernel
theorem dX1_copyFrom_86 : decode cX1_copyFrom 86 = .ok (.aload_n 1, 1) := by decide +kernel
theorem dX1_copyFrom_87 : decode cX1_copyFrom 87 = .ok (.getfield 37, 3) := by decide +kernel
theorem dX1_copyFrom_90 : decode cX1_copyFrom 90 = .ok (.putfield 37, 3) := by decide +kernel
theorem dX1_copyFrom_93 : decode cX1_copyFrom 93 = .ok (.aload_n 0, 1) := by decide +kernel
theorem dX1_copyFrom_94 : decode cX1_copyFrom 94 = .ok (.invokevirtual 40, 3) := by decide +kernel
theorem dX1_copyFrom_97 : decode cX1_copyFrom 97 = .ok (.return_, 1) := by decide +kernel
theorem dX1_isFull_0 : decode cX1_isFull 0 = .ok (.aload_n 0, 1) := by decide +kernel
theorem dX1_isFull_1 : decode cX1_isFull 1 = .ok (.getfield 21, 3) := by decide +kernel
theorem dX1_isFull_4 : decode cX1_isFull 4 = .ok (.bipush 24, 2) := by decide +kernel
theorem dX1_isFull_6 : decode cX1_isFull 6 = .ok (.if_icmp .lt 7, 3) := by decide +kernel
theorem dX1_isFull_9 : decode cX1_isFull 9 = .ok (.iconst 1, 1) := by decide +kernel
theorem dX1_isFull_10 : decode cX1_isFull 10 = .ok (.goto 4, 3) := by decide +kernel
theorem dX1_isFull_13 : decode cX1_isFull 13 = .ok (.iconst 0, 1) := by decide +kernel
theorem dX1_isFull_14 : decode cX1_isFull 14 = .ok (.ireturn, 1) := by decide +kernel
theorem dX1_lastIndex_0 : decode cX1_lastIndex 0 = .ok (.aload_n 0, 1) := by decide +kernel
theorem dX1_lastIndex_1 : decode cX1_lastIndex 1 = .ok (.getfield 25, 3) := by decide +kernel
theorem dX1_lastIndex_4 : decode cX1_lastIndex 4 = .ok (.aload_n 0, 1) := by decide +kernel
theorem dX1_lastIndex_5 : decode cX1_lastIndex 5 = .ok (.getfield 21, 3) := by decide +kernel
theorem dX1_lastIndex_8 : decode cX1_lastIndex 8 = .ok (.iadd, 1) := by decide +kernel
theorem dX1_lastIndex_9 : decode cX1_lastIndex 9 = .ok (.ireturn, 1) := by decide +kernel
theorem dX1_lastTerm_0 : decode cX1_lastTerm 0 = .ok (.aload_n 0, 1) := by decide +kernel
theorem dX1_lastTerm_1 : decode cX1_lastTerm 1 = .ok (.getfield 21, 3) := by decide +kernel
theorem dX1_lastTerm_4 : decode cX1_lastTerm 4 = .ok (.ifCond .le 26, 3) := by decide +kernel
theorem dX1_lastTerm_7 : decode cX1_lastTerm 7 = .ok (.aload_n 0, 1) := by decide +kernel
theorem dX1_lastTerm_8 : decode cX1_lastTerm 8 = .ok (.getfield 21, 3) := by decide +kernel
theorem dX1_lastTerm_11 : decode cX1_lastTerm 11 = .ok (.bipush 24, 2) := by decide +kernel
theorem dX1_lastTerm_13 : decode cX1_lastTerm 13 = .ok (.if_icmp .gt 17, 3) := by decide +kernel
theorem dX1_lastTerm_16 : decode cX1_lastTerm 16 = .ok (.aload_n 0, 1) := by decide +kernel
theorem dX1_lastTerm_17 : decode cX1_lastTerm 17 = .ok (.getfield 9, 3) := by decide +kernel
theorem dX1_lastTerm_20 : decode cX1_lastTerm 20 = .ok (.aload_n 0, 1) := by decide +kernel
theorem dX1_lastTerm_21 : decode cX1_lastTerm 21 = .ok (.getfield 21, 3) := by decide +kernel
theorem dX1_lastTerm_24 : decode cX1_lastTerm 24 = .ok (.iconst 1, 1) := by decide +kernel
theorem dX1_lastTerm_25 : decode cX1_lastTerm 25 = .ok (.isub, 1) := by decide +kernel
theorem dX1_lastTerm_26 : decode cX1_lastTerm 26 = .ok (.iaload, 1) := by decide +kernel
theorem dX1_lastTerm_27 : decode cX1_lastTerm 27 = .ok (.goto 7, 3) := by decide +kernel
theorem dX1_lastTerm_30 : decode cX1_lastTerm 30 = .ok (.aload_n 0, 1) := by decide +kernel
theorem dX1_lastTerm_31 : decode cX1_lastTerm 31 = .ok (.getfield 28, 3) := by decide +kernel
theorem dX1_lastTerm_34 : decode cX1_lastTerm 34 = .ok (.ireturn, 1) := by decide +kernel
theorem dX1_has_0 : decode cX1_has 0 = .ok (.iload_n 1, 1) := by decide +kernel
theorem dX1_has_1 : decode cX1_has 1 = .ok (.aload_n 0, 1) := by decide +kernel
theorem dX1_has_2 : decode cX1_has 2 = .ok (.getfield 25, 3) := by decide +kernel
theorem dX1_has_5 : decode cX1_has 5 = .ok (.if_icmp .le 20, 3) := by decide +kernel
theorem dX1_has_8 : decode cX1_has 8 = .ok (.iload_n 1, 1) := by decide +kernel
theorem dX1_has_9 : decode cX1_has 9 = .ok (.aload_n 0, 1) := by decide +kernel
theorem dX1_has_10 : decode cX1_has 10 = .ok (.getfield 25, 3) := by decide +kernel
theorem dX1_has_13 : decode cX1_has 13 = .ok (.aload_n 0, 1) := by decide +kernel
theorem dX1_has_14 : decode cX1_has 14 = .ok (.getfield 21, 3) := by decide +kernel
theorem dX1_has_17 : decode cX1_has 17 = .ok (.iadd, 1) := by decide +kernel
theorem dX1_has_18 : decode cX1_has 18 = .ok (.if_icmp .gt 7, 3) := by decide +kernel
theorem dX1_has_21 : decode cX1_has 21 = .ok (.iconst 1, 1) := by decide +kernel
theorem dX1_has_22 : decode cX1_has 22 = .ok (.goto 4, 3) := by decide +kernel
theorem dX1_has_25 : decode cX1_has 25 = .ok (.iconst 0, 1) := by decide +kernel
theorem dX1_has_26 : decode cX1_has 26 = .ok (.ireturn, 1) := by decide +kernel
theorem dX1_termAt_0 : decode cX1_termAt 0 = .ok (.aload_n 0, 1) := by decide +kernel
theorem dX1_termAt_1 : decode cX1_termAt 1 = .ok (.aload_n 0, 1) := by decide +kernel
theorem dX1_termAt_2 : decode cX1_termAt 2 = .ok (.getfield 9, 3) := by decide +kernel
theorem dX1_termAt_5 : decode cX1_termAt 5 = .ok (.iload_n 1, 1) := by decide +kernel
theorem dX1_termAt_6 : decode cX1_termAt 6 = .ok (.aload_n 0, 1) := by decide +kernel
theorem dX1_termAt_7 : decode cX1_termAt 7 = .ok (.getfield 28, 3) := by decide +kernel
theorem dX1_termAt_10 : decode cX1_termAt 10 = .ok (.invokevirtual 49, 3) := by decide +kernel
theorem dX1_termAt_13 : decode cX1_termAt 13 = .ok (.ireturn, 1) := by decide +kernel
theorem dX1_kindAt_0 : decode cX1_kindAt 0 = .ok (.aload_n 0, 1) := by decide +kernel
theorem dX1_kindAt_1 : decode cX1_kindAt 1 = .ok (.aload_n 0, 1) := by decide +kernel
theorem dX1_kindAt_2 : decode cX1_kindAt 2 = .ok (.getfield 15, 3) := by decide +kernel
theorem dX1_kindAt_5 : decode cX1_kindAt 5 = .ok (.iload_n 1, 1) := by decide +kernel
theorem dX1_kindAt_6 : decode cX1_kindAt 6 = .ok (.iconst 3, 1) := by decide +kernel
theorem dX1_kindAt_7 : decode cX1_kindAt 7 = .ok (.invokevirtual 49, 3) := by decide +kernel
theorem dX1_kindAt_10 : decode cX1_kindAt 10 = .ok (.ireturn, 1) := by decide +kernel
theorem dX1_valueAt_0 : decode cX1_valueAt 0 = .ok (.aload_n 0, 1) := by decide +kernel
theorem dX1_valueAt_1 : decode cX1_valueAt 1 = .ok (.aload_n 0, 1) := by decide +kernel
theorem dX1_valueAt_2 : decode cX1_valueAt 2 = .ok (.getfield 18, 3) := by decide +kernel
theorem dX1_valueAt_5 : decode cX1_valueAt 5 = .ok (.iload_n 1, 1) := by decide +kernel
theorem dX1_valueAt_6 : decode cX1_valueAt 6 = .ok (.iconst 0, 1) := by decide +kernel
theorem dX1_valueAt_7 : decode cX1_valueAt 7 = .ok (.invokevirtual 49, 3) := by decide +kernel
theorem dX1_valueAt_10 : decode cX1_valueAt 10 = .ok (.ireturn, 1) := by decide +kernel
theorem dX1_partAt_0 : decode cX1_partAt 0 = .ok (.iload_n 2, 1) := by decide +kernel
theorem dX1_partAt_1 : decode cX1_partAt 1 = .ok (.aload_n 0, 1) := by decide +kernel
theorem dX1_partAt_2 : decode cX1_partAt 2 = .ok (.getfield 25, 3) := by decide +kernel
theorem dX1_partAt_5 : decode cX1_partAt 5 = .ok (.isub, 1) := by decide +kernel
theorem dX1_partAt_6 : decode cX1_partAt 6 = .ok (.iconst 1, 1) := by decide +kernel
theorem dX1_partAt_7 : decode cX1_partAt 7 = .ok (.isub, 1) := by decide +kernel
theorem dX1_partAt_8 : decode cX1_partAt 8 = .ok (.istore 4, 2) := by decide +kernel
theorem dX1_partAt_10 : decode cX1_partAt 10 = .ok (.iload 4, 2) := by decide +kernel
theorem dX1_partAt_12 : decode cX1_partAt 12 = .ok (.ifCond .lt 26, 3) := by decide +kernel
theorem dX1_partAt_15 : decode cX1_partAt 15 = .ok (.iload 4, 2) := by decide +kernel
theorem dX1_partAt_17 : decode cX1_partAt 17 = .ok (.aload_n 0, 1) := by decide +kernel
theorem dX1_partAt_18 : decode cX1_partAt 18 = .ok (.getfield 21, 3) := by decide +kernel
theorem dX1_partAt_21 : decode cX1_partAt 21 = .ok (.if_icmp .ge 17, 3) := by decide +kernel
theorem dX1_partAt_24 : decode cX1_partAt 24 = .ok (.iload 4, 2) := by decide +kernel
theorem dX1_partAt_26 : decode cX1_partAt 26 = .ok (.aload_n 1, 1) := by decide +kernel
theorem dX1_partAt_27 : decode cX1_partAt 27 = .ok (.arraylength, 1) := by decide +kernel
theorem dX1_partAt_28 : decode cX1_partAt 28 = .ok (.if_icmp .ge 10, 3) := by decide +kernel
theorem dX1_partAt_31 : decode cX1_partAt 31 = .ok (.aload_n 1, 1) := by decide +kernel
theorem dX1_partAt_32 : decode cX1_partAt 32 = .ok (.iload 4, 2) := by decide +kernel
theorem dX1_partAt_34 : decode cX1_partAt 34 = .ok (.iaload, 1) := by decide +kernel
theorem dX1_partAt_35 : decode cX1_partAt 35 = .ok (.goto 4, 3) := by decide +kernel
theorem dX1_partAt_38 : decode cX1_partAt 38 = .ok (.iload_n 3, 1) := by decide +kernel
theorem dX1_partAt_39 : decode cX1_partAt 39 = .ok (.ireturn, 1) := by decide +kernel
theorem dX1_isNotAheadOf_0 : decode cX1_isNotAheadOf 0 = .ok (.aload_n 0, 1) := by decide +kernel
theorem dX1_isNotAheadOf_1 : decode cX1_isNotAheadOf 1 = .ok (.invokevirtual 53, 3) := by decide +kernel
theorem dX1_isNotAheadOf_4 : decode cX1_isNotAheadOf 4 = .ok (.istore_n 3, 1) := by decide +kernel
theorem dX1_isNotAheadOf_5 : decode cX1_isNotAheadOf 5 = .ok (.iload_n 2, 1) := by decide +kernel
theorem dX1_isNotAheadOf_6 : decode cX1_isNotAheadOf 6 = .ok (.iload_n 3, 1) := by decide +kernel
theorem dX1_isNotAheadOf_7 : decode cX1_isNotAheadOf 7 = .ok (.if_icmp .gt 16, 3) := by decide +kernel
theorem dX1_isNotAheadOf_10 : decode cX1_isNotAheadOf 10 = .ok (.iload_n 2, 1) := by decide +kernel
theorem dX1_isNotAheadOf_11 : decode cX1_isNotAheadOf 11 = .ok (.iload_n 3, 1) := by decide +kernel
theorem dX1_isNotAheadOf_12 : decode cX1_isNotAheadOf 12 = .ok (.if_icmp .ne 15, 3) := by decide +kernel
theorem dX1_isNotAheadOf_15 : decode cX1_isNotAheadOf 15 = .ok (.iload_n 1, 1) := by decide +kernel
theorem dX1_isNotAheadOf_16 : decode cX1_isNotAheadOf 16 = .ok (.aload_n 0, 1) := by decide +kernel
theorem dX1_isNotAheadOf_17 : decode cX1_isNotAheadOf 17 = .ok (.invokevirtual 57, 3) := by decide +kernel
theorem dX1_isNotAheadOf_20 : decode cX1_isNotAheadOf 20 = .ok (.if_icmp .lt 7, 3) := by decide +kernel
theorem dX1_isNotAheadOf_23 : decode cX1_isNotAheadOf 23 = .ok (.iconst 1, 1) := by decide +kernel
theorem dX1_isNotAheadOf_24 : decode cX1_isNotAheadOf 24 = .ok (.goto 4, 3) := by decide +kernel
theorem dX1_isNotAheadOf_27 : decode cX1_isNotAheadOf 27 = .ok (.iconst 0, 1) := by decide +kernel
theorem dX1_isNotAheadOf_28 : decode cX1_isNotAheadOf 28 = .ok (.ireturn, 1) := by decide +kernel
theorem dX1_fits_0 : decode cX1_fits 0 = .ok (.iload_n 1, 1) := by decide +kernel
theorem dX1_fits_1 : decode cX1_fits 1 = .ok (.aload_n 0, 1) := by decide +kernel
theorem dX1_fits_2 : decode cX1_fits 2 = .ok (.getfield 25, 3) := by decide +kernel
theorem dX1_fits_5 : decode cX1_fits 5 = .ok (.if_icmp .le 20, 3) := by decide +kernel
theorem dX1_fits_8 : decode cX1_fits 8 = .ok (.iload_n 1, 1) := by decide +kernel
theorem dX1_fits_9 : decode cX1_fits 9 = .ok (.aload_n 0, 1) := by decide +kernel
theorem dX1_fits_10 : decode cX1_fits 10 = .ok (.invokevirtual 57, 3) := by decide +kernel
theorem dX1_fits_13 : decode cX1_fits 13 = .ok (.if_icmp .gt 16, 3) := by decide +kernel
theorem dX1_fits_16 : decode cX1_fits 16 = .ok (.aload_n 0, 1) := by decide +kernel
theorem dX1_fits_17 : decode cX1_fits 17 = .ok (.iload_n 1, 1) := by decide +kernel
theorem dX1_fits_18 : decode cX1_fits 18 = .ok (.invokevirtual 60, 3) := by decide +kernel
theorem dX1_fits_21 : decode cX1_fits 21 = .ok (.iload_n 2, 1) := by decide +kernel
theorem dX1_fits_22 : decode cX1_fits 22 = .ok (.if_icmp .ne 7, 3) := by decide +kernel
theorem dX1_fits_25 : decode cX1_fits 25 = .ok (.iconst 1, 1) := by decide +kernel
theorem dX1_fits_26 : decode cX1_fits 26 = .ok (.goto 4, 3) := by decide +kernel
theorem dX1_fits_29 : decode cX1_fits 29 = .ok (.iconst 0, 1) := by decide +kernel
theorem dX1_fits_30 : decode cX1_fits 30 = .ok (.ireturn, 1) := by decide +kernel
theorem dX1_append_0 : decode cX1_append 0 = .ok (.aload_n 0, 1) := by decide +kernel
theorem dX1_append_1 : decode cX1_append 1 = .ok (.getfield 21, 3) := by decide +kernel
theorem dX1_append_4 : decode cX1_append 4 = .ok (.ifCond .lt 12, 3) := by decide +kernel
theorem dX1_append_7 : decode cX1_append 7 = .ok (.aload_n 0, 1) := by decide +kernel
theorem dX1_append_8 : decode cX1_append 8 = .ok (.getfield 21, 3) := by decide +kernel
theorem dX1_append_11 : decode cX1_append 11 = .ok (.bipush 24, 2) := by decide +kernel
theorem dX1_append_13 : decode cX1_append 13 = .ok (.if_icmp .lt 5, 3) := by decide +kernel
theorem dX1_append_16 : decode cX1_append 16 = .ok (.iconst 0, 1) := by decide +kernel
theorem dX1_append_17 : decode cX1_append 17 = .ok (.ireturn, 1) := by decide +kernel
theorem dX1_append_18 : decode cX1_append 18 = .ok (.aload_n 0, 1) := by decide +kernel
theorem dX1_append_19 : decode cX1_append 19 = .ok (.getfield 9, 3) := by decide +kernel
theorem dX1_append_22 : decode cX1_append 22 = .ok (.aload_n 0, 1) := by decide +kernel
theorem dX1_append_23 : decode cX1_append 23 = .ok (.getfield 21, 3) := by decide +kernel
theorem dX1_append_26 : decode cX1_append 26 = .ok (.iload_n 1, 1) := by decide +kernel
theorem dX1_append_27 : decode cX1_append 27 = .ok (.iastore, 1) := by decide +kernel
theorem dX1_append_28 : decode cX1_append 28 = .ok (.aload_n 0, 1) := by decide +kernel
theorem dX1_append_29 : decode cX1_append 29 = .ok (.getfield 15, 3) := by decide +kernel
theorem dX1_append_32 : decode cX1_append 32 = .ok (.aload_n 0, 1) := by decide +kernel
theorem dX1_append_33 : decode cX1_append 33 = .ok (.getfield 21, 3) := by decide +kernel
theorem dX1_append_36 : decode cX1_append 36 = .ok (.iload_n 2, 1) := by decide +kernel
theorem dX1_append_37 : decode cX1_append 37 = .ok (.iastore, 1) := by decide +kernel
theorem dX1_append_38 : decode cX1_append 38 = .ok (.aload_n 0, 1) := by decide +kernel
theorem dX1_append_39 : decode cX1_append 39 = .ok (.getfield 18, 3) := by decide +kernel
theorem dX1_append_42 : decode cX1_append 42 = .ok (.aload_n 0, 1) := by decide +kernel
theorem dX1_append_43 : decode cX1_append 43 = .ok (.getfield 21, 3) := by decide +kernel
theorem dX1_append_46 : decode cX1_append 46 = .ok (.iload_n 3, 1) := by decide +kernel
theorem dX1_append_47 : decode cX1_append 47 = .ok (.iastore, 1) := by decide +kernel
theorem dX1_append_48 : decode cX1_append 48 = .ok (.aload_n 0, 1) := by decide +kernel
theorem dX1_append_49 : decode cX1_append 49 = .ok (.dup, 1) := by decide +kernel
theorem dX1_append_50 : decode cX1_append 50 = .ok (.getfield 21, 3) := by decide +kernel
theorem dX1_append_53 : decode cX1_append 53 = .ok (.iconst 1, 1) := by decide +kernel
theorem dX1_append_54 : decode cX1_append 54 = .ok (.iadd, 1) := by decide +kernel
theorem dX1_append_55 : decode cX1_append 55 = .ok (.putfield 21, 3) := by decide +kernel
theorem dX1_append_58 : decode cX1_append 58 = .ok (.aload_n 0, 1) := by decide +kernel
theorem dX1_append_59 : decode cX1_append 59 = .ok (.invokevirtual 40, 3) := by decide +kernel
theorem dX1_append_62 : decode cX1_append 62 = .ok (.iconst 1, 1) := by decide +kernel
theorem dX1_append_63 : decode cX1_append 63 = .ok (.ireturn, 1) := by decide +kernel
theorem dX1_cutFrom_0 : decode cX1_cutFrom 0 = .ok (.aload_n 0, 1) := by decide +kernel
theorem dX1_cutFrom_1 : decode cX1_cutFrom 1 = .ok (.getfield 25, 3) := by decide +kernel
theorem dX1_cutFrom_4 : decode cX1_cutFrom 4 = .ok (.aload_n 0, 1) := by decide +kernel
theorem dX1_cutFrom_5 : decode cX1_cutFrom 5 = .ok (.getfield 21, 3) := by decide +kernel
theorem dX1_cutFrom_8 : decode cX1_cutFrom 8 = .ok (.iadd, 1) := by decide +kernel
theorem dX1_cutFrom_9 : decode cX1_cutFrom 9 = .ok (.iload_n 1, 1) := by decide +kernel
theorem dX1_cutFrom_10 : decode cX1_cutFrom 10 = .ok (.isub, 1) := by decide +kernel
theorem dX1_cutFrom_11 : decode cX1_cutFrom 11 = .ok (.iconst 1, 1) := by decide +kernel
theorem dX1_cutFrom_12 : decode cX1_cutFrom 12 = .ok (.iadd, 1) := by decide +kernel
theorem dX1_cutFrom_13 : decode cX1_cutFrom 13 = .ok (.istore_n 2, 1) := by decide +kernel
theorem dX1_cutFrom_14 : decode cX1_cutFrom 14 = .ok (.iload_n 2, 1) := by decide +kernel
theorem dX1_cutFrom_15 : decode cX1_cutFrom 15 = .ok (.ifCond .le 11, 3) := by decide +kernel
theorem dX1_cutFrom_18 : decode cX1_cutFrom 18 = .ok (.iload_n 2, 1) := by decide +kernel
theorem dX1_cutFrom_19 : decode cX1_cutFrom 19 = .ok (.aload_n 0, 1) := by decide +kernel
theorem dX1_cutFrom_20 : decode cX1_cutFrom 20 = .ok (.getfield 21, 3) := by decide +kernel
theorem dX1_cutFrom_23 : decode cX1_cutFrom 23 = .ok (.if_icmp .le 5, 3) := by decide +kernel
theorem dX1_cutFrom_26 : decode cX1_cutFrom 26 = .ok (.iconst 0, 1) := by decide +kernel
theorem dX1_cutFrom_27 : decode cX1_cutFrom 27 = .ok (.ireturn, 1) := by decide +kernel
theorem dX1_cutFrom_28 : decode cX1_cutFrom 28 = .ok (.aload_n 0, 1) := by decide +kernel
theorem dX1_cutFrom_29 : decode cX1_cutFrom 29 = .ok (.dup, 1) := by decide +kernel
theorem dX1_cutFrom_30 : decode cX1_cutFrom 30 = .ok (.getfield 21, 3) := by decide +kernel
theorem dX1_cutFrom_33 : decode cX1_cutFrom 33 = .ok (.iload_n 2, 1) := by decide +kernel
theorem dX1_cutFrom_34 : decode cX1_cutFrom 34 = .ok (.isub, 1) := by decide +kernel
theorem dX1_cutFrom_35 : decode cX1_cutFrom 35 = .ok (.putfield 21, 3) := by decide +kernel
theorem dX1_cutFrom_38 : decode cX1_cutFrom 38 = .ok (.aload_n 0, 1) := by decide +kernel
theorem dX1_cutFrom_39 : decode cX1_cutFrom 39 = .ok (.invokevirtual 40, 3) := by decide +kernel
theorem dX1_cutFrom_42 : decode cX1_cutFrom 42 = .ok (.iload_n 2, 1) := by decide +kernel
theorem dX1_cutFrom_43 : decode cX1_cutFrom 43 = .ok (.ireturn, 1) := by decide +kernel
theorem dX1_packTo_0 : decode cX1_packTo 0 = .ok (.iload_n 1, 1) := by decide +kernel
theorem dX1_packTo_1 : decode cX1_packTo 1 = .ok (.aload_n 0, 1) := by decide +kernel
theorem dX1_packTo_2 : decode cX1_packTo 2 = .ok (.getfield 25, 3) := by decide +kernel
theorem dX1_packTo_5 : decode cX1_packTo 5 = .ok (.isub, 1) := by decide +kernel
theorem dX1_packTo_6 : decode cX1_packTo 6 = .ok (.istore_n 2, 1) := by decide +kernel
theorem dX1_packTo_7 : decode cX1_packTo 7 = .ok (.iload_n 2, 1) := by decide +kernel
theorem dX1_packTo_8 : decode cX1_packTo 8 = .ok (.ifCond .le 11, 3) := by decide +kernel
theorem dX1_packTo_11 : decode cX1_packTo 11 = .ok (.iload_n 2, 1) := by decide +kernel
theorem dX1_packTo_12 : decode cX1_packTo 12 = .ok (.aload_n 0, 1) := by decide +kernel
theorem dX1_packTo_13 : decode cX1_packTo 13 = .ok (.getfield 21, 3) := by decide +kernel
theorem dX1_packTo_16 : decode cX1_packTo 16 = .ok (.if_icmp .le 5, 3) := by decide +kernel
theorem dX1_packTo_19 : decode cX1_packTo 19 = .ok (.iconst 0, 1) := by decide +kernel
theorem dX1_packTo_20 : decode cX1_packTo 20 = .ok (.ireturn, 1) := by decide +kernel
theorem dX1_packTo_21 : decode cX1_packTo 21 = .ok (.aload_n 0, 1) := by decide +kernel
theorem dX1_packTo_22 : decode cX1_packTo 22 = .ok (.aload_n 0, 1) := by decide +kernel
theorem dX1_packTo_23 : decode cX1_packTo 23 = .ok (.iload_n 1, 1) := by decide +kernel
theorem dX1_packTo_24 : decode cX1_packTo 24 = .ok (.invokevirtual 64, 3) := by decide +kernel
theorem dX1_packTo_27 : decode cX1_packTo 27 = .ok (.putfield 31, 3) := by decide +kernel
theorem dX1_packTo_30 : decode cX1_packTo 30 = .ok (.aload_n 0, 1) := by decide +kernel
theorem dX1_packTo_31 : decode cX1_packTo 31 = .ok (.aload_n 0, 1) := by decide +kernel
theorem dX1_packTo_32 : decode cX1_packTo 32 = .ok (.iload_n 1, 1) := by decide +kernel
theorem dX1_packTo_33 : decode cX1_packTo 33 = .ok (.invokevirtual 60, 3) := by decide +kernel
theorem dX1_packTo_36 : decode cX1_packTo 36 = .ok (.putfield 28, 3) := by decide +kernel
theorem dX1_packTo_39 : decode cX1_packTo 39 = .ok (.iconst 0, 1) := by decide +kernel
theorem dX1_packTo_40 : decode cX1_packTo 40 = .ok (.istore_n 3, 1) := by decide +kernel
theorem dX1_packTo_41 : decode cX1_packTo 41 = .ok (.iload_n 3, 1) := by decide +kernel
theorem dX1_packTo_42 : decode cX1_packTo 42 = .ok (.iload_n 2, 1) := by decide +kernel
theorem dX1_packTo_43 : decode cX1_packTo 43 = .ok (.if_icmp .ge 49, 3) := by decide +kernel
theorem dX1_packTo_46 : decode cX1_packTo 46 = .ok (.iload_n 3, 1) := by decide +kernel
theorem dX1_packTo_47 : decode cX1_packTo 47 = .ok (.bipush 24, 2) := by decide +kernel
theorem dX1_packTo_49 : decode cX1_packTo 49 = .ok (.if_icmp .ge 43, 3) := by decide +kernel
theorem dX1_packTo_52 : decode cX1_packTo 52 = .ok (.aload_n 0, 1) := by decide +kernel
theorem dX1_packTo_53 : decode cX1_packTo 53 = .ok (.iload_n 3, 1) := by decide +kernel
theorem dX1_packTo_54 : decode cX1_packTo 54 = .ok (.invokevirtual 67, 3) := by decide +kernel
theorem dX1_packTo_57 : decode cX1_packTo 57 = .ok (.ifCond .eq 29, 3) := by decide +kernel
theorem dX1_packTo_60 : decode cX1_packTo 60 = .ok (.aload_n 0, 1) := by decide +kernel
theorem dX1_packTo_61 : decode cX1_packTo 61 = .ok (.aload_n 0, 1) := by decide +kernel
theorem dX1_packTo_62 : decode cX1_packTo 62 = .ok (.getfield 18, 3) := by decide +kernel
theorem dX1_packTo_65 : decode cX1_packTo 65 = .ok (.iload_n 3, 1) := by decide +kernel
theorem dX1_packTo_66 : decode cX1_packTo 66 = .ok (.iaload, 1) := by decide +kernel
theorem dX1_packTo_67 : decode cX1_packTo 67 = .ok (.bipush 32, 2) := by decide +kernel
theorem dX1_packTo_69 : decode cX1_packTo 69 = .ok (.idiv, 1) := by decide +kernel
theorem dX1_packTo_70 : decode cX1_packTo 70 = .ok (.putfield 34, 3) := by decide +kernel
theorem dX1_packTo_73 : decode cX1_packTo 73 = .ok (.aload_n 0, 1) := by decide +kernel
theorem dX1_packTo_74 : decode cX1_packTo 74 = .ok (.aload_n 0, 1) := by decide +kernel
theorem dX1_packTo_75 : decode cX1_packTo 75 = .ok (.getfield 18, 3) := by decide +kernel
theorem dX1_packTo_78 : decode cX1_packTo 78 = .ok (.iload_n 3, 1) := by decide +kernel
theorem dX1_packTo_79 : decode cX1_packTo 79 = .ok (.iaload, 1) := by decide +kernel
theorem dX1_packTo_80 : decode cX1_packTo 80 = .ok (.bipush 32, 2) := by decide +kernel
theorem dX1_packTo_82 : decode cX1_packTo 82 = .ok (.irem, 1) := by decide +kernel
theorem dX1_packTo_83 : decode cX1_packTo 83 = .ok (.putfield 37, 3) := by decide +kernel
theorem dX1_packTo_86 : decode cX1_packTo 86 = .ok (.iinc 3 1, 3) := by decide +kernel
theorem dX1_packTo_89 : decode cX1_packTo 89 = .ok (.goto (-48), 3) := by decide +kernel
theorem dX1_packTo_92 : decode cX1_packTo 92 = .ok (.aload_n 0, 1) := by decide +kernel
theorem dX1_packTo_93 : decode cX1_packTo 93 = .ok (.iload_n 1, 1) := by decide +kernel
theorem dX1_packTo_94 : decode cX1_packTo 94 = .ok (.putfield 25, 3) := by decide +kernel
theorem dX1_packTo_97 : decode cX1_packTo 97 = .ok (.aload_n 0, 1) := by decide +kernel
theorem dX1_packTo_98 : decode cX1_packTo 98 = .ok (.iload_n 2, 1) := by decide +kernel
theorem dX1_packTo_99 : decode cX1_packTo 99 = .ok (.invokevirtual 71, 3) := by decide +kernel
theorem dX1_packTo_102 : decode cX1_packTo 102 = .ok (.aload_n 0, 1) := by decide +kernel
theorem dX1_packTo_103 : decode cX1_packTo 103 = .ok (.invokevirtual 40, 3) := by decide +kernel
theorem dX1_packTo_106 : decode cX1_packTo 106 = .ok (.iload_n 2, 1) := by decide +kernel
theorem dX1_packTo_107 : decode cX1_packTo 107 = .ok (.ireturn, 1) := by decide +kernel
theorem dX1_install_0 : decode cX1_install 0 = .ok (.aload_n 0, 1) := by decide +kernel
theorem dX1_install_1 : decode cX1_install 1 = .ok (.aload_n 1, 1) := by decide +kernel
theorem dX1_install_2 : decode cX1_install 2 = .ok (.getfield 75, 3) := by decide +kernel
theorem dX1_install_5 : decode cX1_install 5 = .ok (.invokevirtual 80, 3) := by decide +kernel
theorem dX1_install_8 : decode cX1_install 8 = .ok (.ifCond .eq 22, 3) := by decide +kernel
theorem dX1_install_11 : decode cX1_install 11 = .ok (.aload_n 0, 1) := by decide +kernel
theorem dX1_install_12 : decode cX1_install 12 = .ok (.aload_n 1, 1) := by decide +kernel
theorem dX1_install_13 : decode cX1_install 13 = .ok (.getfield 75, 3) := by decide +kernel
theorem dX1_install_16 : decode cX1_install 16 = .ok (.invokevirtual 60, 3) := by decide +kernel
theorem dX1_install_19 : decode cX1_install 19 = .ok (.aload_n 1, 1) := by decide +kernel
theorem dX1_install_20 : decode cX1_install 20 = .ok (.getfield 83, 3) := by decide +kernel
theorem dX1_install_23 : decode cX1_install 23 = .ok (.if_icmp .ne 7, 3) := by decide +kernel
theorem dX1_install_26 : decode cX1_install 26 = .ok (.iconst 1, 1) := by decide +kernel
theorem dX1_install_27 : decode cX1_install 27 = .ok (.goto 4, 3) := by decide +kernel
theorem dX1_install_30 : decode cX1_install 30 = .ok (.iconst 0, 1) := by decide +kernel
theorem dX1_install_31 : decode cX1_install 31 = .ok (.istore_n 2, 1) := by decide +kernel
theorem dX1_install_32 : decode cX1_install 32 = .ok (.aload_n 0, 1) := by decide +kernel
theorem dX1_install_33 : decode cX1_install 33 = .ok (.iload_n 2, 1) := by decide +kernel
theorem dX1_install_34 : decode cX1_install 34 = .ok (.ifCond .eq 15, 3) := by decide +kernel
theorem dX1_install_37 : decode cX1_install 37 = .ok (.aload_n 1, 1) := by decide +kernel
theorem dX1_install_38 : decode cX1_install 38 = .ok (.getfield 75, 3) := by decide +kernel
theorem dX1_install_41 : decode cX1_install 41 = .ok (.aload_n 0, 1) := by decide +kernel
theorem dX1_install_42 : decode cX1_install 42 = .ok (.getfield 25, 3) := by decide +kernel
theorem dX1_install_45 : decode cX1_install 45 = .ok (.isub, 1) := by decide +kernel
theorem dX1_install_46 : decode cX1_install 46 = .ok (.goto 7, 3) := by decide +kernel
theorem dX1_install_49 : decode cX1_install 49 = .ok (.aload_n 0, 1) := by decide +kernel
theorem dX1_install_50 : decode cX1_install 50 = .ok (.getfield 21, 3) := by decide +kernel
theorem dX1_install_53 : decode cX1_install 53 = .ok (.invokevirtual 71, 3) := by decide +kernel
theorem dX1_install_56 : decode cX1_install 56 = .ok (.aload_n 0, 1) := by decide +kernel
theorem dX1_install_57 : decode cX1_install 57 = .ok (.aload_n 1, 1) := by decide +kernel
theorem dX1_install_58 : decode cX1_install 58 = .ok (.getfield 75, 3) := by decide +kernel
theorem dX1_install_61 : decode cX1_install 61 = .ok (.putfield 25, 3) := by decide +kernel
theorem dX1_install_64 : decode cX1_install 64 = .ok (.aload_n 0, 1) := by decide +kernel
theorem dX1_install_65 : decode cX1_install 65 = .ok (.aload_n 1, 1) := by decide +kernel
theorem dX1_install_66 : decode cX1_install 66 = .ok (.getfield 83, 3) := by decide +kernel
theorem dX1_install_69 : decode cX1_install 69 = .ok (.putfield 28, 3) := by decide +kernel
theorem dX1_install_72 : decode cX1_install 72 = .ok (.aload_n 0, 1) := by decide +kernel
theorem dX1_install_73 : decode cX1_install 73 = .ok (.aload_n 1, 1) := by decide +kernel
theorem dX1_install_74 : decode cX1_install 74 = .ok (.getfield 86, 3) := by decide +kernel
theorem dX1_install_77 : decode cX1_install 77 = .ok (.putfield 31, 3) := by decide +kernel
theorem dX1_install_80 : decode cX1_install 80 = .ok (.aload_n 0, 1) := by decide +kernel
theorem dX1_install_81 : decode cX1_install 81 = .ok (.aload_n 1, 1) := by decide +kernel
theorem dX1_install_82 : decode cX1_install 82 = .ok (.getfield 89, 3) := by decide +kernel
theorem dX1_install_85 : decode cX1_install 85 = .ok (.putfield 34, 3) := by decide +kernel
theorem dX1_install_88 : decode cX1_install 88 = .ok (.aload_n 0, 1) := by decide +kernel
theorem dX1_install_89 : decode cX1_install 89 = .ok (.aload_n 1, 1) := by decide +kernel
theorem dX1_install_90 : decode cX1_install 90 = .ok (.getfield 92, 3) := by decide +kernel
theorem dX1_install_93 : decode cX1_install 93 = .ok (.putfield 37, 3) := by decide +kernel
theorem dX1_install_96 : decode cX1_install 96 = .ok (.aload_n 0, 1) := by decide +kernel
theorem dX1_install_97 : decode cX1_install 97 = .ok (.invokevirtual 40, 3) := by decide +kernel
theorem dX1_install_100 : decode cX1_install 100 = .ok (.return_, 1) := by decide +kernel
theorem dX1_copySnapshot_0 : decode cX1_copySnapshot 0 = .ok (.aload_n 1, 1) := by decide +kernel
theorem dX1_copySnapshot_1 : decode cX1_copySnapshot 1 = .ok (.aload_n 0, 1) := by decide +kernel
theorem dX1_copySnapshot_2 : decode cX1_copySnapshot 2 = .ok (.getfield 25, 3) := by decide +kernel
theorem dX1_copySnapshot_5 : decode cX1_copySnapshot 5 = .ok (.putfield 75, 3) := by decide +kernel
theorem dX1_copySnapshot_8 : decode cX1_copySnapshot 8 = .ok (.aload_n 1, 1) := by decide +kernel
theorem dX1_copySnapshot_9 : decode cX1_copySnapshot 9 = .ok (.aload_n 0, 1) := by decide +kernel
theorem dX1_copySnapshot_10 : decode cX1_copySnapshot 10 = .ok (.getfield 28, 3) := by decide +kernel
theorem dX1_copySnapshot_13 : decode cX1_copySnapshot 13 = .ok (.putfield 83, 3) := by decide +kernel
theorem dX1_copySnapshot_16 : decode cX1_copySnapshot 16 = .ok (.aload_n 1, 1) := by decide +kernel
theorem dX1_copySnapshot_17 : decode cX1_copySnapshot 17 = .ok (.aload_n 0, 1) := by decide +kernel
theorem dX1_copySnapshot_18 : decode cX1_copySnapshot 18 = .ok (.getfield 31, 3) := by decide +kernel
theorem dX1_copySnapshot_21 : decode cX1_copySnapshot 21 = .ok (.putfield 86, 3) := by decide +kernel
theorem dX1_copySnapshot_24 : decode cX1_copySnapshot 24 = .ok (.aload_n 1, 1) := by decide +kernel
theorem dX1_copySnapshot_25 : decode cX1_copySnapshot 25 = .ok (.aload_n 0, 1) := by decide +kernel
theorem dX1_copySnapshot_26 : decode cX1_copySnapshot 26 = .ok (.getfield 34, 3) := by decide +kernel
theorem dX1_copySnapshot_29 : decode cX1_copySnapshot 29 = .ok (.putfield 89, 3) := by decide +kernel
theorem dX1_copySnapshot_32 : decode cX1_copySnapshot 32 = .ok (.aload_n 1, 1) := by decide +kernel
theorem dX1_copySnapshot_33 : decode cX1_copySnapshot 33 = .ok (.aload_n 0, 1) := by decide +kernel
theorem dX1_copySnapshot_34 : decode cX1_copySnapshot 34 = .ok (.getfield 37, 3) := by decide +kernel
theorem dX1_copySnapshot_37 : decode cX1_copySnapshot 37 = .ok (.putfield 92, 3) := by decide +kernel
theorem dX1_copySnapshot_40 : decode cX1_copySnapshot 40 = .ok (.return_, 1) := by decide +kernel
theorem dX1_copyEntries_0 : decode cX1_copyEntries 0 = .ok (.iload_n 1, 1) := by decide +kernel
theorem dX1_copyEntries_1 : decode cX1_copyEntries 1 = .ok (.aload_n 0, 1) := by decide +kernel
theorem dX1_copyEntries_2 : decode cX1_copyEntries 2 = .ok (.getfield 25, 3) := by decide +kernel
theorem dX1_copyEntries_5 : decode cX1_copyEntries 5 = .ok (.isub, 1) := by decide +kernel
theorem dX1_copyEntries_6 : decode cX1_copyEntries 6 = .ok (.iconst 1, 1) := by decide +kernel
theorem dX1_copyEntries_7 : decode cX1_copyEntries 7 = .ok (.isub, 1) := by decide +kernel
theorem dX1_copyEntries_8 : decode cX1_copyEntries 8 = .ok (.istore_n 3, 1) := by decide +kernel
theorem dX1_copyEntries_9 : decode cX1_copyEntries 9 = .ok (.aload_n 2, 1) := by decide +kernel
theorem dX1_copyEntries_10 : decode cX1_copyEntries 10 = .ok (.iconst 0, 1) := by decide +kernel
theorem dX1_copyEntries_11 : decode cX1_copyEntries 11 = .ok (.putfield 95, 3) := by decide +kernel
theorem dX1_copyEntries_14 : decode cX1_copyEntries 14 = .ok (.iconst 0, 1) := by decide +kernel
theorem dX1_copyEntries_15 : decode cX1_copyEntries 15 = .ok (.istore 4, 2) := by decide +kernel
theorem dX1_copyEntries_17 : decode cX1_copyEntries 17 = .ok (.iload 4, 2) := by decide +kernel
theorem dX1_copyEntries_19 : decode cX1_copyEntries 19 = .ok (.iconst 4, 1) := by decide +kernel
theorem dX1_copyEntries_20 : decode cX1_copyEntries 20 = .ok (.if_icmp .ge 87, 3) := by decide +kernel
theorem dX1_copyEntries_23 : decode cX1_copyEntries 23 = .ok (.iload_n 3, 1) := by decide +kernel
theorem dX1_copyEntries_24 : decode cX1_copyEntries 24 = .ok (.iload 4, 2) := by decide +kernel
theorem dX1_copyEntries_26 : decode cX1_copyEntries 26 = .ok (.iadd, 1) := by decide +kernel
theorem dX1_copyEntries_27 : decode cX1_copyEntries 27 = .ok (.istore 5, 2) := by decide +kernel
theorem dX1_copyEntries_29 : decode cX1_copyEntries 29 = .ok (.iload 5, 2) := by decide +kernel
theorem dX1_copyEntries_31 : decode cX1_copyEntries 31 = .ok (.ifCond .lt 19, 3) := by decide +kernel
theorem dX1_copyEntries_34 : decode cX1_copyEntries 34 = .ok (.iload 5, 2) := by decide +kernel
theorem dX1_copyEntries_36 : decode cX1_copyEntries 36 = .ok (.aload_n 0, 1) := by decide +kernel
theorem dX1_copyEntries_37 : decode cX1_copyEntries 37 = .ok (.getfield 21, 3) := by decide +kernel
theorem dX1_copyEntries_40 : decode cX1_copyEntries 40 = .ok (.if_icmp .ge 10, 3) := by decide +kernel
theorem dX1_copyEntries_43 : decode cX1_copyEntries 43 = .ok (.iload 5, 2) := by decide +kernel
theorem dX1_copyEntries_45 : decode cX1_copyEntries 45 = .ok (.bipush 24, 2) := by decide +kernel
theorem dX1_copyEntries_47 : decode cX1_copyEntries 47 = .ok (.if_icmp .lt 4, 3) := by decide +kernel
theorem dX1_copyEntries_50 : decode cX1_copyEntries 50 = .ok (.return_, 1) := by decide +kernel
theorem dX1_copyEntries_51 : decode cX1_copyEntries 51 = .ok (.aload_n 2, 1) := by decide +kernel
theorem dX1_copyEntries_52 : decode cX1_copyEntries 52 = .ok (.getfield 98, 3) := by decide +kernel
theorem dX1_copyEntries_55 : decode cX1_copyEntries 55 = .ok (.iload 4, 2) := by decide +kernel
theorem dX1_copyEntries_57 : decode cX1_copyEntries 57 = .ok (.aload_n 0, 1) := by decide +kernel
theorem dX1_copyEntries_58 : decode cX1_copyEntries 58 = .ok (.getfield 9, 3) := by decide +kernel
theorem dX1_copyEntries_61 : decode cX1_copyEntries 61 = .ok (.iload 5, 2) := by decide +kernel
theorem dX1_copyEntries_63 : decode cX1_copyEntries 63 = .ok (.iaload, 1) := by decide +kernel
theorem dX1_copyEntries_64 : decode cX1_copyEntries 64 = .ok (.iastore, 1) := by decide +kernel
theorem dX1_copyEntries_65 : decode cX1_copyEntries 65 = .ok (.aload_n 2, 1) := by decide +kernel
theorem dX1_copyEntries_66 : decode cX1_copyEntries 66 = .ok (.getfield 99, 3) := by decide +kernel
theorem dX1_copyEntries_69 : decode cX1_copyEntries 69 = .ok (.iload 4, 2) := by decide +kernel
theorem dX1_copyEntries_71 : decode cX1_copyEntries 71 = .ok (.aload_n 0, 1) := by decide +kernel
theorem dX1_copyEntries_72 : decode cX1_copyEntries 72 = .ok (.getfield 15, 3) := by decide +kernel
theorem dX1_copyEntries_75 : decode cX1_copyEntries 75 = .ok (.iload 5, 2) := by decide +kernel
theorem dX1_copyEntries_77 : decode cX1_copyEntries 77 = .ok (.iaload, 1) := by decide +kernel
theorem dX1_copyEntries_78 : decode cX1_copyEntries 78 = .ok (.iastore, 1) := by decide +kernel
theorem dX1_copyEntries_79 : decode cX1_copyEntries 79 = .ok (.aload_n 2, 1) := by decide +kernel
theorem dX1_copyEntries_80 : decode cX1_copyEntries 80 = .ok (.getfield 100, 3) := by decide +kernel
theorem dX1_copyEntries_83 : decode cX1_copyEntries 83 = .ok (.iload 4, 2) := by decide +kernel
theorem dX1_copyEntries_85 : decode cX1_copyEntries 85 = .ok (.aload_n 0, 1) := by decide +kernel
theorem dX1_copyEntries_86 : decode cX1_copyEntries 86 = .ok (.getfield 18, 3) := by decide +kernel
theorem dX1_copyEntries_89 : decode cX1_copyEntries 89 = .ok (.iload 5, 2) := by decide +kernel
theorem dX1_copyEntries_91 : decode cX1_copyEntries 91 = .ok (.iaload, 1) := by decide +kernel
theorem dX1_copyEntries_92 : decode cX1_copyEntries 92 = .ok (.iastore, 1) := by decide +kernel
theorem dX1_copyEntries_93 : decode cX1_copyEntries 93 = .ok (.aload_n 2, 1) := by decide +kernel
theorem dX1_copyEntries_94 : decode cX1_copyEntries 94 = .ok (.iload 4, 2) := by decide +kernel
theorem dX1_copyEntries_96 : decode cX1_copyEntries 96 = .ok (.iconst 1, 1) := by decide +kernel
theorem dX1_copyEntries_97 : decode cX1_copyEntries 97 = .ok (.iadd, 1) := by decide +kernel
theorem dX1_copyEntries_98 : decode cX1_copyEntries 98 = .ok (.putfield 95, 3) := by decide +kernel
theorem dX1_copyEntries_101 : decode cX1_copyEntries 101 = .ok (.iinc 4 1, 3) := by decide +kernel
theorem dX1_copyEntries_104 : decode cX1_copyEntries 104 = .ok (.goto (-87), 3) := by decide +kernel
theorem dX1_copyEntries_107 : decode cX1_copyEntries 107 = .ok (.return_, 1) := by decide +kernel
theorem dX1_resultAt_0 : decode cX1_resultAt 0 = .ok (.aload_n 0, 1) := by decide +kernel
theorem dX1_resultAt_1 : decode cX1_resultAt 1 = .ok (.getfield 31, 3) := by decide +kernel
theorem dX1_resultAt_4 : decode cX1_resultAt 4 = .ok (.istore_n 2, 1) := by decide +kernel
theorem dX1_resultAt_5 : decode cX1_resultAt 5 = .ok (.iconst 0, 1) := by decide +kernel
theorem dX1_resultAt_6 : decode cX1_resultAt 6 = .ok (.istore_n 3, 1) := by decide +kernel
theorem dX1_resultAt_7 : decode cX1_resultAt 7 = .ok (.iload_n 3, 1) := by decide +kernel
theorem dX1_resultAt_8 : decode cX1_resultAt 8 = .ok (.aload_n 0, 1) := by decide +kernel
theorem dX1_resultAt_9 : decode cX1_resultAt 9 = .ok (.getfield 21, 3) := by decide +kernel
theorem dX1_resultAt_12 : decode cX1_resultAt 12 = .ok (.if_icmp .ge 46, 3) := by decide +kernel
theorem dX1_resultAt_15 : decode cX1_resultAt 15 = .ok (.iload_n 3, 1) := by decide +kernel
theorem dX1_resultAt_16 : decode cX1_resultAt 16 = .ok (.bipush 24, 2) := by decide +kernel
theorem dX1_resultAt_18 : decode cX1_resultAt 18 = .ok (.if_icmp .ge 40, 3) := by decide +kernel
theorem dX1_resultAt_21 : decode cX1_resultAt 21 = .ok (.iload_n 3, 1) := by decide +kernel
theorem dX1_resultAt_22 : decode cX1_resultAt 22 = .ok (.iload_n 1, 1) := by decide +kernel
theorem dX1_resultAt_23 : decode cX1_resultAt 23 = .ok (.aload_n 0, 1) := by decide +kernel
theorem dX1_resultAt_24 : decode cX1_resultAt 24 = .ok (.getfield 25, 3) := by decide +kernel
theorem dX1_resultAt_27 : decode cX1_resultAt 27 = .ok (.isub, 1) := by decide +kernel
theorem dX1_resultAt_28 : decode cX1_resultAt 28 = .ok (.if_icmp .ge 30, 3) := by decide +kernel
theorem dX1_resultAt_31 : decode cX1_resultAt 31 = .ok (.aload_n 0, 1) := by decide +kernel
theorem dX1_resultAt_32 : decode cX1_resultAt 32 = .ok (.getfield 15, 3) := by decide +kernel
theorem dX1_resultAt_35 : decode cX1_resultAt 35 = .ok (.iload_n 3, 1) := by decide +kernel
theorem dX1_resultAt_36 : decode cX1_resultAt 36 = .ok (.iaload, 1) := by decide +kernel
theorem dX1_resultAt_37 : decode cX1_resultAt 37 = .ok (.ifCond .ne 15, 3) := by decide +kernel
theorem dX1_resultAt_40 : decode cX1_resultAt 40 = .ok (.bipush 31, 2) := by decide +kernel
theorem dX1_resultAt_42 : decode cX1_resultAt 42 = .ok (.iload_n 2, 1) := by decide +kernel
theorem dX1_resultAt_43 : decode cX1_resultAt 43 = .ok (.imul, 1) := by decide +kernel
theorem dX1_resultAt_44 : decode cX1_resultAt 44 = .ok (.aload_n 0, 1) := by decide +kernel
theorem dX1_resultAt_45 : decode cX1_resultAt 45 = .ok (.getfield 18, 3) := by decide +kernel
theorem dX1_resultAt_48 : decode cX1_resultAt 48 = .ok (.iload_n 3, 1) := by decide +kernel
theorem dX1_resultAt_49 : decode cX1_resultAt 49 = .ok (.iaload, 1) := by decide +kernel
theorem dX1_resultAt_50 : decode cX1_resultAt 50 = .ok (.iadd, 1) := by decide +kernel
theorem dX1_resultAt_51 : decode cX1_resultAt 51 = .ok (.istore_n 2, 1) := by decide +kernel
theorem dX1_resultAt_52 : decode cX1_resultAt 52 = .ok (.iinc 3 1, 3) := by decide +kernel
theorem dX1_resultAt_55 : decode cX1_resultAt 55 = .ok (.goto (-48), 3) := by decide +kernel
theorem dX1_resultAt_58 : decode cX1_resultAt 58 = .ok (.iload_n 2, 1) := by decide +kernel
theorem dX1_resultAt_59 : decode cX1_resultAt 59 = .ok (.ireturn, 1) := by decide +kernel
theorem dX1_isJoint_0 : decode cX1_isJoint 0 = .ok (.aload_n 0, 1) := by decide +kernel
theorem dX1_isJoint_1 : decode cX1_isJoint 1 = .ok (.getfield 101, 3) := by decide +kernel
theorem dX1_isJoint_4 : decode cX1_isJoint 4 = .ok (.ifCond .eq 7, 3) := by decide +kernel
theorem dX1_isJoint_7 : decode cX1_isJoint 7 = .ok (.iconst 1, 1) := by decide +kernel
theorem dX1_isJoint_8 : decode cX1_isJoint 8 = .ok (.goto 4, 3) := by decide +kernel
theorem dX1_isJoint_11 : decode cX1_isJoint 11 = .ok (.iconst 0, 1) := by decide +kernel
theorem dX1_isJoint_12 : decode cX1_isJoint 12 = .ok (.ireturn, 1) := by decide +kernel
theorem dX1_members_0 : decode cX1_members 0 = .ok (.aload_n 0, 1) := by decide +kernel
theorem dX1_members_1 : decode cX1_members 1 = .ok (.getfield 101, 3) := by decide +kernel
theorem dX1_members_4 : decode cX1_members 4 = .ok (.aload_n 0, 1) := by decide +kernel
theorem dX1_members_5 : decode cX1_members 5 = .ok (.getfield 102, 3) := by decide +kernel
theorem dX1_members_8 : decode cX1_members 8 = .ok (.ior, 1) := by decide +kernel
theorem dX1_members_9 : decode cX1_members 9 = .ok (.ireturn, 1) := by decide +kernel
theorem dX1_isMember_0 : decode cX1_isMember 0 = .ok (.aload_n 0, 1) := by decide +kernel
theorem dX1_isMember_1 : decode cX1_isMember 1 = .ok (.getfield 101, 3) := by decide +kernel
theorem dX1_isMember_4 : decode cX1_isMember 4 = .ok (.aload_n 0, 1) := by decide +kernel
theorem dX1_isMember_5 : decode cX1_isMember 5 = .ok (.getfield 102, 3) := by decide +kernel
theorem dX1_isMember_8 : decode cX1_isMember 8 = .ok (.ior, 1) := by decide +kernel
theorem dX1_isMember_9 : decode cX1_isMember 9 = .ok (.iload_n 1, 1) := by decide +kernel
theorem dX1_isMember_10 : decode cX1_isMember 10 = .ok (.ishr, 1) := by decide +kernel
theorem dX1_isMember_11 : decode cX1_isMember 11 = .ok (.iconst 1, 1) := by decide +kernel
theorem dX1_isMember_12 : decode cX1_isMember 12 = .ok (.iand, 1) := by decide +kernel
theorem dX1_isMember_13 : decode cX1_isMember 13 = .ok (.iconst 1, 1) := by decide +kernel
theorem dX1_isMember_14 : decode cX1_isMember 14 = .ok (.if_icmp .ne 7, 3) := by decide +kernel
theorem dX1_isMember_17 : decode cX1_isMember 17 = .ok (.iconst 1, 1) := by decide +kernel
theorem dX1_isMember_18 : decode cX1_isMember 18 = .ok (.goto 4, 3) := by decide +kernel
theorem dX1_isMember_21 : decode cX1_isMember 21 = .ok (.iconst 0, 1) := by decide +kernel
theorem dX1_isMember_22 : decode cX1_isMember 22 = .ok (.ireturn, 1) := by decide +kernel
theorem dX1_isQuorum_0 : decode cX1_isQuorum 0 = .ok (.iconst 2, 1) := by decide +kernel
theorem dX1_isQuorum_1 : decode cX1_isQuorum 1 = .ok (.iload_n 1, 1) := by decide +kernel
theorem dX1_isQuorum_2 : decode cX1_isQuorum 2 = .ok (.aload_n 0, 1) := by decide +kernel
theorem dX1_isQuorum_3 : decode cX1_isQuorum 3 = .ok (.getfield 102, 3) := by decide +kernel
theorem dX1_isQuorum_6 : decode cX1_isQuorum 6 = .ok (.iand, 1) := by decide +kernel
theorem dX1_isQuorum_7 : decode cX1_isQuorum 7 = .ok (.invokestatic 103, 3) := by decide +kernel
theorem dX1_isQuorum_10 : decode cX1_isQuorum 10 = .ok (.imul, 1) := by decide +kernel
theorem dX1_isQuorum_11 : decode cX1_isQuorum 11 = .ok (.aload_n 0, 1) := by decide +kernel
theorem dX1_isQuorum_12 : decode cX1_isQuorum 12 = .ok (.getfield 102, 3) := by decide +kernel
theorem dX1_isQuorum_15 : decode cX1_isQuorum 15 = .ok (.invokestatic 103, 3) := by decide +kernel
theorem dX1_isQuorum_18 : decode cX1_isQuorum 18 = .ok (.if_icmp .gt 5, 3) := by decide +kernel
theorem dX1_isQuorum_21 : decode cX1_isQuorum 21 = .ok (.iconst 0, 1) := by decide +kernel
theorem dX1_isQuorum_22 : decode cX1_isQuorum 22 = .ok (.ireturn, 1) := by decide +kernel
theorem dX1_isQuorum_23 : decode cX1_isQuorum 23 = .ok (.aload_n 0, 1) := by decide +kernel
theorem dX1_isQuorum_24 : decode cX1_isQuorum 24 = .ok (.getfield 101, 3) := by decide +kernel
theorem dX1_isQuorum_27 : decode cX1_isQuorum 27 = .ok (.ifCond .eq 24, 3) := by decide +kernel
theorem dX1_isQuorum_30 : decode cX1_isQuorum 30 = .ok (.iconst 2, 1) := by decide +kernel
theorem dX1_isQuorum_31 : decode cX1_isQuorum 31 = .ok (.iload_n 1, 1) := by decide +kernel
theorem dX1_isQuorum_32 : decode cX1_isQuorum 32 = .ok (.aload_n 0, 1) := by decide +kernel
theorem dX1_isQuorum_33 : decode cX1_isQuorum 33 = .ok (.getfield 101, 3) := by decide +kernel
theorem dX1_isQuorum_36 : decode cX1_isQuorum 36 = .ok (.iand, 1) := by decide +kernel
theorem dX1_isQuorum_37 : decode cX1_isQuorum 37 = .ok (.invokestatic 103, 3) := by decide +kernel
theorem dX1_isQuorum_40 : decode cX1_isQuorum 40 = .ok (.imul, 1) := by decide +kernel
theorem dX1_isQuorum_41 : decode cX1_isQuorum 41 = .ok (.aload_n 0, 1) := by decide +kernel
theorem dX1_isQuorum_42 : decode cX1_isQuorum 42 = .ok (.getfield 101, 3) := by decide +kernel
theorem dX1_isQuorum_45 : decode cX1_isQuorum 45 = .ok (.invokestatic 103, 3) := by decide +kernel
theorem dX1_isQuorum_48 : decode cX1_isQuorum 48 = .ok (.if_icmp .le 7, 3) := by decide +kernel
theorem dX1_isQuorum_51 : decode cX1_isQuorum 51 = .ok (.iconst 1, 1) := by decide +kernel
theorem dX1_isQuorum_52 : decode cX1_isQuorum 52 = .ok (.goto 4, 3) := by decide +kernel
theorem dX1_isQuorum_55 : decode cX1_isQuorum 55 = .ok (.iconst 0, 1) := by decide +kernel
theorem dX1_isQuorum_56 : decode cX1_isQuorum 56 = .ok (.ireturn, 1) := by decide +kernel
theorem dX1_dropFirst_0 : decode cX1_dropFirst 0 = .ok (.iload_n 1, 1) := by decide +kernel
theorem dX1_dropFirst_1 : decode cX1_dropFirst 1 = .ok (.ifCond .lt 20, 3) := by decide +kernel
theorem dX1_dropFirst_4 : decode cX1_dropFirst 4 = .ok (.iload_n 1, 1) := by decide +kernel
theorem dX1_dropFirst_5 : decode cX1_dropFirst 5 = .ok (.aload_n 0, 1) := by decide +kernel
theorem dX1_dropFirst_6 : decode cX1_dropFirst 6 = .ok (.getfield 21, 3) := by decide +kernel
theorem dX1_dropFirst_9 : decode cX1_dropFirst 9 = .ok (.if_icmp .gt 12, 3) := by decide +kernel
theorem dX1_dropFirst_12 : decode cX1_dropFirst 12 = .ok (.aload_n 0, 1) := by decide +kernel
theorem dX1_dropFirst_13 : decode cX1_dropFirst 13 = .ok (.getfield 21, 3) := by decide +kernel
theorem dX1_dropFirst_16 : decode cX1_dropFirst 16 = .ok (.bipush 24, 2) := by decide +kernel
theorem dX1_dropFirst_18 : decode cX1_dropFirst 18 = .ok (.if_icmp .le 4, 3) := by decide +kernel
theorem dX1_dropFirst_21 : decode cX1_dropFirst 21 = .ok (.return_, 1) := by decide +kernel
theorem dX1_dropFirst_22 : decode cX1_dropFirst 22 = .ok (.aload_n 0, 1) := by decide +kernel
theorem dX1_dropFirst_23 : decode cX1_dropFirst 23 = .ok (.getfield 9, 3) := by decide +kernel
theorem dX1_dropFirst_26 : decode cX1_dropFirst 26 = .ok (.iload_n 1, 1) := by decide +kernel
theorem dX1_dropFirst_27 : decode cX1_dropFirst 27 = .ok (.aload_n 0, 1) := by decide +kernel
theorem dX1_dropFirst_28 : decode cX1_dropFirst 28 = .ok (.getfield 9, 3) := by decide +kernel
theorem dX1_dropFirst_31 : decode cX1_dropFirst 31 = .ok (.iconst 0, 1) := by decide +kernel
theorem dX1_dropFirst_32 : decode cX1_dropFirst 32 = .ok (.aload_n 0, 1) := by decide +kernel
theorem dX1_dropFirst_33 : decode cX1_dropFirst 33 = .ok (.getfield 21, 3) := by decide +kernel
theorem dX1_dropFirst_36 : decode cX1_dropFirst 36 = .ok (.iload_n 1, 1) := by decide +kernel
theorem dX1_dropFirst_37 : decode cX1_dropFirst 37 = .ok (.isub, 1) := by decide +kernel
theorem dX1_dropFirst_38 : decode cX1_dropFirst 38 = .ok (.invokestatic 43, 3) := by decide +kernel
theorem dX1_dropFirst_41 : decode cX1_dropFirst 41 = .ok (.aload_n 0, 1) := by decide +kernel
theorem dX1_dropFirst_42 : decode cX1_dropFirst 42 = .ok (.getfield 15, 3) := by decide +kernel
theorem dX1_dropFirst_45 : decode cX1_dropFirst 45 = .ok (.iload_n 1, 1) := by decide +kernel
theorem dX1_dropFirst_46 : decode cX1_dropFirst 46 = .ok (.aload_n 0, 1) := by decide +kernel
theorem dX1_dropFirst_47 : decode cX1_dropFirst 47 = .ok (.getfield 15, 3) := by decide +kernel
theorem dX1_dropFirst_50 : decode cX1_dropFirst 50 = .ok (.iconst 0, 1) := by decide +kernel
theorem dX1_dropFirst_51 : decode cX1_dropFirst 51 = .ok (.aload_n 0, 1) := by decide +kernel
theorem dX1_dropFirst_52 : decode cX1_dropFirst 52 = .ok (.getfield 21, 3) := by decide +kernel
theorem dX1_dropFirst_55 : decode cX1_dropFirst 55 = .ok (.iload_n 1, 1) := by decide +kernel
theorem dX1_dropFirst_56 : decode cX1_dropFirst 56 = .ok (.isub, 1) := by decide +kernel
theorem dX1_dropFirst_57 : decode cX1_dropFirst 57 = .ok (.invokestatic 43, 3) := by decide +kernel
theorem dX1_dropFirst_60 : decode cX1_dropFirst 60 = .ok (.aload_n 0, 1) := by decide +kernel
theorem dX1_dropFirst_61 : decode cX1_dropFirst 61 = .ok (.getfield 18, 3) := by decide +kernel
theorem dX1_dropFirst_64 : decode cX1_dropFirst 64 = .ok (.iload_n 1, 1) := by decide +kernel
theorem dX1_dropFirst_65 : decode cX1_dropFirst 65 = .ok (.aload_n 0, 1) := by decide +kernel
theorem dX1_dropFirst_66 : decode cX1_dropFirst 66 = .ok (.getfield 18, 3) := by decide +kernel
theorem dX1_dropFirst_69 : decode cX1_dropFirst 69 = .ok (.iconst 0, 1) := by decide +kernel
theorem dX1_dropFirst_70 : decode cX1_dropFirst 70 = .ok (.aload_n 0, 1) := by decide +kernel
theorem dX1_dropFirst_71 : decode cX1_dropFirst 71 = .ok (.getfield 21, 3) := by decide +kernel
theorem dX1_dropFirst_74 : decode cX1_dropFirst 74 = .ok (.iload_n 1, 1) := by decide +kernel
theorem dX1_dropFirst_75 : decode cX1_dropFirst 75 = .ok (.isub, 1) := by decide +kernel
theorem dX1_dropFirst_76 : decode cX1_dropFirst 76 = .ok (.invokestatic 43, 3) := by decide +kernel
theorem dX1_dropFirst_79 : decode cX1_dropFirst 79 = .ok (.aload_n 0, 1) := by decide +kernel
theorem dX1_dropFirst_80 : decode cX1_dropFirst 80 = .ok (.dup, 1) := by decide +kernel
theorem dX1_dropFirst_81 : decode cX1_dropFirst 81 = .ok (.getfield 21, 3) := by decide +kernel
theorem dX1_dropFirst_84 : decode cX1_dropFirst 84 = .ok (.iload_n 1, 1) := by decide +kernel
theorem dX1_dropFirst_85 : decode cX1_dropFirst 85 = .ok (.isub, 1) := by decide +kernel
theorem dX1_dropFirst_86 : decode cX1_dropFirst 86 = .ok (.putfield 21, 3) := by decide +kernel
theorem dX1_dropFirst_89 : decode cX1_dropFirst 89 = .ok (.return_, 1) := by decide +kernel
theorem dX1_isConfiguration_0 : decode cX1_isConfiguration 0 = .ok (.aload_n 0, 1) := by decide +kernel
theorem dX1_isConfiguration_1 : decode cX1_isConfiguration 1 = .ok (.getfield 15, 3) := by decide +kernel
theorem dX1_isConfiguration_4 : decode cX1_isConfiguration 4 = .ok (.iload_n 1, 1) := by decide +kernel
theorem dX1_isConfiguration_5 : decode cX1_isConfiguration 5 = .ok (.iaload, 1) := by decide +kernel
theorem dX1_isConfiguration_6 : decode cX1_isConfiguration 6 = .ok (.iconst 1, 1) := by decide +kernel
theorem dX1_isConfiguration_7 : decode cX1_isConfiguration 7 = .ok (.if_icmp .eq 13, 3) := by decide +kernel
theorem dX1_isConfiguration_10 : decode cX1_isConfiguration 10 = .ok (.aload_n 0, 1) := by decide +kernel
theorem dX1_isConfiguration_11 : decode cX1_isConfiguration 11 = .ok (.getfield 15, 3) := by decide +kernel
theorem dX1_isConfiguration_14 : decode cX1_isConfiguration 14 = .ok (.iload_n 1, 1) := by decide +kernel
theorem dX1_isConfiguration_15 : decode cX1_isConfiguration 15 = .ok (.iaload, 1) := by decide +kernel
theorem dX1_isConfiguration_16 : decode cX1_isConfiguration 16 = .ok (.iconst 2, 1) := by decide +kernel
theorem dX1_isConfiguration_17 : decode cX1_isConfiguration 17 = .ok (.if_icmp .ne 7, 3) := by decide +kernel
theorem dX1_isConfiguration_20 : decode cX1_isConfiguration 20 = .ok (.iconst 1, 1) := by decide +kernel
theorem dX1_isConfiguration_21 : decode cX1_isConfiguration 21 = .ok (.goto 4, 3) := by decide +kernel
theorem dX1_isConfiguration_24 : decode cX1_isConfiguration 24 = .ok (.iconst 0, 1) := by decide +kernel
theorem dX1_isConfiguration_25 : decode cX1_isConfiguration 25 = .ok (.ireturn, 1) := by decide +kernel
theorem dX1_findConfiguration_0 : decode cX1_findConfiguration 0 = .ok (.aload_n 0, 1) := by decide +kernel
theorem dX1_findConfiguration_1 : decode cX1_findConfiguration 1 = .ok (.aload_n 0, 1) := by decide +kernel
theorem dX1_findConfiguration_2 : decode cX1_findConfiguration 2 = .ok (.getfield 25, 3) := by decide +kernel
theorem dX1_findConfiguration_5 : decode cX1_findConfiguration 5 = .ok (.putfield 108, 3) := by decide +kernel
theorem dX1_findConfiguration_8 : decode cX1_findConfiguration 8 = .ok (.aload_n 0, 1) := by decide +kernel
theorem dX1_findConfiguration_9 : decode cX1_findConfiguration 9 = .ok (.aload_n 0, 1) := by decide +kernel
theorem dX1_findConfiguration_10 : decode cX1_findConfiguration 10 = .ok (.getfield 34, 3) := by decide +kernel
theorem dX1_findConfiguration_13 : decode cX1_findConfiguration 13 = .ok (.putfield 101, 3) := by decide +kernel
theorem dX1_findConfiguration_16 : decode cX1_findConfiguration 16 = .ok (.aload_n 0, 1) := by decide +kernel
theorem dX1_findConfiguration_17 : decode cX1_findConfiguration 17 = .ok (.aload_n 0, 1) := by decide +kernel
theorem dX1_findConfiguration_18 : decode cX1_findConfiguration 18 = .ok (.getfield 37, 3) := by decide +kernel
theorem dX1_findConfiguration_21 : decode cX1_findConfiguration 21 = .ok (.putfield 102, 3) := by decide +kernel
theorem dX1_findConfiguration_24 : decode cX1_findConfiguration 24 = .ok (.iconst 0, 1) := by decide +kernel
theorem dX1_findConfiguration_25 : decode cX1_findConfiguration 25 = .ok (.istore_n 1, 1) := by decide +kernel
theorem dX1_findConfiguration_26 : decode cX1_findConfiguration 26 = .ok (.iload_n 1, 1) := by decide +kernel
theorem dX1_findConfiguration_27 : decode cX1_findConfiguration 27 = .ok (.aload_n 0, 1) := by decide +kernel
theorem dX1_findConfiguration_28 : decode cX1_findConfiguration 28 = .ok (.getfield 21, 3) := by decide +kernel
theorem dX1_findConfiguration_31 : decode cX1_findConfiguration 31 = .ok (.if_icmp .ge 61, 3) := by decide +kernel
theorem dX1_findConfiguration_34 : decode cX1_findConfiguration 34 = .ok (.iload_n 1, 1) := by decide +kernel
theorem dX1_findConfiguration_35 : decode cX1_findConfiguration 35 = .ok (.bipush 24, 2) := by decide +kernel
theorem dX1_findConfiguration_37 : decode cX1_findConfiguration 37 = .ok (.if_icmp .ge 55, 3) := by decide +kernel
theorem dX1_findConfiguration_40 : decode cX1_findConfiguration 40 = .ok (.aload_n 0, 1) := by decide +kernel
theorem dX1_findConfiguration_41 : decode cX1_findConfiguration 41 = .ok (.iload_n 1, 1) := by decide +kernel
theorem dX1_findConfiguration_42 : decode cX1_findConfiguration 42 = .ok (.invokevirtual 67, 3) := by decide +kernel
theorem dX1_findConfiguration_45 : decode cX1_findConfiguration 45 = .ok (.ifCond .eq 41, 3) := by decide +kernel
theorem dX1_findConfiguration_48 : decode cX1_findConfiguration 48 = .ok (.aload_n 0, 1) := by decide +kernel
theorem dX1_findConfiguration_49 : decode cX1_findConfiguration 49 = .ok (.aload_n 0, 1) := by decide +kernel
theorem dX1_findConfiguration_50 : decode cX1_findConfiguration 50 = .ok (.getfield 25, 3) := by decide +kernel
theorem dX1_findConfiguration_53 : decode cX1_findConfiguration 53 = .ok (.iconst 1, 1) := by decide +kernel
theorem dX1_findConfiguration_54 : decode cX1_findConfiguration 54 = .ok (.iadd, 1) := by decide +kernel
theorem dX1_findConfiguration_55 : decode cX1_findConfiguration 55 = .ok (.iload_n 1, 1) := by decide +kernel
theorem dX1_findConfiguration_56 : decode cX1_findConfiguration 56 = .ok (.iadd, 1) := by decide +kernel
theorem dX1_findConfiguration_57 : decode cX1_findConfiguration 57 = .ok (.putfield 108, 3) := by decide +kernel
theorem dX1_findConfiguration_60 : decode cX1_findConfiguration 60 = .ok (.aload_n 0, 1) := by decide +kernel
theorem dX1_findConfiguration_61 : decode cX1_findConfiguration 61 = .ok (.aload_n 0, 1) := by decide +kernel
theorem dX1_findConfiguration_62 : decode cX1_findConfiguration 62 = .ok (.getfield 18, 3) := by decide +kernel
theorem dX1_findConfiguration_65 : decode cX1_findConfiguration 65 = .ok (.iload_n 1, 1) := by decide +kernel
theorem dX1_findConfiguration_66 : decode cX1_findConfiguration 66 = .ok (.iaload, 1) := by decide +kernel
theorem dX1_findConfiguration_67 : decode cX1_findConfiguration 67 = .ok (.bipush 32, 2) := by decide +kernel
theorem dX1_findConfiguration_69 : decode cX1_findConfiguration 69 = .ok (.idiv, 1) := by decide +kernel
theorem dX1_findConfiguration_70 : decode cX1_findConfiguration 70 = .ok (.putfield 101, 3) := by decide +kernel
theorem dX1_findConfiguration_73 : decode cX1_findConfiguration 73 = .ok (.aload_n 0, 1) := by decide +kernel
theorem dX1_findConfiguration_74 : decode cX1_findConfiguration 74 = .ok (.aload_n 0, 1) := by decide +kernel
theorem dX1_findConfiguration_75 : decode cX1_findConfiguration 75 = .ok (.getfield 18, 3) := by decide +kernel
theorem dX1_findConfiguration_78 : decode cX1_findConfiguration 78 = .ok (.iload_n 1, 1) := by decide +kernel
theorem dX1_findConfiguration_79 : decode cX1_findConfiguration 79 = .ok (.iaload, 1) := by decide +kernel
theorem dX1_findConfiguration_80 : decode cX1_findConfiguration 80 = .ok (.bipush 32, 2) := by decide +kernel
theorem dX1_findConfiguration_82 : decode cX1_findConfiguration 82 = .ok (.irem, 1) := by decide +kernel
theorem dX1_findConfiguration_83 : decode cX1_findConfiguration 83 = .ok (.putfield 102, 3) := by decide +kernel
theorem dX1_findConfiguration_86 : decode cX1_findConfiguration 86 = .ok (.iinc 1 1, 3) := by decide +kernel
theorem dX1_findConfiguration_89 : decode cX1_findConfiguration 89 = .ok (.goto (-63), 3) := by decide +kernel
theorem dX1_findConfiguration_92 : decode cX1_findConfiguration 92 = .ok (.return_, 1) := by decide +kernel
theorem dX2_init_0 : decode cX2_init 0 = .ok (.aload_n 0, 1) := by decide +kernel
theorem dX2_init_1 : decode cX2_init 1 = .ok (.invokespecial 3, 3) := by decide +kernel
theorem dX2_init_4 : decode cX2_init 4 = .ok (.aload_n 0, 1) := by decide +kernel
theorem dX2_init_5 : decode cX2_init 5 = .ok (.iconst 4, 1) := by decide +kernel
theorem dX2_init_6 : decode cX2_init 6 = .ok (.newarray .int, 2) := by decide +kernel
theorem dX2_init_8 : decode cX2_init 8 = .ok (.putfield 9, 3) := by decide +kernel
theorem dX2_init_11 : decode cX2_init 11 = .ok (.aload_n 0, 1) := by decide +kernel
theorem dX2_init_12 : decode cX2_init 12 = .ok (.iconst 4, 1) := by decide +kernel
theorem dX2_init_13 : decode cX2_init 13 = .ok (.newarray .int, 2) := by decide +kernel
theorem dX2_init_15 : decode cX2_init 15 = .ok (.putfield 15, 3) := by decide +kernel
theorem dX2_init_18 : decode cX2_init 18 = .ok (.aload_n 0, 1) := by decide +kernel
theorem dX2_init_19 : decode cX2_init 19 = .ok (.iconst 4, 1) := by decide +kernel
theorem dX2_init_20 : decode cX2_init 20 = .ok (.newarray .int, 2) := by decide +kernel
theorem dX2_init_22 : decode cX2_init 22 = .ok (.putfield 18, 3) := by decide +kernel
theorem dX2_init_25 : decode cX2_init 25 = .ok (.return_, 1) := by decide +kernel
theorem dX2_clear_0 : decode cX2_clear 0 = .ok (.aload_n 0, 1) := by decide +kernel
theorem dX2_clear_1 : decode cX2_clear 1 = .ok (.iconst 0, 1) := by decide +kernel
theorem dX2_clear_2 : decode cX2_clear 2 = .ok (.putfield 21, 3) := by decide +kernel
theorem dX2_clear_5 : decode cX2_clear 5 = .ok (.aload_n 0, 1) := by decide +kernel
theorem dX2_clear_6 : decode cX2_clear 6 = .ok (.iconst 0, 1) := by decide +kernel
theorem dX2_clear_7 : decode cX2_clear 7 = .ok (.putfield 25, 3) := by decide +kernel
theorem dX2_clear_10 : decode cX2_clear 10 = .ok (.aload_n 0, 1) := by decide +kernel
theorem dX2_clear_11 : decode cX2_clear 11 = .ok (.iconst 0, 1) := by decide +kernel
theorem dX2_clear_12 : decode cX2_clear 12 = .ok (.putfield 28, 3) := by decide +kernel
theorem dX2_clear_15 : decode cX2_clear 15 = .ok (.aload_n 0, 1) := by decide +kernel
theorem dX2_clear_16 : decode cX2_clear 16 = .ok (.iconst 0, 1) := by decide +kernel
theorem dX2_clear_17 : decode cX2_clear 17 = .ok (.putfield 31, 3) := by decide +kernel
theorem dX2_clear_20 : decode cX2_clear 20 = .ok (.aload_n 0, 1) := by decide +kernel
theorem dX2_clear_21 : decode cX2_clear 21 = .ok (.iconst 0, 1) := by decide +kernel
theorem dX2_clear_22 : decode cX2_clear 22 = .ok (.putfield 35, 3) := by decide +kernel
theorem dX2_clear_25 : decode cX2_clear 25 = .ok (.aload_n 0, 1) := by decide +kernel
theorem dX2_clear_26 : decode cX2_clear 26 = .ok (.iconst 0, 1) := by decide +kernel
theorem dX2_clear_27 : decode cX2_clear 27 = .ok (.putfield 38, 3) := by decide +kernel
theorem dX2_clear_30 : decode cX2_clear 30 = .ok (.aload_n 0, 1) := by decide +kernel
theorem dX2_clear_31 : decode cX2_clear 31 = .ok (.iconst 0, 1) := by decide +kernel
theorem dX2_clear_32 : decode cX2_clear 32 = .ok (.putfield 41, 3) := by decide +kernel
theorem dX2_clear_35 : decode cX2_clear 35 = .ok (.aload_n 0, 1) := by decide +kernel
theorem dX2_clear_36 : decode cX2_clear 36 = .ok (.iconst 0, 1) := by decide +kernel
theorem dX2_clear_37 : decode cX2_clear 37 = .ok (.putfield 44, 3) := by decide +kernel
theorem dX2_clear_40 : decode cX2_clear 40 = .ok (.return_, 1) := by decide +kernel
theorem dX2_copyFrom_0 : decode cX2_copyFrom 0 = .ok (.aload_n 1, 1) := by decide +kernel
theorem dX2_copyFrom_1 : decode cX2_copyFrom 1 = .ok (.getfield 9, 3) := by decide +kernel
theorem dX2_copyFrom_4 : decode cX2_copyFrom 4 = .ok (.iconst 0, 1) := by decide +kernel
theorem dX2_copyFrom_5 : decode cX2_copyFrom 5 = .ok (.aload_n 0, 1) := by decide +kernel
theorem dX2_copyFrom_6 : decode cX2_copyFrom 6 = .ok (.getfield 9, 3) := by decide +kernel
theorem dX2_copyFrom_9 : decode cX2_copyFrom 9 = .ok (.iconst 0, 1) := by decide +kernel
theorem dX2_copyFrom_10 : decode cX2_copyFrom 10 = .ok (.iconst 4, 1) := by decide +kernel
theorem dX2_copyFrom_11 : decode cX2_copyFrom 11 = .ok (.invokestatic 47, 3) := by decide +kernel
theorem dX2_copyFrom_14 : decode cX2_copyFrom 14 = .ok (.aload_n 1, 1) := by decide +kernel
theorem dX2_copyFrom_15 : decode cX2_copyFrom 15 = .ok (.getfield 15, 3) := by decide +kernel
theorem dX2_copyFrom_18 : decode cX2_copyFrom 18 = .ok (.iconst 0, 1) := by decide +kernel
theorem dX2_copyFrom_19 : decode cX2_copyFrom 19 = .ok (.aload_n 0, 1) := by decide +kernel
theorem dX2_copyFrom_20 : decode cX2_copyFrom 20 = .ok (.getfield 15, 3) := by decide +kernel
theorem dX2_copyFrom_23 : decode cX2_copyFrom 23 = .ok (.iconst 0, 1) := by decide +kernel
theorem dX2_copyFrom_24 : decode cX2_copyFrom 24 = .ok (.iconst 4, 1) := by decide +kernel
theorem dX2_copyFrom_25 : decode cX2_copyFrom 25 = .ok (.invokestatic 47, 3) := by decide +kernel
theorem dX2_copyFrom_28 : decode cX2_copyFrom 28 = .ok (.aload_n 1, 1) := by decide +kernel
theorem dX2_copyFrom_29 : decode cX2_copyFrom 29 = .ok (.getfield 18, 3) := by decide +kernel
theorem dX2_copyFrom_32 : decode cX2_copyFrom 32 = .ok (.iconst 0, 1) := by decide +kernel
theorem dX2_copyFrom_33 : decode cX2_copyFrom 33 = .ok (.aload_n 0, 1) := by decide +kernel
theorem dX2_copyFrom_34 : decode cX2_copyFrom 34 = .ok (.getfield 18, 3) := by decide +kernel
theorem dX2_copyFrom_37 : decode cX2_copyFrom 37 = .ok (.iconst 0, 1) := by decide +kernel
theorem dX2_copyFrom_38 : decode cX2_copyFrom 38 = .ok (.iconst 4, 1) := by decide +kernel
theorem dX2_copyFrom_39 : decode cX2_copyFrom 39 = .ok (.invokestatic 47, 3) := by decide +kernel
theorem dX2_copyFrom_42 : decode cX2_copyFrom 42 = .ok (.aload_n 0, 1) := by decide +kernel
theorem dX2_copyFrom_43 : decode cX2_copyFrom 43 = .ok (.aload_n 1, 1) := by decide +kernel
theorem dX2_copyFrom_44 : decode cX2_copyFrom 44 = .ok (.getfield 21, 3) := by decide +kernel
theorem dX2_copyFrom_47 : decode cX2_copyFrom 47 = .ok (.putfield 21, 3) := by decide +kernel
theorem dX2_copyFrom_50 : decode cX2_copyFrom 50 = .ok (.aload_n 0, 1) := by decide +kernel
theorem dX2_copyFrom_51 : decode cX2_copyFrom 51 = .ok (.aload_n 1, 1) := by decide +kernel
theorem dX2_copyFrom_52 : decode cX2_copyFrom 52 = .ok (.getfield 53, 3) := by decide +kernel
theorem dX2_copyFrom_55 : decode cX2_copyFrom 55 = .ok (.putfield 53, 3) := by decide +kernel
theorem dX2_copyFrom_58 : decode cX2_copyFrom 58 = .ok (.aload_n 0, 1) := by decide +kernel
theorem dX2_copyFrom_59 : decode cX2_copyFrom 59 = .ok (.aload_n 1, 1) := by decide +kernel
theorem dX2_copyFrom_60 : decode cX2_copyFrom 60 = .ok (.getfield 56, 3) := by decide +kernel
theorem dX2_copyFrom_63 : decode cX2_copyFrom 63 = .ok (.putfield 56, 3) := by decide +kernel
theorem dX2_copyFrom_66 : decode cX2_copyFrom 66 = .ok (.aload_n 0, 1) := by decide +kernel
theorem dX2_copyFrom_67 : decode cX2_copyFrom 67 = .ok (.aload_n 1, 1) := by decide +kernel
theorem dX2_copyFrom_68 : decode cX2_copyFrom 68 = .ok (.getfield 59, 3) := by decide +kernel
theorem dX2_copyFrom_71 : decode cX2_copyFrom 71 = .ok (.putfield 59, 3) := by decide +kernel
theorem dX2_copyFrom_74 : decode cX2_copyFrom 74 = .ok (.aload_n 0, 1) := by decide +kernel
theorem dX2_copyFrom_75 : decode cX2_copyFrom 75 = .ok (.aload_n 1, 1) := by decide +kernel
theorem dX2_copyFrom_76 : decode cX2_copyFrom 76 = .ok (.getfield 62, 3) := by decide +kernel
theorem dX2_copyFrom_79 : decode cX2_copyFrom 79 = .ok (.putfield 62, 3) := by decide +kernel
theorem dX2_copyFrom_82 : decode cX2_copyFrom 82 = .ok (.aload_n 0, 1) := by decide +kernel
theorem dX2_copyFrom_83 : decode cX2_copyFrom 83 = .ok (.aload_n 1, 1) := by decide +kernel
theorem dX2_copyFrom_84 : decode cX2_copyFrom 84 = .ok (.getfield 65, 3) := by decide +kernel
theorem dX2_copyFrom_87 : decode cX2_copyFrom 87 = .ok (.putfield 65, 3) := by decide +kernel
theorem dX2_copyFrom_90 : decode cX2_copyFrom 90 = .ok (.aload_n 0, 1) := by decide +kernel
theorem dX2_copyFrom_91 : decode cX2_copyFrom 91 = .ok (.aload_n 1, 1) := by decide +kernel
theorem dX2_copyFrom_92 : decode cX2_copyFrom 92 = .ok (.getfield 68, 3) := by decide +kernel
theorem dX2_copyFrom_95 : decode cX2_copyFrom 95 = .ok (.putfield 68, 3) := by decide +kernel
theorem dX2_copyFrom_98 : decode cX2_copyFrom 98 = .ok (.aload_n 0, 1) := by decide +kernel
theorem dX2_copyFrom_99 : decode cX2_copyFrom 99 = .ok (.aload_n 1, 1) := by decide +kernel
theorem dX2_copyFrom_100 : decode cX2_copyFrom 100 = .ok (.getfield 25, 3) := by decide +kernel
theorem dX2_copyFrom_103 : decode cX2_copyFrom 103 = .ok (.putfield 25, 3) := by decide +kernel
theorem dX2_copyFrom_106 : decode cX2_copyFrom 106 = .ok (.aload_n 0, 1) := by decide +kernel
theorem dX2_copyFrom_107 : decode cX2_copyFrom 107 = .ok (.aload_n 1, 1) := by decide +kernel
theorem dX2_copyFrom_108 : decode cX2_copyFrom 108 = .ok (.getfield 28, 3) := by decide +kernel
theorem dX2_copyFrom_111 : decode cX2_copyFrom 111 = .ok (.putfield 28, 3) := by decide +kernel
theorem dX2_copyFrom_114 : decode cX2_copyFrom 114 = .ok (.aload_n 0, 1) := by decide +kernel
theorem dX2_copyFrom_115 : decode cX2_copyFrom 115 = .ok (.aload_n 1, 1) := by decide +kernel
theorem dX2_copyFrom_116 : decode cX2_copyFrom 116 = .ok (.getfield 31, 3) := by decide +kernel
theorem dX2_copyFrom_119 : decode cX2_copyFrom 119 = .ok (.putfield 31, 3) := by decide +kernel
theorem dX2_copyFrom_122 : decode cX2_copyFrom 122 = .ok (.aload_n 0, 1) := by decide +kernel
theorem dX2_copyFrom_123 : decode cX2_copyFrom 123 = .ok (.aload_n 1, 1) := by decide +kernel
theorem dX2_copyFrom_124 : decode cX2_copyFrom 124 = .ok (.getfield 35, 3) := by decide +kernel
theorem dX2_copyFrom_127 : decode cX2_copyFrom 127 = .ok (.putfield 35, 3) := by decide +kernel
theorem dX2_copyFrom_130 : decode cX2_copyFrom 130 = .ok (.aload_n 0, 1) := by decide +kernel
theorem dX2_copyFrom_131 : decode cX2_copyFrom 131 = .ok (.aload_n 1, 1) := by decide +kernel
theorem dX2_copyFrom_132 : decode cX2_copyFrom 132 = .ok (.getfield 38, 3) := by decide +kernel
theorem dX2_copyFrom_135 : decode cX2_copyFrom 135 = .ok (.putfield 38, 3) := by decide +kernel
theorem dX2_copyFrom_138 : decode cX2_copyFrom 138 = .ok (.aload_n 0, 1) := by decide +kernel
theorem dX2_copyFrom_139 : decode cX2_copyFrom 139 = .ok (.aload_n 1, 1) := by decide +kernel
theorem dX2_copyFrom_140 : decode cX2_copyFrom 140 = .ok (.getfield 41, 3) := by decide +kernel
theorem dX2_copyFrom_143 : decode cX2_copyFrom 143 = .ok (.putfield 41, 3) := by decide +kernel
theorem dX2_copyFrom_146 : decode cX2_copyFrom 146 = .ok (.aload_n 0, 1) := by decide +kernel
theorem dX2_copyFrom_147 : decode cX2_copyFrom 147 = .ok (.aload_n 1, 1) := by decide +kernel
theorem dX2_copyFrom_148 : decode cX2_copyFrom 148 = .ok (.getfield 44, 3) := by decide +kernel
theorem dX2_copyFrom_151 : decode cX2_copyFrom 151 = .ok (.putfield 44, 3) := by decide +kernel
theorem dX2_copyFrom_154 : decode cX2_copyFrom 154 = .ok (.return_, 1) := by decide +kernel
theorem dX2_detail_0 : decode cX2_detail 0 = .ok (.aload_n 0, 1) := by decide +kernel
theorem dX2_detail_1 : decode cX2_detail 1 = .ok (.getfield 53, 3) := by decide +kernel
theorem dX2_detail_4 : decode cX2_detail 4 = .ok (.tableswitch 46 1 3 #[28, 41, 28], 28) := by decide +kernel
theorem dX2_detail_32 : decode cX2_detail 32 = .ok (.aload_n 0, 1) := by decide +kernel
theorem dX2_detail_33 : decode cX2_detail 33 = .ok (.getfield 31, 3) := by decide +kernel
theorem dX2_detail_36 : decode cX2_detail 36 = .ok (.ifCond .eq 7, 3) := by decide +kernel
theorem dX2_detail_39 : decode cX2_detail 39 = .ok (.iconst 1, 1) := by decide +kernel
theorem dX2_detail_40 : decode cX2_detail 40 = .ok (.goto 4, 3) := by decide +kernel
theorem dX2_detail_43 : decode cX2_detail 43 = .ok (.iconst 0, 1) := by decide +kernel
theorem dX2_detail_44 : decode cX2_detail 44 = .ok (.ireturn, 1) := by decide +kernel
theorem dX2_detail_45 : decode cX2_detail 45 = .ok (.aload_n 0, 1) := by decide +kernel
theorem dX2_detail_46 : decode cX2_detail 46 = .ok (.getfield 21, 3) := by decide +kernel
theorem dX2_detail_49 : decode cX2_detail 49 = .ok (.ireturn, 1) := by decide +kernel
theorem dX2_detail_50 : decode cX2_detail 50 = .ok (.aload_n 0, 1) := by decide +kernel
theorem dX2_detail_51 : decode cX2_detail 51 = .ok (.getfield 28, 3) := by decide +kernel
theorem dX2_detail_54 : decode cX2_detail 54 = .ok (.ireturn, 1) := by decide +kernel
theorem dX3_init_0 : decode cX3_init 0 = .ok (.aload_n 0, 1) := by decide +kernel
theorem dX3_init_1 : decode cX3_init 1 = .ok (.invokespecial 3, 3) := by decide +kernel
theorem dX3_init_4 : decode cX3_init 4 = .ok (.aload_n 0, 1) := by decide +kernel
theorem dX3_init_5 : decode cX3_init 5 = .ok (.bipush 40, 2) := by decide +kernel
theorem dX3_init_7 : decode cX3_init 7 = .ok (.anewarray 9, 3) := by decide +kernel
theorem dX3_init_10 : decode cX3_init 10 = .ok (.putfield 11, 3) := by decide +kernel
theorem dX3_init_13 : decode cX3_init 13 = .ok (.iconst 0, 1) := by decide +kernel
theorem dX3_init_14 : decode cX3_init 14 = .ok (.istore_n 1, 1) := by decide +kernel
theorem dX3_init_15 : decode cX3_init 15 = .ok (.iload_n 1, 1) := by decide +kernel
theorem dX3_init_16 : decode cX3_init 16 = .ok (.bipush 40, 2) := by decide +kernel
theorem dX3_init_18 : decode cX3_init 18 = .ok (.if_icmp .ge 22, 3) := by decide +kernel
theorem dX3_init_21 : decode cX3_init 21 = .ok (.aload_n 0, 1) := by decide +kernel
theorem dX3_init_22 : decode cX3_init 22 = .ok (.getfield 11, 3) := by decide +kernel
theorem dX3_init_25 : decode cX3_init 25 = .ok (.iload_n 1, 1) := by decide +kernel
theorem dX3_init_26 : decode cX3_init 26 = .ok (.new 9, 3) := by decide +kernel
theorem dX3_init_29 : decode cX3_init 29 = .ok (.dup, 1) := by decide +kernel
theorem dX3_init_30 : decode cX3_init 30 = .ok (.invokespecial 17, 3) := by decide +kernel
theorem dX3_init_33 : decode cX3_init 33 = .ok (.aastore, 1) := by decide +kernel
theorem dX3_init_34 : decode cX3_init 34 = .ok (.iinc 1 1, 3) := by decide +kernel
theorem dX3_init_37 : decode cX3_init 37 = .ok (.goto (-22), 3) := by decide +kernel
theorem dX3_init_40 : decode cX3_init 40 = .ok (.aload_n 0, 1) := by decide +kernel
theorem dX3_init_41 : decode cX3_init 41 = .ok (.new 9, 3) := by decide +kernel
theorem dX3_init_44 : decode cX3_init 44 = .ok (.dup, 1) := by decide +kernel
theorem dX3_init_45 : decode cX3_init 45 = .ok (.invokespecial 17, 3) := by decide +kernel
theorem dX3_init_48 : decode cX3_init 48 = .ok (.putfield 18, 3) := by decide +kernel
theorem dX3_init_51 : decode cX3_init 51 = .ok (.aload_n 0, 1) := by decide +kernel
theorem dX3_init_52 : decode cX3_init 52 = .ok (.new 9, 3) := by decide +kernel
theorem dX3_init_55 : decode cX3_init 55 = .ok (.dup, 1) := by decide +kernel
theorem dX3_init_56 : decode cX3_init 56 = .ok (.invokespecial 17, 3) := by decide +kernel
theorem dX3_init_59 : decode cX3_init 59 = .ok (.putfield 22, 3) := by decide +kernel
theorem dX3_init_62 : decode cX3_init 62 = .ok (.return_, 1) := by decide +kernel
theorem dX3_clear_0 : decode cX3_clear 0 = .ok (.aload_n 0, 1) := by decide +kernel
theorem dX3_clear_1 : decode cX3_clear 1 = .ok (.iconst 0, 1) := by decide +kernel
theorem dX3_clear_2 : decode cX3_clear 2 = .ok (.putfield 25, 3) := by decide +kernel
theorem dX3_clear_5 : decode cX3_clear 5 = .ok (.aload_n 0, 1) := by decide +kernel
theorem dX3_clear_6 : decode cX3_clear 6 = .ok (.iconst 0, 1) := by decide +kernel
theorem dX3_clear_7 : decode cX3_clear 7 = .ok (.putfield 29, 3) := by decide +kernel
theorem dX3_clear_10 : decode cX3_clear 10 = .ok (.aload_n 0, 1) := by decide +kernel
theorem dX3_clear_11 : decode cX3_clear 11 = .ok (.iconst 1, 1) := by decide +kernel
theorem dX3_clear_12 : decode cX3_clear 12 = .ok (.putfield 32, 3) := by decide +kernel
theorem dX3_clear_15 : decode cX3_clear 15 = .ok (.aload_n 0, 1) := by decide +kernel
theorem dX3_clear_16 : decode cX3_clear 16 = .ok (.iconst 0, 1) := by decide +kernel
theorem dX3_clear_17 : decode cX3_clear 17 = .ok (.putfield 35, 3) := by decide +kernel
theorem dX3_clear_20 : decode cX3_clear 20 = .ok (.aload_n 0, 1) := by decide +kernel
theorem dX3_clear_21 : decode cX3_clear 21 = .ok (.iconst 0, 1) := by decide +kernel
theorem dX3_clear_22 : decode cX3_clear 22 = .ok (.putfield 38, 3) := by decide +kernel
theorem dX3_clear_25 : decode cX3_clear 25 = .ok (.return_, 1) := by decide +kernel
theorem dX3_copyFrom_0 : decode cX3_copyFrom 0 = .ok (.aload_n 0, 1) := by decide +kernel
theorem dX3_copyFrom_1 : decode cX3_copyFrom 1 = .ok (.aload_n 1, 1) := by decide +kernel
theorem dX3_copyFrom_2 : decode cX3_copyFrom 2 = .ok (.getfield 25, 3) := by decide +kernel
theorem dX3_copyFrom_5 : decode cX3_copyFrom 5 = .ok (.putfield 25, 3) := by decide +kernel
theorem dX3_copyFrom_8 : decode cX3_copyFrom 8 = .ok (.aload_n 0, 1) := by decide +kernel
theorem dX3_copyFrom_9 : decode cX3_copyFrom 9 = .ok (.aload_n 1, 1) := by decide +kernel
theorem dX3_copyFrom_10 : decode cX3_copyFrom 10 = .ok (.getfield 29, 3) := by decide +kernel
theorem dX3_copyFrom_13 : decode cX3_copyFrom 13 = .ok (.putfield 29, 3) := by decide +kernel
theorem dX3_copyFrom_16 : decode cX3_copyFrom 16 = .ok (.aload_n 0, 1) := by decide +kernel
theorem dX3_copyFrom_17 : decode cX3_copyFrom 17 = .ok (.aload_n 1, 1) := by decide +kernel
theorem dX3_copyFrom_18 : decode cX3_copyFrom 18 = .ok (.getfield 32, 3) := by decide +kernel
theorem dX3_copyFrom_21 : decode cX3_copyFrom 21 = .ok (.putfield 32, 3) := by decide +kernel
theorem dX3_copyFrom_24 : decode cX3_copyFrom 24 = .ok (.aload_n 0, 1) := by decide +kernel
theorem dX3_copyFrom_25 : decode cX3_copyFrom 25 = .ok (.aload_n 1, 1) := by decide +kernel
theorem dX3_copyFrom_26 : decode cX3_copyFrom 26 = .ok (.getfield 35, 3) := by decide +kernel
theorem dX3_copyFrom_29 : decode cX3_copyFrom 29 = .ok (.putfield 35, 3) := by decide +kernel
theorem dX3_copyFrom_32 : decode cX3_copyFrom 32 = .ok (.aload_n 0, 1) := by decide +kernel
theorem dX3_copyFrom_33 : decode cX3_copyFrom 33 = .ok (.aload_n 1, 1) := by decide +kernel
theorem dX3_copyFrom_34 : decode cX3_copyFrom 34 = .ok (.getfield 38, 3) := by decide +kernel
theorem dX3_copyFrom_37 : decode cX3_copyFrom 37 = .ok (.putfield 38, 3) := by decide +kernel
theorem dX3_copyFrom_40 : decode cX3_copyFrom 40 = .ok (.iconst 0, 1) := by decide +kernel
theorem dX3_copyFrom_41 : decode cX3_copyFrom 41 = .ok (.istore_n 2, 1) := by decide +kernel
theorem dX3_copyFrom_42 : decode cX3_copyFrom 42 = .ok (.iload_n 2, 1) := by decide +kernel
theorem dX3_copyFrom_43 : decode cX3_copyFrom 43 = .ok (.aload_n 0, 1) := by decide +kernel
theorem dX3_copyFrom_44 : decode cX3_copyFrom 44 = .ok (.getfield 25, 3) := by decide +kernel
theorem dX3_copyFrom_47 : decode cX3_copyFrom 47 = .ok (.if_icmp .ge 30, 3) := by decide +kernel
theorem dX3_copyFrom_50 : decode cX3_copyFrom 50 = .ok (.iload_n 2, 1) := by decide +kernel
theorem dX3_copyFrom_51 : decode cX3_copyFrom 51 = .ok (.bipush 40, 2) := by decide +kernel
theorem dX3_copyFrom_53 : decode cX3_copyFrom 53 = .ok (.if_icmp .ge 24, 3) := by decide +kernel
theorem dX3_copyFrom_56 : decode cX3_copyFrom 56 = .ok (.aload_n 0, 1) := by decide +kernel
theorem dX3_copyFrom_57 : decode cX3_copyFrom 57 = .ok (.getfield 11, 3) := by decide +kernel
theorem dX3_copyFrom_60 : decode cX3_copyFrom 60 = .ok (.iload_n 2, 1) := by decide +kernel
theorem dX3_copyFrom_61 : decode cX3_copyFrom 61 = .ok (.aaload, 1) := by decide +kernel
theorem dX3_copyFrom_62 : decode cX3_copyFrom 62 = .ok (.aload_n 1, 1) := by decide +kernel
theorem dX3_copyFrom_63 : decode cX3_copyFrom 63 = .ok (.getfield 11, 3) := by decide +kernel
theorem dX3_copyFrom_66 : decode cX3_copyFrom 66 = .ok (.iload_n 2, 1) := by decide +kernel
theorem dX3_copyFrom_67 : decode cX3_copyFrom 67 = .ok (.aaload, 1) := by decide +kernel
theorem dX3_copyFrom_68 : decode cX3_copyFrom 68 = .ok (.invokevirtual 41, 3) := by decide +kernel
theorem dX3_copyFrom_71 : decode cX3_copyFrom 71 = .ok (.iinc 2 1, 3) := by decide +kernel
theorem dX3_copyFrom_74 : decode cX3_copyFrom 74 = .ok (.goto (-32), 3) := by decide +kernel
theorem dX3_copyFrom_77 : decode cX3_copyFrom 77 = .ok (.return_, 1) := by decide +kernel
theorem dX3_has_0 : decode cX3_has 0 = .ok (.iload_n 1, 1) := by decide +kernel
theorem dX3_has_1 : decode cX3_has 1 = .ok (.ifCond .lt 21, 3) := by decide +kernel
theorem dX3_has_4 : decode cX3_has 4 = .ok (.iload_n 1, 1) := by decide +kernel
theorem dX3_has_5 : decode cX3_has 5 = .ok (.aload_n 0, 1) := by decide +kernel
theorem dX3_has_6 : decode cX3_has 6 = .ok (.getfield 25, 3) := by decide +kernel
theorem dX3_has_9 : decode cX3_has 9 = .ok (.if_icmp .ge 13, 3) := by decide +kernel
theorem dX3_has_12 : decode cX3_has 12 = .ok (.iload_n 1, 1) := by decide +kernel
theorem dX3_has_13 : decode cX3_has 13 = .ok (.bipush 40, 2) := by decide +kernel
theorem dX3_has_15 : decode cX3_has 15 = .ok (.if_icmp .ge 7, 3) := by decide +kernel
theorem dX3_has_18 : decode cX3_has 18 = .ok (.iconst 1, 1) := by decide +kernel
theorem dX3_has_19 : decode cX3_has 19 = .ok (.goto 4, 3) := by decide +kernel
theorem dX3_has_22 : decode cX3_has 22 = .ok (.iconst 0, 1) := by decide +kernel
theorem dX3_has_23 : decode cX3_has 23 = .ok (.ireturn, 1) := by decide +kernel
theorem dX3_isDue_0 : decode cX3_isDue 0 = .ok (.iload_n 1, 1) := by decide +kernel
theorem dX3_isDue_1 : decode cX3_isDue 1 = .ok (.ifCond .lt 34, 3) := by decide +kernel
theorem dX3_isDue_4 : decode cX3_isDue 4 = .ok (.iload_n 1, 1) := by decide +kernel
theorem dX3_isDue_5 : decode cX3_isDue 5 = .ok (.aload_n 0, 1) := by decide +kernel
theorem dX3_isDue_6 : decode cX3_isDue 6 = .ok (.getfield 25, 3) := by decide +kernel
theorem dX3_isDue_9 : decode cX3_isDue 9 = .ok (.if_icmp .ge 26, 3) := by decide +kernel
theorem dX3_isDue_12 : decode cX3_isDue 12 = .ok (.iload_n 1, 1) := by decide +kernel
theorem dX3_isDue_13 : decode cX3_isDue 13 = .ok (.bipush 40, 2) := by decide +kernel
theorem dX3_isDue_15 : decode cX3_isDue 15 = .ok (.if_icmp .ge 20, 3) := by decide +kernel
theorem dX3_isDue_18 : decode cX3_isDue 18 = .ok (.aload_n 0, 1) := by decide +kernel
theorem dX3_isDue_19 : decode cX3_isDue 19 = .ok (.getfield 11, 3) := by decide +kernel
theorem dX3_isDue_22 : decode cX3_isDue 22 = .ok (.iload_n 1, 1) := by decide +kernel
theorem dX3_isDue_23 : decode cX3_isDue 23 = .ok (.aaload, 1) := by decide +kernel
theorem dX3_isDue_24 : decode cX3_isDue 24 = .ok (.getfield 45, 3) := by decide +kernel
theorem dX3_isDue_27 : decode cX3_isDue 27 = .ok (.iload_n 2, 1) := by decide +kernel
theorem dX3_isDue_28 : decode cX3_isDue 28 = .ok (.if_icmp .gt 7, 3) := by decide +kernel
theorem dX3_isDue_31 : decode cX3_isDue 31 = .ok (.iconst 1, 1) := by decide +kernel
theorem dX3_isDue_32 : decode cX3_isDue 32 = .ok (.goto 4, 3) := by decide +kernel
theorem dX3_isDue_35 : decode cX3_isDue 35 = .ok (.iconst 0, 1) := by decide +kernel
theorem dX3_isDue_36 : decode cX3_isDue 36 = .ok (.ireturn, 1) := by decide +kernel
theorem dX3_isCut_0 : decode cX3_isCut 0 = .ok (.aload_n 0, 1) := by decide +kernel
theorem dX3_isCut_1 : decode cX3_isCut 1 = .ok (.getfield 29, 3) := by decide +kernel
theorem dX3_isCut_4 : decode cX3_isCut 4 = .ok (.iload_n 1, 1) := by decide +kernel
theorem dX3_isCut_5 : decode cX3_isCut 5 = .ok (.iconst 5, 1) := by decide +kernel
theorem dX3_isCut_6 : decode cX3_isCut 6 = .ok (.imul, 1) := by decide +kernel
theorem dX3_isCut_7 : decode cX3_isCut 7 = .ok (.iload_n 2, 1) := by decide +kernel
theorem dX3_isCut_8 : decode cX3_isCut 8 = .ok (.iadd, 1) := by decide +kernel
theorem dX3_isCut_9 : decode cX3_isCut 9 = .ok (.ishr, 1) := by decide +kernel
theorem dX3_isCut_10 : decode cX3_isCut 10 = .ok (.iconst 1, 1) := by decide +kernel
theorem dX3_isCut_11 : decode cX3_isCut 11 = .ok (.iand, 1) := by decide +kernel
theorem dX3_isCut_12 : decode cX3_isCut 12 = .ok (.iconst 1, 1) := by decide +kernel
theorem dX3_isCut_13 : decode cX3_isCut 13 = .ok (.if_icmp .ne 7, 3) := by decide +kernel
theorem dX3_isCut_16 : decode cX3_isCut 16 = .ok (.iconst 1, 1) := by decide +kernel
theorem dX3_isCut_17 : decode cX3_isCut 17 = .ok (.goto 4, 3) := by decide +kernel
theorem dX3_isCut_20 : decode cX3_isCut 20 = .ok (.iconst 0, 1) := by decide +kernel
theorem dX3_isCut_21 : decode cX3_isCut 21 = .ok (.ireturn, 1) := by decide +kernel
theorem dX3_setCut_0 : decode cX3_setCut 0 = .ok (.iconst 1, 1) := by decide +kernel
theorem dX3_setCut_1 : decode cX3_setCut 1 = .ok (.iload_n 1, 1) := by decide +kernel
theorem dX3_setCut_2 : decode cX3_setCut 2 = .ok (.iconst 5, 1) := by decide +kernel
theorem dX3_setCut_3 : decode cX3_setCut 3 = .ok (.imul, 1) := by decide +kernel
theorem dX3_setCut_4 : decode cX3_setCut 4 = .ok (.iload_n 2, 1) := by decide +kernel
theorem dX3_setCut_5 : decode cX3_setCut 5 = .ok (.iadd, 1) := by decide +kernel
theorem dX3_setCut_6 : decode cX3_setCut 6 = .ok (.ishl, 1) := by decide +kernel
theorem dX3_setCut_7 : decode cX3_setCut 7 = .ok (.iconst 1, 1) := by decide +kernel
theorem dX3_setCut_8 : decode cX3_setCut 8 = .ok (.iload_n 2, 1) := by decide +kernel
theorem dX3_setCut_9 : decode cX3_setCut 9 = .ok (.iconst 5, 1) := by decide +kernel
theorem dX3_setCut_10 : decode cX3_setCut 10 = .ok (.imul, 1) := by decide +kernel
theorem dX3_setCut_11 : decode cX3_setCut 11 = .ok (.iload_n 1, 1) := by decide +kernel
theorem dX3_setCut_12 : decode cX3_setCut 12 = .ok (.iadd, 1) := by decide +kernel
theorem dX3_setCut_13 : decode cX3_setCut 13 = .ok (.ishl, 1) := by decide +kernel
theorem dX3_setCut_14 : decode cX3_setCut 14 = .ok (.ior, 1) := by decide +kernel
theorem dX3_setCut_15 : decode cX3_setCut 15 = .ok (.istore 4, 2) := by decide +kernel
theorem dX3_setCut_17 : decode cX3_setCut 17 = .ok (.aload_n 0, 1) := by decide +kernel
theorem dX3_setCut_18 : decode cX3_setCut 18 = .ok (.iload_n 3, 1) := by decide +kernel
theorem dX3_setCut_19 : decode cX3_setCut 19 = .ok (.ifCond .eq 13, 3) := by decide +kernel
theorem dX3_setCut_22 : decode cX3_setCut 22 = .ok (.aload_n 0, 1) := by decide +kernel
theorem dX3_setCut_23 : decode cX3_setCut 23 = .ok (.getfield 29, 3) := by decide +kernel
theorem dX3_setCut_26 : decode cX3_setCut 26 = .ok (.iload 4, 2) := by decide +kernel
theorem dX3_setCut_28 : decode cX3_setCut 28 = .ok (.ior, 1) := by decide +kernel
theorem dX3_setCut_29 : decode cX3_setCut 29 = .ok (.goto 12, 3) := by decide +kernel
theorem dX3_setCut_32 : decode cX3_setCut 32 = .ok (.aload_n 0, 1) := by decide +kernel
theorem dX3_setCut_33 : decode cX3_setCut 33 = .ok (.getfield 29, 3) := by decide +kernel
theorem dX3_setCut_36 : decode cX3_setCut 36 = .ok (.iload 4, 2) := by decide +kernel
theorem dX3_setCut_38 : decode cX3_setCut 38 = .ok (.iconst (-1), 1) := by decide +kernel
theorem dX3_setCut_39 : decode cX3_setCut 39 = .ok (.ixor, 1) := by decide +kernel
theorem dX3_setCut_40 : decode cX3_setCut 40 = .ok (.iand, 1) := by decide +kernel
theorem dX3_setCut_41 : decode cX3_setCut 41 = .ok (.putfield 29, 3) := by decide +kernel
theorem dX3_setCut_44 : decode cX3_setCut 44 = .ok (.return_, 1) := by decide +kernel
theorem dX3_post_0 : decode cX3_post 0 = .ok (.aload_n 0, 1) := by decide +kernel
theorem dX3_post_1 : decode cX3_post 1 = .ok (.dup, 1) := by decide +kernel
theorem dX3_post_2 : decode cX3_post 2 = .ok (.getfield 35, 3) := by decide +kernel
theorem dX3_post_5 : decode cX3_post 5 = .ok (.iconst 1, 1) := by decide +kernel
theorem dX3_post_6 : decode cX3_post 6 = .ok (.iadd, 1) := by decide +kernel
theorem dX3_post_7 : decode cX3_post 7 = .ok (.putfield 35, 3) := by decide +kernel
theorem dX3_post_10 : decode cX3_post 10 = .ok (.aload_n 0, 1) := by decide +kernel
theorem dX3_post_11 : decode cX3_post 11 = .ok (.getfield 25, 3) := by decide +kernel
theorem dX3_post_14 : decode cX3_post 14 = .ok (.ifCond .lt 33, 3) := by decide +kernel
theorem dX3_post_17 : decode cX3_post 17 = .ok (.aload_n 0, 1) := by decide +kernel
theorem dX3_post_18 : decode cX3_post 18 = .ok (.getfield 25, 3) := by decide +kernel
theorem dX3_post_21 : decode cX3_post 21 = .ok (.bipush 40, 2) := by decide +kernel
theorem dX3_post_23 : decode cX3_post 23 = .ok (.if_icmp .ge 24, 3) := by decide +kernel
theorem dX3_post_26 : decode cX3_post 26 = .ok (.aload_n 0, 1) := by decide +kernel
theorem dX3_post_27 : decode cX3_post 27 = .ok (.aload_n 0, 1) := by decide +kernel
theorem dX3_post_28 : decode cX3_post 28 = .ok (.getfield 18, 3) := by decide +kernel
theorem dX3_post_31 : decode cX3_post 31 = .ok (.getfield 48, 3) := by decide +kernel
theorem dX3_post_34 : decode cX3_post 34 = .ok (.aload_n 0, 1) := by decide +kernel
theorem dX3_post_35 : decode cX3_post 35 = .ok (.getfield 18, 3) := by decide +kernel
theorem dX3_post_38 : decode cX3_post 38 = .ok (.getfield 51, 3) := by decide +kernel
theorem dX3_post_41 : decode cX3_post 41 = .ok (.invokevirtual 54, 3) := by decide +kernel
theorem dX3_post_44 : decode cX3_post 44 = .ok (.ifCond .eq 14, 3) := by decide +kernel
theorem dX3_post_47 : decode cX3_post 47 = .ok (.aload_n 0, 1) := by decide +kernel
theorem dX3_post_48 : decode cX3_post 48 = .ok (.dup, 1) := by decide +kernel
theorem dX3_post_49 : decode cX3_post 49 = .ok (.getfield 38, 3) := by decide +kernel
theorem dX3_post_52 : decode cX3_post 52 = .ok (.iconst 1, 1) := by decide +kernel
theorem dX3_post_53 : decode cX3_post 53 = .ok (.iadd, 1) := by decide +kernel
theorem dX3_post_54 : decode cX3_post 54 = .ok (.putfield 38, 3) := by decide +kernel
theorem dX3_post_57 : decode cX3_post 57 = .ok (.return_, 1) := by decide +kernel
theorem dX3_post_58 : decode cX3_post 58 = .ok (.aload_n 0, 1) := by decide +kernel
theorem dX3_post_59 : decode cX3_post 59 = .ok (.getfield 11, 3) := by decide +kernel
theorem dX3_post_62 : decode cX3_post 62 = .ok (.aload_n 0, 1) := by decide +kernel
theorem dX3_post_63 : decode cX3_post 63 = .ok (.getfield 25, 3) := by decide +kernel
theorem dX3_post_66 : decode cX3_post 66 = .ok (.aaload, 1) := by decide +kernel
theorem dX3_post_67 : decode cX3_post 67 = .ok (.astore_n 1, 1) := by decide +kernel
theorem dX3_post_68 : decode cX3_post 68 = .ok (.aload_n 0, 1) := by decide +kernel
theorem dX3_post_69 : decode cX3_post 69 = .ok (.getfield 11, 3) := by decide +kernel
theorem dX3_post_72 : decode cX3_post 72 = .ok (.aload_n 0, 1) := by decide +kernel
theorem dX3_post_73 : decode cX3_post 73 = .ok (.getfield 25, 3) := by decide +kernel
theorem dX3_post_76 : decode cX3_post 76 = .ok (.aload_n 0, 1) := by decide +kernel
theorem dX3_post_77 : decode cX3_post 77 = .ok (.getfield 18, 3) := by decide +kernel
theorem dX3_post_80 : decode cX3_post 80 = .ok (.aastore, 1) := by decide +kernel
theorem dX3_post_81 : decode cX3_post 81 = .ok (.aload_n 0, 1) := by decide +kernel
theorem dX3_post_82 : decode cX3_post 82 = .ok (.aload_n 1, 1) := by decide +kernel
theorem dX3_post_83 : decode cX3_post 83 = .ok (.putfield 18, 3) := by decide +kernel
theorem dX3_post_86 : decode cX3_post 86 = .ok (.aload_n 0, 1) := by decide +kernel
theorem dX3_post_87 : decode cX3_post 87 = .ok (.dup, 1) := by decide +kernel
theorem dX3_post_88 : decode cX3_post 88 = .ok (.getfield 25, 3) := by decide +kernel
theorem dX3_post_91 : decode cX3_post 91 = .ok (.iconst 1, 1) := by decide +kernel
theorem dX3_post_92 : decode cX3_post 92 = .ok (.iadd, 1) := by decide +kernel
theorem dX3_post_93 : decode cX3_post 93 = .ok (.putfield 25, 3) := by decide +kernel
theorem dX3_post_96 : decode cX3_post 96 = .ok (.return_, 1) := by decide +kernel
theorem dX3_remove_0 : decode cX3_remove 0 = .ok (.iload_n 1, 1) := by decide +kernel
theorem dX3_remove_1 : decode cX3_remove 1 = .ok (.ifCond .lt 20, 3) := by decide +kernel
theorem dX3_remove_4 : decode cX3_remove 4 = .ok (.iload_n 1, 1) := by decide +kernel
theorem dX3_remove_5 : decode cX3_remove 5 = .ok (.aload_n 0, 1) := by decide +kernel
theorem dX3_remove_6 : decode cX3_remove 6 = .ok (.getfield 25, 3) := by decide +kernel
theorem dX3_remove_9 : decode cX3_remove 9 = .ok (.if_icmp .ge 12, 3) := by decide +kernel
theorem dX3_remove_12 : decode cX3_remove 12 = .ok (.aload_n 0, 1) := by decide +kernel
theorem dX3_remove_13 : decode cX3_remove 13 = .ok (.getfield 25, 3) := by decide +kernel
theorem dX3_remove_16 : decode cX3_remove 16 = .ok (.bipush 40, 2) := by decide +kernel
theorem dX3_remove_18 : decode cX3_remove 18 = .ok (.if_icmp .le 4, 3) := by decide +kernel
theorem dX3_remove_21 : decode cX3_remove 21 = .ok (.return_, 1) := by decide +kernel
theorem dX3_remove_22 : decode cX3_remove 22 = .ok (.aload_n 0, 1) := by decide +kernel
theorem dX3_remove_23 : decode cX3_remove 23 = .ok (.getfield 11, 3) := by decide +kernel
theorem dX3_remove_26 : decode cX3_remove 26 = .ok (.iload_n 1, 1) := by decide +kernel
theorem dX3_remove_27 : decode cX3_remove 27 = .ok (.aaload, 1) := by decide +kernel
theorem dX3_remove_28 : decode cX3_remove 28 = .ok (.astore_n 2, 1) := by decide +kernel
theorem dX3_remove_29 : decode cX3_remove 29 = .ok (.iload_n 1, 1) := by decide +kernel
theorem dX3_remove_30 : decode cX3_remove 30 = .ok (.istore_n 3, 1) := by decide +kernel
theorem dX3_remove_31 : decode cX3_remove 31 = .ok (.iload_n 3, 1) := by decide +kernel
theorem dX3_remove_32 : decode cX3_remove 32 = .ok (.aload_n 0, 1) := by decide +kernel
theorem dX3_remove_33 : decode cX3_remove 33 = .ok (.getfield 25, 3) := by decide +kernel
theorem dX3_remove_36 : decode cX3_remove 36 = .ok (.iconst 1, 1) := by decide +kernel
theorem dX3_remove_37 : decode cX3_remove 37 = .ok (.isub, 1) := by decide +kernel
theorem dX3_remove_38 : decode cX3_remove 38 = .ok (.if_icmp .ge 23, 3) := by decide +kernel
theorem dX3_remove_41 : decode cX3_remove 41 = .ok (.aload_n 0, 1) := by decide +kernel
theorem dX3_remove_42 : decode cX3_remove 42 = .ok (.getfield 11, 3) := by decide +kernel
theorem dX3_remove_45 : decode cX3_remove 45 = .ok (.iload_n 3, 1) := by decide +kernel
theorem dX3_remove_46 : decode cX3_remove 46 = .ok (.aload_n 0, 1) := by decide +kernel
theorem dX3_remove_47 : decode cX3_remove 47 = .ok (.getfield 11, 3) := by decide +kernel
theorem dX3_remove_50 : decode cX3_remove 50 = .ok (.iload_n 3, 1) := by decide +kernel
theorem dX3_remove_51 : decode cX3_remove 51 = .ok (.iconst 1, 1) := by decide +kernel
theorem dX3_remove_52 : decode cX3_remove 52 = .ok (.iadd, 1) := by decide +kernel
theorem dX3_remove_53 : decode cX3_remove 53 = .ok (.aaload, 1) := by decide +kernel
theorem dX3_remove_54 : decode cX3_remove 54 = .ok (.aastore, 1) := by decide +kernel
theorem dX3_remove_55 : decode cX3_remove 55 = .ok (.iinc 3 1, 3) := by decide +kernel
theorem dX3_remove_58 : decode cX3_remove 58 = .ok (.goto (-27), 3) := by decide +kernel
theorem dX3_remove_61 : decode cX3_remove 61 = .ok (.aload_n 0, 1) := by decide +kernel
theorem dX3_remove_62 : decode cX3_remove 62 = .ok (.dup, 1) := by decide +kernel
theorem dX3_remove_63 : decode cX3_remove 63 = .ok (.getfield 25, 3) := by decide +kernel
theorem dX3_remove_66 : decode cX3_remove 66 = .ok (.iconst 1, 1) := by decide +kernel
theorem dX3_remove_67 : decode cX3_remove 67 = .ok (.isub, 1) := by decide +kernel
theorem dX3_remove_68 : decode cX3_remove 68 = .ok (.putfield 25, 3) := by decide +kernel
theorem dX3_remove_71 : decode cX3_remove 71 = .ok (.aload_n 0, 1) := by decide +kernel
theorem dX3_remove_72 : decode cX3_remove 72 = .ok (.getfield 11, 3) := by decide +kernel
theorem dX3_remove_75 : decode cX3_remove 75 = .ok (.aload_n 0, 1) := by decide +kernel
theorem dX3_remove_76 : decode cX3_remove 76 = .ok (.getfield 25, 3) := by decide +kernel
theorem dX3_remove_79 : decode cX3_remove 79 = .ok (.aload_n 0, 1) := by decide +kernel
theorem dX3_remove_80 : decode cX3_remove 80 = .ok (.getfield 22, 3) := by decide +kernel
theorem dX3_remove_83 : decode cX3_remove 83 = .ok (.aastore, 1) := by decide +kernel
theorem dX3_remove_84 : decode cX3_remove 84 = .ok (.aload_n 0, 1) := by decide +kernel
theorem dX3_remove_85 : decode cX3_remove 85 = .ok (.aload_n 2, 1) := by decide +kernel
theorem dX3_remove_86 : decode cX3_remove 86 = .ok (.putfield 22, 3) := by decide +kernel
theorem dX3_remove_89 : decode cX3_remove 89 = .ok (.return_, 1) := by decide +kernel
theorem dX4_init_0 : decode cX4_init 0 = .ok (.aload_n 0, 1) := by decide +kernel
theorem dX4_init_1 : decode cX4_init 1 = .ok (.invokespecial 3, 3) := by decide +kernel
theorem dX4_init_4 : decode cX4_init 4 = .ok (.aload_n 0, 1) := by decide +kernel
theorem dX4_init_5 : decode cX4_init 5 = .ok (.iload_n 1, 1) := by decide +kernel
theorem dX4_init_6 : decode cX4_init 6 = .ok (.putfield 9, 3) := by decide +kernel
theorem dX4_init_9 : decode cX4_init 9 = .ok (.aload_n 0, 1) := by decide +kernel
theorem dX4_init_10 : decode cX4_init 10 = .ok (.new 15, 3) := by decide +kernel
theorem dX4_init_13 : decode cX4_init 13 = .ok (.dup, 1) := by decide +kernel
theorem dX4_init_14 : decode cX4_init 14 = .ok (.invokespecial 17, 3) := by decide +kernel
theorem dX4_init_17 : decode cX4_init 17 = .ok (.putfield 18, 3) := by decide +kernel
theorem dX4_init_20 : decode cX4_init 20 = .ok (.aload_n 0, 1) := by decide +kernel
theorem dX4_init_21 : decode cX4_init 21 = .ok (.iconst 5, 1) := by decide +kernel
theorem dX4_init_22 : decode cX4_init 22 = .ok (.newarray .int, 2) := by decide +kernel
theorem dX4_init_24 : decode cX4_init 24 = .ok (.putfield 22, 3) := by decide +kernel
theorem dX4_init_27 : decode cX4_init 27 = .ok (.aload_n 0, 1) := by decide +kernel
theorem dX4_init_28 : decode cX4_init 28 = .ok (.iconst 5, 1) := by decide +kernel
theorem dX4_init_29 : decode cX4_init 29 = .ok (.newarray .int, 2) := by decide +kernel
theorem dX4_init_31 : decode cX4_init 31 = .ok (.putfield 26, 3) := by decide +kernel
theorem dX4_init_34 : decode cX4_init 34 = .ok (.aload_n 0, 1) := by decide +kernel
theorem dX4_init_35 : decode cX4_init 35 = .ok (.iconst 5, 1) := by decide +kernel
theorem dX4_init_36 : decode cX4_init 36 = .ok (.newarray .int, 2) := by decide +kernel
theorem dX4_init_38 : decode cX4_init 38 = .ok (.putfield 29, 3) := by decide +kernel
theorem dX4_init_41 : decode cX4_init 41 = .ok (.return_, 1) := by decide +kernel
theorem dX4_clear_0 : decode cX4_clear 0 = .ok (.aload_n 0, 1) := by decide +kernel
theorem dX4_clear_1 : decode cX4_clear 1 = .ok (.getfield 18, 3) := by decide +kernel
theorem dX4_clear_4 : decode cX4_clear 4 = .ok (.iload_n 1, 1) := by decide +kernel
theorem dX4_clear_5 : decode cX4_clear 5 = .ok (.invokevirtual 32, 3) := by decide +kernel
theorem dX4_clear_8 : decode cX4_clear 8 = .ok (.aload_n 0, 1) := by decide +kernel
theorem dX4_clear_9 : decode cX4_clear 9 = .ok (.iconst 1, 1) := by decide +kernel
theorem dX4_clear_10 : decode cX4_clear 10 = .ok (.putfield 36, 3) := by decide +kernel
theorem dX4_clear_13 : decode cX4_clear 13 = .ok (.aload_n 0, 1) := by decide +kernel
theorem dX4_clear_14 : decode cX4_clear 14 = .ok (.iconst 0, 1) := by decide +kernel
theorem dX4_clear_15 : decode cX4_clear 15 = .ok (.putfield 40, 3) := by decide +kernel
theorem dX4_clear_18 : decode cX4_clear 18 = .ok (.aload_n 0, 1) := by decide +kernel
theorem dX4_clear_19 : decode cX4_clear 19 = .ok (.iconst 0, 1) := by decide +kernel
theorem dX4_clear_20 : decode cX4_clear 20 = .ok (.putfield 43, 3) := by decide +kernel
theorem dX4_clear_23 : decode cX4_clear 23 = .ok (.aload_n 0, 1) := by decide +kernel
theorem dX4_clear_24 : decode cX4_clear 24 = .ok (.iconst (-1), 1) := by decide +kernel
theorem dX4_clear_25 : decode cX4_clear 25 = .ok (.putfield 46, 3) := by decide +kernel
theorem dX4_clear_28 : decode cX4_clear 28 = .ok (.aload_n 0, 1) := by decide +kernel
theorem dX4_clear_29 : decode cX4_clear 29 = .ok (.iconst 0, 1) := by decide +kernel
theorem dX4_clear_30 : decode cX4_clear 30 = .ok (.putfield 49, 3) := by decide +kernel
theorem dX4_clear_33 : decode cX4_clear 33 = .ok (.aload_n 0, 1) := by decide +kernel
theorem dX4_clear_34 : decode cX4_clear 34 = .ok (.iconst 0, 1) := by decide +kernel
theorem dX4_clear_35 : decode cX4_clear 35 = .ok (.putfield 52, 3) := by decide +kernel
theorem dX4_clear_38 : decode cX4_clear 38 = .ok (.return_, 1) := by decide +kernel
theorem dX4_copyFrom_0 : decode cX4_copyFrom 0 = .ok (.aload_n 0, 1) := by decide +kernel
theorem dX4_copyFrom_1 : decode cX4_copyFrom 1 = .ok (.getfield 18, 3) := by decide +kernel
theorem dX4_copyFrom_4 : decode cX4_copyFrom 4 = .ok (.aload_n 1, 1) := by decide +kernel
theorem dX4_copyFrom_5 : decode cX4_copyFrom 5 = .ok (.getfield 18, 3) := by decide +kernel
theorem dX4_copyFrom_8 : decode cX4_copyFrom 8 = .ok (.invokevirtual 55, 3) := by decide +kernel
theorem dX4_copyFrom_11 : decode cX4_copyFrom 11 = .ok (.aload_n 1, 1) := by decide +kernel
theorem dX4_copyFrom_12 : decode cX4_copyFrom 12 = .ok (.getfield 22, 3) := by decide +kernel
theorem dX4_copyFrom_15 : decode cX4_copyFrom 15 = .ok (.iconst 0, 1) := by decide +kernel
theorem dX4_copyFrom_16 : decode cX4_copyFrom 16 = .ok (.aload_n 0, 1) := by decide +kernel
theorem dX4_copyFrom_17 : decode cX4_copyFrom 17 = .ok (.getfield 22, 3) := by decide +kernel
theorem dX4_copyFrom_20 : decode cX4_copyFrom 20 = .ok (.iconst 0, 1) := by decide +kernel
theorem dX4_copyFrom_21 : decode cX4_copyFrom 21 = .ok (.iconst 5, 1) := by decide +kernel
theorem dX4_copyFrom_22 : decode cX4_copyFrom 22 = .ok (.invokestatic 59, 3) := by decide +kernel
theorem dX4_copyFrom_25 : decode cX4_copyFrom 25 = .ok (.aload_n 1, 1) := by decide +kernel
theorem dX4_copyFrom_26 : decode cX4_copyFrom 26 = .ok (.getfield 26, 3) := by decide +kernel
theorem dX4_copyFrom_29 : decode cX4_copyFrom 29 = .ok (.iconst 0, 1) := by decide +kernel
theorem dX4_copyFrom_30 : decode cX4_copyFrom 30 = .ok (.aload_n 0, 1) := by decide +kernel
theorem dX4_copyFrom_31 : decode cX4_copyFrom 31 = .ok (.getfield 26, 3) := by decide +kernel
theorem dX4_copyFrom_34 : decode cX4_copyFrom 34 = .ok (.iconst 0, 1) := by decide +kernel
theorem dX4_copyFrom_35 : decode cX4_copyFrom 35 = .ok (.iconst 5, 1) := by decide +kernel
theorem dX4_copyFrom_36 : decode cX4_copyFrom 36 = .ok (.invokestatic 59, 3) := by decide +kernel
theorem dX4_copyFrom_39 : decode cX4_copyFrom 39 = .ok (.aload_n 1, 1) := by decide +kernel
theorem dX4_copyFrom_40 : decode cX4_copyFrom 40 = .ok (.getfield 29, 3) := by decide +kernel
theorem dX4_copyFrom_43 : decode cX4_copyFrom 43 = .ok (.iconst 0, 1) := by decide +kernel
theorem dX4_copyFrom_44 : decode cX4_copyFrom 44 = .ok (.aload_n 0, 1) := by decide +kernel
theorem dX4_copyFrom_45 : decode cX4_copyFrom 45 = .ok (.getfield 29, 3) := by decide +kernel
theorem dX4_copyFrom_48 : decode cX4_copyFrom 48 = .ok (.iconst 0, 1) := by decide +kernel
theorem dX4_copyFrom_49 : decode cX4_copyFrom 49 = .ok (.iconst 5, 1) := by decide +kernel
theorem dX4_copyFrom_50 : decode cX4_copyFrom 50 = .ok (.invokestatic 59, 3) := by decide +kernel
theorem dX4_copyFrom_53 : decode cX4_copyFrom 53 = .ok (.aload_n 0, 1) := by decide +kernel
theorem dX4_copyFrom_54 : decode cX4_copyFrom 54 = .ok (.aload_n 1, 1) := by decide +kernel
theorem dX4_copyFrom_55 : decode cX4_copyFrom 55 = .ok (.getfield 36, 3) := by decide +kernel
theorem dX4_copyFrom_58 : decode cX4_copyFrom 58 = .ok (.putfield 36, 3) := by decide +kernel
theorem dX4_copyFrom_61 : decode cX4_copyFrom 61 = .ok (.aload_n 0, 1) := by decide +kernel
theorem dX4_copyFrom_62 : decode cX4_copyFrom 62 = .ok (.aload_n 1, 1) := by decide +kernel
theorem dX4_copyFrom_63 : decode cX4_copyFrom 63 = .ok (.getfield 40, 3) := by decide +kernel
theorem dX4_copyFrom_66 : decode cX4_copyFrom 66 = .ok (.putfield 40, 3) := by decide +kernel
theorem dX4_copyFrom_69 : decode cX4_copyFrom 69 = .ok (.aload_n 0, 1) := by decide +kernel
theorem dX4_copyFrom_70 : decode cX4_copyFrom 70 = .ok (.aload_n 1, 1) := by decide +kernel
theorem dX4_copyFrom_71 : decode cX4_copyFrom 71 = .ok (.getfield 43, 3) := by decide +kernel
theorem dX4_copyFrom_74 : decode cX4_copyFrom 74 = .ok (.putfield 43, 3) := by decide +kernel
theorem dX4_copyFrom_77 : decode cX4_copyFrom 77 = .ok (.aload_n 0, 1) := by decide +kernel
theorem dX4_copyFrom_78 : decode cX4_copyFrom 78 = .ok (.aload_n 1, 1) := by decide +kernel
theorem dX4_copyFrom_79 : decode cX4_copyFrom 79 = .ok (.getfield 46, 3) := by decide +kernel
theorem dX4_copyFrom_82 : decode cX4_copyFrom 82 = .ok (.putfield 46, 3) := by decide +kernel
theorem dX4_copyFrom_85 : decode cX4_copyFrom 85 = .ok (.aload_n 0, 1) := by decide +kernel
theorem dX4_copyFrom_86 : decode cX4_copyFrom 86 = .ok (.aload_n 1, 1) := by decide +kernel
theorem dX4_copyFrom_87 : decode cX4_copyFrom 87 = .ok (.getfield 49, 3) := by decide +kernel
theorem dX4_copyFrom_90 : decode cX4_copyFrom 90 = .ok (.putfield 49, 3) := by decide +kernel
theorem dX4_copyFrom_93 : decode cX4_copyFrom 93 = .ok (.aload_n 0, 1) := by decide +kernel
theorem dX4_copyFrom_94 : decode cX4_copyFrom 94 = .ok (.aload_n 1, 1) := by decide +kernel
theorem dX4_copyFrom_95 : decode cX4_copyFrom 95 = .ok (.getfield 65, 3) := by decide +kernel
theorem dX4_copyFrom_98 : decode cX4_copyFrom 98 = .ok (.putfield 65, 3) := by decide +kernel
theorem dX4_copyFrom_101 : decode cX4_copyFrom 101 = .ok (.aload_n 0, 1) := by decide +kernel
theorem dX4_copyFrom_102 : decode cX4_copyFrom 102 = .ok (.aload_n 1, 1) := by decide +kernel
theorem dX4_copyFrom_103 : decode cX4_copyFrom 103 = .ok (.getfield 52, 3) := by decide +kernel
theorem dX4_copyFrom_106 : decode cX4_copyFrom 106 = .ok (.putfield 52, 3) := by decide +kernel
theorem dX4_copyFrom_109 : decode cX4_copyFrom 109 = .ok (.return_, 1) := by decide +kernel
theorem dX4_goDown_0 : decode cX4_goDown 0 = .ok (.aload_n 0, 1) := by decide +kernel
theorem dX4_goDown_1 : decode cX4_goDown 1 = .ok (.iconst 0, 1) := by decide +kernel
theorem dX4_goDown_2 : decode cX4_goDown 2 = .ok (.putfield 36, 3) := by decide +kernel
theorem dX4_goDown_5 : decode cX4_goDown 5 = .ok (.aload_n 0, 1) := by decide +kernel
theorem dX4_goDown_6 : decode cX4_goDown 6 = .ok (.iconst 0, 1) := by decide +kernel
theorem dX4_goDown_7 : decode cX4_goDown 7 = .ok (.putfield 40, 3) := by decide +kernel
theorem dX4_goDown_10 : decode cX4_goDown 10 = .ok (.return_, 1) := by decide +kernel
theorem dX4_follow_0 : decode cX4_follow 0 = .ok (.aload_n 0, 1) := by decide +kernel
theorem dX4_follow_1 : decode cX4_follow 1 = .ok (.iconst 0, 1) := by decide +kernel
theorem dX4_follow_2 : decode cX4_follow 2 = .ok (.putfield 40, 3) := by decide +kernel
theorem dX4_follow_5 : decode cX4_follow 5 = .ok (.return_, 1) := by decide +kernel
theorem dX4_lead_0 : decode cX4_lead 0 = .ok (.aload_n 0, 1) := by decide +kernel
theorem dX4_lead_1 : decode cX4_lead 1 = .ok (.iconst 2, 1) := by decide +kernel
theorem dX4_lead_2 : decode cX4_lead 2 = .ok (.putfield 40, 3) := by decide +kernel
theorem dX4_lead_5 : decode cX4_lead 5 = .ok (.aload_n 0, 1) := by decide +kernel
theorem dX4_lead_6 : decode cX4_lead 6 = .ok (.iconst 3, 1) := by decide +kernel
theorem dX4_lead_7 : decode cX4_lead 7 = .ok (.putfield 65, 3) := by decide +kernel
theorem dX4_lead_10 : decode cX4_lead 10 = .ok (.iconst 0, 1) := by decide +kernel
theorem dX4_lead_11 : decode cX4_lead 11 = .ok (.istore_n 1, 1) := by decide +kernel
theorem dX4_lead_12 : decode cX4_lead 12 = .ok (.iload_n 1, 1) := by decide +kernel
theorem dX4_lead_13 : decode cX4_lead 13 = .ok (.iconst 5, 1) := by decide +kernel
theorem dX4_lead_14 : decode cX4_lead 14 = .ok (.if_icmp .ge 38, 3) := by decide +kernel
theorem dX4_lead_17 : decode cX4_lead 17 = .ok (.aload_n 0, 1) := by decide +kernel
theorem dX4_lead_18 : decode cX4_lead 18 = .ok (.getfield 22, 3) := by decide +kernel
theorem dX4_lead_21 : decode cX4_lead 21 = .ok (.iload_n 1, 1) := by decide +kernel
theorem dX4_lead_22 : decode cX4_lead 22 = .ok (.aload_n 0, 1) := by decide +kernel
theorem dX4_lead_23 : decode cX4_lead 23 = .ok (.getfield 18, 3) := by decide +kernel
theorem dX4_lead_26 : decode cX4_lead 26 = .ok (.invokevirtual 68, 3) := by decide +kernel
theorem dX4_lead_29 : decode cX4_lead 29 = .ok (.iconst 1, 1) := by decide +kernel
theorem dX4_lead_30 : decode cX4_lead 30 = .ok (.iadd, 1) := by decide +kernel
theorem dX4_lead_31 : decode cX4_lead 31 = .ok (.iastore, 1) := by decide +kernel
theorem dX4_lead_32 : decode cX4_lead 32 = .ok (.aload_n 0, 1) := by decide +kernel
theorem dX4_lead_33 : decode cX4_lead 33 = .ok (.getfield 26, 3) := by decide +kernel
theorem dX4_lead_36 : decode cX4_lead 36 = .ok (.iload_n 1, 1) := by decide +kernel
theorem dX4_lead_37 : decode cX4_lead 37 = .ok (.iconst 0, 1) := by decide +kernel
theorem dX4_lead_38 : decode cX4_lead 38 = .ok (.iastore, 1) := by decide +kernel
theorem dX4_lead_39 : decode cX4_lead 39 = .ok (.aload_n 0, 1) := by decide +kernel
theorem dX4_lead_40 : decode cX4_lead 40 = .ok (.getfield 29, 3) := by decide +kernel
theorem dX4_lead_43 : decode cX4_lead 43 = .ok (.iload_n 1, 1) := by decide +kernel
theorem dX4_lead_44 : decode cX4_lead 44 = .ok (.iconst (-1), 1) := by decide +kernel
theorem dX4_lead_45 : decode cX4_lead 45 = .ok (.iastore, 1) := by decide +kernel
theorem dX4_lead_46 : decode cX4_lead 46 = .ok (.iinc 1 1, 3) := by decide +kernel
theorem dX4_lead_49 : decode cX4_lead 49 = .ok (.goto (-37), 3) := by decide +kernel
theorem dX4_lead_52 : decode cX4_lead 52 = .ok (.return_, 1) := by decide +kernel
theorem dX4_isMember_0 : decode cX4_isMember 0 = .ok (.aload_n 0, 1) := by decide +kernel
theorem dX4_isMember_1 : decode cX4_isMember 1 = .ok (.getfield 18, 3) := by decide +kernel
theorem dX4_isMember_4 : decode cX4_isMember 4 = .ok (.aload_n 0, 1) := by decide +kernel
theorem dX4_isMember_5 : decode cX4_isMember 5 = .ok (.getfield 9, 3) := by decide +kernel
theorem dX4_isMember_8 : decode cX4_isMember 8 = .ok (.invokevirtual 72, 3) := by decide +kernel
theorem dX4_isMember_11 : decode cX4_isMember 11 = .ok (.ireturn, 1) := by decide +kernel
theorem dX4_isConfigurationCommitted_0 : decode cX4_isConfigurationCommitted 0 = .ok (.aload_n 0, 1) := by decide +kernel
theorem dX4_isConfigurationCommitted_1 : decode cX4_isConfigurationCommitted 1 = .ok (.getfield 18, 3) := by decide +kernel
theorem dX4_isConfigurationCommitted_4 : decode cX4_isConfigurationCommitted 4 = .ok (.getfield 76, 3) := by decide +kernel
theorem dX4_isConfigurationCommitted_7 : decode cX4_isConfigurationCommitted 7 = .ok (.aload_n 0, 1) := by decide +kernel
theorem dX4_isConfigurationCommitted_8 : decode cX4_isConfigurationCommitted 8 = .ok (.getfield 49, 3) := by decide +kernel
theorem dX4_isConfigurationCommitted_11 : decode cX4_isConfigurationCommitted 11 = .ok (.if_icmp .gt 7, 3) := by decide +kernel
theorem dX4_isConfigurationCommitted_14 : decode cX4_isConfigurationCommitted 14 = .ok (.iconst 1, 1) := by decide +kernel
theorem dX4_isConfigurationCommitted_15 : decode cX4_isConfigurationCommitted 15 = .ok (.goto 4, 3) := by decide +kernel
theorem dX4_isConfigurationCommitted_18 : decode cX4_isConfigurationCommitted 18 = .ok (.iconst 0, 1) := by decide +kernel
theorem dX4_isConfigurationCommitted_19 : decode cX4_isConfigurationCommitted 19 = .ok (.ireturn, 1) := by decide +kernel
theorem dX4_holders_0 : decode cX4_holders 0 = .ok (.iconst 1, 1) := by decide +kernel
theorem dX4_holders_1 : decode cX4_holders 1 = .ok (.aload_n 0, 1) := by decide +kernel
theorem dX4_holders_2 : decode cX4_holders 2 = .ok (.getfield 9, 3) := by decide +kernel
theorem dX4_holders_5 : decode cX4_holders 5 = .ok (.ishl, 1) := by decide +kernel
theorem dX4_holders_6 : decode cX4_holders 6 = .ok (.istore_n 2, 1) := by decide +kernel
theorem dX4_holders_7 : decode cX4_holders 7 = .ok (.iconst 0, 1) := by decide +kernel
theorem dX4_holders_8 : decode cX4_holders 8 = .ok (.istore_n 3, 1) := by decide +kernel
theorem dX4_holders_9 : decode cX4_holders 9 = .ok (.iload_n 3, 1) := by decide +kernel
theorem dX4_holders_10 : decode cX4_holders 10 = .ok (.iconst 5, 1) := by decide +kernel
theorem dX4_holders_11 : decode cX4_holders 11 = .ok (.if_icmp .ge 25, 3) := by decide +kernel
theorem dX4_holders_14 : decode cX4_holders 14 = .ok (.aload_n 0, 1) := by decide +kernel
theorem dX4_holders_15 : decode cX4_holders 15 = .ok (.getfield 26, 3) := by decide +kernel
theorem dX4_holders_18 : decode cX4_holders 18 = .ok (.iload_n 3, 1) := by decide +kernel
theorem dX4_holders_19 : decode cX4_holders 19 = .ok (.iaload, 1) := by decide +kernel
theorem dX4_holders_20 : decode cX4_holders 20 = .ok (.iload_n 1, 1) := by decide +kernel
theorem dX4_holders_21 : decode cX4_holders 21 = .ok (.if_icmp .lt 9, 3) := by decide +kernel
theorem dX4_holders_24 : decode cX4_holders 24 = .ok (.iload_n 2, 1) := by decide +kernel
theorem dX4_holders_25 : decode cX4_holders 25 = .ok (.iconst 1, 1) := by decide +kernel
theorem dX4_holders_26 : decode cX4_holders 26 = .ok (.iload_n 3, 1) := by decide +kernel
theorem dX4_holders_27 : decode cX4_holders 27 = .ok (.ishl, 1) := by decide +kernel
theorem dX4_holders_28 : decode cX4_holders 28 = .ok (.ior, 1) := by decide +kernel
theorem dX4_holders_29 : decode cX4_holders 29 = .ok (.istore_n 2, 1) := by decide +kernel
theorem dX4_holders_30 : decode cX4_holders 30 = .ok (.iinc 3 1, 3) := by decide +kernel
theorem dX4_holders_33 : decode cX4_holders 33 = .ok (.goto (-24), 3) := by decide +kernel
theorem dX4_holders_36 : decode cX4_holders 36 = .ok (.iload_n 2, 1) := by decide +kernel
theorem dX4_holders_37 : decode cX4_holders 37 = .ok (.ireturn, 1) := by decide +kernel
theorem dX4_lease_0 : decode cX4_lease 0 = .ok (.aload_n 0, 1) := by decide +kernel
theorem dX4_lease_1 : decode cX4_lease 1 = .ok (.getfield 40, 3) := by decide +kernel
theorem dX4_lease_4 : decode cX4_lease 4 = .ok (.iconst 2, 1) := by decide +kernel
theorem dX4_lease_5 : decode cX4_lease 5 = .ok (.if_icmp .eq 5, 3) := by decide +kernel
theorem dX4_lease_8 : decode cX4_lease 8 = .ok (.iconst (-1), 1) := by decide +kernel
theorem dX4_lease_9 : decode cX4_lease 9 = .ok (.ireturn, 1) := by decide +kernel
theorem dX4_lease_10 : decode cX4_lease 10 = .ok (.iconst (-1), 1) := by decide +kernel
theorem dX4_lease_11 : decode cX4_lease 11 = .ok (.istore_n 2, 1) := by decide +kernel
theorem dX4_lease_12 : decode cX4_lease 12 = .ok (.iconst 0, 1) := by decide +kernel
theorem dX4_lease_13 : decode cX4_lease 13 = .ok (.istore_n 3, 1) := by decide +kernel
theorem dX4_lease_14 : decode cX4_lease 14 = .ok (.iload_n 3, 1) := by decide +kernel
theorem dX4_lease_15 : decode cX4_lease 15 = .ok (.iconst 5, 1) := by decide +kernel
theorem dX4_lease_16 : decode cX4_lease 16 = .ok (.if_icmp .ge 54, 3) := by decide +kernel
theorem dX4_lease_19 : decode cX4_lease 19 = .ok (.iload_n 3, 1) := by decide +kernel
theorem dX4_lease_20 : decode cX4_lease 20 = .ok (.aload_n 0, 1) := by decide +kernel
theorem dX4_lease_21 : decode cX4_lease 21 = .ok (.getfield 9, 3) := by decide +kernel
theorem dX4_lease_24 : decode cX4_lease 24 = .ok (.if_icmp .ne 7, 3) := by decide +kernel
theorem dX4_lease_27 : decode cX4_lease 27 = .ok (.iload_n 1, 1) := by decide +kernel
theorem dX4_lease_28 : decode cX4_lease 28 = .ok (.goto 9, 3) := by decide +kernel
theorem dX4_lease_31 : decode cX4_lease 31 = .ok (.aload_n 0, 1) := by decide +kernel
theorem dX4_lease_32 : decode cX4_lease 32 = .ok (.getfield 29, 3) := by decide +kernel
theorem dX4_lease_35 : decode cX4_lease 35 = .ok (.iload_n 3, 1) := by decide +kernel
theorem dX4_lease_36 : decode cX4_lease 36 = .ok (.iaload, 1) := by decide +kernel
theorem dX4_lease_37 : decode cX4_lease 37 = .ok (.istore 4, 2) := by decide +kernel
theorem dX4_lease_39 : decode cX4_lease 39 = .ok (.iload 4, 2) := by decide +kernel
theorem dX4_lease_41 : decode cX4_lease 41 = .ok (.iload_n 2, 1) := by decide +kernel
theorem dX4_lease_42 : decode cX4_lease 42 = .ok (.if_icmp .le 22, 3) := by decide +kernel
theorem dX4_lease_45 : decode cX4_lease 45 = .ok (.aload_n 0, 1) := by decide +kernel
theorem dX4_lease_46 : decode cX4_lease 46 = .ok (.getfield 18, 3) := by decide +kernel
theorem dX4_lease_49 : decode cX4_lease 49 = .ok (.aload_n 0, 1) := by decide +kernel
theorem dX4_lease_50 : decode cX4_lease 50 = .ok (.iload 4, 2) := by decide +kernel
theorem dX4_lease_52 : decode cX4_lease 52 = .ok (.invokevirtual 79, 3) := by decide +kernel
theorem dX4_lease_55 : decode cX4_lease 55 = .ok (.invokevirtual 83, 3) := by decide +kernel
theorem dX4_lease_58 : decode cX4_lease 58 = .ok (.ifCond .eq 6, 3) := by decide +kernel
theorem dX4_lease_61 : decode cX4_lease 61 = .ok (.iload 4, 2) := by decide +kernel
theorem dX4_lease_63 : decode cX4_lease 63 = .ok (.istore_n 2, 1) := by decide +kernel
theorem dX4_lease_64 : decode cX4_lease 64 = .ok (.iinc 3 1, 3) := by decide +kernel
theorem dX4_lease_67 : decode cX4_lease 67 = .ok (.goto (-53), 3) := by decide +kernel
theorem dX4_lease_70 : decode cX4_lease 70 = .ok (.iload_n 2, 1) := by decide +kernel
theorem dX4_lease_71 : decode cX4_lease 71 = .ok (.iconst (-1), 1) := by decide +kernel
theorem dX4_lease_72 : decode cX4_lease 72 = .ok (.if_icmp .ne 7, 3) := by decide +kernel
theorem dX4_lease_75 : decode cX4_lease 75 = .ok (.iconst (-1), 1) := by decide +kernel
theorem dX4_lease_76 : decode cX4_lease 76 = .ok (.goto 7, 3) := by decide +kernel
theorem dX4_lease_79 : decode cX4_lease 79 = .ok (.iload_n 2, 1) := by decide +kernel
theorem dX4_lease_80 : decode cX4_lease 80 = .ok (.bipush 6, 2) := by decide +kernel
theorem dX4_lease_82 : decode cX4_lease 82 = .ok (.iadd, 1) := by decide +kernel
theorem dX4_lease_83 : decode cX4_lease 83 = .ok (.ireturn, 1) := by decide +kernel
theorem dX4_canAnswerReads_0 : decode cX4_canAnswerReads 0 = .ok (.iload_n 1, 1) := by decide +kernel
theorem dX4_canAnswerReads_1 : decode cX4_canAnswerReads 1 = .ok (.aload_n 0, 1) := by decide +kernel
theorem dX4_canAnswerReads_2 : decode cX4_canAnswerReads 2 = .ok (.iload_n 1, 1) := by decide +kernel
theorem dX4_canAnswerReads_3 : decode cX4_canAnswerReads 3 = .ok (.invokevirtual 86, 3) := by decide +kernel
theorem dX4_canAnswerReads_6 : decode cX4_canAnswerReads 6 = .ok (.if_icmp .ge 25, 3) := by decide +kernel
theorem dX4_canAnswerReads_9 : decode cX4_canAnswerReads 9 = .ok (.aload_n 0, 1) := by decide +kernel
theorem dX4_canAnswerReads_10 : decode cX4_canAnswerReads 10 = .ok (.getfield 18, 3) := by decide +kernel
theorem dX4_canAnswerReads_13 : decode cX4_canAnswerReads 13 = .ok (.aload_n 0, 1) := by decide +kernel
theorem dX4_canAnswerReads_14 : decode cX4_canAnswerReads 14 = .ok (.getfield 49, 3) := by decide +kernel
theorem dX4_canAnswerReads_17 : decode cX4_canAnswerReads 17 = .ok (.invokevirtual 89, 3) := by decide +kernel
theorem dX4_canAnswerReads_20 : decode cX4_canAnswerReads 20 = .ok (.aload_n 0, 1) := by decide +kernel
theorem dX4_canAnswerReads_21 : decode cX4_canAnswerReads 21 = .ok (.getfield 43, 3) := by decide +kernel
theorem dX4_canAnswerReads_24 : decode cX4_canAnswerReads 24 = .ok (.if_icmp .ne 7, 3) := by decide +kernel
theorem dX4_canAnswerReads_27 : decode cX4_canAnswerReads 27 = .ok (.iconst 1, 1) := by decide +kernel
theorem dX4_canAnswerReads_28 : decode cX4_canAnswerReads 28 = .ok (.goto 4, 3) := by decide +kernel
theorem dX4_canAnswerReads_31 : decode cX4_canAnswerReads 31 = .ok (.iconst 0, 1) := by decide +kernel
theorem dX4_canAnswerReads_32 : decode cX4_canAnswerReads 32 = .ok (.ireturn, 1) := by decide +kernel
theorem dX4_heardSince_0 : decode cX4_heardSince 0 = .ok (.iconst 1, 1) := by decide +kernel
theorem dX4_heardSince_1 : decode cX4_heardSince 1 = .ok (.aload_n 0, 1) := by decide +kernel
theorem dX4_heardSince_2 : decode cX4_heardSince 2 = .ok (.getfield 9, 3) := by decide +kernel
theorem dX4_heardSince_5 : decode cX4_heardSince 5 = .ok (.ishl, 1) := by decide +kernel
theorem dX4_heardSince_6 : decode cX4_heardSince 6 = .ok (.istore_n 2, 1) := by decide +kernel
theorem dX4_heardSince_7 : decode cX4_heardSince 7 = .ok (.iconst 0, 1) := by decide +kernel
theorem dX4_heardSince_8 : decode cX4_heardSince 8 = .ok (.istore_n 3, 1) := by decide +kernel
theorem dX4_heardSince_9 : decode cX4_heardSince 9 = .ok (.iload_n 3, 1) := by decide +kernel
theorem dX4_heardSince_10 : decode cX4_heardSince 10 = .ok (.iconst 5, 1) := by decide +kernel
theorem dX4_heardSince_11 : decode cX4_heardSince 11 = .ok (.if_icmp .ge 25, 3) := by decide +kernel
theorem dX4_heardSince_14 : decode cX4_heardSince 14 = .ok (.aload_n 0, 1) := by decide +kernel
theorem dX4_heardSince_15 : decode cX4_heardSince 15 = .ok (.getfield 29, 3) := by decide +kernel
theorem dX4_heardSince_18 : decode cX4_heardSince 18 = .ok (.iload_n 3, 1) := by decide +kernel
theorem dX4_heardSince_19 : decode cX4_heardSince 19 = .ok (.iaload, 1) := by decide +kernel
theorem dX4_heardSince_20 : decode cX4_heardSince 20 = .ok (.iload_n 1, 1) := by decide +kernel
theorem dX4_heardSince_21 : decode cX4_heardSince 21 = .ok (.if_icmp .lt 9, 3) := by decide +kernel
theorem dX4_heardSince_24 : decode cX4_heardSince 24 = .ok (.iload_n 2, 1) := by decide +kernel
theorem dX4_heardSince_25 : decode cX4_heardSince 25 = .ok (.iconst 1, 1) := by decide +kernel
theorem dX4_heardSince_26 : decode cX4_heardSince 26 = .ok (.iload_n 3, 1) := by decide +kernel
theorem dX4_heardSince_27 : decode cX4_heardSince 27 = .ok (.ishl, 1) := by decide +kernel
theorem dX4_heardSince_28 : decode cX4_heardSince 28 = .ok (.ior, 1) := by decide +kernel
theorem dX4_heardSince_29 : decode cX4_heardSince 29 = .ok (.istore_n 2, 1) := by decide +kernel
theorem dX4_heardSince_30 : decode cX4_heardSince 30 = .ok (.iinc 3 1, 3) := by decide +kernel
theorem dX4_heardSince_33 : decode cX4_heardSince 33 = .ok (.goto (-24), 3) := by decide +kernel
theorem dX4_heardSince_36 : decode cX4_heardSince 36 = .ok (.iload_n 2, 1) := by decide +kernel
theorem dX4_heardSince_37 : decode cX4_heardSince 37 = .ok (.ireturn, 1) := by decide +kernel
theorem dX5_init_0 : decode cX5_init 0 = .ok (.aload_n 0, 1) := by decide +kernel
theorem dX5_init_1 : decode cX5_init 1 = .ok (.invokespecial 3, 3) := by decide +kernel
theorem dX5_init_4 : decode cX5_init 4 = .ok (.aload_n 0, 1) := by decide +kernel
theorem dX5_init_5 : decode cX5_init 5 = .ok (.bipush 80, 2) := by decide +kernel
theorem dX5_init_7 : decode cX5_init 7 = .ok (.newarray .char, 2) := by decide +kernel
theorem dX5_init_9 : decode cX5_init 9 = .ok (.putfield 9, 3) := by decide +kernel
theorem dX5_init_12 : decode cX5_init 12 = .ok (.aload_n 0, 1) := by decide +kernel
theorem dX5_init_13 : decode cX5_init 13 = .ok (.bipush 16, 2) := by decide +kernel
theorem dX5_init_15 : decode cX5_init 15 = .ok (.newarray .int, 2) := by decide +kernel
theorem dX5_init_17 : decode cX5_init 17 = .ok (.putfield 15, 3) := by decide +kernel
theorem dX5_init_20 : decode cX5_init 20 = .ok (.aload_n 0, 1) := by decide +kernel
theorem dX5_init_21 : decode cX5_init 21 = .ok (.bipush 16, 2) := by decide +kernel
theorem dX5_init_23 : decode cX5_init 23 = .ok (.newarray .int, 2) := by decide +kernel
theorem dX5_init_25 : decode cX5_init 25 = .ok (.putfield 19, 3) := by decide +kernel
theorem dX5_init_28 : decode cX5_init 28 = .ok (.aload_n 0, 1) := by decide +kernel
theorem dX5_init_29 : decode cX5_init 29 = .ok (.bipush 16, 2) := by decide +kernel
theorem dX5_init_31 : decode cX5_init 31 = .ok (.newarray .int, 2) := by decide +kernel
theorem dX5_init_33 : decode cX5_init 33 = .ok (.putfield 22, 3) := by decide +kernel
theorem dX5_init_36 : decode cX5_init 36 = .ok (.return_, 1) := by decide +kernel
theorem dX5_isFull_0 : decode cX5_isFull 0 = .ok (.aload_n 0, 1) := by decide +kernel
theorem dX5_isFull_1 : decode cX5_isFull 1 = .ok (.getfield 25, 3) := by decide +kernel
theorem dX5_isFull_4 : decode cX5_isFull 4 = .ok (.bipush 80, 2) := by decide +kernel
theorem dX5_isFull_6 : decode cX5_isFull 6 = .ok (.if_icmp .lt 7, 3) := by decide +kernel
theorem dX5_isFull_9 : decode cX5_isFull 9 = .ok (.iconst 1, 1) := by decide +kernel
theorem dX5_isFull_10 : decode cX5_isFull 10 = .ok (.goto 4, 3) := by decide +kernel
theorem dX5_isFull_13 : decode cX5_isFull 13 = .ok (.iconst 0, 1) := by decide +kernel
theorem dX5_isFull_14 : decode cX5_isFull 14 = .ok (.ireturn, 1) := by decide +kernel
theorem dX5_add_0 : decode cX5_add 0 = .ok (.aload_n 0, 1) := by decide +kernel
theorem dX5_add_1 : decode cX5_add 1 = .ok (.getfield 25, 3) := by decide +kernel
theorem dX5_add_4 : decode cX5_add 4 = .ok (.ifCond .lt 32, 3) := by decide +kernel
theorem dX5_add_7 : decode cX5_add 7 = .ok (.aload_n 0, 1) := by decide +kernel
theorem dX5_add_8 : decode cX5_add 8 = .ok (.getfield 25, 3) := by decide +kernel
theorem dX5_add_11 : decode cX5_add 11 = .ok (.bipush 80, 2) := by decide +kernel
theorem dX5_add_13 : decode cX5_add 13 = .ok (.if_icmp .ge 23, 3) := by decide +kernel
theorem dX5_add_16 : decode cX5_add 16 = .ok (.aload_n 0, 1) := by decide +kernel
theorem dX5_add_17 : decode cX5_add 17 = .ok (.getfield 9, 3) := by decide +kernel
theorem dX5_add_20 : decode cX5_add 20 = .ok (.aload_n 0, 1) := by decide +kernel
theorem dX5_add_21 : decode cX5_add 21 = .ok (.getfield 25, 3) := by decide +kernel
theorem dX5_add_24 : decode cX5_add 24 = .ok (.iload_n 1, 1) := by decide +kernel
theorem dX5_add_25 : decode cX5_add 25 = .ok (.castore, 1) := by decide +kernel
theorem dX5_add_26 : decode cX5_add 26 = .ok (.aload_n 0, 1) := by decide +kernel
theorem dX5_add_27 : decode cX5_add 27 = .ok (.dup, 1) := by decide +kernel
theorem dX5_add_28 : decode cX5_add 28 = .ok (.getfield 25, 3) := by decide +kernel
theorem dX5_add_31 : decode cX5_add 31 = .ok (.iconst 1, 1) := by decide +kernel
theorem dX5_add_32 : decode cX5_add 32 = .ok (.iadd, 1) := by decide +kernel
theorem dX5_add_33 : decode cX5_add 33 = .ok (.putfield 25, 3) := by decide +kernel
theorem dX5_add_36 : decode cX5_add 36 = .ok (.return_, 1) := by decide +kernel
theorem dX5_parse_0 : decode cX5_parse 0 = .ok (.iconst 0, 1) := by decide +kernel
theorem dX5_parse_1 : decode cX5_parse 1 = .ok (.istore_n 1, 1) := by decide +kernel
theorem dX5_parse_2 : decode cX5_parse 2 = .ok (.aload_n 0, 1) := by decide +kernel
theorem dX5_parse_3 : decode cX5_parse 3 = .ok (.iconst 0, 1) := by decide +kernel
theorem dX5_parse_4 : decode cX5_parse 4 = .ok (.putfield 29, 3) := by decide +kernel
theorem dX5_parse_7 : decode cX5_parse 7 = .ok (.aload_n 0, 1) := by decide +kernel
theorem dX5_parse_8 : decode cX5_parse 8 = .ok (.iload_n 1, 1) := by decide +kernel
theorem dX5_parse_9 : decode cX5_parse 9 = .ok (.invokevirtual 32, 3) := by decide +kernel
theorem dX5_parse_12 : decode cX5_parse 12 = .ok (.ifCond .ne 11, 3) := by decide +kernel
theorem dX5_parse_15 : decode cX5_parse 15 = .ok (.bipush (-100), 2) := by decide +kernel
theorem dX5_parse_17 : decode cX5_parse 17 = .ok (.aload_n 0, 1) := by decide +kernel
theorem dX5_parse_18 : decode cX5_parse 18 = .ok (.getfield 29, 3) := by decide +kernel
theorem dX5_parse_21 : decode cX5_parse 21 = .ok (.isub, 1) := by decide +kernel
theorem dX5_parse_22 : decode cX5_parse 22 = .ok (.ireturn, 1) := by decide +kernel
theorem dX5_parse_23 : decode cX5_parse 23 = .ok (.iinc 1 1, 3) := by decide +kernel
theorem dX5_parse_26 : decode cX5_parse 26 = .ok (.aload_n 0, 1) := by decide +kernel
theorem dX5_parse_27 : decode cX5_parse 27 = .ok (.getfield 29, 3) := by decide +kernel
theorem dX5_parse_30 : decode cX5_parse 30 = .ok (.aload_n 0, 1) := by decide +kernel
theorem dX5_parse_31 : decode cX5_parse 31 = .ok (.getfield 25, 3) := by decide +kernel
theorem dX5_parse_34 : decode cX5_parse 34 = .ok (.if_icmp .ge 9, 3) := by decide +kernel
theorem dX5_parse_37 : decode cX5_parse 37 = .ok (.iload_n 1, 1) := by decide +kernel
theorem dX5_parse_38 : decode cX5_parse 38 = .ok (.bipush 16, 2) := by decide +kernel
theorem dX5_parse_40 : decode cX5_parse 40 = .ok (.if_icmp .lt (-33), 3) := by decide +kernel
theorem dX5_parse_43 : decode cX5_parse 43 = .ok (.iload_n 1, 1) := by decide +kernel
theorem dX5_parse_44 : decode cX5_parse 44 = .ok (.ireturn, 1) := by decide +kernel
theorem dX5_parseCommand_0 : decode cX5_parseCommand 0 = .ok (.aload_n 0, 1) := by decide +kernel
theorem dX5_parseCommand_1 : decode cX5_parseCommand 1 = .ok (.getfield 29, 3) := by decide +kernel
theorem dX5_parseCommand_4 : decode cX5_parseCommand 4 = .ok (.istore_n 2, 1) := by decide +kernel
theorem dX5_parseCommand_5 : decode cX5_parseCommand 5 = .ok (.aload_n 0, 1) := by decide +kernel
theorem dX5_parseCommand_6 : decode cX5_parseCommand 6 = .ok (.getfield 29, 3) := by decide +kernel
theorem dX5_parseCommand_9 : decode cX5_parseCommand 9 = .ok (.aload_n 0, 1) := by decide +kernel
theorem dX5_parseCommand_10 : decode cX5_parseCommand 10 = .ok (.getfield 25, 3) := by decide +kernel
theorem dX5_parseCommand_13 : decode cX5_parseCommand 13 = .ok (.if_icmp .ge 27, 3) := by decide +kernel
theorem dX5_parseCommand_16 : decode cX5_parseCommand 16 = .ok (.aload_n 0, 1) := by decide +kernel
theorem dX5_parseCommand_17 : decode cX5_parseCommand 17 = .ok (.bipush 97, 2) := by decide +kernel
theorem dX5_parseCommand_19 : decode cX5_parseCommand 19 = .ok (.bipush 122, 2) := by decide +kernel
theorem dX5_parseCommand_21 : decode cX5_parseCommand 21 = .ok (.invokevirtual 36, 3) := by decide +kernel
theorem dX5_parseCommand_24 : decode cX5_parseCommand 24 = .ok (.ifCond .eq 16, 3) := by decide +kernel
theorem dX5_parseCommand_27 : decode cX5_parseCommand 27 = .ok (.aload_n 0, 1) := by decide +kernel
theorem dX5_parseCommand_28 : decode cX5_parseCommand 28 = .ok (.dup, 1) := by decide +kernel
theorem dX5_parseCommand_29 : decode cX5_parseCommand 29 = .ok (.getfield 29, 3) := by decide +kernel
theorem dX5_parseCommand_32 : decode cX5_parseCommand 32 = .ok (.iconst 1, 1) := by decide +kernel
theorem dX5_parseCommand_33 : decode cX5_parseCommand 33 = .ok (.iadd, 1) := by decide +kernel
theorem dX5_parseCommand_34 : decode cX5_parseCommand 34 = .ok (.putfield 29, 3) := by decide +kernel
theorem dX5_parseCommand_37 : decode cX5_parseCommand 37 = .ok (.goto (-32), 3) := by decide +kernel
theorem dX5_parseCommand_40 : decode cX5_parseCommand 40 = .ok (.aload_n 0, 1) := by decide +kernel
theorem dX5_parseCommand_41 : decode cX5_parseCommand 41 = .ok (.iload_n 2, 1) := by decide +kernel
theorem dX5_parseCommand_42 : decode cX5_parseCommand 42 = .ok (.invokevirtual 40, 3) := by decide +kernel
theorem dX5_parseCommand_45 : decode cX5_parseCommand 45 = .ok (.istore_n 3, 1) := by decide +kernel
theorem dX5_parseCommand_46 : decode cX5_parseCommand 46 = .ok (.iload_n 3, 1) := by decide +kernel
theorem dX5_parseCommand_47 : decode cX5_parseCommand 47 = .ok (.iconst (-1), 1) := by decide +kernel
theorem dX5_parseCommand_48 : decode cX5_parseCommand 48 = .ok (.if_icmp .ne 10, 3) := by decide +kernel
theorem dX5_parseCommand_51 : decode cX5_parseCommand 51 = .ok (.aload_n 0, 1) := by decide +kernel
theorem dX5_parseCommand_52 : decode cX5_parseCommand 52 = .ok (.iload_n 2, 1) := by decide +kernel
theorem dX5_parseCommand_53 : decode cX5_parseCommand 53 = .ok (.putfield 29, 3) := by decide +kernel
theorem dX5_parseCommand_56 : decode cX5_parseCommand 56 = .ok (.iconst 0, 1) := by decide +kernel
theorem dX5_parseCommand_57 : decode cX5_parseCommand 57 = .ok (.ireturn, 1) := by decide +kernel
theorem dX5_parseCommand_58 : decode cX5_parseCommand 58 = .ok (.aload_n 0, 1) := by decide +kernel
theorem dX5_parseCommand_59 : decode cX5_parseCommand 59 = .ok (.getfield 15, 3) := by decide +kernel
theorem dX5_parseCommand_62 : decode cX5_parseCommand 62 = .ok (.iload_n 1, 1) := by decide +kernel
theorem dX5_parseCommand_63 : decode cX5_parseCommand 63 = .ok (.iload_n 3, 1) := by decide +kernel
theorem dX5_parseCommand_64 : decode cX5_parseCommand 64 = .ok (.iastore, 1) := by decide +kernel
theorem dX5_parseCommand_65 : decode cX5_parseCommand 65 = .ok (.aload_n 0, 1) := by decide +kernel
theorem dX5_parseCommand_66 : decode cX5_parseCommand 66 = .ok (.bipush 32, 2) := by decide +kernel
theorem dX5_parseCommand_68 : decode cX5_parseCommand 68 = .ok (.invokevirtual 44, 3) := by decide +kernel
theorem dX5_parseCommand_71 : decode cX5_parseCommand 71 = .ok (.ifCond .eq 15, 3) := by decide +kernel
theorem dX5_parseCommand_74 : decode cX5_parseCommand 74 = .ok (.aload_n 0, 1) := by decide +kernel
theorem dX5_parseCommand_75 : decode cX5_parseCommand 75 = .ok (.aload_n 0, 1) := by decide +kernel
theorem dX5_parseCommand_76 : decode cX5_parseCommand 76 = .ok (.getfield 19, 3) := by decide +kernel
theorem dX5_parseCommand_79 : decode cX5_parseCommand 79 = .ok (.iload_n 1, 1) := by decide +kernel
theorem dX5_parseCommand_80 : decode cX5_parseCommand 80 = .ok (.invokevirtual 48, 3) := by decide +kernel
theorem dX5_parseCommand_83 : decode cX5_parseCommand 83 = .ok (.ifCond .ne 5, 3) := by decide +kernel
theorem dX5_parseCommand_86 : decode cX5_parseCommand 86 = .ok (.iconst 0, 1) := by decide +kernel
theorem dX5_parseCommand_87 : decode cX5_parseCommand 87 = .ok (.ireturn, 1) := by decide +kernel
theorem dX5_parseCommand_88 : decode cX5_parseCommand 88 = .ok (.iload_n 3, 1) := by decide +kernel
theorem dX5_parseCommand_89 : decode cX5_parseCommand 89 = .ok (.iconst 3, 1) := by decide +kernel
theorem dX5_parseCommand_90 : decode cX5_parseCommand 90 = .ok (.if_icmp .eq 13, 3) := by decide +kernel
theorem dX5_parseCommand_93 : decode cX5_parseCommand 93 = .ok (.iload_n 3, 1) := by decide +kernel
theorem dX5_parseCommand_94 : decode cX5_parseCommand 94 = .ok (.iconst 4, 1) := by decide +kernel
theorem dX5_parseCommand_95 : decode cX5_parseCommand 95 = .ok (.if_icmp .eq 8, 3) := by decide +kernel
theorem dX5_parseCommand_98 : decode cX5_parseCommand 98 = .ok (.iload_n 3, 1) := by decide +kernel
theorem dX5_parseCommand_99 : decode cX5_parseCommand 99 = .ok (.iconst 5, 1) := by decide +kernel
theorem dX5_parseCommand_100 : decode cX5_parseCommand 100 = .ok (.if_icmp .ne 7, 3) := by decide +kernel
theorem dX5_parseCommand_103 : decode cX5_parseCommand 103 = .ok (.iconst 1, 1) := by decide +kernel
theorem dX5_parseCommand_104 : decode cX5_parseCommand 104 = .ok (.goto 4, 3) := by decide +kernel
theorem dX5_parseCommand_107 : decode cX5_parseCommand 107 = .ok (.iconst 0, 1) := by decide +kernel
theorem dX5_parseCommand_108 : decode cX5_parseCommand 108 = .ok (.istore 4, 2) := by decide +kernel
theorem dX5_parseCommand_110 : decode cX5_parseCommand 110 = .ok (.iload 4, 2) := by decide +kernel
theorem dX5_parseCommand_112 : decode cX5_parseCommand 112 = .ok (.ifCond .eq 26, 3) := by decide +kernel
theorem dX5_parseCommand_115 : decode cX5_parseCommand 115 = .ok (.aload_n 0, 1) := by decide +kernel
theorem dX5_parseCommand_116 : decode cX5_parseCommand 116 = .ok (.bipush 44, 2) := by decide +kernel
theorem dX5_parseCommand_118 : decode cX5_parseCommand 118 = .ok (.invokevirtual 44, 3) := by decide +kernel
theorem dX5_parseCommand_121 : decode cX5_parseCommand 121 = .ok (.ifCond .eq 15, 3) := by decide +kernel
theorem dX5_parseCommand_124 : decode cX5_parseCommand 124 = .ok (.aload_n 0, 1) := by decide +kernel
theorem dX5_parseCommand_125 : decode cX5_parseCommand 125 = .ok (.aload_n 0, 1) := by decide +kernel
theorem dX5_parseCommand_126 : decode cX5_parseCommand 126 = .ok (.getfield 22, 3) := by decide +kernel
theorem dX5_parseCommand_129 : decode cX5_parseCommand 129 = .ok (.iload_n 1, 1) := by decide +kernel
theorem dX5_parseCommand_130 : decode cX5_parseCommand 130 = .ok (.invokevirtual 48, 3) := by decide +kernel
theorem dX5_parseCommand_133 : decode cX5_parseCommand 133 = .ok (.ifCond .ne 5, 3) := by decide +kernel
theorem dX5_parseCommand_136 : decode cX5_parseCommand 136 = .ok (.iconst 0, 1) := by decide +kernel
theorem dX5_parseCommand_137 : decode cX5_parseCommand 137 = .ok (.ireturn, 1) := by decide +kernel
theorem dX5_parseCommand_138 : decode cX5_parseCommand 138 = .ok (.aload_n 0, 1) := by decide +kernel
theorem dX5_parseCommand_139 : decode cX5_parseCommand 139 = .ok (.bipush 59, 2) := by decide +kernel
theorem dX5_parseCommand_141 : decode cX5_parseCommand 141 = .ok (.invokevirtual 44, 3) := by decide +kernel
theorem dX5_parseCommand_144 : decode cX5_parseCommand 144 = .ok (.ireturn, 1) := by decide +kernel
theorem dX5_wordFrom_0 : decode cX5_wordFrom 0 = .ok (.aload_n 0, 1) := by decide +kernel
theorem dX5_wordFrom_1 : decode cX5_wordFrom 1 = .ok (.ldc 52, 2) := by decide +kernel
theorem dX5_wordFrom_3 : decode cX5_wordFrom 3 = .ok (.iload_n 1, 1) := by decide +kernel
theorem dX5_wordFrom_4 : decode cX5_wordFrom 4 = .ok (.invokevirtual 54, 3) := by decide +kernel
theorem dX5_wordFrom_7 : decode cX5_wordFrom 7 = .ok (.ifCond .eq 5, 3) := by decide +kernel
theorem dX5_wordFrom_10 : decode cX5_wordFrom 10 = .ok (.iconst 0, 1) := by decide +kernel
theorem dX5_wordFrom_11 : decode cX5_wordFrom 11 = .ok (.ireturn, 1) := by decide +kernel
theorem dX5_wordFrom_12 : decode cX5_wordFrom 12 = .ok (.aload_n 0, 1) := by decide +kernel
theorem dX5_wordFrom_13 : decode cX5_wordFrom 13 = .ok (.ldc 58, 2) := by decide +kernel
theorem dX5_wordFrom_15 : decode cX5_wordFrom 15 = .ok (.iload_n 1, 1) := by decide +kernel
theorem dX5_wordFrom_16 : decode cX5_wordFrom 16 = .ok (.invokevirtual 54, 3) := by decide +kernel
theorem dX5_wordFrom_19 : decode cX5_wordFrom 19 = .ok (.ifCond .eq 5, 3) := by decide +kernel
theorem dX5_wordFrom_22 : decode cX5_wordFrom 22 = .ok (.iconst 1, 1) := by decide +kernel
theorem dX5_wordFrom_23 : decode cX5_wordFrom 23 = .ok (.ireturn, 1) := by decide +kernel
theorem dX5_wordFrom_24 : decode cX5_wordFrom 24 = .ok (.aload_n 0, 1) := by decide +kernel
theorem dX5_wordFrom_25 : decode cX5_wordFrom 25 = .ok (.ldc 60, 2) := by decide +kernel
theorem dX5_wordFrom_27 : decode cX5_wordFrom 27 = .ok (.iload_n 1, 1) := by decide +kernel
theorem dX5_wordFrom_28 : decode cX5_wordFrom 28 = .ok (.invokevirtual 54, 3) := by decide +kernel
theorem dX5_wordFrom_31 : decode cX5_wordFrom 31 = .ok (.ifCond .eq 5, 3) := by decide +kernel
theorem dX5_wordFrom_34 : decode cX5_wordFrom 34 = .ok (.iconst 2, 1) := by decide +kernel
theorem dX5_wordFrom_35 : decode cX5_wordFrom 35 = .ok (.ireturn, 1) := by decide +kernel
theorem dX5_wordFrom_36 : decode cX5_wordFrom 36 = .ok (.aload_n 0, 1) := by decide +kernel
theorem dX5_wordFrom_37 : decode cX5_wordFrom 37 = .ok (.ldc 62, 2) := by decide +kernel
theorem dX5_wordFrom_39 : decode cX5_wordFrom 39 = .ok (.iload_n 1, 1) := by decide +kernel
theorem dX5_wordFrom_40 : decode cX5_wordFrom 40 = .ok (.invokevirtual 54, 3) := by decide +kernel
theorem dX5_wordFrom_43 : decode cX5_wordFrom 43 = .ok (.ifCond .eq 5, 3) := by decide +kernel
theorem dX5_wordFrom_46 : decode cX5_wordFrom 46 = .ok (.iconst 3, 1) := by decide +kernel
theorem dX5_wordFrom_47 : decode cX5_wordFrom 47 = .ok (.ireturn, 1) := by decide +kernel
theorem dX5_wordFrom_48 : decode cX5_wordFrom 48 = .ok (.aload_n 0, 1) := by decide +kernel
theorem dX5_wordFrom_49 : decode cX5_wordFrom 49 = .ok (.ldc 64, 2) := by decide +kernel
theorem dX5_wordFrom_51 : decode cX5_wordFrom 51 = .ok (.iload_n 1, 1) := by decide +kernel
theorem dX5_wordFrom_52 : decode cX5_wordFrom 52 = .ok (.invokevirtual 54, 3) := by decide +kernel
theorem dX5_wordFrom_55 : decode cX5_wordFrom 55 = .ok (.ifCond .eq 5, 3) := by decide +kernel
theorem dX5_wordFrom_58 : decode cX5_wordFrom 58 = .ok (.iconst 4, 1) := by decide +kernel
theorem dX5_wordFrom_59 : decode cX5_wordFrom 59 = .ok (.ireturn, 1) := by decide +kernel
theorem dX5_wordFrom_60 : decode cX5_wordFrom 60 = .ok (.aload_n 0, 1) := by decide +kernel
theorem dX5_wordFrom_61 : decode cX5_wordFrom 61 = .ok (.ldc 66, 2) := by decide +kernel
theorem dX5_wordFrom_63 : decode cX5_wordFrom 63 = .ok (.iload_n 1, 1) := by decide +kernel
theorem dX5_wordFrom_64 : decode cX5_wordFrom 64 = .ok (.invokevirtual 54, 3) := by decide +kernel
theorem dX5_wordFrom_67 : decode cX5_wordFrom 67 = .ok (.ifCond .eq 5, 3) := by decide +kernel
theorem dX5_wordFrom_70 : decode cX5_wordFrom 70 = .ok (.iconst 5, 1) := by decide +kernel
theorem dX5_wordFrom_71 : decode cX5_wordFrom 71 = .ok (.ireturn, 1) := by decide +kernel
theorem dX5_wordFrom_72 : decode cX5_wordFrom 72 = .ok (.aload_n 0, 1) := by decide +kernel
theorem dX5_wordFrom_73 : decode cX5_wordFrom 73 = .ok (.ldc 68, 2) := by decide +kernel
theorem dX5_wordFrom_75 : decode cX5_wordFrom 75 = .ok (.iload_n 1, 1) := by decide +kernel
theorem dX5_wordFrom_76 : decode cX5_wordFrom 76 = .ok (.invokevirtual 54, 3) := by decide +kernel
theorem dX5_wordFrom_79 : decode cX5_wordFrom 79 = .ok (.ifCond .eq 8, 3) := by decide +kernel
theorem dX5_wordFrom_82 : decode cX5_wordFrom 82 = .ok (.bipush 6, 2) := by decide +kernel
theorem dX5_wordFrom_84 : decode cX5_wordFrom 84 = .ok (.goto 4, 3) := by decide +kernel
theorem dX5_wordFrom_87 : decode cX5_wordFrom 87 = .ok (.iconst (-1), 1) := by decide +kernel
theorem dX5_wordFrom_88 : decode cX5_wordFrom 88 = .ok (.ireturn, 1) := by decide +kernel
theorem dX5_isWord_0 : decode cX5_isWord 0 = .ok (.aload_n 0, 1) := by decide +kernel
theorem dX5_isWord_1 : decode cX5_isWord 1 = .ok (.getfield 29, 3) := by decide +kernel
theorem dX5_isWord_4 : decode cX5_isWord 4 = .ok (.iload_n 2, 1) := by decide +kernel
theorem dX5_isWord_5 : decode cX5_isWord 5 = .ok (.isub, 1) := by decide +kernel
theorem dX5_isWord_6 : decode cX5_isWord 6 = .ok (.aload_n 1, 1) := by decide +kernel
theorem dX5_isWord_7 : decode cX5_isWord 7 = .ok (.invokevirtual 70, 3) := by decide +kernel
theorem dX5_isWord_10 : decode cX5_isWord 10 = .ok (.if_icmp .eq 5, 3) := by decide +kernel
theorem dX5_isWord_13 : decode cX5_isWord 13 = .ok (.iconst 0, 1) := by decide +kernel
theorem dX5_isWord_14 : decode cX5_isWord 14 = .ok (.ireturn, 1) := by decide +kernel
theorem dX5_isWord_15 : decode cX5_isWord 15 = .ok (.iconst 0, 1) := by decide +kernel
theorem dX5_isWord_16 : decode cX5_isWord 16 = .ok (.istore_n 3, 1) := by decide +kernel
theorem dX5_isWord_17 : decode cX5_isWord 17 = .ok (.iload_n 3, 1) := by decide +kernel
theorem dX5_isWord_18 : decode cX5_isWord 18 = .ok (.aload_n 1, 1) := by decide +kernel
theorem dX5_isWord_19 : decode cX5_isWord 19 = .ok (.invokevirtual 70, 3) := by decide +kernel
theorem dX5_isWord_22 : decode cX5_isWord 22 = .ok (.if_icmp .ge 27, 3) := by decide +kernel
theorem dX5_isWord_25 : decode cX5_isWord 25 = .ok (.aload_n 1, 1) := by decide +kernel
theorem dX5_isWord_26 : decode cX5_isWord 26 = .ok (.iload_n 3, 1) := by decide +kernel
theorem dX5_isWord_27 : decode cX5_isWord 27 = .ok (.invokevirtual 75, 3) := by decide +kernel
theorem dX5_isWord_30 : decode cX5_isWord 30 = .ok (.aload_n 0, 1) := by decide +kernel
theorem dX5_isWord_31 : decode cX5_isWord 31 = .ok (.getfield 9, 3) := by decide +kernel
theorem dX5_isWord_34 : decode cX5_isWord 34 = .ok (.iload_n 2, 1) := by decide +kernel
theorem dX5_isWord_35 : decode cX5_isWord 35 = .ok (.iload_n 3, 1) := by decide +kernel
theorem dX5_isWord_36 : decode cX5_isWord 36 = .ok (.iadd, 1) := by decide +kernel
theorem dX5_isWord_37 : decode cX5_isWord 37 = .ok (.caload, 1) := by decide +kernel
theorem dX5_isWord_38 : decode cX5_isWord 38 = .ok (.if_icmp .eq 5, 3) := by decide +kernel
theorem dX5_isWord_41 : decode cX5_isWord 41 = .ok (.iconst 0, 1) := by decide +kernel
theorem dX5_isWord_42 : decode cX5_isWord 42 = .ok (.ireturn, 1) := by decide +kernel
theorem dX5_isWord_43 : decode cX5_isWord 43 = .ok (.iinc 3 1, 3) := by decide +kernel
theorem dX5_isWord_46 : decode cX5_isWord 46 = .ok (.goto (-29), 3) := by decide +kernel
theorem dX5_isWord_49 : decode cX5_isWord 49 = .ok (.iconst 1, 1) := by decide +kernel
theorem dX5_isWord_50 : decode cX5_isWord 50 = .ok (.ireturn, 1) := by decide +kernel
theorem dX5_parseNumber_0 : decode cX5_parseNumber 0 = .ok (.aload_n 0, 1) := by decide +kernel
theorem dX5_parseNumber_1 : decode cX5_parseNumber 1 = .ok (.getfield 29, 3) := by decide +kernel
theorem dX5_parseNumber_4 : decode cX5_parseNumber 4 = .ok (.istore_n 3, 1) := by decide +kernel
theorem dX5_parseNumber_5 : decode cX5_parseNumber 5 = .ok (.iconst 0, 1) := by decide +kernel
theorem dX5_parseNumber_6 : decode cX5_parseNumber 6 = .ok (.istore 4, 2) := by decide +kernel
theorem dX5_parseNumber_8 : decode cX5_parseNumber 8 = .ok (.aload_n 0, 1) := by decide +kernel
theorem dX5_parseNumber_9 : decode cX5_parseNumber 9 = .ok (.getfield 29, 3) := by decide +kernel
theorem dX5_parseNumber_12 : decode cX5_parseNumber 12 = .ok (.iload_n 3, 1) := by decide +kernel
theorem dX5_parseNumber_13 : decode cX5_parseNumber 13 = .ok (.iconst 3, 1) := by decide +kernel
theorem dX5_parseNumber_14 : decode cX5_parseNumber 14 = .ok (.iadd, 1) := by decide +kernel
theorem dX5_parseNumber_15 : decode cX5_parseNumber 15 = .ok (.if_icmp .ge 47, 3) := by decide +kernel
theorem dX5_parseNumber_18 : decode cX5_parseNumber 18 = .ok (.aload_n 0, 1) := by decide +kernel
theorem dX5_parseNumber_19 : decode cX5_parseNumber 19 = .ok (.bipush 48, 2) := by decide +kernel
theorem dX5_parseNumber_21 : decode cX5_parseNumber 21 = .ok (.bipush 57, 2) := by decide +kernel
theorem dX5_parseNumber_23 : decode cX5_parseNumber 23 = .ok (.invokevirtual 36, 3) := by decide +kernel
theorem dX5_parseNumber_26 : decode cX5_parseNumber 26 = .ok (.ifCond .eq 36, 3) := by decide +kernel
theorem dX5_parseNumber_29 : decode cX5_parseNumber 29 = .ok (.bipush 10, 2) := by decide +kernel
theorem dX5_parseNumber_31 : decode cX5_parseNumber 31 = .ok (.iload 4, 2) := by decide +kernel
theorem dX5_parseNumber_33 : decode cX5_parseNumber 33 = .ok (.imul, 1) := by decide +kernel
theorem dX5_parseNumber_34 : decode cX5_parseNumber 34 = .ok (.aload_n 0, 1) := by decide +kernel
theorem dX5_parseNumber_35 : decode cX5_parseNumber 35 = .ok (.getfield 9, 3) := by decide +kernel
theorem dX5_parseNumber_38 : decode cX5_parseNumber 38 = .ok (.aload_n 0, 1) := by decide +kernel
theorem dX5_parseNumber_39 : decode cX5_parseNumber 39 = .ok (.getfield 29, 3) := by decide +kernel
theorem dX5_parseNumber_42 : decode cX5_parseNumber 42 = .ok (.caload, 1) := by decide +kernel
theorem dX5_parseNumber_43 : decode cX5_parseNumber 43 = .ok (.iadd, 1) := by decide +kernel
theorem dX5_parseNumber_44 : decode cX5_parseNumber 44 = .ok (.bipush 48, 2) := by decide +kernel
theorem dX5_parseNumber_46 : decode cX5_parseNumber 46 = .ok (.isub, 1) := by decide +kernel
theorem dX5_parseNumber_47 : decode cX5_parseNumber 47 = .ok (.istore 4, 2) := by decide +kernel
theorem dX5_parseNumber_49 : decode cX5_parseNumber 49 = .ok (.aload_n 0, 1) := by decide +kernel
theorem dX5_parseNumber_50 : decode cX5_parseNumber 50 = .ok (.dup, 1) := by decide +kernel
theorem dX5_parseNumber_51 : decode cX5_parseNumber 51 = .ok (.getfield 29, 3) := by decide +kernel
theorem dX5_parseNumber_54 : decode cX5_parseNumber 54 = .ok (.iconst 1, 1) := by decide +kernel
theorem dX5_parseNumber_55 : decode cX5_parseNumber 55 = .ok (.iadd, 1) := by decide +kernel
theorem dX5_parseNumber_56 : decode cX5_parseNumber 56 = .ok (.putfield 29, 3) := by decide +kernel
theorem dX5_parseNumber_59 : decode cX5_parseNumber 59 = .ok (.goto (-51), 3) := by decide +kernel
theorem dX5_parseNumber_62 : decode cX5_parseNumber 62 = .ok (.aload_n 1, 1) := by decide +kernel
theorem dX5_parseNumber_63 : decode cX5_parseNumber 63 = .ok (.iload_n 2, 1) := by decide +kernel
theorem dX5_parseNumber_64 : decode cX5_parseNumber 64 = .ok (.iload 4, 2) := by decide +kernel
theorem dX5_parseNumber_66 : decode cX5_parseNumber 66 = .ok (.iastore, 1) := by decide +kernel
theorem dX5_parseNumber_67 : decode cX5_parseNumber 67 = .ok (.aload_n 0, 1) := by decide +kernel
theorem dX5_parseNumber_68 : decode cX5_parseNumber 68 = .ok (.getfield 29, 3) := by decide +kernel
theorem dX5_parseNumber_71 : decode cX5_parseNumber 71 = .ok (.iload_n 3, 1) := by decide +kernel
theorem dX5_parseNumber_72 : decode cX5_parseNumber 72 = .ok (.if_icmp .le 7, 3) := by decide +kernel
theorem dX5_parseNumber_75 : decode cX5_parseNumber 75 = .ok (.iconst 1, 1) := by decide +kernel
theorem dX5_parseNumber_76 : decode cX5_parseNumber 76 = .ok (.goto 4, 3) := by decide +kernel
theorem dX5_parseNumber_79 : decode cX5_parseNumber 79 = .ok (.iconst 0, 1) := by decide +kernel
theorem dX5_parseNumber_80 : decode cX5_parseNumber 80 = .ok (.ireturn, 1) := by decide +kernel
theorem dX5_skip_0 : decode cX5_skip 0 = .ok (.aload_n 0, 1) := by decide +kernel
theorem dX5_skip_1 : decode cX5_skip 1 = .ok (.iload_n 1, 1) := by decide +kernel
theorem dX5_skip_2 : decode cX5_skip 2 = .ok (.iload_n 1, 1) := by decide +kernel
theorem dX5_skip_3 : decode cX5_skip 3 = .ok (.invokevirtual 36, 3) := by decide +kernel
theorem dX5_skip_6 : decode cX5_skip 6 = .ok (.ifCond .ne 5, 3) := by decide +kernel
theorem dX5_skip_9 : decode cX5_skip 9 = .ok (.iconst 0, 1) := by decide +kernel
theorem dX5_skip_10 : decode cX5_skip 10 = .ok (.ireturn, 1) := by decide +kernel
theorem dX5_skip_11 : decode cX5_skip 11 = .ok (.aload_n 0, 1) := by decide +kernel
theorem dX5_skip_12 : decode cX5_skip 12 = .ok (.dup, 1) := by decide +kernel
theorem dX5_skip_13 : decode cX5_skip 13 = .ok (.getfield 29, 3) := by decide +kernel
theorem dX5_skip_16 : decode cX5_skip 16 = .ok (.iconst 1, 1) := by decide +kernel
theorem dX5_skip_17 : decode cX5_skip 17 = .ok (.iadd, 1) := by decide +kernel
theorem dX5_skip_18 : decode cX5_skip 18 = .ok (.putfield 29, 3) := by decide +kernel
theorem dX5_skip_21 : decode cX5_skip 21 = .ok (.iconst 1, 1) := by decide +kernel
theorem dX5_skip_22 : decode cX5_skip 22 = .ok (.ireturn, 1) := by decide +kernel
theorem dX5_isBetween_0 : decode cX5_isBetween 0 = .ok (.aload_n 0, 1) := by decide +kernel
theorem dX5_isBetween_1 : decode cX5_isBetween 1 = .ok (.getfield 29, 3) := by decide +kernel
theorem dX5_isBetween_4 : decode cX5_isBetween 4 = .ok (.ifCond .lt 53, 3) := by decide +kernel
theorem dX5_isBetween_7 : decode cX5_isBetween 7 = .ok (.aload_n 0, 1) := by decide +kernel
theorem dX5_isBetween_8 : decode cX5_isBetween 8 = .ok (.getfield 29, 3) := by decide +kernel
theorem dX5_isBetween_11 : decode cX5_isBetween 11 = .ok (.aload_n 0, 1) := by decide +kernel
theorem dX5_isBetween_12 : decode cX5_isBetween 12 = .ok (.getfield 25, 3) := by decide +kernel
theorem dX5_isBetween_15 : decode cX5_isBetween 15 = .ok (.if_icmp .ge 42, 3) := by decide +kernel
theorem dX5_isBetween_18 : decode cX5_isBetween 18 = .ok (.aload_n 0, 1) := by decide +kernel
theorem dX5_isBetween_19 : decode cX5_isBetween 19 = .ok (.getfield 29, 3) := by decide +kernel
theorem dX5_isBetween_22 : decode cX5_isBetween 22 = .ok (.bipush 80, 2) := by decide +kernel
theorem dX5_isBetween_24 : decode cX5_isBetween 24 = .ok (.if_icmp .ge 33, 3) := by decide +kernel
theorem dX5_isBetween_27 : decode cX5_isBetween 27 = .ok (.aload_n 0, 1) := by decide +kernel
theorem dX5_isBetween_28 : decode cX5_isBetween 28 = .ok (.getfield 9, 3) := by decide +kernel
theorem dX5_isBetween_31 : decode cX5_isBetween 31 = .ok (.aload_n 0, 1) := by decide +kernel
theorem dX5_isBetween_32 : decode cX5_isBetween 32 = .ok (.getfield 29, 3) := by decide +kernel
theorem dX5_isBetween_35 : decode cX5_isBetween 35 = .ok (.caload, 1) := by decide +kernel
theorem dX5_isBetween_36 : decode cX5_isBetween 36 = .ok (.iload_n 1, 1) := by decide +kernel
theorem dX5_isBetween_37 : decode cX5_isBetween 37 = .ok (.if_icmp .lt 20, 3) := by decide +kernel
theorem dX5_isBetween_40 : decode cX5_isBetween 40 = .ok (.aload_n 0, 1) := by decide +kernel
theorem dX5_isBetween_41 : decode cX5_isBetween 41 = .ok (.getfield 9, 3) := by decide +kernel
theorem dX5_isBetween_44 : decode cX5_isBetween 44 = .ok (.aload_n 0, 1) := by decide +kernel
theorem dX5_isBetween_45 : decode cX5_isBetween 45 = .ok (.getfield 29, 3) := by decide +kernel
theorem dX5_isBetween_48 : decode cX5_isBetween 48 = .ok (.caload, 1) := by decide +kernel
theorem dX5_isBetween_49 : decode cX5_isBetween 49 = .ok (.iload_n 2, 1) := by decide +kernel
theorem dX5_isBetween_50 : decode cX5_isBetween 50 = .ok (.if_icmp .gt 7, 3) := by decide +kernel
theorem dX5_isBetween_53 : decode cX5_isBetween 53 = .ok (.iconst 1, 1) := by decide +kernel
theorem dX5_isBetween_54 : decode cX5_isBetween 54 = .ok (.goto 4, 3) := by decide +kernel
theorem dX5_isBetween_57 : decode cX5_isBetween 57 = .ok (.iconst 0, 1) := by decide +kernel
theorem dX5_isBetween_58 : decode cX5_isBetween 58 = .ok (.ireturn, 1) := by decide +kernel
theorem dX6_init_0 : decode cX6_init 0 = .ok (.aload_n 0, 1) := by decide +kernel
theorem dX6_init_1 : decode cX6_init 1 = .ok (.invokespecial 3, 3) := by decide +kernel
theorem dX6_init_4 : decode cX6_init 4 = .ok (.aload_n 0, 1) := by decide +kernel
theorem dX6_init_5 : decode cX6_init 5 = .ok (.new 9, 3) := by decide +kernel
theorem dX6_init_8 : decode cX6_init 8 = .ok (.dup, 1) := by decide +kernel
theorem dX6_init_9 : decode cX6_init 9 = .ok (.invokespecial 11, 3) := by decide +kernel
theorem dX6_init_12 : decode cX6_init 12 = .ok (.putfield 12, 3) := by decide +kernel
theorem dX6_init_15 : decode cX6_init 15 = .ok (.aload_n 0, 1) := by decide +kernel
theorem dX6_init_16 : decode cX6_init 16 = .ok (.new 16, 3) := by decide +kernel
theorem dX6_init_19 : decode cX6_init 19 = .ok (.dup, 1) := by decide +kernel
theorem dX6_init_20 : decode cX6_init 20 = .ok (.invokespecial 18, 3) := by decide +kernel
theorem dX6_init_23 : decode cX6_init 23 = .ok (.putfield 19, 3) := by decide +kernel
theorem dX6_init_26 : decode cX6_init 26 = .ok (.aload_n 0, 1) := by decide +kernel
theorem dX6_init_27 : decode cX6_init 27 = .ok (.new 23, 3) := by decide +kernel
theorem dX6_init_30 : decode cX6_init 30 = .ok (.dup, 1) := by decide +kernel
theorem dX6_init_31 : decode cX6_init 31 = .ok (.invokespecial 25, 3) := by decide +kernel
theorem dX6_init_34 : decode cX6_init 34 = .ok (.putfield 26, 3) := by decide +kernel
theorem dX6_init_37 : decode cX6_init 37 = .ok (.aload_n 0, 1) := by decide +kernel
theorem dX6_init_38 : decode cX6_init 38 = .ok (.getfield 12, 3) := by decide +kernel
theorem dX6_init_41 : decode cX6_init 41 = .ok (.bipush 7, 2) := by decide +kernel
theorem dX6_init_43 : decode cX6_init 43 = .ok (.iconst 0, 1) := by decide +kernel
theorem dX6_init_44 : decode cX6_init 44 = .ok (.invokevirtual 30, 3) := by decide +kernel
theorem dX6_init_47 : decode cX6_init 47 = .ok (.return_, 1) := by decide +kernel
theorem dX6_start_0 : decode cX6_start 0 = .ok (.iload_n 1, 1) := by decide +kernel
theorem dX6_start_1 : decode cX6_start 1 = .ok (.invokestatic 34, 3) := by decide +kernel
theorem dX6_start_4 : decode cX6_start 4 = .ok (.ifCond .ne 13, 3) := by decide +kernel
theorem dX6_start_7 : decode cX6_start 7 = .ok (.new 38, 3) := by decide +kernel
theorem dX6_start_10 : decode cX6_start 10 = .ok (.dup, 1) := by decide +kernel
theorem dX6_start_11 : decode cX6_start 11 = .ok (.ldc 40, 2) := by decide +kernel
theorem dX6_start_13 : decode cX6_start 13 = .ok (.invokespecial 42, 3) := by decide +kernel
theorem dX6_start_16 : decode cX6_start 16 = .ok (.athrow, 1) := by decide +kernel
theorem dX6_start_17 : decode cX6_start 17 = .ok (.aload_n 0, 1) := by decide +kernel
theorem dX6_start_18 : decode cX6_start 18 = .ok (.getfield 12, 3) := by decide +kernel
theorem dX6_start_21 : decode cX6_start 21 = .ok (.iload_n 1, 1) := by decide +kernel
theorem dX6_start_22 : decode cX6_start 22 = .ok (.iload_n 2, 1) := by decide +kernel
theorem dX6_start_23 : decode cX6_start 23 = .ok (.invokevirtual 30, 3) := by decide +kernel
theorem dX6_start_26 : decode cX6_start 26 = .ok (.iload_n 1, 1) := by decide +kernel
theorem dX6_start_27 : decode cX6_start 27 = .ok (.invokestatic 45, 3) := by decide +kernel
theorem dX6_start_30 : decode cX6_start 30 = .ok (.ireturn, 1) := by decide +kernel
theorem dX6_tick_0 : decode cX6_tick 0 = .ok (.iload_n 1, 1) := by decide +kernel
theorem dX6_tick_1 : decode cX6_tick 1 = .ok (.invokestatic 51, 3) := by decide +kernel
theorem dX6_tick_4 : decode cX6_tick 4 = .ok (.ifCond .ne 13, 3) := by decide +kernel
theorem dX6_tick_7 : decode cX6_tick 7 = .ok (.new 38, 3) := by decide +kernel
theorem dX6_tick_10 : decode cX6_tick 10 = .ok (.dup, 1) := by decide +kernel
theorem dX6_tick_11 : decode cX6_tick 11 = .ok (.ldc 54, 2) := by decide +kernel
theorem dX6_tick_13 : decode cX6_tick 13 = .ok (.invokespecial 42, 3) := by decide +kernel
theorem dX6_tick_16 : decode cX6_tick 16 = .ok (.athrow, 1) := by decide +kernel
theorem dX6_tick_17 : decode cX6_tick 17 = .ok (.aload_n 0, 1) := by decide +kernel
theorem dX6_tick_18 : decode cX6_tick 18 = .ok (.getfield 12, 3) := by decide +kernel
theorem dX6_tick_21 : decode cX6_tick 21 = .ok (.iload_n 1, 1) := by decide +kernel
theorem dX6_tick_22 : decode cX6_tick 22 = .ok (.invokevirtual 56, 3) := by decide +kernel
theorem dX6_tick_25 : decode cX6_tick 25 = .ok (.aload_n 0, 1) := by decide +kernel
theorem dX6_tick_26 : decode cX6_tick 26 = .ok (.getfield 12, 3) := by decide +kernel
theorem dX6_tick_29 : decode cX6_tick 29 = .ok (.getfield 60, 3) := by decide +kernel
theorem dX6_tick_32 : decode cX6_tick 32 = .ok (.ireturn, 1) := by decide +kernel
theorem dX6_setDelay_0 : decode cX6_setDelay 0 = .ok (.iload_n 1, 1) := by decide +kernel
theorem dX6_setDelay_1 : decode cX6_setDelay 1 = .ok (.iconst 1, 1) := by decide +kernel
theorem dX6_setDelay_2 : decode cX6_setDelay 2 = .ok (.if_icmp .lt 8, 3) := by decide +kernel
theorem dX6_setDelay_5 : decode cX6_setDelay 5 = .ok (.iload_n 1, 1) := by decide +kernel
theorem dX6_setDelay_6 : decode cX6_setDelay 6 = .ok (.iconst 5, 1) := by decide +kernel
theorem dX6_setDelay_7 : decode cX6_setDelay 7 = .ok (.if_icmp .le 13, 3) := by decide +kernel
theorem dX6_setDelay_10 : decode cX6_setDelay 10 = .ok (.new 38, 3) := by decide +kernel
theorem dX6_setDelay_13 : decode cX6_setDelay 13 = .ok (.dup, 1) := by decide +kernel
theorem dX6_setDelay_14 : decode cX6_setDelay 14 = .ok (.ldc 64, 2) := by decide +kernel
theorem dX6_setDelay_16 : decode cX6_setDelay 16 = .ok (.invokespecial 42, 3) := by decide +kernel
theorem dX6_setDelay_19 : decode cX6_setDelay 19 = .ok (.athrow, 1) := by decide +kernel
theorem dX6_setDelay_20 : decode cX6_setDelay 20 = .ok (.aload_n 0, 1) := by decide +kernel
theorem dX6_setDelay_21 : decode cX6_setDelay 21 = .ok (.getfield 12, 3) := by decide +kernel
theorem dX6_setDelay_24 : decode cX6_setDelay 24 = .ok (.getfield 66, 3) := by decide +kernel
theorem dX6_setDelay_27 : decode cX6_setDelay 27 = .ok (.getfield 70, 3) := by decide +kernel
theorem dX6_setDelay_30 : decode cX6_setDelay 30 = .ok (.istore_n 2, 1) := by decide +kernel
theorem dX6_setDelay_31 : decode cX6_setDelay 31 = .ok (.aload_n 0, 1) := by decide +kernel
theorem dX6_setDelay_32 : decode cX6_setDelay 32 = .ok (.getfield 12, 3) := by decide +kernel
theorem dX6_setDelay_35 : decode cX6_setDelay 35 = .ok (.getfield 66, 3) := by decide +kernel
theorem dX6_setDelay_38 : decode cX6_setDelay 38 = .ok (.iload_n 1, 1) := by decide +kernel
theorem dX6_setDelay_39 : decode cX6_setDelay 39 = .ok (.putfield 70, 3) := by decide +kernel
theorem dX6_setDelay_42 : decode cX6_setDelay 42 = .ok (.iload_n 2, 1) := by decide +kernel
theorem dX6_setDelay_43 : decode cX6_setDelay 43 = .ok (.ireturn, 1) := by decide +kernel
theorem dX6_setLink_0 : decode cX6_setLink 0 = .ok (.iload_n 1, 1) := by decide +kernel
theorem dX6_setLink_1 : decode cX6_setLink 1 = .ok (.invokestatic 75, 3) := by decide +kernel
theorem dX6_setLink_4 : decode cX6_setLink 4 = .ok (.ifCond .eq 10, 3) := by decide +kernel
theorem dX6_setLink_7 : decode cX6_setLink 7 = .ok (.iload_n 2, 1) := by decide +kernel
theorem dX6_setLink_8 : decode cX6_setLink 8 = .ok (.invokestatic 75, 3) := by decide +kernel
theorem dX6_setLink_11 : decode cX6_setLink 11 = .ok (.ifCond .ne 13, 3) := by decide +kernel
theorem dX6_setLink_14 : decode cX6_setLink 14 = .ok (.new 78, 3) := by decide +kernel
theorem dX6_setLink_17 : decode cX6_setLink 17 = .ok (.dup, 1) := by decide +kernel
theorem dX6_setLink_18 : decode cX6_setLink 18 = .ok (.ldc 80, 2) := by decide +kernel
theorem dX6_setLink_20 : decode cX6_setLink 20 = .ok (.invokespecial 82, 3) := by decide +kernel
theorem dX6_setLink_23 : decode cX6_setLink 23 = .ok (.athrow, 1) := by decide +kernel
theorem dX6_setLink_24 : decode cX6_setLink 24 = .ok (.iload_n 1, 1) := by decide +kernel
theorem dX6_setLink_25 : decode cX6_setLink 25 = .ok (.iload_n 2, 1) := by decide +kernel
theorem dX6_setLink_26 : decode cX6_setLink 26 = .ok (.if_icmp .ne 13, 3) := by decide +kernel
theorem dX6_setLink_29 : decode cX6_setLink 29 = .ok (.new 38, 3) := by decide +kernel
theorem dX6_setLink_32 : decode cX6_setLink 32 = .ok (.dup, 1) := by decide +kernel
theorem dX6_setLink_33 : decode cX6_setLink 33 = .ok (.ldc 83, 2) := by decide +kernel
theorem dX6_setLink_35 : decode cX6_setLink 35 = .ok (.invokespecial 42, 3) := by decide +kernel
theorem dX6_setLink_38 : decode cX6_setLink 38 = .ok (.athrow, 1) := by decide +kernel
theorem dX6_setLink_39 : decode cX6_setLink 39 = .ok (.aload_n 0, 1) := by decide +kernel
theorem dX6_setLink_40 : decode cX6_setLink 40 = .ok (.getfield 12, 3) := by decide +kernel
theorem dX6_setLink_43 : decode cX6_setLink 43 = .ok (.getfield 66, 3) := by decide +kernel
theorem dX6_setLink_46 : decode cX6_setLink 46 = .ok (.iload_n 1, 1) := by decide +kernel
theorem dX6_setLink_47 : decode cX6_setLink 47 = .ok (.iload_n 2, 1) := by decide +kernel
theorem dX6_setLink_48 : decode cX6_setLink 48 = .ok (.invokevirtual 85, 3) := by decide +kernel
theorem dX6_setLink_51 : decode cX6_setLink 51 = .ok (.istore 4, 2) := by decide +kernel
theorem dX6_setLink_53 : decode cX6_setLink 53 = .ok (.aload_n 0, 1) := by decide +kernel
theorem dX6_setLink_54 : decode cX6_setLink 54 = .ok (.getfield 12, 3) := by decide +kernel
theorem dX6_setLink_57 : decode cX6_setLink 57 = .ok (.getfield 66, 3) := by decide +kernel
theorem dX6_setLink_60 : decode cX6_setLink 60 = .ok (.iload_n 1, 1) := by decide +kernel
theorem dX6_setLink_61 : decode cX6_setLink 61 = .ok (.iload_n 2, 1) := by decide +kernel
theorem dX6_setLink_62 : decode cX6_setLink 62 = .ok (.iload_n 3, 1) := by decide +kernel
theorem dX6_setLink_63 : decode cX6_setLink 63 = .ok (.invokevirtual 89, 3) := by decide +kernel
theorem dX6_setLink_66 : decode cX6_setLink 66 = .ok (.iload 4, 2) := by decide +kernel
theorem dX6_setLink_68 : decode cX6_setLink 68 = .ok (.ireturn, 1) := by decide +kernel
theorem dX6_crash_0 : decode cX6_crash 0 = .ok (.aload_n 0, 1) := by decide +kernel
theorem dX6_crash_1 : decode cX6_crash 1 = .ok (.iload_n 1, 1) := by decide +kernel
theorem dX6_crash_2 : decode cX6_crash 2 = .ok (.invokevirtual 93, 3) := by decide +kernel
theorem dX6_crash_5 : decode cX6_crash 5 = .ok (.astore_n 2, 1) := by decide +kernel
theorem dX6_crash_6 : decode cX6_crash 6 = .ok (.aload_n 2, 1) := by decide +kernel
theorem dX6_crash_7 : decode cX6_crash 7 = .ok (.getfield 97, 3) := by decide +kernel
theorem dX6_crash_10 : decode cX6_crash 10 = .ok (.ifCond .ne 13, 3) := by decide +kernel
theorem dX6_crash_13 : decode cX6_crash 13 = .ok (.new 103, 3) := by decide +kernel
theorem dX6_crash_16 : decode cX6_crash 16 = .ok (.dup, 1) := by decide +kernel
theorem dX6_crash_17 : decode cX6_crash 17 = .ok (.ldc 105, 2) := by decide +kernel
theorem dX6_crash_19 : decode cX6_crash 19 = .ok (.invokespecial 107, 3) := by decide +kernel
theorem dX6_crash_22 : decode cX6_crash 22 = .ok (.athrow, 1) := by decide +kernel
theorem dX6_crash_23 : decode cX6_crash 23 = .ok (.aload_n 2, 1) := by decide +kernel
theorem dX6_crash_24 : decode cX6_crash 24 = .ok (.invokevirtual 108, 3) := by decide +kernel
theorem dX6_crash_27 : decode cX6_crash 27 = .ok (.aload_n 2, 1) := by decide +kernel
theorem dX6_crash_28 : decode cX6_crash 28 = .ok (.getfield 111, 3) := by decide +kernel
theorem dX6_crash_31 : decode cX6_crash 31 = .ok (.ireturn, 1) := by decide +kernel
theorem dX6_restart_0 : decode cX6_restart 0 = .ok (.aload_n 0, 1) := by decide +kernel
theorem dX6_restart_1 : decode cX6_restart 1 = .ok (.iload_n 1, 1) := by decide +kernel
theorem dX6_restart_2 : decode cX6_restart 2 = .ok (.invokevirtual 93, 3) := by decide +kernel
theorem dX6_restart_5 : decode cX6_restart 5 = .ok (.astore_n 2, 1) := by decide +kernel
theorem dX6_restart_6 : decode cX6_restart 6 = .ok (.aload_n 2, 1) := by decide +kernel
theorem dX6_restart_7 : decode cX6_restart 7 = .ok (.getfield 97, 3) := by decide +kernel
theorem dX6_restart_10 : decode cX6_restart 10 = .ok (.ifCond .eq 13, 3) := by decide +kernel
theorem dX6_restart_13 : decode cX6_restart 13 = .ok (.new 103, 3) := by decide +kernel
theorem dX6_restart_16 : decode cX6_restart 16 = .ok (.dup, 1) := by decide +kernel
theorem dX6_restart_17 : decode cX6_restart 17 = .ok (.ldc 114, 2) := by decide +kernel
theorem dX6_restart_19 : decode cX6_restart 19 = .ok (.invokespecial 107, 3) := by decide +kernel
theorem dX6_restart_22 : decode cX6_restart 22 = .ok (.athrow, 1) := by decide +kernel
theorem dX6_restart_23 : decode cX6_restart 23 = .ok (.aload_n 0, 1) := by decide +kernel
theorem dX6_restart_24 : decode cX6_restart 24 = .ok (.getfield 12, 3) := by decide +kernel
theorem dX6_restart_27 : decode cX6_restart 27 = .ok (.aload_n 2, 1) := by decide +kernel
theorem dX6_restart_28 : decode cX6_restart 28 = .ok (.invokevirtual 116, 3) := by decide +kernel
theorem dX6_restart_31 : decode cX6_restart 31 = .ok (.aload_n 2, 1) := by decide +kernel
theorem dX6_restart_32 : decode cX6_restart 32 = .ok (.getfield 120, 3) := by decide +kernel
theorem dX6_restart_35 : decode cX6_restart 35 = .ok (.invokevirtual 124, 3) := by decide +kernel
theorem dX6_restart_38 : decode cX6_restart 38 = .ok (.ireturn, 1) := by decide +kernel
theorem dX6_submit_0 : decode cX6_submit 0 = .ok (.aload_n 0, 1) := by decide +kernel
theorem dX6_submit_1 : decode cX6_submit 1 = .ok (.iload_n 1, 1) := by decide +kernel
theorem dX6_submit_2 : decode cX6_submit 2 = .ok (.invokevirtual 93, 3) := by decide +kernel
theorem dX6_submit_5 : decode cX6_submit 5 = .ok (.astore_n 3, 1) := by decide +kernel
theorem dX6_submit_6 : decode cX6_submit 6 = .ok (.aload_n 3, 1) := by decide +kernel
theorem dX6_submit_7 : decode cX6_submit 7 = .ok (.getfield 130, 3) := by decide +kernel
theorem dX6_submit_10 : decode cX6_submit 10 = .ok (.iconst 2, 1) := by decide +kernel
theorem dX6_submit_11 : decode cX6_submit 11 = .ok (.if_icmp .eq 13, 3) := by decide +kernel
theorem dX6_submit_14 : decode cX6_submit 14 = .ok (.new 103, 3) := by decide +kernel
theorem dX6_submit_17 : decode cX6_submit 17 = .ok (.dup, 1) := by decide +kernel
theorem dX6_submit_18 : decode cX6_submit 18 = .ok (.ldc 133, 2) := by decide +kernel
theorem dX6_submit_20 : decode cX6_submit 20 = .ok (.invokespecial 107, 3) := by decide +kernel
theorem dX6_submit_23 : decode cX6_submit 23 = .ok (.athrow, 1) := by decide +kernel
theorem dX6_submit_24 : decode cX6_submit 24 = .ok (.aload_n 3, 1) := by decide +kernel
theorem dX6_submit_25 : decode cX6_submit 25 = .ok (.getfield 120, 3) := by decide +kernel
theorem dX6_submit_28 : decode cX6_submit 28 = .ok (.invokevirtual 135, 3) := by decide +kernel
theorem dX6_submit_31 : decode cX6_submit 31 = .ok (.ifCond .eq 13, 3) := by decide +kernel
theorem dX6_submit_34 : decode cX6_submit 34 = .ok (.new 139, 3) := by decide +kernel
theorem dX6_submit_37 : decode cX6_submit 37 = .ok (.dup, 1) := by decide +kernel
theorem dX6_submit_38 : decode cX6_submit 38 = .ok (.ldc 141, 2) := by decide +kernel
theorem dX6_submit_40 : decode cX6_submit 40 = .ok (.invokespecial 143, 3) := by decide +kernel
theorem dX6_submit_43 : decode cX6_submit 43 = .ok (.athrow, 1) := by decide +kernel
theorem dX6_submit_44 : decode cX6_submit 44 = .ok (.aload_n 0, 1) := by decide +kernel
theorem dX6_submit_45 : decode cX6_submit 45 = .ok (.getfield 12, 3) := by decide +kernel
theorem dX6_submit_48 : decode cX6_submit 48 = .ok (.aload_n 3, 1) := by decide +kernel
theorem dX6_submit_49 : decode cX6_submit 49 = .ok (.iconst 0, 1) := by decide +kernel
theorem dX6_submit_50 : decode cX6_submit 50 = .ok (.iload_n 2, 1) := by decide +kernel
theorem dX6_submit_51 : decode cX6_submit 51 = .ok (.invokevirtual 144, 3) := by decide +kernel
theorem dX6_submit_54 : decode cX6_submit 54 = .ok (.ireturn, 1) := by decide +kernel
theorem dX6_reconfigure_0 : decode cX6_reconfigure 0 = .ok (.aload_n 0, 1) := by decide +kernel
theorem dX6_reconfigure_1 : decode cX6_reconfigure 1 = .ok (.iload_n 1, 1) := by decide +kernel
theorem dX6_reconfigure_2 : decode cX6_reconfigure 2 = .ok (.invokevirtual 93, 3) := by decide +kernel
theorem dX6_reconfigure_5 : decode cX6_reconfigure 5 = .ok (.astore_n 3, 1) := by decide +kernel
theorem dX6_reconfigure_6 : decode cX6_reconfigure 6 = .ok (.iload_n 2, 1) := by decide +kernel
theorem dX6_reconfigure_7 : decode cX6_reconfigure 7 = .ok (.invokestatic 34, 3) := by decide +kernel
theorem dX6_reconfigure_10 : decode cX6_reconfigure 10 = .ok (.ifCond .ne 13, 3) := by decide +kernel
theorem dX6_reconfigure_13 : decode cX6_reconfigure 13 = .ok (.new 38, 3) := by decide +kernel
theorem dX6_reconfigure_16 : decode cX6_reconfigure 16 = .ok (.dup, 1) := by decide +kernel
theorem dX6_reconfigure_17 : decode cX6_reconfigure 17 = .ok (.ldc 40, 2) := by decide +kernel
theorem dX6_reconfigure_19 : decode cX6_reconfigure 19 = .ok (.invokespecial 42, 3) := by decide +kernel
theorem dX6_reconfigure_22 : decode cX6_reconfigure 22 = .ok (.athrow, 1) := by decide +kernel
theorem dX6_reconfigure_23 : decode cX6_reconfigure 23 = .ok (.aload_n 3, 1) := by decide +kernel
theorem dX6_reconfigure_24 : decode cX6_reconfigure 24 = .ok (.getfield 130, 3) := by decide +kernel
theorem dX6_reconfigure_27 : decode cX6_reconfigure 27 = .ok (.iconst 2, 1) := by decide +kernel
theorem dX6_reconfigure_28 : decode cX6_reconfigure 28 = .ok (.if_icmp .eq 13, 3) := by decide +kernel
theorem dX6_reconfigure_31 : decode cX6_reconfigure 31 = .ok (.new 103, 3) := by decide +kernel
theorem dX6_reconfigure_34 : decode cX6_reconfigure 34 = .ok (.dup, 1) := by decide +kernel
theorem dX6_reconfigure_35 : decode cX6_reconfigure 35 = .ok (.ldc 133, 2) := by decide +kernel
theorem dX6_reconfigure_37 : decode cX6_reconfigure 37 = .ok (.invokespecial 107, 3) := by decide +kernel
theorem dX6_reconfigure_40 : decode cX6_reconfigure 40 = .ok (.athrow, 1) := by decide +kernel
theorem dX6_reconfigure_41 : decode cX6_reconfigure 41 = .ok (.aload_n 3, 1) := by decide +kernel
theorem dX6_reconfigure_42 : decode cX6_reconfigure 42 = .ok (.getfield 120, 3) := by decide +kernel
theorem dX6_reconfigure_45 : decode cX6_reconfigure 45 = .ok (.invokevirtual 148, 3) := by decide +kernel
theorem dX6_reconfigure_48 : decode cX6_reconfigure 48 = .ok (.ifCond .ne 10, 3) := by decide +kernel
theorem dX6_reconfigure_51 : decode cX6_reconfigure 51 = .ok (.aload_n 3, 1) := by decide +kernel
theorem dX6_reconfigure_52 : decode cX6_reconfigure 52 = .ok (.invokevirtual 151, 3) := by decide +kernel
theorem dX6_reconfigure_55 : decode cX6_reconfigure 55 = .ok (.ifCond .ne 13, 3) := by decide +kernel
theorem dX6_reconfigure_58 : decode cX6_reconfigure 58 = .ok (.new 103, 3) := by decide +kernel
theorem dX6_reconfigure_61 : decode cX6_reconfigure 61 = .ok (.dup, 1) := by decide +kernel
theorem dX6_reconfigure_62 : decode cX6_reconfigure 62 = .ok (.ldc 154, 2) := by decide +kernel
theorem dX6_reconfigure_64 : decode cX6_reconfigure 64 = .ok (.invokespecial 107, 3) := by decide +kernel
theorem dX6_reconfigure_67 : decode cX6_reconfigure 67 = .ok (.athrow, 1) := by decide +kernel
theorem dX6_reconfigure_68 : decode cX6_reconfigure 68 = .ok (.aload_n 3, 1) := by decide +kernel
theorem dX6_reconfigure_69 : decode cX6_reconfigure 69 = .ok (.getfield 120, 3) := by decide +kernel
theorem dX6_reconfigure_72 : decode cX6_reconfigure 72 = .ok (.invokevirtual 135, 3) := by decide +kernel
theorem dX6_reconfigure_75 : decode cX6_reconfigure 75 = .ok (.ifCond .eq 13, 3) := by decide +kernel
theorem dX6_reconfigure_78 : decode cX6_reconfigure 78 = .ok (.new 139, 3) := by decide +kernel
theorem dX6_reconfigure_81 : decode cX6_reconfigure 81 = .ok (.dup, 1) := by decide +kernel
theorem dX6_reconfigure_82 : decode cX6_reconfigure 82 = .ok (.ldc 141, 2) := by decide +kernel
theorem dX6_reconfigure_84 : decode cX6_reconfigure 84 = .ok (.invokespecial 143, 3) := by decide +kernel
theorem dX6_reconfigure_87 : decode cX6_reconfigure 87 = .ok (.athrow, 1) := by decide +kernel
theorem dX6_reconfigure_88 : decode cX6_reconfigure 88 = .ok (.aload_n 0, 1) := by decide +kernel
theorem dX6_reconfigure_89 : decode cX6_reconfigure 89 = .ok (.getfield 12, 3) := by decide +kernel
theorem dX6_reconfigure_92 : decode cX6_reconfigure 92 = .ok (.aload_n 3, 1) := by decide +kernel
theorem dX6_reconfigure_93 : decode cX6_reconfigure 93 = .ok (.iconst 1, 1) := by decide +kernel
theorem dX6_reconfigure_94 : decode cX6_reconfigure 94 = .ok (.bipush 32, 2) := by decide +kernel
theorem dX6_reconfigure_96 : decode cX6_reconfigure 96 = .ok (.aload_n 3, 1) := by decide +kernel
theorem dX6_reconfigure_97 : decode cX6_reconfigure 97 = .ok (.getfield 120, 3) := by decide +kernel
theorem dX6_reconfigure_100 : decode cX6_reconfigure 100 = .ok (.getfield 156, 3) := by decide +kernel
theorem dX6_reconfigure_103 : decode cX6_reconfigure 103 = .ok (.imul, 1) := by decide +kernel
theorem dX6_reconfigure_104 : decode cX6_reconfigure 104 = .ok (.iload_n 2, 1) := by decide +kernel
theorem dX6_reconfigure_105 : decode cX6_reconfigure 105 = .ok (.iadd, 1) := by decide +kernel
theorem dX6_reconfigure_106 : decode cX6_reconfigure 106 = .ok (.invokevirtual 144, 3) := by decide +kernel
theorem dX6_reconfigure_109 : decode cX6_reconfigure 109 = .ok (.ireturn, 1) := by decide +kernel
theorem dX6_pack_0 : decode cX6_pack 0 = .ok (.aload_n 0, 1) := by decide +kernel
theorem dX6_pack_1 : decode cX6_pack 1 = .ok (.iload_n 1, 1) := by decide +kernel
theorem dX6_pack_2 : decode cX6_pack 2 = .ok (.invokevirtual 93, 3) := by decide +kernel
theorem dX6_pack_5 : decode cX6_pack 5 = .ok (.astore_n 2, 1) := by decide +kernel
theorem dX6_pack_6 : decode cX6_pack 6 = .ok (.aload_n 2, 1) := by decide +kernel
theorem dX6_pack_7 : decode cX6_pack 7 = .ok (.getfield 97, 3) := by decide +kernel
theorem dX6_pack_10 : decode cX6_pack 10 = .ok (.ifCond .ne 13, 3) := by decide +kernel
theorem dX6_pack_13 : decode cX6_pack 13 = .ok (.new 103, 3) := by decide +kernel
theorem dX6_pack_16 : decode cX6_pack 16 = .ok (.dup, 1) := by decide +kernel
theorem dX6_pack_17 : decode cX6_pack 17 = .ok (.ldc 105, 2) := by decide +kernel
theorem dX6_pack_19 : decode cX6_pack 19 = .ok (.invokespecial 107, 3) := by decide +kernel
theorem dX6_pack_22 : decode cX6_pack 22 = .ok (.athrow, 1) := by decide +kernel
theorem dX6_pack_23 : decode cX6_pack 23 = .ok (.aload_n 2, 1) := by decide +kernel
theorem dX6_pack_24 : decode cX6_pack 24 = .ok (.getfield 120, 3) := by decide +kernel
theorem dX6_pack_27 : decode cX6_pack 27 = .ok (.aload_n 2, 1) := by decide +kernel
theorem dX6_pack_28 : decode cX6_pack 28 = .ok (.getfield 159, 3) := by decide +kernel
theorem dX6_pack_31 : decode cX6_pack 31 = .ok (.invokevirtual 162, 3) := by decide +kernel
theorem dX6_pack_34 : decode cX6_pack 34 = .ok (.ireturn, 1) := by decide +kernel
theorem dX6_read_0 : decode cX6_read 0 = .ok (.aload_n 0, 1) := by decide +kernel
theorem dX6_read_1 : decode cX6_read 1 = .ok (.iload_n 1, 1) := by decide +kernel
theorem dX6_read_2 : decode cX6_read 2 = .ok (.invokevirtual 93, 3) := by decide +kernel
theorem dX6_read_5 : decode cX6_read 5 = .ok (.astore_n 2, 1) := by decide +kernel
theorem dX6_read_6 : decode cX6_read 6 = .ok (.aload_n 2, 1) := by decide +kernel
theorem dX6_read_7 : decode cX6_read 7 = .ok (.getfield 130, 3) := by decide +kernel
theorem dX6_read_10 : decode cX6_read 10 = .ok (.iconst 2, 1) := by decide +kernel
theorem dX6_read_11 : decode cX6_read 11 = .ok (.if_icmp .eq 13, 3) := by decide +kernel
theorem dX6_read_14 : decode cX6_read 14 = .ok (.new 103, 3) := by decide +kernel
theorem dX6_read_17 : decode cX6_read 17 = .ok (.dup, 1) := by decide +kernel
theorem dX6_read_18 : decode cX6_read 18 = .ok (.ldc 133, 2) := by decide +kernel
theorem dX6_read_20 : decode cX6_read 20 = .ok (.invokespecial 107, 3) := by decide +kernel
theorem dX6_read_23 : decode cX6_read 23 = .ok (.athrow, 1) := by decide +kernel
theorem dX6_read_24 : decode cX6_read 24 = .ok (.aload_n 2, 1) := by decide +kernel
theorem dX6_read_25 : decode cX6_read 25 = .ok (.aload_n 0, 1) := by decide +kernel
theorem dX6_read_26 : decode cX6_read 26 = .ok (.getfield 12, 3) := by decide +kernel
theorem dX6_read_29 : decode cX6_read 29 = .ok (.getfield 60, 3) := by decide +kernel
theorem dX6_read_32 : decode cX6_read 32 = .ok (.invokevirtual 165, 3) := by decide +kernel
theorem dX6_read_35 : decode cX6_read 35 = .ok (.ifCond .ne 13, 3) := by decide +kernel
theorem dX6_read_38 : decode cX6_read 38 = .ok (.new 139, 3) := by decide +kernel
theorem dX6_read_41 : decode cX6_read 41 = .ok (.dup, 1) := by decide +kernel
theorem dX6_read_42 : decode cX6_read 42 = .ok (.ldc 168, 2) := by decide +kernel
theorem dX6_read_44 : decode cX6_read 44 = .ok (.invokespecial 143, 3) := by decide +kernel
theorem dX6_read_47 : decode cX6_read 47 = .ok (.athrow, 1) := by decide +kernel
theorem dX6_read_48 : decode cX6_read 48 = .ok (.aload_n 2, 1) := by decide +kernel
theorem dX6_read_49 : decode cX6_read 49 = .ok (.getfield 120, 3) := by decide +kernel
theorem dX6_read_52 : decode cX6_read 52 = .ok (.aload_n 2, 1) := by decide +kernel
theorem dX6_read_53 : decode cX6_read 53 = .ok (.getfield 159, 3) := by decide +kernel
theorem dX6_read_56 : decode cX6_read 56 = .ok (.invokevirtual 170, 3) := by decide +kernel
theorem dX6_read_59 : decode cX6_read 59 = .ok (.ireturn, 1) := by decide +kernel
theorem dX6_node_0 : decode cX6_node 0 = .ok (.aload_n 0, 1) := by decide +kernel
theorem dX6_node_1 : decode cX6_node 1 = .ok (.iload_n 1, 1) := by decide +kernel
theorem dX6_node_2 : decode cX6_node 2 = .ok (.invokevirtual 93, 3) := by decide +kernel
theorem dX6_node_5 : decode cX6_node 5 = .ok (.astore_n 3, 1) := by decide +kernel
theorem dX6_node_6 : decode cX6_node 6 = .ok (.iload_n 2, 1) := by decide +kernel
theorem dX6_node_7 : decode cX6_node 7 = .ok (.ifCond .lt 9, 3) := by decide +kernel
theorem dX6_node_10 : decode cX6_node 10 = .ok (.iload_n 2, 1) := by decide +kernel
theorem dX6_node_11 : decode cX6_node 11 = .ok (.bipush 13, 2) := by decide +kernel
theorem dX6_node_13 : decode cX6_node 13 = .ok (.if_icmp .le 13, 3) := by decide +kernel
theorem dX6_node_16 : decode cX6_node 16 = .ok (.new 38, 3) := by decide +kernel
theorem dX6_node_19 : decode cX6_node 19 = .ok (.dup, 1) := by decide +kernel
theorem dX6_node_20 : decode cX6_node 20 = .ok (.ldc 173, 2) := by decide +kernel
theorem dX6_node_22 : decode cX6_node 22 = .ok (.invokespecial 42, 3) := by decide +kernel
theorem dX6_node_25 : decode cX6_node 25 = .ok (.athrow, 1) := by decide +kernel
theorem dX6_node_26 : decode cX6_node 26 = .ok (.iload_n 2, 1) := by decide +kernel
theorem dX6_node_27 : decode cX6_node 27 = .ok (.tableswitch 167 0 12 #[65, 78, 83, 88, 93, 98, 106, 114, 122, 134, 139, 147, 155], 65) := by decide +kernel
theorem dX6_node_92 : decode cX6_node 92 = .ok (.aload_n 3, 1) := by decide +kernel
theorem dX6_node_93 : decode cX6_node 93 = .ok (.getfield 97, 3) := by decide +kernel
theorem dX6_node_96 : decode cX6_node 96 = .ok (.ifCond .eq 7, 3) := by decide +kernel
theorem dX6_node_99 : decode cX6_node 99 = .ok (.iconst 1, 1) := by decide +kernel
theorem dX6_node_100 : decode cX6_node 100 = .ok (.goto 4, 3) := by decide +kernel
theorem dX6_node_103 : decode cX6_node 103 = .ok (.iconst 0, 1) := by decide +kernel
theorem dX6_node_104 : decode cX6_node 104 = .ok (.ireturn, 1) := by decide +kernel
theorem dX6_node_105 : decode cX6_node 105 = .ok (.aload_n 3, 1) := by decide +kernel
theorem dX6_node_106 : decode cX6_node 106 = .ok (.getfield 130, 3) := by decide +kernel
theorem dX6_node_109 : decode cX6_node 109 = .ok (.ireturn, 1) := by decide +kernel
theorem dX6_node_110 : decode cX6_node 110 = .ok (.aload_n 3, 1) := by decide +kernel
theorem dX6_node_111 : decode cX6_node 111 = .ok (.getfield 111, 3) := by decide +kernel
theorem dX6_node_114 : decode cX6_node 114 = .ok (.ireturn, 1) := by decide +kernel
theorem dX6_node_115 : decode cX6_node 115 = .ok (.aload_n 3, 1) := by decide +kernel
theorem dX6_node_116 : decode cX6_node 116 = .ok (.getfield 175, 3) := by decide +kernel
theorem dX6_node_119 : decode cX6_node 119 = .ok (.ireturn, 1) := by decide +kernel
theorem dX6_node_120 : decode cX6_node 120 = .ok (.aload_n 3, 1) := by decide +kernel
theorem dX6_node_121 : decode cX6_node 121 = .ok (.getfield 159, 3) := by decide +kernel
theorem dX6_node_124 : decode cX6_node 124 = .ok (.ireturn, 1) := by decide +kernel
theorem dX6_node_125 : decode cX6_node 125 = .ok (.aload_n 3, 1) := by decide +kernel
theorem dX6_node_126 : decode cX6_node 126 = .ok (.getfield 120, 3) := by decide +kernel
theorem dX6_node_129 : decode cX6_node 129 = .ok (.invokevirtual 124, 3) := by decide +kernel
theorem dX6_node_132 : decode cX6_node 132 = .ok (.ireturn, 1) := by decide +kernel
theorem dX6_node_133 : decode cX6_node 133 = .ok (.aload_n 3, 1) := by decide +kernel
theorem dX6_node_134 : decode cX6_node 134 = .ok (.getfield 120, 3) := by decide +kernel
theorem dX6_node_137 : decode cX6_node 137 = .ok (.invokevirtual 178, 3) := by decide +kernel
theorem dX6_node_140 : decode cX6_node 140 = .ok (.ireturn, 1) := by decide +kernel
theorem dX6_node_141 : decode cX6_node 141 = .ok (.aload_n 3, 1) := by decide +kernel
theorem dX6_node_142 : decode cX6_node 142 = .ok (.getfield 120, 3) := by decide +kernel
theorem dX6_node_145 : decode cX6_node 145 = .ok (.getfield 181, 3) := by decide +kernel
theorem dX6_node_148 : decode cX6_node 148 = .ok (.ireturn, 1) := by decide +kernel
theorem dX6_node_149 : decode cX6_node 149 = .ok (.aload_n 3, 1) := by decide +kernel
theorem dX6_node_150 : decode cX6_node 150 = .ok (.getfield 120, 3) := by decide +kernel
theorem dX6_node_153 : decode cX6_node 153 = .ok (.aload_n 3, 1) := by decide +kernel
theorem dX6_node_154 : decode cX6_node 154 = .ok (.getfield 159, 3) := by decide +kernel
theorem dX6_node_157 : decode cX6_node 157 = .ok (.invokevirtual 170, 3) := by decide +kernel
theorem dX6_node_160 : decode cX6_node 160 = .ok (.ireturn, 1) := by decide +kernel
theorem dX6_node_161 : decode cX6_node 161 = .ok (.aload_n 3, 1) := by decide +kernel
theorem dX6_node_162 : decode cX6_node 162 = .ok (.getfield 184, 3) := by decide +kernel
theorem dX6_node_165 : decode cX6_node 165 = .ok (.ireturn, 1) := by decide +kernel
theorem dX6_node_166 : decode cX6_node 166 = .ok (.aload_n 3, 1) := by decide +kernel
theorem dX6_node_167 : decode cX6_node 167 = .ok (.getfield 120, 3) := by decide +kernel
theorem dX6_node_170 : decode cX6_node 170 = .ok (.getfield 187, 3) := by decide +kernel
theorem dX6_node_173 : decode cX6_node 173 = .ok (.ireturn, 1) := by decide +kernel
theorem dX6_node_174 : decode cX6_node 174 = .ok (.aload_n 3, 1) := by decide +kernel
theorem dX6_node_175 : decode cX6_node 175 = .ok (.getfield 120, 3) := by decide +kernel
theorem dX6_node_178 : decode cX6_node 178 = .ok (.getfield 156, 3) := by decide +kernel
theorem dX6_node_181 : decode cX6_node 181 = .ok (.ireturn, 1) := by decide +kernel
theorem dX6_node_182 : decode cX6_node 182 = .ok (.aload_n 3, 1) := by decide +kernel
theorem dX6_node_183 : decode cX6_node 183 = .ok (.aload_n 0, 1) := by decide +kernel
theorem dX6_node_184 : decode cX6_node 184 = .ok (.getfield 12, 3) := by decide +kernel
theorem dX6_node_187 : decode cX6_node 187 = .ok (.getfield 60, 3) := by decide +kernel
theorem dX6_node_190 : decode cX6_node 190 = .ok (.invokevirtual 190, 3) := by decide +kernel
theorem dX6_node_193 : decode cX6_node 193 = .ok (.ireturn, 1) := by decide +kernel
theorem dX6_node_194 : decode cX6_node 194 = .ok (.aload_n 3, 1) := by decide +kernel
theorem dX6_node_195 : decode cX6_node 195 = .ok (.getfield 130, 3) := by decide +kernel
theorem dX6_node_198 : decode cX6_node 198 = .ok (.iconst 1, 1) := by decide +kernel
theorem dX6_node_199 : decode cX6_node 199 = .ok (.if_icmp .ne 10, 3) := by decide +kernel
theorem dX6_node_202 : decode cX6_node 202 = .ok (.aload_n 3, 1) := by decide +kernel
theorem dX6_node_203 : decode cX6_node 203 = .ok (.getfield 193, 3) := by decide +kernel
theorem dX6_node_206 : decode cX6_node 206 = .ok (.goto 4, 3) := by decide +kernel
theorem dX6_node_209 : decode cX6_node 209 = .ok (.iconst 0, 1) := by decide +kernel
theorem dX6_node_210 : decode cX6_node 210 = .ok (.ireturn, 1) := by decide +kernel
theorem dX6_noted_0 : decode cX6_noted 0 = .ok (.aload_n 0, 1) := by decide +kernel
theorem dX6_noted_1 : decode cX6_noted 1 = .ok (.iload_n 1, 1) := by decide +kernel
theorem dX6_noted_2 : decode cX6_noted 2 = .ok (.invokevirtual 93, 3) := by decide +kernel
theorem dX6_noted_5 : decode cX6_noted 5 = .ok (.astore 4, 2) := by decide +kernel
theorem dX6_noted_7 : decode cX6_noted 7 = .ok (.iload_n 2, 1) := by decide +kernel
theorem dX6_noted_8 : decode cX6_noted 8 = .ok (.invokestatic 75, 3) := by decide +kernel
theorem dX6_noted_11 : decode cX6_noted 11 = .ok (.ifCond .ne 13, 3) := by decide +kernel
theorem dX6_noted_14 : decode cX6_noted 14 = .ok (.new 78, 3) := by decide +kernel
theorem dX6_noted_17 : decode cX6_noted 17 = .ok (.dup, 1) := by decide +kernel
theorem dX6_noted_18 : decode cX6_noted 18 = .ok (.ldc 80, 2) := by decide +kernel
theorem dX6_noted_20 : decode cX6_noted 20 = .ok (.invokespecial 82, 3) := by decide +kernel
theorem dX6_noted_23 : decode cX6_noted 23 = .ok (.athrow, 1) := by decide +kernel
theorem dX6_noted_24 : decode cX6_noted 24 = .ok (.iload_n 1, 1) := by decide +kernel
theorem dX6_noted_25 : decode cX6_noted 25 = .ok (.iload_n 2, 1) := by decide +kernel
theorem dX6_noted_26 : decode cX6_noted 26 = .ok (.if_icmp .eq 12, 3) := by decide +kernel
theorem dX6_noted_29 : decode cX6_noted 29 = .ok (.iload_n 3, 1) := by decide +kernel
theorem dX6_noted_30 : decode cX6_noted 30 = .ok (.ifCond .lt 8, 3) := by decide +kernel
theorem dX6_noted_33 : decode cX6_noted 33 = .ok (.iload_n 3, 1) := by decide +kernel
theorem dX6_noted_34 : decode cX6_noted 34 = .ok (.iconst 2, 1) := by decide +kernel
theorem dX6_noted_35 : decode cX6_noted 35 = .ok (.if_icmp .le 13, 3) := by decide +kernel
theorem dX6_noted_38 : decode cX6_noted 38 = .ok (.new 38, 3) := by decide +kernel
theorem dX6_noted_41 : decode cX6_noted 41 = .ok (.dup, 1) := by decide +kernel
theorem dX6_noted_42 : decode cX6_noted 42 = .ok (.ldc 196, 2) := by decide +kernel
theorem dX6_noted_44 : decode cX6_noted 44 = .ok (.invokespecial 42, 3) := by decide +kernel
theorem dX6_noted_47 : decode cX6_noted 47 = .ok (.athrow, 1) := by decide +kernel
theorem dX6_noted_48 : decode cX6_noted 48 = .ok (.aload 4, 2) := by decide +kernel
theorem dX6_noted_50 : decode cX6_noted 50 = .ok (.getfield 130, 3) := by decide +kernel
theorem dX6_noted_53 : decode cX6_noted 53 = .ok (.iconst 2, 1) := by decide +kernel
theorem dX6_noted_54 : decode cX6_noted 54 = .ok (.if_icmp .eq 13, 3) := by decide +kernel
theorem dX6_noted_57 : decode cX6_noted 57 = .ok (.new 103, 3) := by decide +kernel
theorem dX6_noted_60 : decode cX6_noted 60 = .ok (.dup, 1) := by decide +kernel
theorem dX6_noted_61 : decode cX6_noted 61 = .ok (.ldc 133, 2) := by decide +kernel
theorem dX6_noted_63 : decode cX6_noted 63 = .ok (.invokespecial 107, 3) := by decide +kernel
theorem dX6_noted_66 : decode cX6_noted 66 = .ok (.athrow, 1) := by decide +kernel
theorem dX6_noted_67 : decode cX6_noted 67 = .ok (.iload_n 3, 1) := by decide +kernel
theorem dX6_noted_68 : decode cX6_noted 68 = .ok (.lookupswitch 44 #[(0, 28), (1, 36)], 28) := by decide +kernel
theorem dX6_noted_96 : decode cX6_noted 96 = .ok (.aload 4, 2) := by decide +kernel
theorem dX6_noted_98 : decode cX6_noted 98 = .ok (.getfield 198, 3) := by decide +kernel
theorem dX6_noted_101 : decode cX6_noted 101 = .ok (.iload_n 2, 1) := by decide +kernel
theorem dX6_noted_102 : decode cX6_noted 102 = .ok (.iaload, 1) := by decide +kernel
theorem dX6_noted_103 : decode cX6_noted 103 = .ok (.ireturn, 1) := by decide +kernel
theorem dX6_noted_104 : decode cX6_noted 104 = .ok (.aload 4, 2) := by decide +kernel
theorem dX6_noted_106 : decode cX6_noted 106 = .ok (.getfield 202, 3) := by decide +kernel
theorem dX6_noted_109 : decode cX6_noted 109 = .ok (.iload_n 2, 1) := by decide +kernel
theorem dX6_noted_110 : decode cX6_noted 110 = .ok (.iaload, 1) := by decide +kernel
theorem dX6_noted_111 : decode cX6_noted 111 = .ok (.ireturn, 1) := by decide +kernel
theorem dX6_noted_112 : decode cX6_noted 112 = .ok (.aload 4, 2) := by decide +kernel
theorem dX6_noted_114 : decode cX6_noted 114 = .ok (.getfield 205, 3) := by decide +kernel
theorem dX6_noted_117 : decode cX6_noted 117 = .ok (.iload_n 2, 1) := by decide +kernel
theorem dX6_noted_118 : decode cX6_noted 118 = .ok (.iaload, 1) := by decide +kernel
theorem dX6_noted_119 : decode cX6_noted 119 = .ok (.ireturn, 1) := by decide +kernel
theorem dX6_entry_0 : decode cX6_entry 0 = .ok (.aload_n 0, 1) := by decide +kernel
theorem dX6_entry_1 : decode cX6_entry 1 = .ok (.iload_n 1, 1) := by decide +kernel
theorem dX6_entry_2 : decode cX6_entry 2 = .ok (.invokevirtual 93, 3) := by decide +kernel
theorem dX6_entry_5 : decode cX6_entry 5 = .ok (.getfield 120, 3) := by decide +kernel
theorem dX6_entry_8 : decode cX6_entry 8 = .ok (.astore 4, 2) := by decide +kernel
theorem dX6_entry_10 : decode cX6_entry 10 = .ok (.aload 4, 2) := by decide +kernel
theorem dX6_entry_12 : decode cX6_entry 12 = .ok (.iload_n 2, 1) := by decide +kernel
theorem dX6_entry_13 : decode cX6_entry 13 = .ok (.invokevirtual 208, 3) := by decide +kernel
theorem dX6_entry_16 : decode cX6_entry 16 = .ok (.ifCond .ne 13, 3) := by decide +kernel
theorem dX6_entry_19 : decode cX6_entry 19 = .ok (.new 78, 3) := by decide +kernel
theorem dX6_entry_22 : decode cX6_entry 22 = .ok (.dup, 1) := by decide +kernel
theorem dX6_entry_23 : decode cX6_entry 23 = .ok (.ldc 211, 2) := by decide +kernel
theorem dX6_entry_25 : decode cX6_entry 25 = .ok (.invokespecial 82, 3) := by decide +kernel
theorem dX6_entry_28 : decode cX6_entry 28 = .ok (.athrow, 1) := by decide +kernel
theorem dX6_entry_29 : decode cX6_entry 29 = .ok (.iload_n 3, 1) := by decide +kernel
theorem dX6_entry_30 : decode cX6_entry 30 = .ok (.ifCond .lt 8, 3) := by decide +kernel
theorem dX6_entry_33 : decode cX6_entry 33 = .ok (.iload_n 3, 1) := by decide +kernel
theorem dX6_entry_34 : decode cX6_entry 34 = .ok (.iconst 2, 1) := by decide +kernel
theorem dX6_entry_35 : decode cX6_entry 35 = .ok (.if_icmp .le 13, 3) := by decide +kernel
theorem dX6_entry_38 : decode cX6_entry 38 = .ok (.new 38, 3) := by decide +kernel
theorem dX6_entry_41 : decode cX6_entry 41 = .ok (.dup, 1) := by decide +kernel
theorem dX6_entry_42 : decode cX6_entry 42 = .ok (.ldc 213, 2) := by decide +kernel
theorem dX6_entry_44 : decode cX6_entry 44 = .ok (.invokespecial 42, 3) := by decide +kernel
theorem dX6_entry_47 : decode cX6_entry 47 = .ok (.athrow, 1) := by decide +kernel
theorem dX6_entry_48 : decode cX6_entry 48 = .ok (.iload_n 3, 1) := by decide +kernel
theorem dX6_entry_49 : decode cX6_entry 49 = .ok (.lookupswitch 41 #[(0, 27), (1, 34)], 27) := by decide +kernel
theorem dX6_entry_76 : decode cX6_entry 76 = .ok (.aload 4, 2) := by decide +kernel
theorem dX6_entry_78 : decode cX6_entry 78 = .ok (.iload_n 2, 1) := by decide +kernel
theorem dX6_entry_79 : decode cX6_entry 79 = .ok (.invokevirtual 215, 3) := by decide +kernel
theorem dX6_entry_82 : decode cX6_entry 82 = .ok (.ireturn, 1) := by decide +kernel
theorem dX6_entry_83 : decode cX6_entry 83 = .ok (.aload 4, 2) := by decide +kernel
theorem dX6_entry_85 : decode cX6_entry 85 = .ok (.iload_n 2, 1) := by decide +kernel
theorem dX6_entry_86 : decode cX6_entry 86 = .ok (.invokevirtual 218, 3) := by decide +kernel
theorem dX6_entry_89 : decode cX6_entry 89 = .ok (.ireturn, 1) := by decide +kernel
theorem dX6_entry_90 : decode cX6_entry 90 = .ok (.aload 4, 2) := by decide +kernel
theorem dX6_entry_92 : decode cX6_entry 92 = .ok (.iload_n 2, 1) := by decide +kernel
theorem dX6_entry_93 : decode cX6_entry 93 = .ok (.invokevirtual 221, 3) := by decide +kernel
theorem dX6_entry_96 : decode cX6_entry 96 = .ok (.ireturn, 1) := by decide +kernel
theorem dX6_messages_0 : decode cX6_messages 0 = .ok (.aload_n 0, 1) := by decide +kernel
theorem dX6_messages_1 : decode cX6_messages 1 = .ok (.getfield 12, 3) := by decide +kernel
theorem dX6_messages_4 : decode cX6_messages 4 = .ok (.getfield 66, 3) := by decide +kernel
theorem dX6_messages_7 : decode cX6_messages 7 = .ok (.getfield 224, 3) := by decide +kernel
theorem dX6_messages_10 : decode cX6_messages 10 = .ok (.ireturn, 1) := by decide +kernel
theorem dX6_message_0 : decode cX6_message 0 = .ok (.aload_n 0, 1) := by decide +kernel
theorem dX6_message_1 : decode cX6_message 1 = .ok (.getfield 12, 3) := by decide +kernel
theorem dX6_message_4 : decode cX6_message 4 = .ok (.getfield 66, 3) := by decide +kernel
theorem dX6_message_7 : decode cX6_message 7 = .ok (.iload_n 1, 1) := by decide +kernel
theorem dX6_message_8 : decode cX6_message 8 = .ok (.invokevirtual 227, 3) := by decide +kernel
theorem dX6_message_11 : decode cX6_message 11 = .ok (.ifCond .ne 13, 3) := by decide +kernel
theorem dX6_message_14 : decode cX6_message 14 = .ok (.new 78, 3) := by decide +kernel
theorem dX6_message_17 : decode cX6_message 17 = .ok (.dup, 1) := by decide +kernel
theorem dX6_message_18 : decode cX6_message 18 = .ok (.ldc 228, 2) := by decide +kernel
theorem dX6_message_20 : decode cX6_message 20 = .ok (.invokespecial 82, 3) := by decide +kernel
theorem dX6_message_23 : decode cX6_message 23 = .ok (.athrow, 1) := by decide +kernel
theorem dX6_message_24 : decode cX6_message 24 = .ok (.iload_n 2, 1) := by decide +kernel
theorem dX6_message_25 : decode cX6_message 25 = .ok (.ifCond .lt 9, 3) := by decide +kernel
theorem dX6_message_28 : decode cX6_message 28 = .ok (.iload_n 2, 1) := by decide +kernel
theorem dX6_message_29 : decode cX6_message 29 = .ok (.bipush 6, 2) := by decide +kernel
theorem dX6_message_31 : decode cX6_message 31 = .ok (.if_icmp .le 13, 3) := by decide +kernel
theorem dX6_message_34 : decode cX6_message 34 = .ok (.new 38, 3) := by decide +kernel
theorem dX6_message_37 : decode cX6_message 37 = .ok (.dup, 1) := by decide +kernel
theorem dX6_message_38 : decode cX6_message 38 = .ok (.ldc 230, 2) := by decide +kernel
theorem dX6_message_40 : decode cX6_message 40 = .ok (.invokespecial 42, 3) := by decide +kernel
theorem dX6_message_43 : decode cX6_message 43 = .ok (.athrow, 1) := by decide +kernel
theorem dX6_message_44 : decode cX6_message 44 = .ok (.aload_n 0, 1) := by decide +kernel
theorem dX6_message_45 : decode cX6_message 45 = .ok (.getfield 12, 3) := by decide +kernel
theorem dX6_message_48 : decode cX6_message 48 = .ok (.getfield 66, 3) := by decide +kernel
theorem dX6_message_51 : decode cX6_message 51 = .ok (.getfield 232, 3) := by decide +kernel
theorem dX6_message_54 : decode cX6_message 54 = .ok (.iload_n 1, 1) := by decide +kernel
theorem dX6_message_55 : decode cX6_message 55 = .ok (.aaload, 1) := by decide +kernel
theorem dX6_message_56 : decode cX6_message 56 = .ok (.astore_n 3, 1) := by decide +kernel
theorem dX6_message_57 : decode cX6_message 57 = .ok (.iload_n 2, 1) := by decide +kernel
theorem dX6_message_58 : decode cX6_message 58 = .ok (.tableswitch 68 0 5 #[38, 43, 48, 53, 58, 63], 38) := by decide +kernel
theorem dX6_message_96 : decode cX6_message 96 = .ok (.aload_n 3, 1) := by decide +kernel
theorem dX6_message_97 : decode cX6_message 97 = .ok (.getfield 236, 3) := by decide +kernel
theorem dX6_message_100 : decode cX6_message 100 = .ok (.ireturn, 1) := by decide +kernel
theorem dX6_message_101 : decode cX6_message 101 = .ok (.aload_n 3, 1) := by decide +kernel
theorem dX6_message_102 : decode cX6_message 102 = .ok (.getfield 241, 3) := by decide +kernel
theorem dX6_message_105 : decode cX6_message 105 = .ok (.ireturn, 1) := by decide +kernel
theorem dX6_message_106 : decode cX6_message 106 = .ok (.aload_n 3, 1) := by decide +kernel
theorem dX6_message_107 : decode cX6_message 107 = .ok (.getfield 244, 3) := by decide +kernel
theorem dX6_message_110 : decode cX6_message 110 = .ok (.ireturn, 1) := by decide +kernel
theorem dX6_message_111 : decode cX6_message 111 = .ok (.aload_n 3, 1) := by decide +kernel
theorem dX6_message_112 : decode cX6_message 112 = .ok (.getfield 247, 3) := by decide +kernel
theorem dX6_message_115 : decode cX6_message 115 = .ok (.ireturn, 1) := by decide +kernel
theorem dX6_message_116 : decode cX6_message 116 = .ok (.aload_n 3, 1) := by decide +kernel
theorem dX6_message_117 : decode cX6_message 117 = .ok (.getfield 248, 3) := by decide +kernel
theorem dX6_message_120 : decode cX6_message 120 = .ok (.ireturn, 1) := by decide +kernel
theorem dX6_message_121 : decode cX6_message 121 = .ok (.aload_n 3, 1) := by decide +kernel
theorem dX6_message_122 : decode cX6_message 122 = .ok (.getfield 251, 3) := by decide +kernel
theorem dX6_message_125 : decode cX6_message 125 = .ok (.ireturn, 1) := by decide +kernel
theorem dX6_message_126 : decode cX6_message 126 = .ok (.aload_n 3, 1) := by decide +kernel
theorem dX6_message_127 : decode cX6_message 127 = .ok (.invokevirtual 254, 3) := by decide +kernel
theorem dX6_message_130 : decode cX6_message 130 = .ok (.ireturn, 1) := by decide +kernel
theorem dX6_lose_0 : decode cX6_lose 0 = .ok (.aload_n 0, 1) := by decide +kernel
theorem dX6_lose_1 : decode cX6_lose 1 = .ok (.getfield 12, 3) := by decide +kernel
theorem dX6_lose_4 : decode cX6_lose 4 = .ok (.getfield 66, 3) := by decide +kernel
theorem dX6_lose_7 : decode cX6_lose 7 = .ok (.iload_n 1, 1) := by decide +kernel
theorem dX6_lose_8 : decode cX6_lose 8 = .ok (.invokevirtual 227, 3) := by decide +kernel
theorem dX6_lose_11 : decode cX6_lose 11 = .ok (.ifCond .ne 13, 3) := by decide +kernel
theorem dX6_lose_14 : decode cX6_lose 14 = .ok (.new 78, 3) := by decide +kernel
theorem dX6_lose_17 : decode cX6_lose 17 = .ok (.dup, 1) := by decide +kernel
theorem dX6_lose_18 : decode cX6_lose 18 = .ok (.ldc 228, 2) := by decide +kernel
theorem dX6_lose_20 : decode cX6_lose 20 = .ok (.invokespecial 82, 3) := by decide +kernel
theorem dX6_lose_23 : decode cX6_lose 23 = .ok (.athrow, 1) := by decide +kernel
theorem dX6_lose_24 : decode cX6_lose 24 = .ok (.aload_n 0, 1) := by decide +kernel
theorem dX6_lose_25 : decode cX6_lose 25 = .ok (.getfield 12, 3) := by decide +kernel
theorem dX6_lose_28 : decode cX6_lose 28 = .ok (.getfield 66, 3) := by decide +kernel
theorem dX6_lose_31 : decode cX6_lose 31 = .ok (.iload_n 1, 1) := by decide +kernel
theorem dX6_lose_32 : decode cX6_lose 32 = .ok (.invokevirtual 257, 3) := by decide +kernel
theorem dX6_lose_35 : decode cX6_lose 35 = .ok (.aload_n 0, 1) := by decide +kernel
theorem dX6_lose_36 : decode cX6_lose 36 = .ok (.getfield 12, 3) := by decide +kernel
theorem dX6_lose_39 : decode cX6_lose 39 = .ok (.getfield 66, 3) := by decide +kernel
theorem dX6_lose_42 : decode cX6_lose 42 = .ok (.dup, 1) := by decide +kernel
theorem dX6_lose_43 : decode cX6_lose 43 = .ok (.getfield 260, 3) := by decide +kernel
theorem dX6_lose_46 : decode cX6_lose 46 = .ok (.iconst 1, 1) := by decide +kernel
theorem dX6_lose_47 : decode cX6_lose 47 = .ok (.iadd, 1) := by decide +kernel
theorem dX6_lose_48 : decode cX6_lose 48 = .ok (.putfield 260, 3) := by decide +kernel
theorem dX6_lose_51 : decode cX6_lose 51 = .ok (.aload_n 0, 1) := by decide +kernel
theorem dX6_lose_52 : decode cX6_lose 52 = .ok (.getfield 12, 3) := by decide +kernel
theorem dX6_lose_55 : decode cX6_lose 55 = .ok (.getfield 66, 3) := by decide +kernel
theorem dX6_lose_58 : decode cX6_lose 58 = .ok (.getfield 224, 3) := by decide +kernel
theorem dX6_lose_61 : decode cX6_lose 61 = .ok (.ireturn, 1) := by decide +kernel
theorem dX6_leader_0 : decode cX6_leader 0 = .ok (.iconst (-1), 1) := by decide +kernel
theorem dX6_leader_1 : decode cX6_leader 1 = .ok (.istore_n 1, 1) := by decide +kernel
theorem dX6_leader_2 : decode cX6_leader 2 = .ok (.iconst (-1), 1) := by decide +kernel
theorem dX6_leader_3 : decode cX6_leader 3 = .ok (.istore_n 2, 1) := by decide +kernel
theorem dX6_leader_4 : decode cX6_leader 4 = .ok (.iconst 0, 1) := by decide +kernel
theorem dX6_leader_5 : decode cX6_leader 5 = .ok (.istore_n 3, 1) := by decide +kernel
theorem dX6_leader_6 : decode cX6_leader 6 = .ok (.iload_n 3, 1) := by decide +kernel
theorem dX6_leader_7 : decode cX6_leader 7 = .ok (.iconst 5, 1) := by decide +kernel
theorem dX6_leader_8 : decode cX6_leader 8 = .ok (.if_icmp .ge 54, 3) := by decide +kernel
theorem dX6_leader_11 : decode cX6_leader 11 = .ok (.aload_n 0, 1) := by decide +kernel
theorem dX6_leader_12 : decode cX6_leader 12 = .ok (.getfield 12, 3) := by decide +kernel
theorem dX6_leader_15 : decode cX6_leader 15 = .ok (.getfield 263, 3) := by decide +kernel
theorem dX6_leader_18 : decode cX6_leader 18 = .ok (.iload_n 3, 1) := by decide +kernel
theorem dX6_leader_19 : decode cX6_leader 19 = .ok (.aaload, 1) := by decide +kernel
theorem dX6_leader_20 : decode cX6_leader 20 = .ok (.astore 4, 2) := by decide +kernel
theorem dX6_leader_22 : decode cX6_leader 22 = .ok (.aload 4, 2) := by decide +kernel
theorem dX6_leader_24 : decode cX6_leader 24 = .ok (.getfield 97, 3) := by decide +kernel
theorem dX6_leader_27 : decode cX6_leader 27 = .ok (.ifCond .eq 29, 3) := by decide +kernel
theorem dX6_leader_30 : decode cX6_leader 30 = .ok (.aload 4, 2) := by decide +kernel
theorem dX6_leader_32 : decode cX6_leader 32 = .ok (.getfield 130, 3) := by decide +kernel
theorem dX6_leader_35 : decode cX6_leader 35 = .ok (.iconst 2, 1) := by decide +kernel
theorem dX6_leader_36 : decode cX6_leader 36 = .ok (.if_icmp .ne 20, 3) := by decide +kernel
theorem dX6_leader_39 : decode cX6_leader 39 = .ok (.aload 4, 2) := by decide +kernel
theorem dX6_leader_41 : decode cX6_leader 41 = .ok (.getfield 111, 3) := by decide +kernel
theorem dX6_leader_44 : decode cX6_leader 44 = .ok (.iload_n 2, 1) := by decide +kernel
theorem dX6_leader_45 : decode cX6_leader 45 = .ok (.if_icmp .le 11, 3) := by decide +kernel
theorem dX6_leader_48 : decode cX6_leader 48 = .ok (.iload_n 3, 1) := by decide +kernel
theorem dX6_leader_49 : decode cX6_leader 49 = .ok (.istore_n 1, 1) := by decide +kernel
theorem dX6_leader_50 : decode cX6_leader 50 = .ok (.aload 4, 2) := by decide +kernel
theorem dX6_leader_52 : decode cX6_leader 52 = .ok (.getfield 111, 3) := by decide +kernel
theorem dX6_leader_55 : decode cX6_leader 55 = .ok (.istore_n 2, 1) := by decide +kernel
theorem dX6_leader_56 : decode cX6_leader 56 = .ok (.iinc 3 1, 3) := by decide +kernel
theorem dX6_leader_59 : decode cX6_leader 59 = .ok (.goto (-53), 3) := by decide +kernel
theorem dX6_leader_62 : decode cX6_leader 62 = .ok (.iload_n 1, 1) := by decide +kernel
theorem dX6_leader_63 : decode cX6_leader 63 = .ok (.iconst (-1), 1) := by decide +kernel
theorem dX6_leader_64 : decode cX6_leader 64 = .ok (.if_icmp .ne 14, 3) := by decide +kernel
theorem dX6_leader_67 : decode cX6_leader 67 = .ok (.new 267, 3) := by decide +kernel
theorem dX6_leader_70 : decode cX6_leader 70 = .ok (.dup, 1) := by decide +kernel
theorem dX6_leader_71 : decode cX6_leader 71 = .ok (.ldc_w 269, 3) := by decide +kernel
theorem dX6_leader_74 : decode cX6_leader 74 = .ok (.invokespecial 271, 3) := by decide +kernel
theorem dX6_leader_77 : decode cX6_leader 77 = .ok (.athrow, 1) := by decide +kernel
theorem dX6_leader_78 : decode cX6_leader 78 = .ok (.iload_n 1, 1) := by decide +kernel
theorem dX6_leader_79 : decode cX6_leader 79 = .ok (.ireturn, 1) := by decide +kernel
theorem dX6_winner_0 : decode cX6_winner 0 = .ok (.iload_n 1, 1) := by decide +kernel
theorem dX6_winner_1 : decode cX6_winner 1 = .ok (.ifCond .lt 22, 3) := by decide +kernel
theorem dX6_winner_4 : decode cX6_winner 4 = .ok (.iload_n 1, 1) := by decide +kernel
theorem dX6_winner_5 : decode cX6_winner 5 = .ok (.bipush 100, 2) := by decide +kernel
theorem dX6_winner_7 : decode cX6_winner 7 = .ok (.if_icmp .ge 16, 3) := by decide +kernel
theorem dX6_winner_10 : decode cX6_winner 10 = .ok (.aload_n 0, 1) := by decide +kernel
theorem dX6_winner_11 : decode cX6_winner 11 = .ok (.getfield 12, 3) := by decide +kernel
theorem dX6_winner_14 : decode cX6_winner 14 = .ok (.getfield 272, 3) := by decide +kernel
theorem dX6_winner_17 : decode cX6_winner 17 = .ok (.iload_n 1, 1) := by decide +kernel
theorem dX6_winner_18 : decode cX6_winner 18 = .ok (.iaload, 1) := by decide +kernel
theorem dX6_winner_19 : decode cX6_winner 19 = .ok (.iconst (-1), 1) := by decide +kernel
theorem dX6_winner_20 : decode cX6_winner 20 = .ok (.if_icmp .ne 14, 3) := by decide +kernel
theorem dX6_winner_23 : decode cX6_winner 23 = .ok (.new 267, 3) := by decide +kernel
theorem dX6_winner_26 : decode cX6_winner 26 = .ok (.dup, 1) := by decide +kernel
theorem dX6_winner_27 : decode cX6_winner 27 = .ok (.ldc_w 275, 3) := by decide +kernel
theorem dX6_winner_30 : decode cX6_winner 30 = .ok (.invokespecial 271, 3) := by decide +kernel
theorem dX6_winner_33 : decode cX6_winner 33 = .ok (.athrow, 1) := by decide +kernel
theorem dX6_winner_34 : decode cX6_winner 34 = .ok (.aload_n 0, 1) := by decide +kernel
theorem dX6_winner_35 : decode cX6_winner 35 = .ok (.getfield 12, 3) := by decide +kernel
theorem dX6_winner_38 : decode cX6_winner 38 = .ok (.getfield 272, 3) := by decide +kernel
theorem dX6_winner_41 : decode cX6_winner 41 = .ok (.iload_n 1, 1) := by decide +kernel
theorem dX6_winner_42 : decode cX6_winner 42 = .ok (.iaload, 1) := by decide +kernel
theorem dX6_winner_43 : decode cX6_winner 43 = .ok (.ireturn, 1) := by decide +kernel
theorem dX6_alike_0 : decode cX6_alike 0 = .ok (.aload_n 0, 1) := by decide +kernel
theorem dX6_alike_1 : decode cX6_alike 1 = .ok (.iload_n 1, 1) := by decide +kernel
theorem dX6_alike_2 : decode cX6_alike 2 = .ok (.invokevirtual 93, 3) := by decide +kernel
theorem dX6_alike_5 : decode cX6_alike 5 = .ok (.getfield 120, 3) := by decide +kernel
theorem dX6_alike_8 : decode cX6_alike 8 = .ok (.astore_n 3, 1) := by decide +kernel
theorem dX6_alike_9 : decode cX6_alike 9 = .ok (.aload_n 0, 1) := by decide +kernel
theorem dX6_alike_10 : decode cX6_alike 10 = .ok (.iload_n 2, 1) := by decide +kernel
theorem dX6_alike_11 : decode cX6_alike 11 = .ok (.invokevirtual 93, 3) := by decide +kernel
theorem dX6_alike_14 : decode cX6_alike 14 = .ok (.getfield 120, 3) := by decide +kernel
theorem dX6_alike_17 : decode cX6_alike 17 = .ok (.astore 4, 2) := by decide +kernel
theorem dX6_alike_19 : decode cX6_alike 19 = .ok (.aload_n 3, 1) := by decide +kernel
theorem dX6_alike_20 : decode cX6_alike 20 = .ok (.getfield 181, 3) := by decide +kernel
theorem dX6_alike_23 : decode cX6_alike 23 = .ok (.aload 4, 2) := by decide +kernel
theorem dX6_alike_25 : decode cX6_alike 25 = .ok (.getfield 181, 3) := by decide +kernel
theorem dX6_alike_28 : decode cX6_alike 28 = .ok (.invokestatic 277, 3) := by decide +kernel
theorem dX6_alike_31 : decode cX6_alike 31 = .ok (.istore 5, 2) := by decide +kernel
theorem dX6_alike_33 : decode cX6_alike 33 = .ok (.aload_n 3, 1) := by decide +kernel
theorem dX6_alike_34 : decode cX6_alike 34 = .ok (.invokevirtual 124, 3) := by decide +kernel
theorem dX6_alike_37 : decode cX6_alike 37 = .ok (.aload 4, 2) := by decide +kernel
theorem dX6_alike_39 : decode cX6_alike 39 = .ok (.invokevirtual 124, 3) := by decide +kernel
theorem dX6_alike_42 : decode cX6_alike 42 = .ok (.invokestatic 283, 3) := by decide +kernel
theorem dX6_alike_45 : decode cX6_alike 45 = .ok (.istore 6, 2) := by decide +kernel
theorem dX6_alike_47 : decode cX6_alike 47 = .ok (.iload 5, 2) := by decide +kernel
theorem dX6_alike_49 : decode cX6_alike 49 = .ok (.iload 6, 2) := by decide +kernel
theorem dX6_alike_51 : decode cX6_alike 51 = .ok (.if_icmp .le 5, 3) := by decide +kernel
theorem dX6_alike_54 : decode cX6_alike 54 = .ok (.iconst (-1), 1) := by decide +kernel
theorem dX6_alike_55 : decode cX6_alike 55 = .ok (.ireturn, 1) := by decide +kernel
theorem dX6_alike_56 : decode cX6_alike 56 = .ok (.iload 5, 2) := by decide +kernel
theorem dX6_alike_58 : decode cX6_alike 58 = .ok (.iload 6, 2) := by decide +kernel
theorem dX6_alike_60 : decode cX6_alike 60 = .ok (.if_icmp .ge 29, 3) := by decide +kernel
theorem dX6_alike_63 : decode cX6_alike 63 = .ok (.aload_n 3, 1) := by decide +kernel
theorem dX6_alike_64 : decode cX6_alike 64 = .ok (.iload 5, 2) := by decide +kernel
theorem dX6_alike_66 : decode cX6_alike 66 = .ok (.iconst 1, 1) := by decide +kernel
theorem dX6_alike_67 : decode cX6_alike 67 = .ok (.iadd, 1) := by decide +kernel
theorem dX6_alike_68 : decode cX6_alike 68 = .ok (.invokevirtual 215, 3) := by decide +kernel
theorem dX6_alike_71 : decode cX6_alike 71 = .ok (.aload 4, 2) := by decide +kernel
theorem dX6_alike_73 : decode cX6_alike 73 = .ok (.iload 5, 2) := by decide +kernel
theorem dX6_alike_75 : decode cX6_alike 75 = .ok (.iconst 1, 1) := by decide +kernel
theorem dX6_alike_76 : decode cX6_alike 76 = .ok (.iadd, 1) := by decide +kernel
theorem dX6_alike_77 : decode cX6_alike 77 = .ok (.invokevirtual 215, 3) := by decide +kernel
theorem dX6_alike_80 : decode cX6_alike 80 = .ok (.if_icmp .ne 9, 3) := by decide +kernel
theorem dX6_alike_83 : decode cX6_alike 83 = .ok (.iinc 5 1, 3) := by decide +kernel
theorem dX6_alike_86 : decode cX6_alike 86 = .ok (.goto (-30), 3) := by decide +kernel
theorem dX6_alike_89 : decode cX6_alike 89 = .ok (.iload 5, 2) := by decide +kernel
theorem dX6_alike_91 : decode cX6_alike 91 = .ok (.ireturn, 1) := by decide +kernel
theorem dX6_statistic_0 : decode cX6_statistic 0 = .ok (.iload_n 1, 1) := by decide +kernel
theorem dX6_statistic_1 : decode cX6_statistic 1 = .ok (.ifCond .lt 9, 3) := by decide +kernel
theorem dX6_statistic_4 : decode cX6_statistic 4 = .ok (.iload_n 1, 1) := by decide +kernel
theorem dX6_statistic_5 : decode cX6_statistic 5 = .ok (.bipush 6, 2) := by decide +kernel
theorem dX6_statistic_7 : decode cX6_statistic 7 = .ok (.if_icmp .le 13, 3) := by decide +kernel
theorem dX6_statistic_10 : decode cX6_statistic 10 = .ok (.new 38, 3) := by decide +kernel
theorem dX6_statistic_13 : decode cX6_statistic 13 = .ok (.dup, 1) := by decide +kernel
theorem dX6_statistic_14 : decode cX6_statistic 14 = .ok (.ldc 230, 2) := by decide +kernel
theorem dX6_statistic_16 : decode cX6_statistic 16 = .ok (.invokespecial 42, 3) := by decide +kernel
theorem dX6_statistic_19 : decode cX6_statistic 19 = .ok (.athrow, 1) := by decide +kernel
theorem dX6_statistic_20 : decode cX6_statistic 20 = .ok (.iload_n 1, 1) := by decide +kernel
theorem dX6_statistic_21 : decode cX6_statistic 21 = .ok (.tableswitch 93 0 5 #[39, 47, 58, 69, 77, 85], 39) := by decide +kernel
theorem dX6_statistic_60 : decode cX6_statistic 60 = .ok (.aload_n 0, 1) := by decide +kernel
theorem dX6_statistic_61 : decode cX6_statistic 61 = .ok (.getfield 12, 3) := by decide +kernel
theorem dX6_statistic_64 : decode cX6_statistic 64 = .ok (.getfield 60, 3) := by decide +kernel
theorem dX6_statistic_67 : decode cX6_statistic 67 = .ok (.ireturn, 1) := by decide +kernel
theorem dX6_statistic_68 : decode cX6_statistic 68 = .ok (.aload_n 0, 1) := by decide +kernel
theorem dX6_statistic_69 : decode cX6_statistic 69 = .ok (.getfield 12, 3) := by decide +kernel
theorem dX6_statistic_72 : decode cX6_statistic 72 = .ok (.getfield 66, 3) := by decide +kernel
theorem dX6_statistic_75 : decode cX6_statistic 75 = .ok (.getfield 286, 3) := by decide +kernel
theorem dX6_statistic_78 : decode cX6_statistic 78 = .ok (.ireturn, 1) := by decide +kernel
theorem dX6_statistic_79 : decode cX6_statistic 79 = .ok (.aload_n 0, 1) := by decide +kernel
theorem dX6_statistic_80 : decode cX6_statistic 80 = .ok (.getfield 12, 3) := by decide +kernel
theorem dX6_statistic_83 : decode cX6_statistic 83 = .ok (.getfield 66, 3) := by decide +kernel
theorem dX6_statistic_86 : decode cX6_statistic 86 = .ok (.getfield 260, 3) := by decide +kernel
theorem dX6_statistic_89 : decode cX6_statistic 89 = .ok (.ireturn, 1) := by decide +kernel
theorem dX6_statistic_90 : decode cX6_statistic 90 = .ok (.aload_n 0, 1) := by decide +kernel
theorem dX6_statistic_91 : decode cX6_statistic 91 = .ok (.getfield 12, 3) := by decide +kernel
theorem dX6_statistic_94 : decode cX6_statistic 94 = .ok (.getfield 289, 3) := by decide +kernel
theorem dX6_statistic_97 : decode cX6_statistic 97 = .ok (.ireturn, 1) := by decide +kernel
theorem dX6_statistic_98 : decode cX6_statistic 98 = .ok (.aload_n 0, 1) := by decide +kernel
theorem dX6_statistic_99 : decode cX6_statistic 99 = .ok (.getfield 12, 3) := by decide +kernel
theorem dX6_statistic_102 : decode cX6_statistic 102 = .ok (.getfield 292, 3) := by decide +kernel
theorem dX6_statistic_105 : decode cX6_statistic 105 = .ok (.ireturn, 1) := by decide +kernel
theorem dX6_statistic_106 : decode cX6_statistic 106 = .ok (.aload_n 0, 1) := by decide +kernel
theorem dX6_statistic_107 : decode cX6_statistic 107 = .ok (.getfield 12, 3) := by decide +kernel
theorem dX6_statistic_110 : decode cX6_statistic 110 = .ok (.getfield 295, 3) := by decide +kernel
theorem dX6_statistic_113 : decode cX6_statistic 113 = .ok (.ireturn, 1) := by decide +kernel
theorem dX6_statistic_114 : decode cX6_statistic 114 = .ok (.aload_n 0, 1) := by decide +kernel
theorem dX6_statistic_115 : decode cX6_statistic 115 = .ok (.getfield 12, 3) := by decide +kernel
theorem dX6_statistic_118 : decode cX6_statistic 118 = .ok (.getfield 298, 3) := by decide +kernel
theorem dX6_statistic_121 : decode cX6_statistic 121 = .ok (.ireturn, 1) := by decide +kernel
theorem dX6_share_0 : decode cX6_share 0 = .ok (.aload_n 0, 1) := by decide +kernel
theorem dX6_share_1 : decode cX6_share 1 = .ok (.iload_n 1, 1) := by decide +kernel
theorem dX6_share_2 : decode cX6_share 2 = .ok (.invokevirtual 93, 3) := by decide +kernel
theorem dX6_share_5 : decode cX6_share 5 = .ok (.getfield 120, 3) := by decide +kernel
theorem dX6_share_8 : decode cX6_share 8 = .ok (.invokevirtual 301, 3) := by decide +kernel
theorem dX6_share_11 : decode cX6_share 11 = .ok (.istore_n 2, 1) := by decide +kernel
theorem dX6_share_12 : decode cX6_share 12 = .ok (.iconst 0, 1) := by decide +kernel
theorem dX6_share_13 : decode cX6_share 13 = .ok (.istore_n 3, 1) := by decide +kernel
theorem dX6_share_14 : decode cX6_share 14 = .ok (.iconst 0, 1) := by decide +kernel
theorem dX6_share_15 : decode cX6_share 15 = .ok (.istore 4, 2) := by decide +kernel
theorem dX6_share_17 : decode cX6_share 17 = .ok (.iconst 0, 1) := by decide +kernel
theorem dX6_share_18 : decode cX6_share 18 = .ok (.istore 5, 2) := by decide +kernel
theorem dX6_share_20 : decode cX6_share 20 = .ok (.iload 5, 2) := by decide +kernel
theorem dX6_share_22 : decode cX6_share 22 = .ok (.iconst 5, 1) := by decide +kernel
theorem dX6_share_23 : decode cX6_share 23 = .ok (.if_icmp .ge 60, 3) := by decide +kernel
theorem dX6_share_26 : decode cX6_share 26 = .ok (.aload_n 0, 1) := by decide +kernel
theorem dX6_share_27 : decode cX6_share 27 = .ok (.getfield 12, 3) := by decide +kernel
theorem dX6_share_30 : decode cX6_share 30 = .ok (.getfield 263, 3) := by decide +kernel
theorem dX6_share_33 : decode cX6_share 33 = .ok (.iload 5, 2) := by decide +kernel
theorem dX6_share_35 : decode cX6_share 35 = .ok (.aaload, 1) := by decide +kernel
theorem dX6_share_36 : decode cX6_share 36 = .ok (.astore 6, 2) := by decide +kernel
theorem dX6_share_38 : decode cX6_share 38 = .ok (.aload 6, 2) := by decide +kernel
theorem dX6_share_40 : decode cX6_share 40 = .ok (.getfield 97, 3) := by decide +kernel
theorem dX6_share_43 : decode cX6_share 43 = .ok (.ifCond .eq 34, 3) := by decide +kernel
theorem dX6_share_46 : decode cX6_share 46 = .ok (.iload_n 2, 1) := by decide +kernel
theorem dX6_share_47 : decode cX6_share 47 = .ok (.iload 5, 2) := by decide +kernel
theorem dX6_share_49 : decode cX6_share 49 = .ok (.ishr, 1) := by decide +kernel
theorem dX6_share_50 : decode cX6_share 50 = .ok (.iconst 1, 1) := by decide +kernel
theorem dX6_share_51 : decode cX6_share 51 = .ok (.iand, 1) := by decide +kernel
theorem dX6_share_52 : decode cX6_share 52 = .ok (.iconst 1, 1) := by decide +kernel
theorem dX6_share_53 : decode cX6_share 53 = .ok (.if_icmp .ne 24, 3) := by decide +kernel
theorem dX6_share_56 : decode cX6_share 56 = .ok (.iload_n 3, 1) := by decide +kernel
theorem dX6_share_57 : decode cX6_share 57 = .ok (.aload 6, 2) := by decide +kernel
theorem dX6_share_59 : decode cX6_share 59 = .ok (.getfield 159, 3) := by decide +kernel
theorem dX6_share_62 : decode cX6_share 62 = .ok (.iadd, 1) := by decide +kernel
theorem dX6_share_63 : decode cX6_share 63 = .ok (.istore_n 3, 1) := by decide +kernel
theorem dX6_share_64 : decode cX6_share 64 = .ok (.iload 4, 2) := by decide +kernel
theorem dX6_share_66 : decode cX6_share 66 = .ok (.aload 6, 2) := by decide +kernel
theorem dX6_share_68 : decode cX6_share 68 = .ok (.getfield 120, 3) := by decide +kernel
theorem dX6_share_71 : decode cX6_share 71 = .ok (.invokevirtual 124, 3) := by decide +kernel
theorem dX6_share_74 : decode cX6_share 74 = .ok (.iadd, 1) := by decide +kernel
theorem dX6_share_75 : decode cX6_share 75 = .ok (.istore 4, 2) := by decide +kernel
theorem dX6_share_77 : decode cX6_share 77 = .ok (.iinc 5 1, 3) := by decide +kernel
theorem dX6_share_80 : decode cX6_share 80 = .ok (.goto (-60), 3) := by decide +kernel
theorem dX6_share_83 : decode cX6_share 83 = .ok (.iload 4, 2) := by decide +kernel
theorem dX6_share_85 : decode cX6_share 85 = .ok (.ifCond .ne 14, 3) := by decide +kernel
theorem dX6_share_88 : decode cX6_share 88 = .ok (.new 304, 3) := by decide +kernel
theorem dX6_share_91 : decode cX6_share 91 = .ok (.dup, 1) := by decide +kernel
theorem dX6_share_92 : decode cX6_share 92 = .ok (.ldc_w 306, 3) := by decide +kernel
theorem dX6_share_95 : decode cX6_share 95 = .ok (.invokespecial 308, 3) := by decide +kernel
theorem dX6_share_98 : decode cX6_share 98 = .ok (.athrow, 1) := by decide +kernel
theorem dX6_share_99 : decode cX6_share 99 = .ok (.iload_n 3, 1) := by decide +kernel
theorem dX6_share_100 : decode cX6_share 100 = .ok (.i2d, 1) := by decide +kernel
theorem dX6_share_101 : decode cX6_share 101 = .ok (.iload 4, 2) := by decide +kernel
theorem dX6_share_103 : decode cX6_share 103 = .ok (.i2d, 1) := by decide +kernel
theorem dX6_share_104 : decode cX6_share 104 = .ok (.ddiv, 1) := by decide +kernel
theorem dX6_share_105 : decode cX6_share 105 = .ok (.dreturn, 1) := by decide +kernel
theorem dX6_feed_0 : decode cX6_feed 0 = .ok (.aload_n 0, 1) := by decide +kernel
theorem dX6_feed_1 : decode cX6_feed 1 = .ok (.getfield 19, 3) := by decide +kernel
theorem dX6_feed_4 : decode cX6_feed 4 = .ok (.invokevirtual 309, 3) := by decide +kernel
theorem dX6_feed_7 : decode cX6_feed 7 = .ok (.ifCond .eq 14, 3) := by decide +kernel
theorem dX6_feed_10 : decode cX6_feed 10 = .ok (.new 103, 3) := by decide +kernel
