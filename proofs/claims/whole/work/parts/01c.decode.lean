theorem dX6_feed_13 : decode cX6_feed 13 = .ok (.dup, 1) := by decide +kernel
theorem dX6_feed_14 : decode cX6_feed 14 = .ok (.ldc_w 310, 3) := by decide +kernel
theorem dX6_feed_17 : decode cX6_feed 17 = .ok (.invokespecial 107, 3) := by decide +kernel
theorem dX6_feed_20 : decode cX6_feed 20 = .ok (.athrow, 1) := by decide +kernel
theorem dX6_feed_21 : decode cX6_feed 21 = .ok (.aload_n 0, 1) := by decide +kernel
theorem dX6_feed_22 : decode cX6_feed 22 = .ok (.getfield 19, 3) := by decide +kernel
theorem dX6_feed_25 : decode cX6_feed 25 = .ok (.iload_n 1, 1) := by decide +kernel
theorem dX6_feed_26 : decode cX6_feed 26 = .ok (.invokevirtual 312, 3) := by decide +kernel
theorem dX6_feed_29 : decode cX6_feed 29 = .ok (.aload_n 0, 1) := by decide +kernel
theorem dX6_feed_30 : decode cX6_feed 30 = .ok (.getfield 19, 3) := by decide +kernel
theorem dX6_feed_33 : decode cX6_feed 33 = .ok (.getfield 315, 3) := by decide +kernel
theorem dX6_feed_36 : decode cX6_feed 36 = .ok (.ireturn, 1) := by decide +kernel
theorem dX6_perform_0 : decode cX6_perform 0 = .ok (.aload_n 0, 1) := by decide +kernel
theorem dX6_perform_1 : decode cX6_perform 1 = .ok (.getfield 19, 3) := by decide +kernel
theorem dX6_perform_4 : decode cX6_perform 4 = .ok (.invokevirtual 318, 3) := by decide +kernel
theorem dX6_perform_7 : decode cX6_perform 7 = .ok (.istore_n 1, 1) := by decide +kernel
theorem dX6_perform_8 : decode cX6_perform 8 = .ok (.aload_n 0, 1) := by decide +kernel
theorem dX6_perform_9 : decode cX6_perform 9 = .ok (.getfield 19, 3) := by decide +kernel
theorem dX6_perform_12 : decode cX6_perform 12 = .ok (.iconst 0, 1) := by decide +kernel
theorem dX6_perform_13 : decode cX6_perform 13 = .ok (.putfield 315, 3) := by decide +kernel
theorem dX6_perform_16 : decode cX6_perform 16 = .ok (.iconst 0, 1) := by decide +kernel
theorem dX6_perform_17 : decode cX6_perform 17 = .ok (.istore_n 2, 1) := by decide +kernel
theorem dX6_perform_18 : decode cX6_perform 18 = .ok (.iload_n 2, 1) := by decide +kernel
theorem dX6_perform_19 : decode cX6_perform 19 = .ok (.iload_n 1, 1) := by decide +kernel
theorem dX6_perform_20 : decode cX6_perform 20 = .ok (.if_icmp .ge 91, 3) := by decide +kernel
theorem dX6_perform_23 : decode cX6_perform 23 = .ok (.iload_n 2, 1) := by decide +kernel
theorem dX6_perform_24 : decode cX6_perform 24 = .ok (.bipush 16, 2) := by decide +kernel
theorem dX6_perform_26 : decode cX6_perform 26 = .ok (.if_icmp .ge 85, 3) := by decide +kernel
theorem dX6_perform_29 : decode cX6_perform 29 = .ok (.aload_n 0, 1) := by decide +kernel
theorem dX6_perform_30 : decode cX6_perform 30 = .ok (.aload_n 0, 1) := by decide +kernel
theorem dX6_perform_31 : decode cX6_perform 31 = .ok (.getfield 19, 3) := by decide +kernel
theorem dX6_perform_34 : decode cX6_perform 34 = .ok (.getfield 321, 3) := by decide +kernel
theorem dX6_perform_37 : decode cX6_perform 37 = .ok (.iload_n 2, 1) := by decide +kernel
theorem dX6_perform_38 : decode cX6_perform 38 = .ok (.iaload, 1) := by decide +kernel
theorem dX6_perform_39 : decode cX6_perform 39 = .ok (.aload_n 0, 1) := by decide +kernel
theorem dX6_perform_40 : decode cX6_perform 40 = .ok (.getfield 19, 3) := by decide +kernel
theorem dX6_perform_43 : decode cX6_perform 43 = .ok (.getfield 324, 3) := by decide +kernel
theorem dX6_perform_46 : decode cX6_perform 46 = .ok (.iload_n 2, 1) := by decide +kernel
theorem dX6_perform_47 : decode cX6_perform 47 = .ok (.iaload, 1) := by decide +kernel
theorem dX6_perform_48 : decode cX6_perform 48 = .ok (.aload_n 0, 1) := by decide +kernel
theorem dX6_perform_49 : decode cX6_perform 49 = .ok (.getfield 19, 3) := by decide +kernel
theorem dX6_perform_52 : decode cX6_perform 52 = .ok (.getfield 327, 3) := by decide +kernel
theorem dX6_perform_55 : decode cX6_perform 55 = .ok (.iload_n 2, 1) := by decide +kernel
theorem dX6_perform_56 : decode cX6_perform 56 = .ok (.iaload, 1) := by decide +kernel
theorem dX6_perform_57 : decode cX6_perform 57 = .ok (.invokevirtual 330, 3) := by decide +kernel
theorem dX6_perform_60 : decode cX6_perform 60 = .ok (.ifCond .ne 14, 3) := by decide +kernel
theorem dX6_perform_63 : decode cX6_perform 63 = .ok (.new 139, 3) := by decide +kernel
theorem dX6_perform_66 : decode cX6_perform 66 = .ok (.dup, 1) := by decide +kernel
theorem dX6_perform_67 : decode cX6_perform 67 = .ok (.ldc_w 334, 3) := by decide +kernel
theorem dX6_perform_70 : decode cX6_perform 70 = .ok (.invokespecial 143, 3) := by decide +kernel
theorem dX6_perform_73 : decode cX6_perform 73 = .ok (.athrow, 1) := by decide +kernel
theorem dX6_perform_74 : decode cX6_perform 74 = .ok (.aload_n 0, 1) := by decide +kernel
theorem dX6_perform_75 : decode cX6_perform 75 = .ok (.aload_n 0, 1) := by decide +kernel
theorem dX6_perform_76 : decode cX6_perform 76 = .ok (.getfield 19, 3) := by decide +kernel
theorem dX6_perform_79 : decode cX6_perform 79 = .ok (.getfield 321, 3) := by decide +kernel
theorem dX6_perform_82 : decode cX6_perform 82 = .ok (.iload_n 2, 1) := by decide +kernel
theorem dX6_perform_83 : decode cX6_perform 83 = .ok (.iaload, 1) := by decide +kernel
theorem dX6_perform_84 : decode cX6_perform 84 = .ok (.aload_n 0, 1) := by decide +kernel
theorem dX6_perform_85 : decode cX6_perform 85 = .ok (.getfield 19, 3) := by decide +kernel
theorem dX6_perform_88 : decode cX6_perform 88 = .ok (.getfield 324, 3) := by decide +kernel
theorem dX6_perform_91 : decode cX6_perform 91 = .ok (.iload_n 2, 1) := by decide +kernel
theorem dX6_perform_92 : decode cX6_perform 92 = .ok (.iaload, 1) := by decide +kernel
theorem dX6_perform_93 : decode cX6_perform 93 = .ok (.aload_n 0, 1) := by decide +kernel
theorem dX6_perform_94 : decode cX6_perform 94 = .ok (.getfield 19, 3) := by decide +kernel
theorem dX6_perform_97 : decode cX6_perform 97 = .ok (.getfield 327, 3) := by decide +kernel
theorem dX6_perform_100 : decode cX6_perform 100 = .ok (.iload_n 2, 1) := by decide +kernel
theorem dX6_perform_101 : decode cX6_perform 101 = .ok (.iaload, 1) := by decide +kernel
theorem dX6_perform_102 : decode cX6_perform 102 = .ok (.invokevirtual 336, 3) := by decide +kernel
theorem dX6_perform_105 : decode cX6_perform 105 = .ok (.iinc 2 1, 3) := by decide +kernel
theorem dX6_perform_108 : decode cX6_perform 108 = .ok (.goto (-90), 3) := by decide +kernel
theorem dX6_perform_111 : decode cX6_perform 111 = .ok (.iload_n 1, 1) := by decide +kernel
theorem dX6_perform_112 : decode cX6_perform 112 = .ok (.ireturn, 1) := by decide +kernel
theorem dX6_write_0 : decode cX6_write 0 = .ok (.aload_n 0, 1) := by decide +kernel
theorem dX6_write_1 : decode cX6_write 1 = .ok (.iload_n 1, 1) := by decide +kernel
theorem dX6_write_2 : decode cX6_write 2 = .ok (.invokevirtual 93, 3) := by decide +kernel
theorem dX6_write_5 : decode cX6_write 5 = .ok (.astore_n 2, 1) := by decide +kernel
theorem dX6_write_6 : decode cX6_write 6 = .ok (.aload_n 2, 1) := by decide +kernel
theorem dX6_write_7 : decode cX6_write 7 = .ok (.getfield 120, 3) := by decide +kernel
theorem dX6_write_10 : decode cX6_write 10 = .ok (.astore_n 3, 1) := by decide +kernel
theorem dX6_write_11 : decode cX6_write 11 = .ok (.aload_n 0, 1) := by decide +kernel
theorem dX6_write_12 : decode cX6_write 12 = .ok (.getfield 26, 3) := by decide +kernel
theorem dX6_write_15 : decode cX6_write 15 = .ok (.iconst 0, 1) := by decide +kernel
theorem dX6_write_16 : decode cX6_write 16 = .ok (.invokevirtual 340, 3) := by decide +kernel
theorem dX6_write_19 : decode cX6_write 19 = .ok (.aload_n 3, 1) := by decide +kernel
theorem dX6_write_20 : decode cX6_write 20 = .ok (.getfield 181, 3) := by decide +kernel
theorem dX6_write_23 : decode cX6_write 23 = .ok (.ifCond .eq 25, 3) := by decide +kernel
theorem dX6_write_26 : decode cX6_write 26 = .ok (.aload_n 0, 1) := by decide +kernel
theorem dX6_write_27 : decode cX6_write 27 = .ok (.getfield 26, 3) := by decide +kernel
theorem dX6_write_30 : decode cX6_write 30 = .ok (.bipush 91, 2) := by decide +kernel
theorem dX6_write_32 : decode cX6_write 32 = .ok (.invokevirtual 343, 3) := by decide +kernel
theorem dX6_write_35 : decode cX6_write 35 = .ok (.aload_n 3, 1) := by decide +kernel
theorem dX6_write_36 : decode cX6_write 36 = .ok (.getfield 181, 3) := by decide +kernel
theorem dX6_write_39 : decode cX6_write 39 = .ok (.invokevirtual 347, 3) := by decide +kernel
theorem dX6_write_42 : decode cX6_write 42 = .ok (.bipush 93, 2) := by decide +kernel
theorem dX6_write_44 : decode cX6_write 44 = .ok (.invokevirtual 343, 3) := by decide +kernel
theorem dX6_write_47 : decode cX6_write 47 = .ok (.pop, 1) := by decide +kernel
theorem dX6_write_48 : decode cX6_write 48 = .ok (.aload_n 3, 1) := by decide +kernel
theorem dX6_write_49 : decode cX6_write 49 = .ok (.getfield 181, 3) := by decide +kernel
theorem dX6_write_52 : decode cX6_write 52 = .ok (.iconst 1, 1) := by decide +kernel
theorem dX6_write_53 : decode cX6_write 53 = .ok (.iadd, 1) := by decide +kernel
theorem dX6_write_54 : decode cX6_write 54 = .ok (.istore 4, 2) := by decide +kernel
theorem dX6_write_56 : decode cX6_write 56 = .ok (.iload 4, 2) := by decide +kernel
theorem dX6_write_58 : decode cX6_write 58 = .ok (.aload_n 3, 1) := by decide +kernel
theorem dX6_write_59 : decode cX6_write 59 = .ok (.invokevirtual 124, 3) := by decide +kernel
theorem dX6_write_62 : decode cX6_write 62 = .ok (.if_icmp .gt 55, 3) := by decide +kernel
theorem dX6_write_65 : decode cX6_write 65 = .ok (.aload_n 0, 1) := by decide +kernel
theorem dX6_write_66 : decode cX6_write 66 = .ok (.getfield 26, 3) := by decide +kernel
theorem dX6_write_69 : decode cX6_write 69 = .ok (.invokevirtual 350, 3) := by decide +kernel
theorem dX6_write_72 : decode cX6_write 72 = .ok (.ifCond .le 13, 3) := by decide +kernel
theorem dX6_write_75 : decode cX6_write 75 = .ok (.aload_n 0, 1) := by decide +kernel
theorem dX6_write_76 : decode cX6_write 76 = .ok (.getfield 26, 3) := by decide +kernel
theorem dX6_write_79 : decode cX6_write 79 = .ok (.bipush 32, 2) := by decide +kernel
theorem dX6_write_81 : decode cX6_write 81 = .ok (.invokevirtual 343, 3) := by decide +kernel
theorem dX6_write_84 : decode cX6_write 84 = .ok (.pop, 1) := by decide +kernel
theorem dX6_write_85 : decode cX6_write 85 = .ok (.aload_n 0, 1) := by decide +kernel
theorem dX6_write_86 : decode cX6_write 86 = .ok (.aload_n 3, 1) := by decide +kernel
theorem dX6_write_87 : decode cX6_write 87 = .ok (.iload 4, 2) := by decide +kernel
theorem dX6_write_89 : decode cX6_write 89 = .ok (.invokevirtual 352, 3) := by decide +kernel
theorem dX6_write_92 : decode cX6_write 92 = .ok (.iload 4, 2) := by decide +kernel
theorem dX6_write_94 : decode cX6_write 94 = .ok (.aload_n 2, 1) := by decide +kernel
theorem dX6_write_95 : decode cX6_write 95 = .ok (.getfield 159, 3) := by decide +kernel
theorem dX6_write_98 : decode cX6_write 98 = .ok (.if_icmp .gt 13, 3) := by decide +kernel
theorem dX6_write_101 : decode cX6_write 101 = .ok (.aload_n 0, 1) := by decide +kernel
theorem dX6_write_102 : decode cX6_write 102 = .ok (.getfield 26, 3) := by decide +kernel
theorem dX6_write_105 : decode cX6_write 105 = .ok (.bipush 33, 2) := by decide +kernel
theorem dX6_write_107 : decode cX6_write 107 = .ok (.invokevirtual 343, 3) := by decide +kernel
theorem dX6_write_110 : decode cX6_write 110 = .ok (.pop, 1) := by decide +kernel
theorem dX6_write_111 : decode cX6_write 111 = .ok (.iinc 4 1, 3) := by decide +kernel
theorem dX6_write_114 : decode cX6_write 114 = .ok (.goto (-58), 3) := by decide +kernel
theorem dX6_write_117 : decode cX6_write 117 = .ok (.aload_n 0, 1) := by decide +kernel
theorem dX6_write_118 : decode cX6_write 118 = .ok (.getfield 26, 3) := by decide +kernel
theorem dX6_write_121 : decode cX6_write 121 = .ok (.invokevirtual 350, 3) := by decide +kernel
theorem dX6_write_124 : decode cX6_write 124 = .ok (.ireturn, 1) := by decide +kernel
theorem dX6_text_0 : decode cX6_text 0 = .ok (.iload_n 1, 1) := by decide +kernel
theorem dX6_text_1 : decode cX6_text 1 = .ok (.ifCond .lt 14, 3) := by decide +kernel
theorem dX6_text_4 : decode cX6_text 4 = .ok (.iload_n 1, 1) := by decide +kernel
theorem dX6_text_5 : decode cX6_text 5 = .ok (.aload_n 0, 1) := by decide +kernel
theorem dX6_text_6 : decode cX6_text 6 = .ok (.getfield 26, 3) := by decide +kernel
theorem dX6_text_9 : decode cX6_text 9 = .ok (.invokevirtual 350, 3) := by decide +kernel
theorem dX6_text_12 : decode cX6_text 12 = .ok (.if_icmp .lt 14, 3) := by decide +kernel
theorem dX6_text_15 : decode cX6_text 15 = .ok (.new 78, 3) := by decide +kernel
theorem dX6_text_18 : decode cX6_text 18 = .ok (.dup, 1) := by decide +kernel
theorem dX6_text_19 : decode cX6_text 19 = .ok (.ldc_w 356, 3) := by decide +kernel
theorem dX6_text_22 : decode cX6_text 22 = .ok (.invokespecial 82, 3) := by decide +kernel
theorem dX6_text_25 : decode cX6_text 25 = .ok (.athrow, 1) := by decide +kernel
theorem dX6_text_26 : decode cX6_text 26 = .ok (.aload_n 0, 1) := by decide +kernel
theorem dX6_text_27 : decode cX6_text 27 = .ok (.getfield 26, 3) := by decide +kernel
theorem dX6_text_30 : decode cX6_text 30 = .ok (.iload_n 1, 1) := by decide +kernel
theorem dX6_text_31 : decode cX6_text 31 = .ok (.invokevirtual 358, 3) := by decide +kernel
theorem dX6_text_34 : decode cX6_text 34 = .ok (.ireturn, 1) := by decide +kernel
theorem dX6_save_0 : decode cX6_save 0 = .ok (.aload_n 0, 1) := by decide +kernel
theorem dX6_save_1 : decode cX6_save 1 = .ok (.getfield 362, 3) := by decide +kernel
theorem dX6_save_4 : decode cX6_save 4 = .ok (.ifnonnull 14, 3) := by decide +kernel
theorem dX6_save_7 : decode cX6_save 7 = .ok (.aload_n 0, 1) := by decide +kernel
theorem dX6_save_8 : decode cX6_save 8 = .ok (.new 9, 3) := by decide +kernel
theorem dX6_save_11 : decode cX6_save 11 = .ok (.dup, 1) := by decide +kernel
theorem dX6_save_12 : decode cX6_save 12 = .ok (.invokespecial 11, 3) := by decide +kernel
theorem dX6_save_15 : decode cX6_save 15 = .ok (.putfield 362, 3) := by decide +kernel
theorem dX6_save_18 : decode cX6_save 18 = .ok (.aload_n 0, 1) := by decide +kernel
theorem dX6_save_19 : decode cX6_save 19 = .ok (.getfield 362, 3) := by decide +kernel
theorem dX6_save_22 : decode cX6_save 22 = .ok (.aload_n 0, 1) := by decide +kernel
theorem dX6_save_23 : decode cX6_save 23 = .ok (.getfield 12, 3) := by decide +kernel
theorem dX6_save_26 : decode cX6_save 26 = .ok (.invokevirtual 365, 3) := by decide +kernel
theorem dX6_save_29 : decode cX6_save 29 = .ok (.aload_n 0, 1) := by decide +kernel
theorem dX6_save_30 : decode cX6_save 30 = .ok (.getfield 362, 3) := by decide +kernel
theorem dX6_save_33 : decode cX6_save 33 = .ok (.getfield 60, 3) := by decide +kernel
theorem dX6_save_36 : decode cX6_save 36 = .ok (.ireturn, 1) := by decide +kernel
theorem dX6_restore_0 : decode cX6_restore 0 = .ok (.aload_n 0, 1) := by decide +kernel
theorem dX6_restore_1 : decode cX6_restore 1 = .ok (.getfield 362, 3) := by decide +kernel
theorem dX6_restore_4 : decode cX6_restore 4 = .ok (.ifnonnull 14, 3) := by decide +kernel
theorem dX6_restore_7 : decode cX6_restore 7 = .ok (.new 103, 3) := by decide +kernel
theorem dX6_restore_10 : decode cX6_restore 10 = .ok (.dup, 1) := by decide +kernel
theorem dX6_restore_11 : decode cX6_restore 11 = .ok (.ldc_w 369, 3) := by decide +kernel
theorem dX6_restore_14 : decode cX6_restore 14 = .ok (.invokespecial 107, 3) := by decide +kernel
theorem dX6_restore_17 : decode cX6_restore 17 = .ok (.athrow, 1) := by decide +kernel
theorem dX6_restore_18 : decode cX6_restore 18 = .ok (.aload_n 0, 1) := by decide +kernel
theorem dX6_restore_19 : decode cX6_restore 19 = .ok (.getfield 12, 3) := by decide +kernel
theorem dX6_restore_22 : decode cX6_restore 22 = .ok (.aload_n 0, 1) := by decide +kernel
theorem dX6_restore_23 : decode cX6_restore 23 = .ok (.getfield 362, 3) := by decide +kernel
theorem dX6_restore_26 : decode cX6_restore 26 = .ok (.invokevirtual 365, 3) := by decide +kernel
theorem dX6_restore_29 : decode cX6_restore 29 = .ok (.aload_n 0, 1) := by decide +kernel
theorem dX6_restore_30 : decode cX6_restore 30 = .ok (.getfield 12, 3) := by decide +kernel
theorem dX6_restore_33 : decode cX6_restore 33 = .ok (.getfield 60, 3) := by decide +kernel
theorem dX6_restore_36 : decode cX6_restore 36 = .ok (.ireturn, 1) := by decide +kernel
theorem dX6_isNode_0 : decode cX6_isNode 0 = .ok (.iload_n 0, 1) := by decide +kernel
theorem dX6_isNode_1 : decode cX6_isNode 1 = .ok (.ifCond .lt 12, 3) := by decide +kernel
theorem dX6_isNode_4 : decode cX6_isNode 4 = .ok (.iload_n 0, 1) := by decide +kernel
theorem dX6_isNode_5 : decode cX6_isNode 5 = .ok (.iconst 5, 1) := by decide +kernel
theorem dX6_isNode_6 : decode cX6_isNode 6 = .ok (.if_icmp .ge 7, 3) := by decide +kernel
theorem dX6_isNode_9 : decode cX6_isNode 9 = .ok (.iconst 1, 1) := by decide +kernel
theorem dX6_isNode_10 : decode cX6_isNode 10 = .ok (.goto 4, 3) := by decide +kernel
theorem dX6_isNode_13 : decode cX6_isNode 13 = .ok (.iconst 0, 1) := by decide +kernel
theorem dX6_isNode_14 : decode cX6_isNode 14 = .ok (.ireturn, 1) := by decide +kernel
theorem dX6_isGroup_0 : decode cX6_isGroup 0 = .ok (.iload_n 0, 1) := by decide +kernel
theorem dX6_isGroup_1 : decode cX6_isGroup 1 = .ok (.ifCond .le 13, 3) := by decide +kernel
theorem dX6_isGroup_4 : decode cX6_isGroup 4 = .ok (.iload_n 0, 1) := by decide +kernel
theorem dX6_isGroup_5 : decode cX6_isGroup 5 = .ok (.bipush 32, 2) := by decide +kernel
theorem dX6_isGroup_7 : decode cX6_isGroup 7 = .ok (.if_icmp .ge 7, 3) := by decide +kernel
theorem dX6_isGroup_10 : decode cX6_isGroup 10 = .ok (.iconst 1, 1) := by decide +kernel
theorem dX6_isGroup_11 : decode cX6_isGroup 11 = .ok (.goto 4, 3) := by decide +kernel
theorem dX6_isGroup_14 : decode cX6_isGroup 14 = .ok (.iconst 0, 1) := by decide +kernel
theorem dX6_isGroup_15 : decode cX6_isGroup 15 = .ok (.ireturn, 1) := by decide +kernel
theorem dX6_areTicks_0 : decode cX6_areTicks 0 = .ok (.iload_n 0, 1) := by decide +kernel
theorem dX6_areTicks_1 : decode cX6_areTicks 1 = .ok (.iconst 1, 1) := by decide +kernel
theorem dX6_areTicks_2 : decode cX6_areTicks 2 = .ok (.if_icmp .lt 13, 3) := by decide +kernel
theorem dX6_areTicks_5 : decode cX6_areTicks 5 = .ok (.iload_n 0, 1) := by decide +kernel
theorem dX6_areTicks_6 : decode cX6_areTicks 6 = .ok (.bipush 60, 2) := by decide +kernel
theorem dX6_areTicks_8 : decode cX6_areTicks 8 = .ok (.if_icmp .gt 7, 3) := by decide +kernel
theorem dX6_areTicks_11 : decode cX6_areTicks 11 = .ok (.iconst 1, 1) := by decide +kernel
theorem dX6_areTicks_12 : decode cX6_areTicks 12 = .ok (.goto 4, 3) := by decide +kernel
theorem dX6_areTicks_15 : decode cX6_areTicks 15 = .ok (.iconst 0, 1) := by decide +kernel
theorem dX6_areTicks_16 : decode cX6_areTicks 16 = .ok (.ireturn, 1) := by decide +kernel
theorem dX6_replicaAt_0 : decode cX6_replicaAt 0 = .ok (.iload_n 1, 1) := by decide +kernel
theorem dX6_replicaAt_1 : decode cX6_replicaAt 1 = .ok (.ifCond .lt 8, 3) := by decide +kernel
theorem dX6_replicaAt_4 : decode cX6_replicaAt 4 = .ok (.iload_n 1, 1) := by decide +kernel
theorem dX6_replicaAt_5 : decode cX6_replicaAt 5 = .ok (.iconst 5, 1) := by decide +kernel
theorem dX6_replicaAt_6 : decode cX6_replicaAt 6 = .ok (.if_icmp .lt 13, 3) := by decide +kernel
theorem dX6_replicaAt_9 : decode cX6_replicaAt 9 = .ok (.new 78, 3) := by decide +kernel
theorem dX6_replicaAt_12 : decode cX6_replicaAt 12 = .ok (.dup, 1) := by decide +kernel
theorem dX6_replicaAt_13 : decode cX6_replicaAt 13 = .ok (.ldc 80, 2) := by decide +kernel
theorem dX6_replicaAt_15 : decode cX6_replicaAt 15 = .ok (.invokespecial 82, 3) := by decide +kernel
theorem dX6_replicaAt_18 : decode cX6_replicaAt 18 = .ok (.athrow, 1) := by decide +kernel
theorem dX6_replicaAt_19 : decode cX6_replicaAt 19 = .ok (.aload_n 0, 1) := by decide +kernel
theorem dX6_replicaAt_20 : decode cX6_replicaAt 20 = .ok (.getfield 12, 3) := by decide +kernel
theorem dX6_replicaAt_23 : decode cX6_replicaAt 23 = .ok (.getfield 263, 3) := by decide +kernel
theorem dX6_replicaAt_26 : decode cX6_replicaAt 26 = .ok (.iload_n 1, 1) := by decide +kernel
theorem dX6_replicaAt_27 : decode cX6_replicaAt 27 = .ok (.aaload, 1) := by decide +kernel
theorem dX6_replicaAt_28 : decode cX6_replicaAt 28 = .ok (.areturn, 1) := by decide +kernel
theorem dX6_writeEntry_0 : decode cX6_writeEntry 0 = .ok (.aload_n 1, 1) := by decide +kernel
theorem dX6_writeEntry_1 : decode cX6_writeEntry 1 = .ok (.iload_n 2, 1) := by decide +kernel
theorem dX6_writeEntry_2 : decode cX6_writeEntry 2 = .ok (.invokevirtual 218, 3) := by decide +kernel
theorem dX6_writeEntry_5 : decode cX6_writeEntry 5 = .ok (.istore_n 3, 1) := by decide +kernel
theorem dX6_writeEntry_6 : decode cX6_writeEntry 6 = .ok (.aload_n 0, 1) := by decide +kernel
theorem dX6_writeEntry_7 : decode cX6_writeEntry 7 = .ok (.getfield 26, 3) := by decide +kernel
theorem dX6_writeEntry_10 : decode cX6_writeEntry 10 = .ok (.aload_n 1, 1) := by decide +kernel
theorem dX6_writeEntry_11 : decode cX6_writeEntry 11 = .ok (.iload_n 2, 1) := by decide +kernel
theorem dX6_writeEntry_12 : decode cX6_writeEntry 12 = .ok (.invokevirtual 215, 3) := by decide +kernel
theorem dX6_writeEntry_15 : decode cX6_writeEntry 15 = .ok (.invokevirtual 347, 3) := by decide +kernel
theorem dX6_writeEntry_18 : decode cX6_writeEntry 18 = .ok (.bipush 58, 2) := by decide +kernel
theorem dX6_writeEntry_20 : decode cX6_writeEntry 20 = .ok (.invokevirtual 343, 3) := by decide +kernel
theorem dX6_writeEntry_23 : decode cX6_writeEntry 23 = .ok (.pop, 1) := by decide +kernel
theorem dX6_writeEntry_24 : decode cX6_writeEntry 24 = .ok (.iload_n 3, 1) := by decide +kernel
theorem dX6_writeEntry_25 : decode cX6_writeEntry 25 = .ok (.iconst 3, 1) := by decide +kernel
theorem dX6_writeEntry_26 : decode cX6_writeEntry 26 = .ok (.if_icmp .ne 14, 3) := by decide +kernel
theorem dX6_writeEntry_29 : decode cX6_writeEntry 29 = .ok (.aload_n 0, 1) := by decide +kernel
theorem dX6_writeEntry_30 : decode cX6_writeEntry 30 = .ok (.getfield 26, 3) := by decide +kernel
theorem dX6_writeEntry_33 : decode cX6_writeEntry 33 = .ok (.bipush 45, 2) := by decide +kernel
theorem dX6_writeEntry_35 : decode cX6_writeEntry 35 = .ok (.invokevirtual 343, 3) := by decide +kernel
theorem dX6_writeEntry_38 : decode cX6_writeEntry 38 = .ok (.pop, 1) := by decide +kernel
theorem dX6_writeEntry_39 : decode cX6_writeEntry 39 = .ok (.return_, 1) := by decide +kernel
theorem dX6_writeEntry_40 : decode cX6_writeEntry 40 = .ok (.iload_n 3, 1) := by decide +kernel
theorem dX6_writeEntry_41 : decode cX6_writeEntry 41 = .ok (.iconst 1, 1) := by decide +kernel
theorem dX6_writeEntry_42 : decode cX6_writeEntry 42 = .ok (.if_icmp .ne 16, 3) := by decide +kernel
theorem dX6_writeEntry_45 : decode cX6_writeEntry 45 = .ok (.aload_n 0, 1) := by decide +kernel
theorem dX6_writeEntry_46 : decode cX6_writeEntry 46 = .ok (.getfield 26, 3) := by decide +kernel
theorem dX6_writeEntry_49 : decode cX6_writeEntry 49 = .ok (.bipush 74, 2) := by decide +kernel
theorem dX6_writeEntry_51 : decode cX6_writeEntry 51 = .ok (.invokevirtual 343, 3) := by decide +kernel
theorem dX6_writeEntry_54 : decode cX6_writeEntry 54 = .ok (.pop, 1) := by decide +kernel
theorem dX6_writeEntry_55 : decode cX6_writeEntry 55 = .ok (.goto 18, 3) := by decide +kernel
theorem dX6_writeEntry_58 : decode cX6_writeEntry 58 = .ok (.iload_n 3, 1) := by decide +kernel
theorem dX6_writeEntry_59 : decode cX6_writeEntry 59 = .ok (.iconst 2, 1) := by decide +kernel
theorem dX6_writeEntry_60 : decode cX6_writeEntry 60 = .ok (.if_icmp .ne 13, 3) := by decide +kernel
theorem dX6_writeEntry_63 : decode cX6_writeEntry 63 = .ok (.aload_n 0, 1) := by decide +kernel
theorem dX6_writeEntry_64 : decode cX6_writeEntry 64 = .ok (.getfield 26, 3) := by decide +kernel
theorem dX6_writeEntry_67 : decode cX6_writeEntry 67 = .ok (.bipush 67, 2) := by decide +kernel
theorem dX6_writeEntry_69 : decode cX6_writeEntry 69 = .ok (.invokevirtual 343, 3) := by decide +kernel
theorem dX6_writeEntry_72 : decode cX6_writeEntry 72 = .ok (.pop, 1) := by decide +kernel
theorem dX6_writeEntry_73 : decode cX6_writeEntry 73 = .ok (.aload_n 0, 1) := by decide +kernel
theorem dX6_writeEntry_74 : decode cX6_writeEntry 74 = .ok (.getfield 26, 3) := by decide +kernel
theorem dX6_writeEntry_77 : decode cX6_writeEntry 77 = .ok (.aload_n 1, 1) := by decide +kernel
theorem dX6_writeEntry_78 : decode cX6_writeEntry 78 = .ok (.iload_n 2, 1) := by decide +kernel
theorem dX6_writeEntry_79 : decode cX6_writeEntry 79 = .ok (.invokevirtual 221, 3) := by decide +kernel
theorem dX6_writeEntry_82 : decode cX6_writeEntry 82 = .ok (.invokevirtual 347, 3) := by decide +kernel
theorem dX6_writeEntry_85 : decode cX6_writeEntry 85 = .ok (.pop, 1) := by decide +kernel
theorem dX6_writeEntry_86 : decode cX6_writeEntry 86 = .ok (.return_, 1) := by decide +kernel
theorem dX6_isPossible_0 : decode cX6_isPossible 0 = .ok (.iload_n 1, 1) := by decide +kernel
theorem dX6_isPossible_1 : decode cX6_isPossible 1 = .ok (.ifCond .ne 8, 3) := by decide +kernel
theorem dX6_isPossible_4 : decode cX6_isPossible 4 = .ok (.iload_n 2, 1) := by decide +kernel
theorem dX6_isPossible_5 : decode cX6_isPossible 5 = .ok (.invokestatic 51, 3) := by decide +kernel
theorem dX6_isPossible_8 : decode cX6_isPossible 8 = .ok (.ireturn, 1) := by decide +kernel
theorem dX6_isPossible_9 : decode cX6_isPossible 9 = .ok (.iload_n 2, 1) := by decide +kernel
theorem dX6_isPossible_10 : decode cX6_isPossible 10 = .ok (.invokestatic 75, 3) := by decide +kernel
theorem dX6_isPossible_13 : decode cX6_isPossible 13 = .ok (.ifCond .ne 5, 3) := by decide +kernel
theorem dX6_isPossible_16 : decode cX6_isPossible 16 = .ok (.iconst 0, 1) := by decide +kernel
theorem dX6_isPossible_17 : decode cX6_isPossible 17 = .ok (.ireturn, 1) := by decide +kernel
theorem dX6_isPossible_18 : decode cX6_isPossible 18 = .ok (.aload_n 0, 1) := by decide +kernel
theorem dX6_isPossible_19 : decode cX6_isPossible 19 = .ok (.getfield 12, 3) := by decide +kernel
theorem dX6_isPossible_22 : decode cX6_isPossible 22 = .ok (.getfield 263, 3) := by decide +kernel
theorem dX6_isPossible_25 : decode cX6_isPossible 25 = .ok (.iload_n 2, 1) := by decide +kernel
theorem dX6_isPossible_26 : decode cX6_isPossible 26 = .ok (.aaload, 1) := by decide +kernel
theorem dX6_isPossible_27 : decode cX6_isPossible 27 = .ok (.astore 4, 2) := by decide +kernel
theorem dX6_isPossible_29 : decode cX6_isPossible 29 = .ok (.iload_n 1, 1) := by decide +kernel
theorem dX6_isPossible_30 : decode cX6_isPossible 30 = .ok (.tableswitch 84 1 6 #[38, 44, 84, 84, 58, 38], 38) := by decide +kernel
theorem dX6_isPossible_68 : decode cX6_isPossible 68 = .ok (.aload 4, 2) := by decide +kernel
theorem dX6_isPossible_70 : decode cX6_isPossible 70 = .ok (.getfield 97, 3) := by decide +kernel
theorem dX6_isPossible_73 : decode cX6_isPossible 73 = .ok (.ireturn, 1) := by decide +kernel
theorem dX6_isPossible_74 : decode cX6_isPossible 74 = .ok (.aload 4, 2) := by decide +kernel
theorem dX6_isPossible_76 : decode cX6_isPossible 76 = .ok (.getfield 97, 3) := by decide +kernel
theorem dX6_isPossible_79 : decode cX6_isPossible 79 = .ok (.ifCond .ne 7, 3) := by decide +kernel
theorem dX6_isPossible_82 : decode cX6_isPossible 82 = .ok (.iconst 1, 1) := by decide +kernel
theorem dX6_isPossible_83 : decode cX6_isPossible 83 = .ok (.goto 4, 3) := by decide +kernel
theorem dX6_isPossible_86 : decode cX6_isPossible 86 = .ok (.iconst 0, 1) := by decide +kernel
theorem dX6_isPossible_87 : decode cX6_isPossible 87 = .ok (.ireturn, 1) := by decide +kernel
theorem dX6_isPossible_88 : decode cX6_isPossible 88 = .ok (.aload 4, 2) := by decide +kernel
theorem dX6_isPossible_90 : decode cX6_isPossible 90 = .ok (.getfield 130, 3) := by decide +kernel
theorem dX6_isPossible_93 : decode cX6_isPossible 93 = .ok (.iconst 2, 1) := by decide +kernel
theorem dX6_isPossible_94 : decode cX6_isPossible 94 = .ok (.if_icmp .ne 18, 3) := by decide +kernel
theorem dX6_isPossible_97 : decode cX6_isPossible 97 = .ok (.aload 4, 2) := by decide +kernel
theorem dX6_isPossible_99 : decode cX6_isPossible 99 = .ok (.getfield 120, 3) := by decide +kernel
theorem dX6_isPossible_102 : decode cX6_isPossible 102 = .ok (.invokevirtual 135, 3) := by decide +kernel
theorem dX6_isPossible_105 : decode cX6_isPossible 105 = .ok (.ifCond .ne 7, 3) := by decide +kernel
theorem dX6_isPossible_108 : decode cX6_isPossible 108 = .ok (.iconst 1, 1) := by decide +kernel
theorem dX6_isPossible_109 : decode cX6_isPossible 109 = .ok (.goto 4, 3) := by decide +kernel
theorem dX6_isPossible_112 : decode cX6_isPossible 112 = .ok (.iconst 0, 1) := by decide +kernel
theorem dX6_isPossible_113 : decode cX6_isPossible 113 = .ok (.ireturn, 1) := by decide +kernel
theorem dX6_isPossible_114 : decode cX6_isPossible 114 = .ok (.iload_n 3, 1) := by decide +kernel
theorem dX6_isPossible_115 : decode cX6_isPossible 115 = .ok (.invokestatic 75, 3) := by decide +kernel
theorem dX6_isPossible_118 : decode cX6_isPossible 118 = .ok (.ifCond .eq 12, 3) := by decide +kernel
theorem dX6_isPossible_121 : decode cX6_isPossible 121 = .ok (.iload_n 2, 1) := by decide +kernel
theorem dX6_isPossible_122 : decode cX6_isPossible 122 = .ok (.iload_n 3, 1) := by decide +kernel
theorem dX6_isPossible_123 : decode cX6_isPossible 123 = .ok (.if_icmp .eq 7, 3) := by decide +kernel
theorem dX6_isPossible_126 : decode cX6_isPossible 126 = .ok (.iconst 1, 1) := by decide +kernel
theorem dX6_isPossible_127 : decode cX6_isPossible 127 = .ok (.goto 4, 3) := by decide +kernel
theorem dX6_isPossible_130 : decode cX6_isPossible 130 = .ok (.iconst 0, 1) := by decide +kernel
theorem dX6_isPossible_131 : decode cX6_isPossible 131 = .ok (.ireturn, 1) := by decide +kernel
theorem dX6_carryOut_0 : decode cX6_carryOut 0 = .ok (.iload_n 1, 1) := by decide +kernel
theorem dX6_carryOut_1 : decode cX6_carryOut 1 = .ok (.ifCond .ne 12, 3) := by decide +kernel
theorem dX6_carryOut_4 : decode cX6_carryOut 4 = .ok (.aload_n 0, 1) := by decide +kernel
theorem dX6_carryOut_5 : decode cX6_carryOut 5 = .ok (.getfield 12, 3) := by decide +kernel
theorem dX6_carryOut_8 : decode cX6_carryOut 8 = .ok (.iload_n 2, 1) := by decide +kernel
theorem dX6_carryOut_9 : decode cX6_carryOut 9 = .ok (.invokevirtual 56, 3) := by decide +kernel
theorem dX6_carryOut_12 : decode cX6_carryOut 12 = .ok (.return_, 1) := by decide +kernel
theorem dX6_carryOut_13 : decode cX6_carryOut 13 = .ok (.aload_n 0, 1) := by decide +kernel
theorem dX6_carryOut_14 : decode cX6_carryOut 14 = .ok (.iload_n 2, 1) := by decide +kernel
theorem dX6_carryOut_15 : decode cX6_carryOut 15 = .ok (.invokevirtual 93, 3) := by decide +kernel
theorem dX6_carryOut_18 : decode cX6_carryOut 18 = .ok (.astore 4, 2) := by decide +kernel
theorem dX6_carryOut_20 : decode cX6_carryOut 20 = .ok (.iload_n 1, 1) := by decide +kernel
theorem dX6_carryOut_21 : decode cX6_carryOut 21 = .ok (.tableswitch 91 1 6 #[39, 47, 91, 91, 59, 74], 39) := by decide +kernel
theorem dX6_carryOut_60 : decode cX6_carryOut 60 = .ok (.aload 4, 2) := by decide +kernel
theorem dX6_carryOut_62 : decode cX6_carryOut 62 = .ok (.invokevirtual 108, 3) := by decide +kernel
theorem dX6_carryOut_65 : decode cX6_carryOut 65 = .ok (.goto 69, 3) := by decide +kernel
theorem dX6_carryOut_68 : decode cX6_carryOut 68 = .ok (.aload_n 0, 1) := by decide +kernel
theorem dX6_carryOut_69 : decode cX6_carryOut 69 = .ok (.getfield 12, 3) := by decide +kernel
theorem dX6_carryOut_72 : decode cX6_carryOut 72 = .ok (.aload 4, 2) := by decide +kernel
theorem dX6_carryOut_74 : decode cX6_carryOut 74 = .ok (.invokevirtual 116, 3) := by decide +kernel
theorem dX6_carryOut_77 : decode cX6_carryOut 77 = .ok (.goto 57, 3) := by decide +kernel
theorem dX6_carryOut_80 : decode cX6_carryOut 80 = .ok (.aload_n 0, 1) := by decide +kernel
theorem dX6_carryOut_81 : decode cX6_carryOut 81 = .ok (.getfield 12, 3) := by decide +kernel
theorem dX6_carryOut_84 : decode cX6_carryOut 84 = .ok (.aload 4, 2) := by decide +kernel
theorem dX6_carryOut_86 : decode cX6_carryOut 86 = .ok (.iconst 0, 1) := by decide +kernel
theorem dX6_carryOut_87 : decode cX6_carryOut 87 = .ok (.iload_n 3, 1) := by decide +kernel
theorem dX6_carryOut_88 : decode cX6_carryOut 88 = .ok (.invokevirtual 144, 3) := by decide +kernel
theorem dX6_carryOut_91 : decode cX6_carryOut 91 = .ok (.pop, 1) := by decide +kernel
theorem dX6_carryOut_92 : decode cX6_carryOut 92 = .ok (.goto 42, 3) := by decide +kernel
theorem dX6_carryOut_95 : decode cX6_carryOut 95 = .ok (.aload 4, 2) := by decide +kernel
theorem dX6_carryOut_97 : decode cX6_carryOut 97 = .ok (.getfield 120, 3) := by decide +kernel
theorem dX6_carryOut_100 : decode cX6_carryOut 100 = .ok (.aload 4, 2) := by decide +kernel
theorem dX6_carryOut_102 : decode cX6_carryOut 102 = .ok (.getfield 159, 3) := by decide +kernel
theorem dX6_carryOut_105 : decode cX6_carryOut 105 = .ok (.invokevirtual 162, 3) := by decide +kernel
theorem dX6_carryOut_108 : decode cX6_carryOut 108 = .ok (.pop, 1) := by decide +kernel
theorem dX6_carryOut_109 : decode cX6_carryOut 109 = .ok (.goto 25, 3) := by decide +kernel
theorem dX6_carryOut_112 : decode cX6_carryOut 112 = .ok (.aload_n 0, 1) := by decide +kernel
theorem dX6_carryOut_113 : decode cX6_carryOut 113 = .ok (.getfield 12, 3) := by decide +kernel
theorem dX6_carryOut_116 : decode cX6_carryOut 116 = .ok (.getfield 66, 3) := by decide +kernel
theorem dX6_carryOut_119 : decode cX6_carryOut 119 = .ok (.iload_n 2, 1) := by decide +kernel
theorem dX6_carryOut_120 : decode cX6_carryOut 120 = .ok (.iload_n 3, 1) := by decide +kernel
theorem dX6_carryOut_121 : decode cX6_carryOut 121 = .ok (.iload_n 1, 1) := by decide +kernel
theorem dX6_carryOut_122 : decode cX6_carryOut 122 = .ok (.iconst 3, 1) := by decide +kernel
theorem dX6_carryOut_123 : decode cX6_carryOut 123 = .ok (.if_icmp .ne 7, 3) := by decide +kernel
theorem dX6_carryOut_126 : decode cX6_carryOut 126 = .ok (.iconst 1, 1) := by decide +kernel
theorem dX6_carryOut_127 : decode cX6_carryOut 127 = .ok (.goto 4, 3) := by decide +kernel
theorem dX6_carryOut_130 : decode cX6_carryOut 130 = .ok (.iconst 0, 1) := by decide +kernel
theorem dX6_carryOut_131 : decode cX6_carryOut 131 = .ok (.invokevirtual 89, 3) := by decide +kernel
theorem dX6_carryOut_134 : decode cX6_carryOut 134 = .ok (.return_, 1) := by decide +kernel
theorem dX7_init_0 : decode cX7_init 0 = .ok (.aload_n 0, 1) := by decide +kernel
theorem dX7_init_1 : decode cX7_init 1 = .ok (.invokespecial 3, 3) := by decide +kernel
theorem dX7_init_4 : decode cX7_init 4 = .ok (.aload_n 0, 1) := by decide +kernel
theorem dX7_init_5 : decode cX7_init 5 = .ok (.sipush 1616, 3) := by decide +kernel
theorem dX7_init_8 : decode cX7_init 8 = .ok (.newarray .int, 2) := by decide +kernel
theorem dX7_init_10 : decode cX7_init 10 = .ok (.putfield 9, 3) := by decide +kernel
theorem dX7_init_13 : decode cX7_init 13 = .ok (.aload_n 0, 1) := by decide +kernel
theorem dX7_init_14 : decode cX7_init 14 = .ok (.sipush 1616, 3) := by decide +kernel
theorem dX7_init_17 : decode cX7_init 17 = .ok (.newarray .int, 2) := by decide +kernel
theorem dX7_init_19 : decode cX7_init 19 = .ok (.putfield 13, 3) := by decide +kernel
theorem dX7_init_22 : decode cX7_init 22 = .ok (.aload_n 0, 1) := by decide +kernel
theorem dX7_init_23 : decode cX7_init 23 = .ok (.bipush 25, 2) := by decide +kernel
theorem dX7_init_25 : decode cX7_init 25 = .ok (.newarray .int, 2) := by decide +kernel
theorem dX7_init_27 : decode cX7_init 27 = .ok (.putfield 16, 3) := by decide +kernel
theorem dX7_init_30 : decode cX7_init 30 = .ok (.aload_n 0, 1) := by decide +kernel
theorem dX7_init_31 : decode cX7_init 31 = .ok (.bipush 80, 2) := by decide +kernel
theorem dX7_init_33 : decode cX7_init 33 = .ok (.newarray .char, 2) := by decide +kernel
theorem dX7_init_35 : decode cX7_init 35 = .ok (.putfield 19, 3) := by decide +kernel
theorem dX7_init_38 : decode cX7_init 38 = .ok (.aload_n 0, 1) := by decide +kernel
theorem dX7_init_39 : decode cX7_init 39 = .ok (.sipush 700, 3) := by decide +kernel
theorem dX7_init_42 : decode cX7_init 42 = .ok (.newarray .char, 2) := by decide +kernel
theorem dX7_init_44 : decode cX7_init 44 = .ok (.putfield 23, 3) := by decide +kernel
theorem dX7_init_47 : decode cX7_init 47 = .ok (.aload_n 0, 1) := by decide +kernel
theorem dX7_init_48 : decode cX7_init 48 = .ok (.bipush 7, 2) := by decide +kernel
theorem dX7_init_50 : decode cX7_init 50 = .ok (.iconst 0, 1) := by decide +kernel
theorem dX7_init_51 : decode cX7_init 51 = .ok (.invokevirtual 26, 3) := by decide +kernel
theorem dX7_init_54 : decode cX7_init 54 = .ok (.return_, 1) := by decide +kernel
theorem dX7_thrown_0 : decode cX7_thrown 0 = .ok (.aload_n 0, 1) := by decide +kernel
theorem dX7_thrown_1 : decode cX7_thrown 1 = .ok (.getfield 30, 3) := by decide +kernel
theorem dX7_thrown_4 : decode cX7_thrown 4 = .ok (.ireturn, 1) := by decide +kernel
theorem dX7_isBetween_0 : decode cX7_isBetween 0 = .ok (.iload_n 0, 1) := by decide +kernel
theorem dX7_isBetween_1 : decode cX7_isBetween 1 = .ok (.iload_n 1, 1) := by decide +kernel
theorem dX7_isBetween_2 : decode cX7_isBetween 2 = .ok (.if_icmp .lt 12, 3) := by decide +kernel
theorem dX7_isBetween_5 : decode cX7_isBetween 5 = .ok (.iload_n 0, 1) := by decide +kernel
theorem dX7_isBetween_6 : decode cX7_isBetween 6 = .ok (.iload_n 2, 1) := by decide +kernel
theorem dX7_isBetween_7 : decode cX7_isBetween 7 = .ok (.if_icmp .gt 7, 3) := by decide +kernel
theorem dX7_isBetween_10 : decode cX7_isBetween 10 = .ok (.iconst 1, 1) := by decide +kernel
theorem dX7_isBetween_11 : decode cX7_isBetween 11 = .ok (.goto 4, 3) := by decide +kernel
theorem dX7_isBetween_14 : decode cX7_isBetween 14 = .ok (.iconst 0, 1) := by decide +kernel
theorem dX7_isBetween_15 : decode cX7_isBetween 15 = .ok (.ireturn, 1) := by decide +kernel
theorem dX7_has_0 : decode cX7_has 0 = .ok (.iload_n 0, 1) := by decide +kernel
theorem dX7_has_1 : decode cX7_has 1 = .ok (.iload_n 1, 1) := by decide +kernel
theorem dX7_has_2 : decode cX7_has 2 = .ok (.ishr, 1) := by decide +kernel
theorem dX7_has_3 : decode cX7_has 3 = .ok (.iconst 1, 1) := by decide +kernel
theorem dX7_has_4 : decode cX7_has 4 = .ok (.iand, 1) := by decide +kernel
theorem dX7_has_5 : decode cX7_has 5 = .ok (.iconst 1, 1) := by decide +kernel
theorem dX7_has_6 : decode cX7_has 6 = .ok (.if_icmp .ne 7, 3) := by decide +kernel
theorem dX7_has_9 : decode cX7_has 9 = .ok (.iconst 1, 1) := by decide +kernel
theorem dX7_has_10 : decode cX7_has 10 = .ok (.goto 4, 3) := by decide +kernel
theorem dX7_has_13 : decode cX7_has 13 = .ok (.iconst 0, 1) := by decide +kernel
theorem dX7_has_14 : decode cX7_has 14 = .ok (.ireturn, 1) := by decide +kernel
theorem dX7_countBits_0 : decode cX7_countBits 0 = .ok (.iconst 0, 1) := by decide +kernel
theorem dX7_countBits_1 : decode cX7_countBits 1 = .ok (.istore_n 1, 1) := by decide +kernel
theorem dX7_countBits_2 : decode cX7_countBits 2 = .ok (.iload_n 0, 1) := by decide +kernel
theorem dX7_countBits_3 : decode cX7_countBits 3 = .ok (.istore_n 2, 1) := by decide +kernel
theorem dX7_countBits_4 : decode cX7_countBits 4 = .ok (.iload_n 2, 1) := by decide +kernel
theorem dX7_countBits_5 : decode cX7_countBits 5 = .ok (.ifCond .eq 15, 3) := by decide +kernel
theorem dX7_countBits_8 : decode cX7_countBits 8 = .ok (.iinc 1 1, 3) := by decide +kernel
theorem dX7_countBits_11 : decode cX7_countBits 11 = .ok (.iload_n 2, 1) := by decide +kernel
theorem dX7_countBits_12 : decode cX7_countBits 12 = .ok (.iload_n 2, 1) := by decide +kernel
theorem dX7_countBits_13 : decode cX7_countBits 13 = .ok (.iconst 1, 1) := by decide +kernel
theorem dX7_countBits_14 : decode cX7_countBits 14 = .ok (.isub, 1) := by decide +kernel
theorem dX7_countBits_15 : decode cX7_countBits 15 = .ok (.iand, 1) := by decide +kernel
theorem dX7_countBits_16 : decode cX7_countBits 16 = .ok (.istore_n 2, 1) := by decide +kernel
theorem dX7_countBits_17 : decode cX7_countBits 17 = .ok (.goto (-13), 3) := by decide +kernel
theorem dX7_countBits_20 : decode cX7_countBits 20 = .ok (.iload_n 1, 1) := by decide +kernel
theorem dX7_countBits_21 : decode cX7_countBits 21 = .ok (.ireturn, 1) := by decide +kernel
theorem dX7_copy_0 : decode cX7_copy 0 = .ok (.iconst 0, 1) := by decide +kernel
theorem dX7_copy_1 : decode cX7_copy 1 = .ok (.istore_n 2, 1) := by decide +kernel
theorem dX7_copy_2 : decode cX7_copy 2 = .ok (.iload_n 2, 1) := by decide +kernel
theorem dX7_copy_3 : decode cX7_copy 3 = .ok (.aload_n 0, 1) := by decide +kernel
theorem dX7_copy_4 : decode cX7_copy 4 = .ok (.arraylength, 1) := by decide +kernel
theorem dX7_copy_5 : decode cX7_copy 5 = .ok (.if_icmp .ge 15, 3) := by decide +kernel
theorem dX7_copy_8 : decode cX7_copy 8 = .ok (.aload_n 1, 1) := by decide +kernel
theorem dX7_copy_9 : decode cX7_copy 9 = .ok (.iload_n 2, 1) := by decide +kernel
theorem dX7_copy_10 : decode cX7_copy 10 = .ok (.aload_n 0, 1) := by decide +kernel
theorem dX7_copy_11 : decode cX7_copy 11 = .ok (.iload_n 2, 1) := by decide +kernel
theorem dX7_copy_12 : decode cX7_copy 12 = .ok (.iaload, 1) := by decide +kernel
theorem dX7_copy_13 : decode cX7_copy 13 = .ok (.iastore, 1) := by decide +kernel
theorem dX7_copy_14 : decode cX7_copy 14 = .ok (.iinc 2 1, 3) := by decide +kernel
theorem dX7_copy_17 : decode cX7_copy 17 = .ok (.goto (-15), 3) := by decide +kernel
theorem dX7_copy_20 : decode cX7_copy 20 = .ok (.return_, 1) := by decide +kernel
theorem dX7_fails_0 : decode cX7_fails 0 = .ok (.aload_n 0, 1) := by decide +kernel
theorem dX7_fails_1 : decode cX7_fails 1 = .ok (.iload_n 2, 1) := by decide +kernel
theorem dX7_fails_2 : decode cX7_fails 2 = .ok (.ifCond .eq 7, 3) := by decide +kernel
theorem dX7_fails_5 : decode cX7_fails 5 = .ok (.iload_n 1, 1) := by decide +kernel
theorem dX7_fails_6 : decode cX7_fails 6 = .ok (.goto 4, 3) := by decide +kernel
theorem dX7_fails_9 : decode cX7_fails 9 = .ok (.iconst 0, 1) := by decide +kernel
theorem dX7_fails_10 : decode cX7_fails 10 = .ok (.putfield 30, 3) := by decide +kernel
theorem dX7_fails_13 : decode cX7_fails 13 = .ok (.iload_n 2, 1) := by decide +kernel
theorem dX7_fails_14 : decode cX7_fails 14 = .ok (.ireturn, 1) := by decide +kernel
theorem dX7_isNode_0 : decode cX7_isNode 0 = .ok (.iload_n 0, 1) := by decide +kernel
theorem dX7_isNode_1 : decode cX7_isNode 1 = .ok (.iconst 0, 1) := by decide +kernel
theorem dX7_isNode_2 : decode cX7_isNode 2 = .ok (.iconst 4, 1) := by decide +kernel
theorem dX7_isNode_3 : decode cX7_isNode 3 = .ok (.invokestatic 34, 3) := by decide +kernel
theorem dX7_isNode_6 : decode cX7_isNode 6 = .ok (.ireturn, 1) := by decide +kernel
theorem dX7_isGroup_0 : decode cX7_isGroup 0 = .ok (.iload_n 0, 1) := by decide +kernel
theorem dX7_isGroup_1 : decode cX7_isGroup 1 = .ok (.iconst 1, 1) := by decide +kernel
theorem dX7_isGroup_2 : decode cX7_isGroup 2 = .ok (.bipush 31, 2) := by decide +kernel
theorem dX7_isGroup_4 : decode cX7_isGroup 4 = .ok (.invokestatic 34, 3) := by decide +kernel
theorem dX7_isGroup_7 : decode cX7_isGroup 7 = .ok (.ireturn, 1) := by decide +kernel
theorem dX7_of_0 : decode cX7_of 0 = .ok (.aload_n 0, 1) := by decide +kernel
theorem dX7_of_1 : decode cX7_of 1 = .ok (.getfield 9, 3) := by decide +kernel
theorem dX7_of_4 : decode cX7_of 4 = .ok (.bipush 116, 2) := by decide +kernel
theorem dX7_of_6 : decode cX7_of 6 = .ok (.iload_n 1, 1) := by decide +kernel
theorem dX7_of_7 : decode cX7_of 7 = .ok (.bipush 100, 2) := by decide +kernel
theorem dX7_of_9 : decode cX7_of 9 = .ok (.imul, 1) := by decide +kernel
theorem dX7_of_10 : decode cX7_of 10 = .ok (.iadd, 1) := by decide +kernel
theorem dX7_of_11 : decode cX7_of 11 = .ok (.iload_n 2, 1) := by decide +kernel
theorem dX7_of_12 : decode cX7_of 12 = .ok (.iadd, 1) := by decide +kernel
theorem dX7_of_13 : decode cX7_of 13 = .ok (.iaload, 1) := by decide +kernel
theorem dX7_of_14 : decode cX7_of 14 = .ok (.ireturn, 1) := by decide +kernel
theorem dX7_set_0 : decode cX7_set 0 = .ok (.aload_n 0, 1) := by decide +kernel
theorem dX7_set_1 : decode cX7_set 1 = .ok (.getfield 9, 3) := by decide +kernel
theorem dX7_set_4 : decode cX7_set 4 = .ok (.bipush 116, 2) := by decide +kernel
theorem dX7_set_6 : decode cX7_set 6 = .ok (.iload_n 1, 1) := by decide +kernel
theorem dX7_set_7 : decode cX7_set 7 = .ok (.bipush 100, 2) := by decide +kernel
theorem dX7_set_9 : decode cX7_set 9 = .ok (.imul, 1) := by decide +kernel
theorem dX7_set_10 : decode cX7_set 10 = .ok (.iadd, 1) := by decide +kernel
theorem dX7_set_11 : decode cX7_set 11 = .ok (.iload_n 2, 1) := by decide +kernel
theorem dX7_set_12 : decode cX7_set 12 = .ok (.iadd, 1) := by decide +kernel
theorem dX7_set_13 : decode cX7_set 13 = .ok (.iload_n 3, 1) := by decide +kernel
theorem dX7_set_14 : decode cX7_set 14 = .ok (.iastore, 1) := by decide +kernel
theorem dX7_set_15 : decode cX7_set 15 = .ok (.return_, 1) := by decide +kernel
theorem dX7_resetTimer_0 : decode cX7_resetTimer 0 = .ok (.aload_n 0, 1) := by decide +kernel
theorem dX7_resetTimer_1 : decode cX7_resetTimer 1 = .ok (.getfield 9, 3) := by decide +kernel
theorem dX7_resetTimer_4 : decode cX7_resetTimer 4 = .ok (.iconst 2, 1) := by decide +kernel
theorem dX7_resetTimer_5 : decode cX7_resetTimer 5 = .ok (.iaload, 1) := by decide +kernel
theorem dX7_resetTimer_6 : decode cX7_resetTimer 6 = .ok (.iconst 5, 1) := by decide +kernel
theorem dX7_resetTimer_7 : decode cX7_resetTimer 7 = .ok (.aload_n 0, 1) := by decide +kernel
theorem dX7_resetTimer_8 : decode cX7_resetTimer 8 = .ok (.iload_n 1, 1) := by decide +kernel
theorem dX7_resetTimer_9 : decode cX7_resetTimer 9 = .ok (.iconst 2, 1) := by decide +kernel
theorem dX7_resetTimer_10 : decode cX7_resetTimer 10 = .ok (.invokevirtual 38, 3) := by decide +kernel
theorem dX7_resetTimer_13 : decode cX7_resetTimer 13 = .ok (.imul, 1) := by decide +kernel
theorem dX7_resetTimer_14 : decode cX7_resetTimer 14 = .ok (.iadd, 1) := by decide +kernel
theorem dX7_resetTimer_15 : decode cX7_resetTimer 15 = .ok (.iload_n 1, 1) := by decide +kernel
theorem dX7_resetTimer_16 : decode cX7_resetTimer 16 = .ok (.iadd, 1) := by decide +kernel
theorem dX7_resetTimer_17 : decode cX7_resetTimer 17 = .ok (.ldc 42, 2) := by decide +kernel
theorem dX7_resetTimer_19 : decode cX7_resetTimer 19 = .ok (.imul, 1) := by decide +kernel
theorem dX7_resetTimer_20 : decode cX7_resetTimer 20 = .ok (.bipush 20, 2) := by decide +kernel
theorem dX7_resetTimer_22 : decode cX7_resetTimer 22 = .ok (.iushr, 1) := by decide +kernel
theorem dX7_resetTimer_23 : decode cX7_resetTimer 23 = .ok (.istore_n 2, 1) := by decide +kernel
theorem dX7_resetTimer_24 : decode cX7_resetTimer 24 = .ok (.aload_n 0, 1) := by decide +kernel
theorem dX7_resetTimer_25 : decode cX7_resetTimer 25 = .ok (.iload_n 1, 1) := by decide +kernel
theorem dX7_resetTimer_26 : decode cX7_resetTimer 26 = .ok (.iconst 5, 1) := by decide +kernel
theorem dX7_resetTimer_27 : decode cX7_resetTimer 27 = .ok (.bipush 8, 2) := by decide +kernel
theorem dX7_resetTimer_29 : decode cX7_resetTimer 29 = .ok (.iload_n 2, 1) := by decide +kernel
theorem dX7_resetTimer_30 : decode cX7_resetTimer 30 = .ok (.bipush 7, 2) := by decide +kernel
theorem dX7_resetTimer_32 : decode cX7_resetTimer 32 = .ok (.iand, 1) := by decide +kernel
theorem dX7_resetTimer_33 : decode cX7_resetTimer 33 = .ok (.iadd, 1) := by decide +kernel
theorem dX7_resetTimer_34 : decode cX7_resetTimer 34 = .ok (.invokevirtual 43, 3) := by decide +kernel
theorem dX7_resetTimer_37 : decode cX7_resetTimer 37 = .ok (.return_, 1) := by decide +kernel
theorem dX7_begin_0 : decode cX7_begin 0 = .ok (.iconst 0, 1) := by decide +kernel
theorem dX7_begin_1 : decode cX7_begin 1 = .ok (.istore_n 3, 1) := by decide +kernel
theorem dX7_begin_2 : decode cX7_begin 2 = .ok (.iload_n 3, 1) := by decide +kernel
theorem dX7_begin_3 : decode cX7_begin 3 = .ok (.sipush 1616, 3) := by decide +kernel
theorem dX7_begin_6 : decode cX7_begin 6 = .ok (.if_icmp .ge 16, 3) := by decide +kernel
theorem dX7_begin_9 : decode cX7_begin 9 = .ok (.aload_n 0, 1) := by decide +kernel
theorem dX7_begin_10 : decode cX7_begin 10 = .ok (.getfield 9, 3) := by decide +kernel
theorem dX7_begin_13 : decode cX7_begin 13 = .ok (.iload_n 3, 1) := by decide +kernel
theorem dX7_begin_14 : decode cX7_begin 14 = .ok (.iconst 0, 1) := by decide +kernel
theorem dX7_begin_15 : decode cX7_begin 15 = .ok (.iastore, 1) := by decide +kernel
theorem dX7_begin_16 : decode cX7_begin 16 = .ok (.iinc 3 1, 3) := by decide +kernel
theorem dX7_begin_19 : decode cX7_begin 19 = .ok (.goto (-17), 3) := by decide +kernel
theorem dX7_begin_22 : decode cX7_begin 22 = .ok (.aload_n 0, 1) := by decide +kernel
theorem dX7_begin_23 : decode cX7_begin 23 = .ok (.getfield 9, 3) := by decide +kernel
theorem dX7_begin_26 : decode cX7_begin 26 = .ok (.iconst 1, 1) := by decide +kernel
theorem dX7_begin_27 : decode cX7_begin 27 = .ok (.iconst 1, 1) := by decide +kernel
theorem dX7_begin_28 : decode cX7_begin 28 = .ok (.iastore, 1) := by decide +kernel
theorem dX7_begin_29 : decode cX7_begin 29 = .ok (.aload_n 0, 1) := by decide +kernel
theorem dX7_begin_30 : decode cX7_begin 30 = .ok (.getfield 9, 3) := by decide +kernel
theorem dX7_begin_33 : decode cX7_begin 33 = .ok (.iconst 2, 1) := by decide +kernel
theorem dX7_begin_34 : decode cX7_begin 34 = .ok (.iload_n 2, 1) := by decide +kernel
theorem dX7_begin_35 : decode cX7_begin 35 = .ok (.iastore, 1) := by decide +kernel
theorem dX7_begin_36 : decode cX7_begin 36 = .ok (.iconst 0, 1) := by decide +kernel
theorem dX7_begin_37 : decode cX7_begin 37 = .ok (.istore_n 3, 1) := by decide +kernel
theorem dX7_begin_38 : decode cX7_begin 38 = .ok (.iload_n 3, 1) := by decide +kernel
theorem dX7_begin_39 : decode cX7_begin 39 = .ok (.bipush 100, 2) := by decide +kernel
theorem dX7_begin_41 : decode cX7_begin 41 = .ok (.if_icmp .ge 19, 3) := by decide +kernel
theorem dX7_begin_44 : decode cX7_begin 44 = .ok (.aload_n 0, 1) := by decide +kernel
theorem dX7_begin_45 : decode cX7_begin 45 = .ok (.getfield 9, 3) := by decide +kernel
theorem dX7_begin_48 : decode cX7_begin 48 = .ok (.bipush 16, 2) := by decide +kernel
theorem dX7_begin_50 : decode cX7_begin 50 = .ok (.iload_n 3, 1) := by decide +kernel
theorem dX7_begin_51 : decode cX7_begin 51 = .ok (.iadd, 1) := by decide +kernel
theorem dX7_begin_52 : decode cX7_begin 52 = .ok (.iconst (-1), 1) := by decide +kernel
theorem dX7_begin_53 : decode cX7_begin 53 = .ok (.iastore, 1) := by decide +kernel
theorem dX7_begin_54 : decode cX7_begin 54 = .ok (.iinc 3 1, 3) := by decide +kernel
theorem dX7_begin_57 : decode cX7_begin 57 = .ok (.goto (-19), 3) := by decide +kernel
theorem dX7_begin_60 : decode cX7_begin 60 = .ok (.iconst 0, 1) := by decide +kernel
theorem dX7_begin_61 : decode cX7_begin 61 = .ok (.istore_n 3, 1) := by decide +kernel
theorem dX7_begin_62 : decode cX7_begin 62 = .ok (.iload_n 3, 1) := by decide +kernel
theorem dX7_begin_63 : decode cX7_begin 63 = .ok (.iconst 5, 1) := by decide +kernel
theorem dX7_begin_64 : decode cX7_begin 64 = .ok (.if_icmp .ge 36, 3) := by decide +kernel
theorem dX7_begin_67 : decode cX7_begin 67 = .ok (.aload_n 0, 1) := by decide +kernel
theorem dX7_begin_68 : decode cX7_begin 68 = .ok (.iload_n 3, 1) := by decide +kernel
theorem dX7_begin_69 : decode cX7_begin 69 = .ok (.iconst 0, 1) := by decide +kernel
theorem dX7_begin_70 : decode cX7_begin 70 = .ok (.iconst 1, 1) := by decide +kernel
theorem dX7_begin_71 : decode cX7_begin 71 = .ok (.invokevirtual 43, 3) := by decide +kernel
theorem dX7_begin_74 : decode cX7_begin 74 = .ok (.aload_n 0, 1) := by decide +kernel
theorem dX7_begin_75 : decode cX7_begin 75 = .ok (.iload_n 3, 1) := by decide +kernel
theorem dX7_begin_76 : decode cX7_begin 76 = .ok (.iconst 3, 1) := by decide +kernel
theorem dX7_begin_77 : decode cX7_begin 77 = .ok (.iconst (-1), 1) := by decide +kernel
theorem dX7_begin_78 : decode cX7_begin 78 = .ok (.invokevirtual 43, 3) := by decide +kernel
theorem dX7_begin_81 : decode cX7_begin 81 = .ok (.aload_n 0, 1) := by decide +kernel
theorem dX7_begin_82 : decode cX7_begin 82 = .ok (.iload_n 3, 1) := by decide +kernel
theorem dX7_begin_83 : decode cX7_begin 83 = .ok (.bipush 11, 2) := by decide +kernel
theorem dX7_begin_85 : decode cX7_begin 85 = .ok (.iload_n 1, 1) := by decide +kernel
theorem dX7_begin_86 : decode cX7_begin 86 = .ok (.invokevirtual 43, 3) := by decide +kernel
theorem dX7_begin_89 : decode cX7_begin 89 = .ok (.aload_n 0, 1) := by decide +kernel
theorem dX7_begin_90 : decode cX7_begin 90 = .ok (.iload_n 3, 1) := by decide +kernel
theorem dX7_begin_91 : decode cX7_begin 91 = .ok (.invokevirtual 47, 3) := by decide +kernel
theorem dX7_begin_94 : decode cX7_begin 94 = .ok (.iinc 3 1, 3) := by decide +kernel
theorem dX7_begin_97 : decode cX7_begin 97 = .ok (.goto (-35), 3) := by decide +kernel
theorem dX7_begin_100 : decode cX7_begin 100 = .ok (.return_, 1) := by decide +kernel
theorem dX7_start_0 : decode cX7_start 0 = .ok (.aload_n 0, 1) := by decide +kernel
theorem dX7_start_1 : decode cX7_start 1 = .ok (.iconst 1, 1) := by decide +kernel
theorem dX7_start_2 : decode cX7_start 2 = .ok (.iload_n 1, 1) := by decide +kernel
theorem dX7_start_3 : decode cX7_start 3 = .ok (.invokestatic 51, 3) := by decide +kernel
theorem dX7_start_6 : decode cX7_start 6 = .ok (.ifCond .ne 7, 3) := by decide +kernel
theorem dX7_start_9 : decode cX7_start 9 = .ok (.iconst 1, 1) := by decide +kernel
theorem dX7_start_10 : decode cX7_start 10 = .ok (.goto 4, 3) := by decide +kernel
theorem dX7_start_13 : decode cX7_start 13 = .ok (.iconst 0, 1) := by decide +kernel
theorem dX7_start_14 : decode cX7_start 14 = .ok (.invokevirtual 55, 3) := by decide +kernel
theorem dX7_start_17 : decode cX7_start 17 = .ok (.ifCond .eq 5, 3) := by decide +kernel
theorem dX7_start_20 : decode cX7_start 20 = .ok (.iconst 0, 1) := by decide +kernel
theorem dX7_start_21 : decode cX7_start 21 = .ok (.ireturn, 1) := by decide +kernel
theorem dX7_start_22 : decode cX7_start 22 = .ok (.aload_n 0, 1) := by decide +kernel
theorem dX7_start_23 : decode cX7_start 23 = .ok (.iload_n 1, 1) := by decide +kernel
theorem dX7_start_24 : decode cX7_start 24 = .ok (.iload_n 2, 1) := by decide +kernel
theorem dX7_start_25 : decode cX7_start 25 = .ok (.invokevirtual 26, 3) := by decide +kernel
theorem dX7_start_28 : decode cX7_start 28 = .ok (.iload_n 1, 1) := by decide +kernel
theorem dX7_start_29 : decode cX7_start 29 = .ok (.invokestatic 59, 3) := by decide +kernel
theorem dX7_start_32 : decode cX7_start 32 = .ok (.ireturn, 1) := by decide +kernel
theorem dX7_last_0 : decode cX7_last 0 = .ok (.aload_n 0, 1) := by decide +kernel
theorem dX7_last_1 : decode cX7_last 1 = .ok (.iload_n 1, 1) := by decide +kernel
theorem dX7_last_2 : decode cX7_last 2 = .ok (.bipush 7, 2) := by decide +kernel
theorem dX7_last_4 : decode cX7_last 4 = .ok (.invokevirtual 38, 3) := by decide +kernel
theorem dX7_last_7 : decode cX7_last 7 = .ok (.aload_n 0, 1) := by decide +kernel
theorem dX7_last_8 : decode cX7_last 8 = .ok (.iload_n 1, 1) := by decide +kernel
theorem dX7_last_9 : decode cX7_last 9 = .ok (.bipush 12, 2) := by decide +kernel
theorem dX7_last_11 : decode cX7_last 11 = .ok (.invokevirtual 38, 3) := by decide +kernel
theorem dX7_last_14 : decode cX7_last 14 = .ok (.iadd, 1) := by decide +kernel
theorem dX7_last_15 : decode cX7_last 15 = .ok (.ireturn, 1) := by decide +kernel
theorem dX7_entryOf_0 : decode cX7_entryOf 0 = .ok (.aload_n 0, 1) := by decide +kernel
theorem dX7_entryOf_1 : decode cX7_entryOf 1 = .ok (.iload_n 1, 1) := by decide +kernel
theorem dX7_entryOf_2 : decode cX7_entryOf 2 = .ok (.bipush 28, 2) := by decide +kernel
theorem dX7_entryOf_4 : decode cX7_entryOf 4 = .ok (.iconst 3, 1) := by decide +kernel
theorem dX7_entryOf_5 : decode cX7_entryOf 5 = .ok (.iload_n 2, 1) := by decide +kernel
theorem dX7_entryOf_6 : decode cX7_entryOf 6 = .ok (.aload_n 0, 1) := by decide +kernel
theorem dX7_entryOf_7 : decode cX7_entryOf 7 = .ok (.iload_n 1, 1) := by decide +kernel
theorem dX7_entryOf_8 : decode cX7_entryOf 8 = .ok (.bipush 7, 2) := by decide +kernel
theorem dX7_entryOf_10 : decode cX7_entryOf 10 = .ok (.invokevirtual 38, 3) := by decide +kernel
theorem dX7_entryOf_13 : decode cX7_entryOf 13 = .ok (.isub, 1) := by decide +kernel
theorem dX7_entryOf_14 : decode cX7_entryOf 14 = .ok (.iconst 1, 1) := by decide +kernel
theorem dX7_entryOf_15 : decode cX7_entryOf 15 = .ok (.isub, 1) := by decide +kernel
theorem dX7_entryOf_16 : decode cX7_entryOf 16 = .ok (.imul, 1) := by decide +kernel
theorem dX7_entryOf_17 : decode cX7_entryOf 17 = .ok (.iadd, 1) := by decide +kernel
theorem dX7_entryOf_18 : decode cX7_entryOf 18 = .ok (.iload_n 3, 1) := by decide +kernel
theorem dX7_entryOf_19 : decode cX7_entryOf 19 = .ok (.iadd, 1) := by decide +kernel
theorem dX7_entryOf_20 : decode cX7_entryOf 20 = .ok (.invokevirtual 38, 3) := by decide +kernel
theorem dX7_entryOf_23 : decode cX7_entryOf 23 = .ok (.ireturn, 1) := by decide +kernel
theorem dX7_termAt_0 : decode cX7_termAt 0 = .ok (.iload_n 2, 1) := by decide +kernel
theorem dX7_termAt_1 : decode cX7_termAt 1 = .ok (.aload_n 0, 1) := by decide +kernel
theorem dX7_termAt_2 : decode cX7_termAt 2 = .ok (.iload_n 1, 1) := by decide +kernel
theorem dX7_termAt_3 : decode cX7_termAt 3 = .ok (.bipush 7, 2) := by decide +kernel
theorem dX7_termAt_5 : decode cX7_termAt 5 = .ok (.invokevirtual 38, 3) := by decide +kernel
theorem dX7_termAt_8 : decode cX7_termAt 8 = .ok (.if_icmp .ne 13, 3) := by decide +kernel
theorem dX7_termAt_11 : decode cX7_termAt 11 = .ok (.aload_n 0, 1) := by decide +kernel
theorem dX7_termAt_12 : decode cX7_termAt 12 = .ok (.iload_n 1, 1) := by decide +kernel
theorem dX7_termAt_13 : decode cX7_termAt 13 = .ok (.bipush 8, 2) := by decide +kernel
theorem dX7_termAt_15 : decode cX7_termAt 15 = .ok (.invokevirtual 38, 3) := by decide +kernel
theorem dX7_termAt_18 : decode cX7_termAt 18 = .ok (.goto 10, 3) := by decide +kernel
theorem dX7_termAt_21 : decode cX7_termAt 21 = .ok (.aload_n 0, 1) := by decide +kernel
theorem dX7_termAt_22 : decode cX7_termAt 22 = .ok (.iload_n 1, 1) := by decide +kernel
theorem dX7_termAt_23 : decode cX7_termAt 23 = .ok (.iload_n 2, 1) := by decide +kernel
theorem dX7_termAt_24 : decode cX7_termAt 24 = .ok (.iconst 0, 1) := by decide +kernel
theorem dX7_termAt_25 : decode cX7_termAt 25 = .ok (.invokevirtual 63, 3) := by decide +kernel
theorem dX7_termAt_28 : decode cX7_termAt 28 = .ok (.ireturn, 1) := by decide +kernel
theorem dX7_add_0 : decode cX7_add 0 = .ok (.bipush 28, 2) := by decide +kernel
theorem dX7_add_2 : decode cX7_add 2 = .ok (.iconst 3, 1) := by decide +kernel
theorem dX7_add_3 : decode cX7_add 3 = .ok (.aload_n 0, 1) := by decide +kernel
theorem dX7_add_4 : decode cX7_add 4 = .ok (.iload_n 1, 1) := by decide +kernel
theorem dX7_add_5 : decode cX7_add 5 = .ok (.bipush 12, 2) := by decide +kernel
theorem dX7_add_7 : decode cX7_add 7 = .ok (.invokevirtual 38, 3) := by decide +kernel
theorem dX7_add_10 : decode cX7_add 10 = .ok (.imul, 1) := by decide +kernel
theorem dX7_add_11 : decode cX7_add 11 = .ok (.iadd, 1) := by decide +kernel
theorem dX7_add_12 : decode cX7_add 12 = .ok (.istore 5, 2) := by decide +kernel
theorem dX7_add_14 : decode cX7_add 14 = .ok (.aload_n 0, 1) := by decide +kernel
theorem dX7_add_15 : decode cX7_add 15 = .ok (.iload_n 1, 1) := by decide +kernel
theorem dX7_add_16 : decode cX7_add 16 = .ok (.iload 5, 2) := by decide +kernel
theorem dX7_add_18 : decode cX7_add 18 = .ok (.iload_n 2, 1) := by decide +kernel
theorem dX7_add_19 : decode cX7_add 19 = .ok (.invokevirtual 43, 3) := by decide +kernel
theorem dX7_add_22 : decode cX7_add 22 = .ok (.aload_n 0, 1) := by decide +kernel
theorem dX7_add_23 : decode cX7_add 23 = .ok (.iload_n 1, 1) := by decide +kernel
theorem dX7_add_24 : decode cX7_add 24 = .ok (.iload 5, 2) := by decide +kernel
theorem dX7_add_26 : decode cX7_add 26 = .ok (.iconst 1, 1) := by decide +kernel
theorem dX7_add_27 : decode cX7_add 27 = .ok (.iadd, 1) := by decide +kernel
theorem dX7_add_28 : decode cX7_add 28 = .ok (.iload_n 3, 1) := by decide +kernel
theorem dX7_add_29 : decode cX7_add 29 = .ok (.invokevirtual 43, 3) := by decide +kernel
theorem dX7_add_32 : decode cX7_add 32 = .ok (.aload_n 0, 1) := by decide +kernel
theorem dX7_add_33 : decode cX7_add 33 = .ok (.iload_n 1, 1) := by decide +kernel
theorem dX7_add_34 : decode cX7_add 34 = .ok (.iload 5, 2) := by decide +kernel
theorem dX7_add_36 : decode cX7_add 36 = .ok (.iconst 2, 1) := by decide +kernel
theorem dX7_add_37 : decode cX7_add 37 = .ok (.iadd, 1) := by decide +kernel
theorem dX7_add_38 : decode cX7_add 38 = .ok (.iload 4, 2) := by decide +kernel
theorem dX7_add_40 : decode cX7_add 40 = .ok (.invokevirtual 43, 3) := by decide +kernel
theorem dX7_add_43 : decode cX7_add 43 = .ok (.aload_n 0, 1) := by decide +kernel
theorem dX7_add_44 : decode cX7_add 44 = .ok (.iload_n 1, 1) := by decide +kernel
theorem dX7_add_45 : decode cX7_add 45 = .ok (.bipush 12, 2) := by decide +kernel
theorem dX7_add_47 : decode cX7_add 47 = .ok (.aload_n 0, 1) := by decide +kernel
theorem dX7_add_48 : decode cX7_add 48 = .ok (.iload_n 1, 1) := by decide +kernel
theorem dX7_add_49 : decode cX7_add 49 = .ok (.bipush 12, 2) := by decide +kernel
theorem dX7_add_51 : decode cX7_add 51 = .ok (.invokevirtual 38, 3) := by decide +kernel
theorem dX7_add_54 : decode cX7_add 54 = .ok (.iconst 1, 1) := by decide +kernel
theorem dX7_add_55 : decode cX7_add 55 = .ok (.iadd, 1) := by decide +kernel
theorem dX7_add_56 : decode cX7_add 56 = .ok (.invokevirtual 43, 3) := by decide +kernel
theorem dX7_add_59 : decode cX7_add 59 = .ok (.return_, 1) := by decide +kernel
theorem dX7_configurationAt_0 : decode cX7_configurationAt 0 = .ok (.aload_n 0, 1) := by decide +kernel
theorem dX7_configurationAt_1 : decode cX7_configurationAt 1 = .ok (.iload_n 1, 1) := by decide +kernel
theorem dX7_configurationAt_2 : decode cX7_configurationAt 2 = .ok (.bipush 7, 2) := by decide +kernel
theorem dX7_configurationAt_4 : decode cX7_configurationAt 4 = .ok (.invokevirtual 38, 3) := by decide +kernel
theorem dX7_configurationAt_7 : decode cX7_configurationAt 7 = .ok (.istore_n 3, 1) := by decide +kernel
theorem dX7_configurationAt_8 : decode cX7_configurationAt 8 = .ok (.iload_n 3, 1) := by decide +kernel
theorem dX7_configurationAt_9 : decode cX7_configurationAt 9 = .ok (.iconst 1, 1) := by decide +kernel
theorem dX7_configurationAt_10 : decode cX7_configurationAt 10 = .ok (.iadd, 1) := by decide +kernel
theorem dX7_configurationAt_11 : decode cX7_configurationAt 11 = .ok (.istore 4, 2) := by decide +kernel
theorem dX7_configurationAt_13 : decode cX7_configurationAt 13 = .ok (.iload 4, 2) := by decide +kernel
theorem dX7_configurationAt_15 : decode cX7_configurationAt 15 = .ok (.iload_n 2, 1) := by decide +kernel
theorem dX7_configurationAt_16 : decode cX7_configurationAt 16 = .ok (.if_icmp .gt 38, 3) := by decide +kernel
theorem dX7_configurationAt_19 : decode cX7_configurationAt 19 = .ok (.aload_n 0, 1) := by decide +kernel
theorem dX7_configurationAt_20 : decode cX7_configurationAt 20 = .ok (.iload_n 1, 1) := by decide +kernel
theorem dX7_configurationAt_21 : decode cX7_configurationAt 21 = .ok (.iload 4, 2) := by decide +kernel
theorem dX7_configurationAt_23 : decode cX7_configurationAt 23 = .ok (.iconst 1, 1) := by decide +kernel
theorem dX7_configurationAt_24 : decode cX7_configurationAt 24 = .ok (.invokevirtual 63, 3) := by decide +kernel
theorem dX7_configurationAt_27 : decode cX7_configurationAt 27 = .ok (.istore 5, 2) := by decide +kernel
theorem dX7_configurationAt_29 : decode cX7_configurationAt 29 = .ok (.iload 5, 2) := by decide +kernel
theorem dX7_configurationAt_31 : decode cX7_configurationAt 31 = .ok (.iconst 1, 1) := by decide +kernel
theorem dX7_configurationAt_32 : decode cX7_configurationAt 32 = .ok (.if_icmp .eq 9, 3) := by decide +kernel
theorem dX7_configurationAt_35 : decode cX7_configurationAt 35 = .ok (.iload 5, 2) := by decide +kernel
theorem dX7_configurationAt_37 : decode cX7_configurationAt 37 = .ok (.iconst 2, 1) := by decide +kernel
theorem dX7_configurationAt_38 : decode cX7_configurationAt 38 = .ok (.if_icmp .ne 8, 3) := by decide +kernel
theorem dX7_configurationAt_41 : decode cX7_configurationAt 41 = .ok (.iload 4, 2) := by decide +kernel
theorem dX7_configurationAt_43 : decode cX7_configurationAt 43 = .ok (.goto 4, 3) := by decide +kernel
theorem dX7_configurationAt_46 : decode cX7_configurationAt 46 = .ok (.iload_n 3, 1) := by decide +kernel
theorem dX7_configurationAt_47 : decode cX7_configurationAt 47 = .ok (.istore_n 3, 1) := by decide +kernel
theorem dX7_configurationAt_48 : decode cX7_configurationAt 48 = .ok (.iinc 4 1, 3) := by decide +kernel
theorem dX7_configurationAt_51 : decode cX7_configurationAt 51 = .ok (.goto (-38), 3) := by decide +kernel
theorem dX7_configurationAt_54 : decode cX7_configurationAt 54 = .ok (.iload_n 3, 1) := by decide +kernel
theorem dX7_configurationAt_55 : decode cX7_configurationAt 55 = .ok (.ireturn, 1) := by decide +kernel
theorem dX7_oldOf_0 : decode cX7_oldOf 0 = .ok (.iload_n 2, 1) := by decide +kernel
theorem dX7_oldOf_1 : decode cX7_oldOf 1 = .ok (.aload_n 0, 1) := by decide +kernel
theorem dX7_oldOf_2 : decode cX7_oldOf 2 = .ok (.iload_n 1, 1) := by decide +kernel
theorem dX7_oldOf_3 : decode cX7_oldOf 3 = .ok (.bipush 7, 2) := by decide +kernel
theorem dX7_oldOf_5 : decode cX7_oldOf 5 = .ok (.invokevirtual 38, 3) := by decide +kernel
theorem dX7_oldOf_8 : decode cX7_oldOf 8 = .ok (.if_icmp .ne 11, 3) := by decide +kernel
theorem dX7_oldOf_11 : decode cX7_oldOf 11 = .ok (.aload_n 0, 1) := by decide +kernel
theorem dX7_oldOf_12 : decode cX7_oldOf 12 = .ok (.iload_n 1, 1) := by decide +kernel
theorem dX7_oldOf_13 : decode cX7_oldOf 13 = .ok (.bipush 10, 2) := by decide +kernel
theorem dX7_oldOf_15 : decode cX7_oldOf 15 = .ok (.invokevirtual 38, 3) := by decide +kernel
theorem dX7_oldOf_18 : decode cX7_oldOf 18 = .ok (.ireturn, 1) := by decide +kernel
theorem dX7_oldOf_19 : decode cX7_oldOf 19 = .ok (.aload_n 0, 1) := by decide +kernel
theorem dX7_oldOf_20 : decode cX7_oldOf 20 = .ok (.iload_n 1, 1) := by decide +kernel
theorem dX7_oldOf_21 : decode cX7_oldOf 21 = .ok (.iload_n 2, 1) := by decide +kernel
theorem dX7_oldOf_22 : decode cX7_oldOf 22 = .ok (.iconst 1, 1) := by decide +kernel
theorem dX7_oldOf_23 : decode cX7_oldOf 23 = .ok (.invokevirtual 63, 3) := by decide +kernel
theorem dX7_oldOf_26 : decode cX7_oldOf 26 = .ok (.iconst 1, 1) := by decide +kernel
theorem dX7_oldOf_27 : decode cX7_oldOf 27 = .ok (.if_icmp .ne 15, 3) := by decide +kernel
theorem dX7_oldOf_30 : decode cX7_oldOf 30 = .ok (.aload_n 0, 1) := by decide +kernel
theorem dX7_oldOf_31 : decode cX7_oldOf 31 = .ok (.iload_n 1, 1) := by decide +kernel
theorem dX7_oldOf_32 : decode cX7_oldOf 32 = .ok (.iload_n 2, 1) := by decide +kernel
theorem dX7_oldOf_33 : decode cX7_oldOf 33 = .ok (.iconst 2, 1) := by decide +kernel
theorem dX7_oldOf_34 : decode cX7_oldOf 34 = .ok (.invokevirtual 63, 3) := by decide +kernel
theorem dX7_oldOf_37 : decode cX7_oldOf 37 = .ok (.iconst 5, 1) := by decide +kernel
theorem dX7_oldOf_38 : decode cX7_oldOf 38 = .ok (.ishr, 1) := by decide +kernel
theorem dX7_oldOf_39 : decode cX7_oldOf 39 = .ok (.goto 4, 3) := by decide +kernel
theorem dX7_oldOf_42 : decode cX7_oldOf 42 = .ok (.iconst 0, 1) := by decide +kernel
theorem dX7_oldOf_43 : decode cX7_oldOf 43 = .ok (.ireturn, 1) := by decide +kernel
theorem dX7_newOf_0 : decode cX7_newOf 0 = .ok (.iload_n 2, 1) := by decide +kernel
theorem dX7_newOf_1 : decode cX7_newOf 1 = .ok (.aload_n 0, 1) := by decide +kernel
theorem dX7_newOf_2 : decode cX7_newOf 2 = .ok (.iload_n 1, 1) := by decide +kernel
theorem dX7_newOf_3 : decode cX7_newOf 3 = .ok (.bipush 7, 2) := by decide +kernel
theorem dX7_newOf_5 : decode cX7_newOf 5 = .ok (.invokevirtual 38, 3) := by decide +kernel
theorem dX7_newOf_8 : decode cX7_newOf 8 = .ok (.if_icmp .ne 13, 3) := by decide +kernel
theorem dX7_newOf_11 : decode cX7_newOf 11 = .ok (.aload_n 0, 1) := by decide +kernel
theorem dX7_newOf_12 : decode cX7_newOf 12 = .ok (.iload_n 1, 1) := by decide +kernel
theorem dX7_newOf_13 : decode cX7_newOf 13 = .ok (.bipush 11, 2) := by decide +kernel
theorem dX7_newOf_15 : decode cX7_newOf 15 = .ok (.invokevirtual 38, 3) := by decide +kernel
theorem dX7_newOf_18 : decode cX7_newOf 18 = .ok (.goto 13, 3) := by decide +kernel
theorem dX7_newOf_21 : decode cX7_newOf 21 = .ok (.aload_n 0, 1) := by decide +kernel
theorem dX7_newOf_22 : decode cX7_newOf 22 = .ok (.iload_n 1, 1) := by decide +kernel
theorem dX7_newOf_23 : decode cX7_newOf 23 = .ok (.iload_n 2, 1) := by decide +kernel
theorem dX7_newOf_24 : decode cX7_newOf 24 = .ok (.iconst 2, 1) := by decide +kernel
theorem dX7_newOf_25 : decode cX7_newOf 25 = .ok (.invokevirtual 63, 3) := by decide +kernel
theorem dX7_newOf_28 : decode cX7_newOf 28 = .ok (.bipush 31, 2) := by decide +kernel
theorem dX7_newOf_30 : decode cX7_newOf 30 = .ok (.iand, 1) := by decide +kernel
theorem dX7_newOf_31 : decode cX7_newOf 31 = .ok (.ireturn, 1) := by decide +kernel
theorem dX7_configuration_0 : decode cX7_configuration 0 = .ok (.aload_n 0, 1) := by decide +kernel
theorem dX7_configuration_1 : decode cX7_configuration 1 = .ok (.iload_n 1, 1) := by decide +kernel
theorem dX7_configuration_2 : decode cX7_configuration 2 = .ok (.aload_n 0, 1) := by decide +kernel
theorem dX7_configuration_3 : decode cX7_configuration 3 = .ok (.iload_n 1, 1) := by decide +kernel
theorem dX7_configuration_4 : decode cX7_configuration 4 = .ok (.invokevirtual 67, 3) := by decide +kernel
theorem dX7_configuration_7 : decode cX7_configuration 7 = .ok (.invokevirtual 70, 3) := by decide +kernel
theorem dX7_configuration_10 : decode cX7_configuration 10 = .ok (.ireturn, 1) := by decide +kernel
theorem dX7_members_0 : decode cX7_members 0 = .ok (.aload_n 0, 1) := by decide +kernel
theorem dX7_members_1 : decode cX7_members 1 = .ok (.iload_n 1, 1) := by decide +kernel
theorem dX7_members_2 : decode cX7_members 2 = .ok (.invokevirtual 73, 3) := by decide +kernel
theorem dX7_members_5 : decode cX7_members 5 = .ok (.istore_n 2, 1) := by decide +kernel
theorem dX7_members_6 : decode cX7_members 6 = .ok (.aload_n 0, 1) := by decide +kernel
theorem dX7_members_7 : decode cX7_members 7 = .ok (.iload_n 1, 1) := by decide +kernel
theorem dX7_members_8 : decode cX7_members 8 = .ok (.iload_n 2, 1) := by decide +kernel
theorem dX7_members_9 : decode cX7_members 9 = .ok (.invokevirtual 76, 3) := by decide +kernel
theorem dX7_members_12 : decode cX7_members 12 = .ok (.aload_n 0, 1) := by decide +kernel
theorem dX7_members_13 : decode cX7_members 13 = .ok (.iload_n 1, 1) := by decide +kernel
theorem dX7_members_14 : decode cX7_members 14 = .ok (.iload_n 2, 1) := by decide +kernel
theorem dX7_members_15 : decode cX7_members 15 = .ok (.invokevirtual 79, 3) := by decide +kernel
theorem dX7_members_18 : decode cX7_members 18 = .ok (.ior, 1) := by decide +kernel
theorem dX7_members_19 : decode cX7_members 19 = .ok (.ireturn, 1) := by decide +kernel
theorem dX7_isMost_0 : decode cX7_isMost 0 = .ok (.iload_n 1, 1) := by decide +kernel
theorem dX7_isMost_1 : decode cX7_isMost 1 = .ok (.ifCond .eq 18, 3) := by decide +kernel
theorem dX7_isMost_4 : decode cX7_isMost 4 = .ok (.iconst 2, 1) := by decide +kernel
theorem dX7_isMost_5 : decode cX7_isMost 5 = .ok (.iload_n 0, 1) := by decide +kernel
theorem dX7_isMost_6 : decode cX7_isMost 6 = .ok (.iload_n 1, 1) := by decide +kernel
theorem dX7_isMost_7 : decode cX7_isMost 7 = .ok (.iand, 1) := by decide +kernel
theorem dX7_isMost_8 : decode cX7_isMost 8 = .ok (.invokestatic 59, 3) := by decide +kernel
theorem dX7_isMost_11 : decode cX7_isMost 11 = .ok (.imul, 1) := by decide +kernel
theorem dX7_isMost_12 : decode cX7_isMost 12 = .ok (.iload_n 1, 1) := by decide +kernel
theorem dX7_isMost_13 : decode cX7_isMost 13 = .ok (.invokestatic 59, 3) := by decide +kernel
theorem dX7_isMost_16 : decode cX7_isMost 16 = .ok (.if_icmp .le 7, 3) := by decide +kernel
theorem dX7_isMost_19 : decode cX7_isMost 19 = .ok (.iconst 1, 1) := by decide +kernel
theorem dX7_isMost_20 : decode cX7_isMost 20 = .ok (.goto 4, 3) := by decide +kernel
theorem dX7_isMost_23 : decode cX7_isMost 23 = .ok (.iconst 0, 1) := by decide +kernel
theorem dX7_isMost_24 : decode cX7_isMost 24 = .ok (.ireturn, 1) := by decide +kernel
theorem dX7_isQuorum_0 : decode cX7_isQuorum 0 = .ok (.aload_n 0, 1) := by decide +kernel
theorem dX7_isQuorum_1 : decode cX7_isQuorum 1 = .ok (.iload_n 1, 1) := by decide +kernel
theorem dX7_isQuorum_2 : decode cX7_isQuorum 2 = .ok (.invokevirtual 73, 3) := by decide +kernel
theorem dX7_isQuorum_5 : decode cX7_isQuorum 5 = .ok (.istore_n 3, 1) := by decide +kernel
theorem dX7_isQuorum_6 : decode cX7_isQuorum 6 = .ok (.iload_n 2, 1) := by decide +kernel
theorem dX7_isQuorum_7 : decode cX7_isQuorum 7 = .ok (.aload_n 0, 1) := by decide +kernel
theorem dX7_isQuorum_8 : decode cX7_isQuorum 8 = .ok (.iload_n 1, 1) := by decide +kernel
theorem dX7_isQuorum_9 : decode cX7_isQuorum 9 = .ok (.iload_n 3, 1) := by decide +kernel
theorem dX7_isQuorum_10 : decode cX7_isQuorum 10 = .ok (.invokevirtual 76, 3) := by decide +kernel
theorem dX7_isQuorum_13 : decode cX7_isQuorum 13 = .ok (.invokestatic 82, 3) := by decide +kernel
theorem dX7_isQuorum_16 : decode cX7_isQuorum 16 = .ok (.ifCond .eq 20, 3) := by decide +kernel
theorem dX7_isQuorum_19 : decode cX7_isQuorum 19 = .ok (.iload_n 2, 1) := by decide +kernel
theorem dX7_isQuorum_20 : decode cX7_isQuorum 20 = .ok (.aload_n 0, 1) := by decide +kernel
theorem dX7_isQuorum_21 : decode cX7_isQuorum 21 = .ok (.iload_n 1, 1) := by decide +kernel
theorem dX7_isQuorum_22 : decode cX7_isQuorum 22 = .ok (.iload_n 3, 1) := by decide +kernel
theorem dX7_isQuorum_23 : decode cX7_isQuorum 23 = .ok (.invokevirtual 79, 3) := by decide +kernel
theorem dX7_isQuorum_26 : decode cX7_isQuorum 26 = .ok (.invokestatic 82, 3) := by decide +kernel
theorem dX7_isQuorum_29 : decode cX7_isQuorum 29 = .ok (.ifCond .eq 7, 3) := by decide +kernel
theorem dX7_isQuorum_32 : decode cX7_isQuorum 32 = .ok (.iconst 1, 1) := by decide +kernel
theorem dX7_isQuorum_33 : decode cX7_isQuorum 33 = .ok (.goto 4, 3) := by decide +kernel
theorem dX7_isQuorum_36 : decode cX7_isQuorum 36 = .ok (.iconst 0, 1) := by decide +kernel
theorem dX7_isQuorum_37 : decode cX7_isQuorum 37 = .ok (.ireturn, 1) := by decide +kernel
theorem dX7_resultOf_0 : decode cX7_resultOf 0 = .ok (.aload_n 0, 1) := by decide +kernel
theorem dX7_resultOf_1 : decode cX7_resultOf 1 = .ok (.iload_n 1, 1) := by decide +kernel
theorem dX7_resultOf_2 : decode cX7_resultOf 2 = .ok (.bipush 9, 2) := by decide +kernel
theorem dX7_resultOf_4 : decode cX7_resultOf 4 = .ok (.invokevirtual 38, 3) := by decide +kernel
theorem dX7_resultOf_7 : decode cX7_resultOf 7 = .ok (.istore_n 2, 1) := by decide +kernel
theorem dX7_resultOf_8 : decode cX7_resultOf 8 = .ok (.aload_n 0, 1) := by decide +kernel
theorem dX7_resultOf_9 : decode cX7_resultOf 9 = .ok (.iload_n 1, 1) := by decide +kernel
theorem dX7_resultOf_10 : decode cX7_resultOf 10 = .ok (.bipush 7, 2) := by decide +kernel
theorem dX7_resultOf_12 : decode cX7_resultOf 12 = .ok (.invokevirtual 38, 3) := by decide +kernel
theorem dX7_resultOf_15 : decode cX7_resultOf 15 = .ok (.iconst 1, 1) := by decide +kernel
theorem dX7_resultOf_16 : decode cX7_resultOf 16 = .ok (.iadd, 1) := by decide +kernel
theorem dX7_resultOf_17 : decode cX7_resultOf 17 = .ok (.istore_n 3, 1) := by decide +kernel
theorem dX7_resultOf_18 : decode cX7_resultOf 18 = .ok (.iload_n 3, 1) := by decide +kernel
theorem dX7_resultOf_19 : decode cX7_resultOf 19 = .ok (.aload_n 0, 1) := by decide +kernel
theorem dX7_resultOf_20 : decode cX7_resultOf 20 = .ok (.iload_n 1, 1) := by decide +kernel
theorem dX7_resultOf_21 : decode cX7_resultOf 21 = .ok (.iconst 4, 1) := by decide +kernel
theorem dX7_resultOf_22 : decode cX7_resultOf 22 = .ok (.invokevirtual 38, 3) := by decide +kernel
theorem dX7_resultOf_25 : decode cX7_resultOf 25 = .ok (.if_icmp .gt 36, 3) := by decide +kernel
theorem dX7_resultOf_28 : decode cX7_resultOf 28 = .ok (.aload_n 0, 1) := by decide +kernel
theorem dX7_resultOf_29 : decode cX7_resultOf 29 = .ok (.iload_n 1, 1) := by decide +kernel
theorem dX7_resultOf_30 : decode cX7_resultOf 30 = .ok (.iload_n 3, 1) := by decide +kernel
theorem dX7_resultOf_31 : decode cX7_resultOf 31 = .ok (.iconst 1, 1) := by decide +kernel
theorem dX7_resultOf_32 : decode cX7_resultOf 32 = .ok (.invokevirtual 63, 3) := by decide +kernel
theorem dX7_resultOf_35 : decode cX7_resultOf 35 = .ok (.ifCond .ne 18, 3) := by decide +kernel
theorem dX7_resultOf_38 : decode cX7_resultOf 38 = .ok (.bipush 31, 2) := by decide +kernel
theorem dX7_resultOf_40 : decode cX7_resultOf 40 = .ok (.iload_n 2, 1) := by decide +kernel
theorem dX7_resultOf_41 : decode cX7_resultOf 41 = .ok (.imul, 1) := by decide +kernel
theorem dX7_resultOf_42 : decode cX7_resultOf 42 = .ok (.aload_n 0, 1) := by decide +kernel
theorem dX7_resultOf_43 : decode cX7_resultOf 43 = .ok (.iload_n 1, 1) := by decide +kernel
theorem dX7_resultOf_44 : decode cX7_resultOf 44 = .ok (.iload_n 3, 1) := by decide +kernel
theorem dX7_resultOf_45 : decode cX7_resultOf 45 = .ok (.iconst 2, 1) := by decide +kernel
theorem dX7_resultOf_46 : decode cX7_resultOf 46 = .ok (.invokevirtual 63, 3) := by decide +kernel
theorem dX7_resultOf_49 : decode cX7_resultOf 49 = .ok (.iadd, 1) := by decide +kernel
theorem dX7_resultOf_50 : decode cX7_resultOf 50 = .ok (.goto 4, 3) := by decide +kernel
theorem dX7_resultOf_53 : decode cX7_resultOf 53 = .ok (.iload_n 2, 1) := by decide +kernel
theorem dX7_resultOf_54 : decode cX7_resultOf 54 = .ok (.istore_n 2, 1) := by decide +kernel
theorem dX7_resultOf_55 : decode cX7_resultOf 55 = .ok (.iinc 3 1, 3) := by decide +kernel
theorem dX7_resultOf_58 : decode cX7_resultOf 58 = .ok (.goto (-40), 3) := by decide +kernel
theorem dX7_resultOf_61 : decode cX7_resultOf 61 = .ok (.iload_n 2, 1) := by decide +kernel
theorem dX7_resultOf_62 : decode cX7_resultOf 62 = .ok (.ireturn, 1) := by decide +kernel
theorem dX7_tally_0 : decode cX7_tally 0 = .ok (.aload_n 0, 1) := by decide +kernel
theorem dX7_tally_1 : decode cX7_tally 1 = .ok (.getfield 9, 3) := by decide +kernel
theorem dX7_tally_4 : decode cX7_tally 4 = .ok (.bipush 9, 2) := by decide +kernel
theorem dX7_tally_6 : decode cX7_tally 6 = .ok (.iload_n 1, 1) := by decide +kernel
theorem dX7_tally_7 : decode cX7_tally 7 = .ok (.iadd, 1) := by decide +kernel
theorem dX7_tally_8 : decode cX7_tally 8 = .ok (.dup2, 1) := by decide +kernel
theorem dX7_tally_9 : decode cX7_tally 9 = .ok (.iaload, 1) := by decide +kernel
theorem dX7_tally_10 : decode cX7_tally 10 = .ok (.iload_n 2, 1) := by decide +kernel
theorem dX7_tally_11 : decode cX7_tally 11 = .ok (.iadd, 1) := by decide +kernel
theorem dX7_tally_12 : decode cX7_tally 12 = .ok (.iastore, 1) := by decide +kernel
theorem dX7_tally_13 : decode cX7_tally 13 = .ok (.return_, 1) := by decide +kernel
theorem dX7_part_0 : decode cX7_part 0 = .ok (.aload_n 0, 1) := by decide +kernel
theorem dX7_part_1 : decode cX7_part 1 = .ok (.getfield 9, 3) := by decide +kernel
theorem dX7_part_4 : decode cX7_part 4 = .ok (.sipush 616, 3) := by decide +kernel
theorem dX7_part_7 : decode cX7_part 7 = .ok (.iload_n 1, 1) := by decide +kernel
theorem dX7_part_8 : decode cX7_part 8 = .ok (.bipush 25, 2) := by decide +kernel
theorem dX7_part_10 : decode cX7_part 10 = .ok (.imul, 1) := by decide +kernel
theorem dX7_part_11 : decode cX7_part 11 = .ok (.iadd, 1) := by decide +kernel
theorem dX7_part_12 : decode cX7_part 12 = .ok (.iload_n 2, 1) := by decide +kernel
theorem dX7_part_13 : decode cX7_part 13 = .ok (.iadd, 1) := by decide +kernel
theorem dX7_part_14 : decode cX7_part 14 = .ok (.iaload, 1) := by decide +kernel
theorem dX7_part_15 : decode cX7_part 15 = .ok (.ireturn, 1) := by decide +kernel
theorem dX7_put_0 : decode cX7_put 0 = .ok (.aload_n 0, 1) := by decide +kernel
theorem dX7_put_1 : decode cX7_put 1 = .ok (.getfield 9, 3) := by decide +kernel
theorem dX7_put_4 : decode cX7_put 4 = .ok (.sipush 616, 3) := by decide +kernel
theorem dX7_put_7 : decode cX7_put 7 = .ok (.iload_n 1, 1) := by decide +kernel
theorem dX7_put_8 : decode cX7_put 8 = .ok (.bipush 25, 2) := by decide +kernel
theorem dX7_put_10 : decode cX7_put 10 = .ok (.imul, 1) := by decide +kernel
theorem dX7_put_11 : decode cX7_put 11 = .ok (.iadd, 1) := by decide +kernel
theorem dX7_put_12 : decode cX7_put 12 = .ok (.iload_n 2, 1) := by decide +kernel
theorem dX7_put_13 : decode cX7_put 13 = .ok (.iadd, 1) := by decide +kernel
theorem dX7_put_14 : decode cX7_put 14 = .ok (.iload_n 3, 1) := by decide +kernel
theorem dX7_put_15 : decode cX7_put 15 = .ok (.iastore, 1) := by decide +kernel
theorem dX7_put_16 : decode cX7_put 16 = .ok (.return_, 1) := by decide +kernel
theorem dX7_send_0 : decode cX7_send 0 = .ok (.aload_n 0, 1) := by decide +kernel
theorem dX7_send_1 : decode cX7_send 1 = .ok (.iconst 1, 1) := by decide +kernel
theorem dX7_send_2 : decode cX7_send 2 = .ok (.iconst 1, 1) := by decide +kernel
theorem dX7_send_3 : decode cX7_send 3 = .ok (.invokevirtual 86, 3) := by decide +kernel
theorem dX7_send_6 : decode cX7_send 6 = .ok (.aload_n 0, 1) := by decide +kernel
theorem dX7_send_7 : decode cX7_send 7 = .ok (.getfield 9, 3) := by decide +kernel
theorem dX7_send_10 : decode cX7_send 10 = .ok (.iconst 4, 1) := by decide +kernel
theorem dX7_send_11 : decode cX7_send 11 = .ok (.iload_n 2, 1) := by decide +kernel
theorem dX7_send_12 : decode cX7_send 12 = .ok (.iadd, 1) := by decide +kernel
theorem dX7_send_13 : decode cX7_send 13 = .ok (.iaload, 1) := by decide +kernel
theorem dX7_send_14 : decode cX7_send 14 = .ok (.iload_n 3, 1) := by decide +kernel
theorem dX7_send_15 : decode cX7_send 15 = .ok (.invokestatic 89, 3) := by decide +kernel
theorem dX7_send_18 : decode cX7_send 18 = .ok (.ifCond .ne 14, 3) := by decide +kernel
theorem dX7_send_21 : decode cX7_send 21 = .ok (.aload_n 0, 1) := by decide +kernel
theorem dX7_send_22 : decode cX7_send 22 = .ok (.getfield 9, 3) := by decide +kernel
theorem dX7_send_25 : decode cX7_send 25 = .ok (.iconst 3, 1) := by decide +kernel
theorem dX7_send_26 : decode cX7_send 26 = .ok (.iaload, 1) := by decide +kernel
theorem dX7_send_27 : decode cX7_send 27 = .ok (.bipush 40, 2) := by decide +kernel
theorem dX7_send_29 : decode cX7_send 29 = .ok (.if_icmp .ne 11, 3) := by decide +kernel
theorem dX7_send_32 : decode cX7_send 32 = .ok (.aload_n 0, 1) := by decide +kernel
theorem dX7_send_33 : decode cX7_send 33 = .ok (.iconst 2, 1) := by decide +kernel
theorem dX7_send_34 : decode cX7_send 34 = .ok (.iconst 1, 1) := by decide +kernel
theorem dX7_send_35 : decode cX7_send 35 = .ok (.invokevirtual 86, 3) := by decide +kernel
theorem dX7_send_38 : decode cX7_send 38 = .ok (.iconst (-1), 1) := by decide +kernel
theorem dX7_send_39 : decode cX7_send 39 = .ok (.ireturn, 1) := by decide +kernel
theorem dX7_send_40 : decode cX7_send 40 = .ok (.aload_n 0, 1) := by decide +kernel
theorem dX7_send_41 : decode cX7_send 41 = .ok (.getfield 9, 3) := by decide +kernel
theorem dX7_send_44 : decode cX7_send 44 = .ok (.iconst 3, 1) := by decide +kernel
theorem dX7_send_45 : decode cX7_send 45 = .ok (.iaload, 1) := by decide +kernel
theorem dX7_send_46 : decode cX7_send 46 = .ok (.istore 6, 2) := by decide +kernel
theorem dX7_send_48 : decode cX7_send 48 = .ok (.iconst 0, 1) := by decide +kernel
theorem dX7_send_49 : decode cX7_send 49 = .ok (.istore 7, 2) := by decide +kernel
theorem dX7_send_51 : decode cX7_send 51 = .ok (.iload 7, 2) := by decide +kernel
theorem dX7_send_53 : decode cX7_send 53 = .ok (.bipush 25, 2) := by decide +kernel
theorem dX7_send_55 : decode cX7_send 55 = .ok (.if_icmp .ge 18, 3) := by decide +kernel
theorem dX7_send_58 : decode cX7_send 58 = .ok (.aload_n 0, 1) := by decide +kernel
theorem dX7_send_59 : decode cX7_send 59 = .ok (.iload 6, 2) := by decide +kernel
theorem dX7_send_61 : decode cX7_send 61 = .ok (.iload 7, 2) := by decide +kernel
theorem dX7_send_63 : decode cX7_send 63 = .ok (.iconst 0, 1) := by decide +kernel
theorem dX7_send_64 : decode cX7_send 64 = .ok (.invokevirtual 92, 3) := by decide +kernel
theorem dX7_send_67 : decode cX7_send 67 = .ok (.iinc 7 1, 3) := by decide +kernel
theorem dX7_send_70 : decode cX7_send 70 = .ok (.goto (-19), 3) := by decide +kernel
theorem dX7_send_73 : decode cX7_send 73 = .ok (.aload_n 0, 1) := by decide +kernel
theorem dX7_send_74 : decode cX7_send 74 = .ok (.iload 6, 2) := by decide +kernel
theorem dX7_send_76 : decode cX7_send 76 = .ok (.iconst 0, 1) := by decide +kernel
theorem dX7_send_77 : decode cX7_send 77 = .ok (.iload_n 1, 1) := by decide +kernel
theorem dX7_send_78 : decode cX7_send 78 = .ok (.invokevirtual 92, 3) := by decide +kernel
theorem dX7_send_81 : decode cX7_send 81 = .ok (.aload_n 0, 1) := by decide +kernel
theorem dX7_send_82 : decode cX7_send 82 = .ok (.iload 6, 2) := by decide +kernel
theorem dX7_send_84 : decode cX7_send 84 = .ok (.iconst 1, 1) := by decide +kernel
theorem dX7_send_85 : decode cX7_send 85 = .ok (.iload_n 2, 1) := by decide +kernel
theorem dX7_send_86 : decode cX7_send 86 = .ok (.invokevirtual 92, 3) := by decide +kernel
theorem dX7_send_89 : decode cX7_send 89 = .ok (.aload_n 0, 1) := by decide +kernel
theorem dX7_send_90 : decode cX7_send 90 = .ok (.iload 6, 2) := by decide +kernel
theorem dX7_send_92 : decode cX7_send 92 = .ok (.iconst 2, 1) := by decide +kernel
theorem dX7_send_93 : decode cX7_send 93 = .ok (.iload_n 3, 1) := by decide +kernel
theorem dX7_send_94 : decode cX7_send 94 = .ok (.invokevirtual 92, 3) := by decide +kernel
theorem dX7_send_97 : decode cX7_send 97 = .ok (.aload_n 0, 1) := by decide +kernel
theorem dX7_send_98 : decode cX7_send 98 = .ok (.iload 6, 2) := by decide +kernel
theorem dX7_send_100 : decode cX7_send 100 = .ok (.iconst 3, 1) := by decide +kernel
theorem dX7_send_101 : decode cX7_send 101 = .ok (.aload_n 0, 1) := by decide +kernel
theorem dX7_send_102 : decode cX7_send 102 = .ok (.iload_n 2, 1) := by decide +kernel
theorem dX7_send_103 : decode cX7_send 103 = .ok (.iconst 2, 1) := by decide +kernel
theorem dX7_send_104 : decode cX7_send 104 = .ok (.invokevirtual 38, 3) := by decide +kernel
theorem dX7_send_107 : decode cX7_send 107 = .ok (.invokevirtual 92, 3) := by decide +kernel
theorem dX7_send_110 : decode cX7_send 110 = .ok (.aload_n 0, 1) := by decide +kernel
theorem dX7_send_111 : decode cX7_send 111 = .ok (.iload 6, 2) := by decide +kernel
theorem dX7_send_113 : decode cX7_send 113 = .ok (.iconst 4, 1) := by decide +kernel
theorem dX7_send_114 : decode cX7_send 114 = .ok (.aload_n 0, 1) := by decide +kernel
theorem dX7_send_115 : decode cX7_send 115 = .ok (.getfield 9, 3) := by decide +kernel
theorem dX7_send_118 : decode cX7_send 118 = .ok (.iconst 0, 1) := by decide +kernel
theorem dX7_send_119 : decode cX7_send 119 = .ok (.iaload, 1) := by decide +kernel
theorem dX7_send_120 : decode cX7_send 120 = .ok (.aload_n 0, 1) := by decide +kernel
theorem dX7_send_121 : decode cX7_send 121 = .ok (.getfield 9, 3) := by decide +kernel
theorem dX7_send_124 : decode cX7_send 124 = .ok (.iconst 1, 1) := by decide +kernel
theorem dX7_send_125 : decode cX7_send 125 = .ok (.iaload, 1) := by decide +kernel
theorem dX7_send_126 : decode cX7_send 126 = .ok (.iadd, 1) := by decide +kernel
theorem dX7_send_127 : decode cX7_send 127 = .ok (.invokevirtual 92, 3) := by decide +kernel
theorem dX7_send_130 : decode cX7_send 130 = .ok (.aload_n 0, 1) := by decide +kernel
theorem dX7_send_131 : decode cX7_send 131 = .ok (.iload 6, 2) := by decide +kernel
theorem dX7_send_133 : decode cX7_send 133 = .ok (.iconst 5, 1) := by decide +kernel
theorem dX7_send_134 : decode cX7_send 134 = .ok (.iload 4, 2) := by decide +kernel
theorem dX7_send_136 : decode cX7_send 136 = .ok (.invokevirtual 92, 3) := by decide +kernel
theorem dX7_send_139 : decode cX7_send 139 = .ok (.aload_n 0, 1) := by decide +kernel
theorem dX7_send_140 : decode cX7_send 140 = .ok (.iload 6, 2) := by decide +kernel
theorem dX7_send_142 : decode cX7_send 142 = .ok (.bipush 6, 2) := by decide +kernel
theorem dX7_send_144 : decode cX7_send 144 = .ok (.iload 5, 2) := by decide +kernel
theorem dX7_send_146 : decode cX7_send 146 = .ok (.invokevirtual 92, 3) := by decide +kernel
theorem dX7_send_149 : decode cX7_send 149 = .ok (.aload_n 0, 1) := by decide +kernel
theorem dX7_send_150 : decode cX7_send 150 = .ok (.iload 6, 2) := by decide +kernel
theorem dX7_send_152 : decode cX7_send 152 = .ok (.bipush 7, 2) := by decide +kernel
theorem dX7_send_154 : decode cX7_send 154 = .ok (.aload_n 0, 1) := by decide +kernel
theorem dX7_send_155 : decode cX7_send 155 = .ok (.getfield 9, 3) := by decide +kernel
theorem dX7_send_158 : decode cX7_send 158 = .ok (.iconst 0, 1) := by decide +kernel
theorem dX7_send_159 : decode cX7_send 159 = .ok (.iaload, 1) := by decide +kernel
theorem dX7_send_160 : decode cX7_send 160 = .ok (.invokevirtual 92, 3) := by decide +kernel
theorem dX7_send_163 : decode cX7_send 163 = .ok (.aload_n 0, 1) := by decide +kernel
theorem dX7_send_164 : decode cX7_send 164 = .ok (.getfield 9, 3) := by decide +kernel
theorem dX7_send_167 : decode cX7_send 167 = .ok (.iconst 3, 1) := by decide +kernel
theorem dX7_send_168 : decode cX7_send 168 = .ok (.dup2, 1) := by decide +kernel
theorem dX7_send_169 : decode cX7_send 169 = .ok (.iaload, 1) := by decide +kernel
theorem dX7_send_170 : decode cX7_send 170 = .ok (.iconst 1, 1) := by decide +kernel
theorem dX7_send_171 : decode cX7_send 171 = .ok (.iadd, 1) := by decide +kernel
theorem dX7_send_172 : decode cX7_send 172 = .ok (.iastore, 1) := by decide +kernel
theorem dX7_send_173 : decode cX7_send 173 = .ok (.iload 6, 2) := by decide +kernel
theorem dX7_send_175 : decode cX7_send 175 = .ok (.ireturn, 1) := by decide +kernel
theorem dX7_remove_0 : decode cX7_remove 0 = .ok (.aload_n 0, 1) := by decide +kernel
theorem dX7_remove_1 : decode cX7_remove 1 = .ok (.getfield 9, 3) := by decide +kernel
theorem dX7_remove_4 : decode cX7_remove 4 = .ok (.iconst 3, 1) := by decide +kernel
theorem dX7_remove_5 : decode cX7_remove 5 = .ok (.dup2, 1) := by decide +kernel
theorem dX7_remove_6 : decode cX7_remove 6 = .ok (.iaload, 1) := by decide +kernel
theorem dX7_remove_7 : decode cX7_remove 7 = .ok (.iconst 1, 1) := by decide +kernel
theorem dX7_remove_8 : decode cX7_remove 8 = .ok (.isub, 1) := by decide +kernel
theorem dX7_remove_9 : decode cX7_remove 9 = .ok (.iastore, 1) := by decide +kernel
theorem dX7_remove_10 : decode cX7_remove 10 = .ok (.sipush 616, 3) := by decide +kernel
theorem dX7_remove_13 : decode cX7_remove 13 = .ok (.iload_n 1, 1) := by decide +kernel
theorem dX7_remove_14 : decode cX7_remove 14 = .ok (.bipush 25, 2) := by decide +kernel
theorem dX7_remove_16 : decode cX7_remove 16 = .ok (.imul, 1) := by decide +kernel
theorem dX7_remove_17 : decode cX7_remove 17 = .ok (.iadd, 1) := by decide +kernel
theorem dX7_remove_18 : decode cX7_remove 18 = .ok (.istore_n 2, 1) := by decide +kernel
theorem dX7_remove_19 : decode cX7_remove 19 = .ok (.iload_n 2, 1) := by decide +kernel
theorem dX7_remove_20 : decode cX7_remove 20 = .ok (.sipush 616, 3) := by decide +kernel
theorem dX7_remove_23 : decode cX7_remove 23 = .ok (.aload_n 0, 1) := by decide +kernel
theorem dX7_remove_24 : decode cX7_remove 24 = .ok (.getfield 9, 3) := by decide +kernel
theorem dX7_remove_27 : decode cX7_remove 27 = .ok (.iconst 3, 1) := by decide +kernel
theorem dX7_remove_28 : decode cX7_remove 28 = .ok (.iaload, 1) := by decide +kernel
theorem dX7_remove_29 : decode cX7_remove 29 = .ok (.bipush 25, 2) := by decide +kernel
theorem dX7_remove_31 : decode cX7_remove 31 = .ok (.imul, 1) := by decide +kernel
theorem dX7_remove_32 : decode cX7_remove 32 = .ok (.iadd, 1) := by decide +kernel
theorem dX7_remove_33 : decode cX7_remove 33 = .ok (.if_icmp .ge 24, 3) := by decide +kernel
theorem dX7_remove_36 : decode cX7_remove 36 = .ok (.aload_n 0, 1) := by decide +kernel
theorem dX7_remove_37 : decode cX7_remove 37 = .ok (.getfield 9, 3) := by decide +kernel
theorem dX7_remove_40 : decode cX7_remove 40 = .ok (.iload_n 2, 1) := by decide +kernel
theorem dX7_remove_41 : decode cX7_remove 41 = .ok (.aload_n 0, 1) := by decide +kernel
theorem dX7_remove_42 : decode cX7_remove 42 = .ok (.getfield 9, 3) := by decide +kernel
theorem dX7_remove_45 : decode cX7_remove 45 = .ok (.iload_n 2, 1) := by decide +kernel
theorem dX7_remove_46 : decode cX7_remove 46 = .ok (.bipush 25, 2) := by decide +kernel
theorem dX7_remove_48 : decode cX7_remove 48 = .ok (.iadd, 1) := by decide +kernel
theorem dX7_remove_49 : decode cX7_remove 49 = .ok (.iaload, 1) := by decide +kernel
theorem dX7_remove_50 : decode cX7_remove 50 = .ok (.iastore, 1) := by decide +kernel
theorem dX7_remove_51 : decode cX7_remove 51 = .ok (.iinc 2 1, 3) := by decide +kernel
theorem dX7_remove_54 : decode cX7_remove 54 = .ok (.goto (-35), 3) := by decide +kernel
theorem dX7_remove_57 : decode cX7_remove 57 = .ok (.return_, 1) := by decide +kernel
theorem dX7_sendSnapshot_0 : decode cX7_sendSnapshot 0 = .ok (.aload_n 0, 1) := by decide +kernel
theorem dX7_sendSnapshot_1 : decode cX7_sendSnapshot 1 = .ok (.iconst 4, 1) := by decide +kernel
theorem dX7_sendSnapshot_2 : decode cX7_sendSnapshot 2 = .ok (.iload_n 1, 1) := by decide +kernel
theorem dX7_sendSnapshot_3 : decode cX7_sendSnapshot 3 = .ok (.iload_n 2, 1) := by decide +kernel
theorem dX7_sendSnapshot_4 : decode cX7_sendSnapshot 4 = .ok (.aload_n 0, 1) := by decide +kernel
theorem dX7_sendSnapshot_5 : decode cX7_sendSnapshot 5 = .ok (.iload_n 1, 1) := by decide +kernel
theorem dX7_sendSnapshot_6 : decode cX7_sendSnapshot 6 = .ok (.bipush 7, 2) := by decide +kernel
theorem dX7_sendSnapshot_8 : decode cX7_sendSnapshot 8 = .ok (.invokevirtual 38, 3) := by decide +kernel
theorem dX7_sendSnapshot_11 : decode cX7_sendSnapshot 11 = .ok (.aload_n 0, 1) := by decide +kernel
theorem dX7_sendSnapshot_12 : decode cX7_sendSnapshot 12 = .ok (.iload_n 1, 1) := by decide +kernel
theorem dX7_sendSnapshot_13 : decode cX7_sendSnapshot 13 = .ok (.bipush 8, 2) := by decide +kernel
theorem dX7_sendSnapshot_15 : decode cX7_sendSnapshot 15 = .ok (.invokevirtual 38, 3) := by decide +kernel
theorem dX7_sendSnapshot_18 : decode cX7_sendSnapshot 18 = .ok (.invokevirtual 95, 3) := by decide +kernel
theorem dX7_sendSnapshot_21 : decode cX7_sendSnapshot 21 = .ok (.istore_n 3, 1) := by decide +kernel
theorem dX7_sendSnapshot_22 : decode cX7_sendSnapshot 22 = .ok (.iload_n 3, 1) := by decide +kernel
theorem dX7_sendSnapshot_23 : decode cX7_sendSnapshot 23 = .ok (.ifCond .lt 45, 3) := by decide +kernel
theorem dX7_sendSnapshot_26 : decode cX7_sendSnapshot 26 = .ok (.aload_n 0, 1) := by decide +kernel
theorem dX7_sendSnapshot_27 : decode cX7_sendSnapshot 27 = .ok (.iload_n 3, 1) := by decide +kernel
theorem dX7_sendSnapshot_28 : decode cX7_sendSnapshot 28 = .ok (.bipush 10, 2) := by decide +kernel
theorem dX7_sendSnapshot_30 : decode cX7_sendSnapshot 30 = .ok (.aload_n 0, 1) := by decide +kernel
theorem dX7_sendSnapshot_31 : decode cX7_sendSnapshot 31 = .ok (.iload_n 1, 1) := by decide +kernel
theorem dX7_sendSnapshot_32 : decode cX7_sendSnapshot 32 = .ok (.bipush 9, 2) := by decide +kernel
theorem dX7_sendSnapshot_34 : decode cX7_sendSnapshot 34 = .ok (.invokevirtual 38, 3) := by decide +kernel
theorem dX7_sendSnapshot_37 : decode cX7_sendSnapshot 37 = .ok (.invokevirtual 92, 3) := by decide +kernel
theorem dX7_sendSnapshot_40 : decode cX7_sendSnapshot 40 = .ok (.aload_n 0, 1) := by decide +kernel
theorem dX7_sendSnapshot_41 : decode cX7_sendSnapshot 41 = .ok (.iload_n 3, 1) := by decide +kernel
theorem dX7_sendSnapshot_42 : decode cX7_sendSnapshot 42 = .ok (.bipush 11, 2) := by decide +kernel
theorem dX7_sendSnapshot_44 : decode cX7_sendSnapshot 44 = .ok (.aload_n 0, 1) := by decide +kernel
theorem dX7_sendSnapshot_45 : decode cX7_sendSnapshot 45 = .ok (.iload_n 1, 1) := by decide +kernel
theorem dX7_sendSnapshot_46 : decode cX7_sendSnapshot 46 = .ok (.bipush 10, 2) := by decide +kernel
theorem dX7_sendSnapshot_48 : decode cX7_sendSnapshot 48 = .ok (.invokevirtual 38, 3) := by decide +kernel
theorem dX7_sendSnapshot_51 : decode cX7_sendSnapshot 51 = .ok (.invokevirtual 92, 3) := by decide +kernel
theorem dX7_sendSnapshot_54 : decode cX7_sendSnapshot 54 = .ok (.aload_n 0, 1) := by decide +kernel
theorem dX7_sendSnapshot_55 : decode cX7_sendSnapshot 55 = .ok (.iload_n 3, 1) := by decide +kernel
theorem dX7_sendSnapshot_56 : decode cX7_sendSnapshot 56 = .ok (.bipush 12, 2) := by decide +kernel
theorem dX7_sendSnapshot_58 : decode cX7_sendSnapshot 58 = .ok (.aload_n 0, 1) := by decide +kernel
theorem dX7_sendSnapshot_59 : decode cX7_sendSnapshot 59 = .ok (.iload_n 1, 1) := by decide +kernel
theorem dX7_sendSnapshot_60 : decode cX7_sendSnapshot 60 = .ok (.bipush 11, 2) := by decide +kernel
theorem dX7_sendSnapshot_62 : decode cX7_sendSnapshot 62 = .ok (.invokevirtual 38, 3) := by decide +kernel
theorem dX7_sendSnapshot_65 : decode cX7_sendSnapshot 65 = .ok (.invokevirtual 92, 3) := by decide +kernel
theorem dX7_sendSnapshot_68 : decode cX7_sendSnapshot 68 = .ok (.return_, 1) := by decide +kernel
theorem dX7_sendEntries_0 : decode cX7_sendEntries 0 = .ok (.aload_n 0, 1) := by decide +kernel
theorem dX7_sendEntries_1 : decode cX7_sendEntries 1 = .ok (.iload_n 1, 1) := by decide +kernel
theorem dX7_sendEntries_2 : decode cX7_sendEntries 2 = .ok (.bipush 13, 2) := by decide +kernel
theorem dX7_sendEntries_4 : decode cX7_sendEntries 4 = .ok (.iload_n 2, 1) := by decide +kernel
theorem dX7_sendEntries_5 : decode cX7_sendEntries 5 = .ok (.iadd, 1) := by decide +kernel
theorem dX7_sendEntries_6 : decode cX7_sendEntries 6 = .ok (.invokevirtual 38, 3) := by decide +kernel
theorem dX7_sendEntries_9 : decode cX7_sendEntries 9 = .ok (.istore_n 3, 1) := by decide +kernel
theorem dX7_sendEntries_10 : decode cX7_sendEntries 10 = .ok (.aload_n 0, 1) := by decide +kernel
theorem dX7_sendEntries_11 : decode cX7_sendEntries 11 = .ok (.iload_n 1, 1) := by decide +kernel
theorem dX7_sendEntries_12 : decode cX7_sendEntries 12 = .ok (.invokevirtual 67, 3) := by decide +kernel
theorem dX7_sendEntries_15 : decode cX7_sendEntries 15 = .ok (.iload_n 3, 1) := by decide +kernel
theorem dX7_sendEntries_16 : decode cX7_sendEntries 16 = .ok (.isub, 1) := by decide +kernel
theorem dX7_sendEntries_17 : decode cX7_sendEntries 17 = .ok (.iconst 1, 1) := by decide +kernel
theorem dX7_sendEntries_18 : decode cX7_sendEntries 18 = .ok (.iadd, 1) := by decide +kernel
theorem dX7_sendEntries_19 : decode cX7_sendEntries 19 = .ok (.istore 4, 2) := by decide +kernel
theorem dX7_sendEntries_21 : decode cX7_sendEntries 21 = .ok (.iload 4, 2) := by decide +kernel
theorem dX7_sendEntries_23 : decode cX7_sendEntries 23 = .ok (.iconst 4, 1) := by decide +kernel
theorem dX7_sendEntries_24 : decode cX7_sendEntries 24 = .ok (.if_icmp .le 7, 3) := by decide +kernel
theorem dX7_sendEntries_27 : decode cX7_sendEntries 27 = .ok (.iconst 4, 1) := by decide +kernel
theorem dX7_sendEntries_28 : decode cX7_sendEntries 28 = .ok (.goto 5, 3) := by decide +kernel
theorem dX7_sendEntries_31 : decode cX7_sendEntries 31 = .ok (.iload 4, 2) := by decide +kernel
theorem dX7_sendEntries_33 : decode cX7_sendEntries 33 = .ok (.istore 4, 2) := by decide +kernel
theorem dX7_sendEntries_35 : decode cX7_sendEntries 35 = .ok (.aload_n 0, 1) := by decide +kernel
theorem dX7_sendEntries_36 : decode cX7_sendEntries 36 = .ok (.iconst 2, 1) := by decide +kernel
theorem dX7_sendEntries_37 : decode cX7_sendEntries 37 = .ok (.iload_n 1, 1) := by decide +kernel
theorem dX7_sendEntries_38 : decode cX7_sendEntries 38 = .ok (.iload_n 2, 1) := by decide +kernel
theorem dX7_sendEntries_39 : decode cX7_sendEntries 39 = .ok (.iload_n 3, 1) := by decide +kernel
theorem dX7_sendEntries_40 : decode cX7_sendEntries 40 = .ok (.iconst 1, 1) := by decide +kernel
theorem dX7_sendEntries_41 : decode cX7_sendEntries 41 = .ok (.isub, 1) := by decide +kernel
theorem dX7_sendEntries_42 : decode cX7_sendEntries 42 = .ok (.iload 4, 2) := by decide +kernel
theorem dX7_sendEntries_44 : decode cX7_sendEntries 44 = .ok (.invokevirtual 95, 3) := by decide +kernel
theorem dX7_sendEntries_47 : decode cX7_sendEntries 47 = .ok (.istore 5, 2) := by decide +kernel
theorem dX7_sendEntries_49 : decode cX7_sendEntries 49 = .ok (.iload 5, 2) := by decide +kernel
theorem dX7_sendEntries_51 : decode cX7_sendEntries 51 = .ok (.ifCond .lt 77, 3) := by decide +kernel
theorem dX7_sendEntries_54 : decode cX7_sendEntries 54 = .ok (.aload_n 0, 1) := by decide +kernel
theorem dX7_sendEntries_55 : decode cX7_sendEntries 55 = .ok (.iload 5, 2) := by decide +kernel
theorem dX7_sendEntries_57 : decode cX7_sendEntries 57 = .ok (.bipush 8, 2) := by decide +kernel
theorem dX7_sendEntries_59 : decode cX7_sendEntries 59 = .ok (.aload_n 0, 1) := by decide +kernel
theorem dX7_sendEntries_60 : decode cX7_sendEntries 60 = .ok (.iload_n 1, 1) := by decide +kernel
theorem dX7_sendEntries_61 : decode cX7_sendEntries 61 = .ok (.iload_n 3, 1) := by decide +kernel
theorem dX7_sendEntries_62 : decode cX7_sendEntries 62 = .ok (.iconst 1, 1) := by decide +kernel
theorem dX7_sendEntries_63 : decode cX7_sendEntries 63 = .ok (.isub, 1) := by decide +kernel
theorem dX7_sendEntries_64 : decode cX7_sendEntries 64 = .ok (.invokevirtual 99, 3) := by decide +kernel
theorem dX7_sendEntries_67 : decode cX7_sendEntries 67 = .ok (.invokevirtual 92, 3) := by decide +kernel
theorem dX7_sendEntries_70 : decode cX7_sendEntries 70 = .ok (.aload_n 0, 1) := by decide +kernel
theorem dX7_sendEntries_71 : decode cX7_sendEntries 71 = .ok (.iload 5, 2) := by decide +kernel
theorem dX7_sendEntries_73 : decode cX7_sendEntries 73 = .ok (.bipush 9, 2) := by decide +kernel
theorem dX7_sendEntries_75 : decode cX7_sendEntries 75 = .ok (.aload_n 0, 1) := by decide +kernel
theorem dX7_sendEntries_76 : decode cX7_sendEntries 76 = .ok (.iload_n 1, 1) := by decide +kernel
theorem dX7_sendEntries_77 : decode cX7_sendEntries 77 = .ok (.iconst 4, 1) := by decide +kernel
theorem dX7_sendEntries_78 : decode cX7_sendEntries 78 = .ok (.invokevirtual 38, 3) := by decide +kernel
theorem dX7_sendEntries_81 : decode cX7_sendEntries 81 = .ok (.invokevirtual 92, 3) := by decide +kernel
theorem dX7_sendEntries_84 : decode cX7_sendEntries 84 = .ok (.iconst 0, 1) := by decide +kernel
theorem dX7_sendEntries_85 : decode cX7_sendEntries 85 = .ok (.istore 6, 2) := by decide +kernel
theorem dX7_sendEntries_87 : decode cX7_sendEntries 87 = .ok (.iload 6, 2) := by decide +kernel
theorem dX7_sendEntries_89 : decode cX7_sendEntries 89 = .ok (.iconst 3, 1) := by decide +kernel
theorem dX7_sendEntries_90 : decode cX7_sendEntries 90 = .ok (.iload 4, 2) := by decide +kernel
theorem dX7_sendEntries_92 : decode cX7_sendEntries 92 = .ok (.imul, 1) := by decide +kernel
theorem dX7_sendEntries_93 : decode cX7_sendEntries 93 = .ok (.if_icmp .ge 35, 3) := by decide +kernel
theorem dX7_sendEntries_96 : decode cX7_sendEntries 96 = .ok (.aload_n 0, 1) := by decide +kernel
theorem dX7_sendEntries_97 : decode cX7_sendEntries 97 = .ok (.iload 5, 2) := by decide +kernel
theorem dX7_sendEntries_99 : decode cX7_sendEntries 99 = .ok (.bipush 13, 2) := by decide +kernel
theorem dX7_sendEntries_101 : decode cX7_sendEntries 101 = .ok (.iload 6, 2) := by decide +kernel
theorem dX7_sendEntries_103 : decode cX7_sendEntries 103 = .ok (.iadd, 1) := by decide +kernel
theorem dX7_sendEntries_104 : decode cX7_sendEntries 104 = .ok (.aload_n 0, 1) := by decide +kernel
theorem dX7_sendEntries_105 : decode cX7_sendEntries 105 = .ok (.iload_n 1, 1) := by decide +kernel
theorem dX7_sendEntries_106 : decode cX7_sendEntries 106 = .ok (.iload_n 3, 1) := by decide +kernel
theorem dX7_sendEntries_107 : decode cX7_sendEntries 107 = .ok (.iload 6, 2) := by decide +kernel
theorem dX7_sendEntries_109 : decode cX7_sendEntries 109 = .ok (.iconst 3, 1) := by decide +kernel
theorem dX7_sendEntries_110 : decode cX7_sendEntries 110 = .ok (.idiv, 1) := by decide +kernel
theorem dX7_sendEntries_111 : decode cX7_sendEntries 111 = .ok (.iadd, 1) := by decide +kernel
theorem dX7_sendEntries_112 : decode cX7_sendEntries 112 = .ok (.iload 6, 2) := by decide +kernel
theorem dX7_sendEntries_114 : decode cX7_sendEntries 114 = .ok (.iconst 3, 1) := by decide +kernel
theorem dX7_sendEntries_115 : decode cX7_sendEntries 115 = .ok (.irem, 1) := by decide +kernel
theorem dX7_sendEntries_116 : decode cX7_sendEntries 116 = .ok (.invokevirtual 63, 3) := by decide +kernel
theorem dX7_sendEntries_119 : decode cX7_sendEntries 119 = .ok (.invokevirtual 92, 3) := by decide +kernel
theorem dX7_sendEntries_122 : decode cX7_sendEntries 122 = .ok (.iinc 6 1, 3) := by decide +kernel
theorem dX7_sendEntries_125 : decode cX7_sendEntries 125 = .ok (.goto (-38), 3) := by decide +kernel
theorem dX7_sendEntries_128 : decode cX7_sendEntries 128 = .ok (.return_, 1) := by decide +kernel
theorem dX7_sendTo_0 : decode cX7_sendTo 0 = .ok (.aload_n 0, 1) := by decide +kernel
theorem dX7_sendTo_1 : decode cX7_sendTo 1 = .ok (.iload_n 1, 1) := by decide +kernel
theorem dX7_sendTo_2 : decode cX7_sendTo 2 = .ok (.bipush 13, 2) := by decide +kernel
theorem dX7_sendTo_4 : decode cX7_sendTo 4 = .ok (.iload_n 2, 1) := by decide +kernel
theorem dX7_sendTo_5 : decode cX7_sendTo 5 = .ok (.iadd, 1) := by decide +kernel
theorem dX7_sendTo_6 : decode cX7_sendTo 6 = .ok (.invokevirtual 38, 3) := by decide +kernel
theorem dX7_sendTo_9 : decode cX7_sendTo 9 = .ok (.aload_n 0, 1) := by decide +kernel
theorem dX7_sendTo_10 : decode cX7_sendTo 10 = .ok (.iload_n 1, 1) := by decide +kernel
theorem dX7_sendTo_11 : decode cX7_sendTo 11 = .ok (.bipush 7, 2) := by decide +kernel
theorem dX7_sendTo_13 : decode cX7_sendTo 13 = .ok (.invokevirtual 38, 3) := by decide +kernel
theorem dX7_sendTo_16 : decode cX7_sendTo 16 = .ok (.if_icmp .gt 12, 3) := by decide +kernel
theorem dX7_sendTo_19 : decode cX7_sendTo 19 = .ok (.aload_n 0, 1) := by decide +kernel
theorem dX7_sendTo_20 : decode cX7_sendTo 20 = .ok (.iload_n 1, 1) := by decide +kernel
theorem dX7_sendTo_21 : decode cX7_sendTo 21 = .ok (.iload_n 2, 1) := by decide +kernel
theorem dX7_sendTo_22 : decode cX7_sendTo 22 = .ok (.invokevirtual 102, 3) := by decide +kernel
theorem dX7_sendTo_25 : decode cX7_sendTo 25 = .ok (.goto 9, 3) := by decide +kernel
theorem dX7_sendTo_28 : decode cX7_sendTo 28 = .ok (.aload_n 0, 1) := by decide +kernel
theorem dX7_sendTo_29 : decode cX7_sendTo 29 = .ok (.iload_n 1, 1) := by decide +kernel
theorem dX7_sendTo_30 : decode cX7_sendTo 30 = .ok (.iload_n 2, 1) := by decide +kernel
theorem dX7_sendTo_31 : decode cX7_sendTo 31 = .ok (.invokevirtual 105, 3) := by decide +kernel
theorem dX7_sendTo_34 : decode cX7_sendTo 34 = .ok (.return_, 1) := by decide +kernel
theorem dX7_sendToAll_0 : decode cX7_sendToAll 0 = .ok (.aload_n 0, 1) := by decide +kernel
theorem dX7_sendToAll_1 : decode cX7_sendToAll 1 = .ok (.iload_n 1, 1) := by decide +kernel
theorem dX7_sendToAll_2 : decode cX7_sendToAll 2 = .ok (.invokevirtual 108, 3) := by decide +kernel
theorem dX7_sendToAll_5 : decode cX7_sendToAll 5 = .ok (.istore_n 2, 1) := by decide +kernel
theorem dX7_sendToAll_6 : decode cX7_sendToAll 6 = .ok (.iconst 0, 1) := by decide +kernel
theorem dX7_sendToAll_7 : decode cX7_sendToAll 7 = .ok (.istore_n 3, 1) := by decide +kernel
theorem dX7_sendToAll_8 : decode cX7_sendToAll 8 = .ok (.iload_n 3, 1) := by decide +kernel
theorem dX7_sendToAll_9 : decode cX7_sendToAll 9 = .ok (.iconst 5, 1) := by decide +kernel
theorem dX7_sendToAll_10 : decode cX7_sendToAll 10 = .ok (.if_icmp .ge 28, 3) := by decide +kernel
theorem dX7_sendToAll_13 : decode cX7_sendToAll 13 = .ok (.iload_n 3, 1) := by decide +kernel
theorem dX7_sendToAll_14 : decode cX7_sendToAll 14 = .ok (.iload_n 1, 1) := by decide +kernel
theorem dX7_sendToAll_15 : decode cX7_sendToAll 15 = .ok (.if_icmp .eq 17, 3) := by decide +kernel
theorem dX7_sendToAll_18 : decode cX7_sendToAll 18 = .ok (.iload_n 2, 1) := by decide +kernel
theorem dX7_sendToAll_19 : decode cX7_sendToAll 19 = .ok (.iload_n 3, 1) := by decide +kernel
theorem dX7_sendToAll_20 : decode cX7_sendToAll 20 = .ok (.invokestatic 89, 3) := by decide +kernel
theorem dX7_sendToAll_23 : decode cX7_sendToAll 23 = .ok (.ifCond .eq 9, 3) := by decide +kernel
theorem dX7_sendToAll_26 : decode cX7_sendToAll 26 = .ok (.aload_n 0, 1) := by decide +kernel
theorem dX7_sendToAll_27 : decode cX7_sendToAll 27 = .ok (.iload_n 1, 1) := by decide +kernel
theorem dX7_sendToAll_28 : decode cX7_sendToAll 28 = .ok (.iload_n 3, 1) := by decide +kernel
theorem dX7_sendToAll_29 : decode cX7_sendToAll 29 = .ok (.invokevirtual 111, 3) := by decide +kernel
theorem dX7_sendToAll_32 : decode cX7_sendToAll 32 = .ok (.iinc 3 1, 3) := by decide +kernel
theorem dX7_sendToAll_35 : decode cX7_sendToAll 35 = .ok (.goto (-27), 3) := by decide +kernel
theorem dX7_sendToAll_38 : decode cX7_sendToAll 38 = .ok (.return_, 1) := by decide +kernel
theorem dX7_matching_0 : decode cX7_matching 0 = .ok (.iconst 1, 1) := by decide +kernel
theorem dX7_matching_1 : decode cX7_matching 1 = .ok (.iload_n 1, 1) := by decide +kernel
theorem dX7_matching_2 : decode cX7_matching 2 = .ok (.ishl, 1) := by decide +kernel
theorem dX7_matching_3 : decode cX7_matching 3 = .ok (.istore_n 3, 1) := by decide +kernel
theorem dX7_matching_4 : decode cX7_matching 4 = .ok (.iconst 0, 1) := by decide +kernel
theorem dX7_matching_5 : decode cX7_matching 5 = .ok (.istore 4, 2) := by decide +kernel
theorem dX7_matching_7 : decode cX7_matching 7 = .ok (.iload 4, 2) := by decide +kernel
theorem dX7_matching_9 : decode cX7_matching 9 = .ok (.iconst 5, 1) := by decide +kernel
theorem dX7_matching_10 : decode cX7_matching 10 = .ok (.if_icmp .ge 40, 3) := by decide +kernel
theorem dX7_matching_13 : decode cX7_matching 13 = .ok (.iload_n 3, 1) := by decide +kernel
theorem dX7_matching_14 : decode cX7_matching 14 = .ok (.iload 4, 2) := by decide +kernel
theorem dX7_matching_16 : decode cX7_matching 16 = .ok (.iload_n 1, 1) := by decide +kernel
theorem dX7_matching_17 : decode cX7_matching 17 = .ok (.if_icmp .eq 24, 3) := by decide +kernel
theorem dX7_matching_20 : decode cX7_matching 20 = .ok (.aload_n 0, 1) := by decide +kernel
theorem dX7_matching_21 : decode cX7_matching 21 = .ok (.iload_n 1, 1) := by decide +kernel
theorem dX7_matching_22 : decode cX7_matching 22 = .ok (.bipush 18, 2) := by decide +kernel
theorem dX7_matching_24 : decode cX7_matching 24 = .ok (.iload 4, 2) := by decide +kernel
theorem dX7_matching_26 : decode cX7_matching 26 = .ok (.iadd, 1) := by decide +kernel
theorem dX7_matching_27 : decode cX7_matching 27 = .ok (.invokevirtual 38, 3) := by decide +kernel
theorem dX7_matching_30 : decode cX7_matching 30 = .ok (.iload_n 2, 1) := by decide +kernel
theorem dX7_matching_31 : decode cX7_matching 31 = .ok (.if_icmp .lt 10, 3) := by decide +kernel
theorem dX7_matching_34 : decode cX7_matching 34 = .ok (.iconst 1, 1) := by decide +kernel
theorem dX7_matching_35 : decode cX7_matching 35 = .ok (.iload 4, 2) := by decide +kernel
theorem dX7_matching_37 : decode cX7_matching 37 = .ok (.ishl, 1) := by decide +kernel
theorem dX7_matching_38 : decode cX7_matching 38 = .ok (.goto 4, 3) := by decide +kernel
theorem dX7_matching_41 : decode cX7_matching 41 = .ok (.iconst 0, 1) := by decide +kernel
theorem dX7_matching_42 : decode cX7_matching 42 = .ok (.ior, 1) := by decide +kernel
theorem dX7_matching_43 : decode cX7_matching 43 = .ok (.istore_n 3, 1) := by decide +kernel
theorem dX7_matching_44 : decode cX7_matching 44 = .ok (.iinc 4 1, 3) := by decide +kernel
theorem dX7_matching_47 : decode cX7_matching 47 = .ok (.goto (-40), 3) := by decide +kernel
theorem dX7_matching_50 : decode cX7_matching 50 = .ok (.iload_n 3, 1) := by decide +kernel
theorem dX7_matching_51 : decode cX7_matching 51 = .ok (.ireturn, 1) := by decide +kernel
theorem dX7_commit_0 : decode cX7_commit 0 = .ok (.aload_n 0, 1) := by decide +kernel
theorem dX7_commit_1 : decode cX7_commit 1 = .ok (.iload_n 1, 1) := by decide +kernel
theorem dX7_commit_2 : decode cX7_commit 2 = .ok (.invokevirtual 67, 3) := by decide +kernel
theorem dX7_commit_5 : decode cX7_commit 5 = .ok (.istore_n 2, 1) := by decide +kernel
theorem dX7_commit_6 : decode cX7_commit 6 = .ok (.iload_n 2, 1) := by decide +kernel
theorem dX7_commit_7 : decode cX7_commit 7 = .ok (.aload_n 0, 1) := by decide +kernel
theorem dX7_commit_8 : decode cX7_commit 8 = .ok (.iload_n 1, 1) := by decide +kernel
theorem dX7_commit_9 : decode cX7_commit 9 = .ok (.iconst 4, 1) := by decide +kernel
theorem dX7_commit_10 : decode cX7_commit 10 = .ok (.invokevirtual 38, 3) := by decide +kernel
theorem dX7_commit_13 : decode cX7_commit 13 = .ok (.if_icmp .le 45, 3) := by decide +kernel
theorem dX7_commit_16 : decode cX7_commit 16 = .ok (.aload_n 0, 1) := by decide +kernel
theorem dX7_commit_17 : decode cX7_commit 17 = .ok (.iload_n 1, 1) := by decide +kernel
theorem dX7_commit_18 : decode cX7_commit 18 = .ok (.iload_n 2, 1) := by decide +kernel
theorem dX7_commit_19 : decode cX7_commit 19 = .ok (.invokevirtual 99, 3) := by decide +kernel
theorem dX7_commit_22 : decode cX7_commit 22 = .ok (.aload_n 0, 1) := by decide +kernel
theorem dX7_commit_23 : decode cX7_commit 23 = .ok (.iload_n 1, 1) := by decide +kernel
theorem dX7_commit_24 : decode cX7_commit 24 = .ok (.iconst 2, 1) := by decide +kernel
theorem dX7_commit_25 : decode cX7_commit 25 = .ok (.invokevirtual 38, 3) := by decide +kernel
theorem dX7_commit_28 : decode cX7_commit 28 = .ok (.if_icmp .ne 24, 3) := by decide +kernel
theorem dX7_commit_31 : decode cX7_commit 31 = .ok (.aload_n 0, 1) := by decide +kernel
theorem dX7_commit_32 : decode cX7_commit 32 = .ok (.iload_n 1, 1) := by decide +kernel
theorem dX7_commit_33 : decode cX7_commit 33 = .ok (.aload_n 0, 1) := by decide +kernel
theorem dX7_commit_34 : decode cX7_commit 34 = .ok (.iload_n 1, 1) := by decide +kernel
theorem dX7_commit_35 : decode cX7_commit 35 = .ok (.iload_n 2, 1) := by decide +kernel
theorem dX7_commit_36 : decode cX7_commit 36 = .ok (.invokevirtual 114, 3) := by decide +kernel
theorem dX7_commit_39 : decode cX7_commit 39 = .ok (.invokevirtual 117, 3) := by decide +kernel
theorem dX7_commit_42 : decode cX7_commit 42 = .ok (.ifCond .eq 10, 3) := by decide +kernel
theorem dX7_commit_45 : decode cX7_commit 45 = .ok (.aload_n 0, 1) := by decide +kernel
theorem dX7_commit_46 : decode cX7_commit 46 = .ok (.iload_n 1, 1) := by decide +kernel
theorem dX7_commit_47 : decode cX7_commit 47 = .ok (.iconst 4, 1) := by decide +kernel
theorem dX7_commit_48 : decode cX7_commit 48 = .ok (.iload_n 2, 1) := by decide +kernel
theorem dX7_commit_49 : decode cX7_commit 49 = .ok (.invokevirtual 43, 3) := by decide +kernel
theorem dX7_commit_52 : decode cX7_commit 52 = .ok (.iinc 2 (-1), 3) := by decide +kernel
theorem dX7_commit_55 : decode cX7_commit 55 = .ok (.goto (-49), 3) := by decide +kernel
theorem dX7_commit_58 : decode cX7_commit 58 = .ok (.aload_n 0, 1) := by decide +kernel
theorem dX7_commit_59 : decode cX7_commit 59 = .ok (.iload_n 1, 1) := by decide +kernel
theorem dX7_commit_60 : decode cX7_commit 60 = .ok (.invokevirtual 73, 3) := by decide +kernel
theorem dX7_commit_63 : decode cX7_commit 63 = .ok (.istore_n 2, 1) := by decide +kernel
theorem dX7_commit_64 : decode cX7_commit 64 = .ok (.iload_n 2, 1) := by decide +kernel
theorem dX7_commit_65 : decode cX7_commit 65 = .ok (.aload_n 0, 1) := by decide +kernel
theorem dX7_commit_66 : decode cX7_commit 66 = .ok (.iload_n 1, 1) := by decide +kernel
theorem dX7_commit_67 : decode cX7_commit 67 = .ok (.iconst 4, 1) := by decide +kernel
theorem dX7_commit_68 : decode cX7_commit 68 = .ok (.invokevirtual 38, 3) := by decide +kernel
theorem dX7_commit_71 : decode cX7_commit 71 = .ok (.if_icmp .gt 7, 3) := by decide +kernel
theorem dX7_commit_74 : decode cX7_commit 74 = .ok (.iconst 1, 1) := by decide +kernel
theorem dX7_commit_75 : decode cX7_commit 75 = .ok (.goto 4, 3) := by decide +kernel
theorem dX7_commit_78 : decode cX7_commit 78 = .ok (.iconst 0, 1) := by decide +kernel
theorem dX7_commit_79 : decode cX7_commit 79 = .ok (.istore_n 3, 1) := by decide +kernel
theorem dX7_commit_80 : decode cX7_commit 80 = .ok (.aload_n 0, 1) := by decide +kernel
theorem dX7_commit_81 : decode cX7_commit 81 = .ok (.iload_n 1, 1) := by decide +kernel
theorem dX7_commit_82 : decode cX7_commit 82 = .ok (.iload_n 2, 1) := by decide +kernel
theorem dX7_commit_83 : decode cX7_commit 83 = .ok (.invokevirtual 76, 3) := by decide +kernel
theorem dX7_commit_86 : decode cX7_commit 86 = .ok (.ifCond .eq 40, 3) := by decide +kernel
theorem dX7_commit_89 : decode cX7_commit 89 = .ok (.iload_n 3, 1) := by decide +kernel
theorem dX7_commit_90 : decode cX7_commit 90 = .ok (.ifCond .eq 36, 3) := by decide +kernel
theorem dX7_commit_93 : decode cX7_commit 93 = .ok (.aload_n 0, 1) := by decide +kernel
theorem dX7_commit_94 : decode cX7_commit 94 = .ok (.iload_n 1, 1) := by decide +kernel
theorem dX7_commit_95 : decode cX7_commit 95 = .ok (.bipush 12, 2) := by decide +kernel
theorem dX7_commit_97 : decode cX7_commit 97 = .ok (.invokevirtual 38, 3) := by decide +kernel
theorem dX7_commit_100 : decode cX7_commit 100 = .ok (.bipush 24, 2) := by decide +kernel
theorem dX7_commit_102 : decode cX7_commit 102 = .ok (.if_icmp .ge 53, 3) := by decide +kernel
theorem dX7_commit_105 : decode cX7_commit 105 = .ok (.aload_n 0, 1) := by decide +kernel
theorem dX7_commit_106 : decode cX7_commit 106 = .ok (.iload_n 1, 1) := by decide +kernel
theorem dX7_commit_107 : decode cX7_commit 107 = .ok (.aload_n 0, 1) := by decide +kernel
theorem dX7_commit_108 : decode cX7_commit 108 = .ok (.iload_n 1, 1) := by decide +kernel
theorem dX7_commit_109 : decode cX7_commit 109 = .ok (.iconst 2, 1) := by decide +kernel
theorem dX7_commit_110 : decode cX7_commit 110 = .ok (.invokevirtual 38, 3) := by decide +kernel
theorem dX7_commit_113 : decode cX7_commit 113 = .ok (.iconst 2, 1) := by decide +kernel
theorem dX7_commit_114 : decode cX7_commit 114 = .ok (.aload_n 0, 1) := by decide +kernel
theorem dX7_commit_115 : decode cX7_commit 115 = .ok (.iload_n 1, 1) := by decide +kernel
theorem dX7_commit_116 : decode cX7_commit 116 = .ok (.iload_n 2, 1) := by decide +kernel
theorem dX7_commit_117 : decode cX7_commit 117 = .ok (.invokevirtual 79, 3) := by decide +kernel
theorem dX7_commit_120 : decode cX7_commit 120 = .ok (.invokevirtual 120, 3) := by decide +kernel
theorem dX7_commit_123 : decode cX7_commit 123 = .ok (.goto 32, 3) := by decide +kernel
theorem dX7_commit_126 : decode cX7_commit 126 = .ok (.iload_n 3, 1) := by decide +kernel
theorem dX7_commit_127 : decode cX7_commit 127 = .ok (.ifCond .eq 28, 3) := by decide +kernel
theorem dX7_commit_130 : decode cX7_commit 130 = .ok (.aload_n 0, 1) := by decide +kernel
theorem dX7_commit_131 : decode cX7_commit 131 = .ok (.iload_n 1, 1) := by decide +kernel
theorem dX7_commit_132 : decode cX7_commit 132 = .ok (.iload_n 2, 1) := by decide +kernel
theorem dX7_commit_133 : decode cX7_commit 133 = .ok (.invokevirtual 79, 3) := by decide +kernel
theorem dX7_commit_136 : decode cX7_commit 136 = .ok (.iload_n 1, 1) := by decide +kernel
theorem dX7_commit_137 : decode cX7_commit 137 = .ok (.invokestatic 89, 3) := by decide +kernel
theorem dX7_commit_140 : decode cX7_commit 140 = .ok (.ifCond .ne 15, 3) := by decide +kernel
theorem dX7_commit_143 : decode cX7_commit 143 = .ok (.aload_n 0, 1) := by decide +kernel
theorem dX7_commit_144 : decode cX7_commit 144 = .ok (.iload_n 1, 1) := by decide +kernel
theorem dX7_commit_145 : decode cX7_commit 145 = .ok (.iconst 1, 1) := by decide +kernel
theorem dX7_commit_146 : decode cX7_commit 146 = .ok (.iconst 0, 1) := by decide +kernel
theorem dX7_commit_147 : decode cX7_commit 147 = .ok (.invokevirtual 43, 3) := by decide +kernel
theorem dX7_commit_150 : decode cX7_commit 150 = .ok (.aload_n 0, 1) := by decide +kernel
theorem dX7_commit_151 : decode cX7_commit 151 = .ok (.iload_n 1, 1) := by decide +kernel
theorem dX7_commit_152 : decode cX7_commit 152 = .ok (.invokevirtual 47, 3) := by decide +kernel
theorem dX7_commit_155 : decode cX7_commit 155 = .ok (.return_, 1) := by decide +kernel
theorem dX7_append_0 : decode cX7_append 0 = .ok (.aload_n 0, 1) := by decide +kernel
theorem dX7_append_1 : decode cX7_append 1 = .ok (.iload_n 1, 1) := by decide +kernel
theorem dX7_append_2 : decode cX7_append 2 = .ok (.aload_n 0, 1) := by decide +kernel
theorem dX7_append_3 : decode cX7_append 3 = .ok (.iload_n 1, 1) := by decide +kernel
theorem dX7_append_4 : decode cX7_append 4 = .ok (.iconst 2, 1) := by decide +kernel
theorem dX7_append_5 : decode cX7_append 5 = .ok (.invokevirtual 38, 3) := by decide +kernel
theorem dX7_append_8 : decode cX7_append 8 = .ok (.iload_n 2, 1) := by decide +kernel
theorem dX7_append_9 : decode cX7_append 9 = .ok (.iload_n 3, 1) := by decide +kernel
theorem dX7_append_10 : decode cX7_append 10 = .ok (.invokevirtual 120, 3) := by decide +kernel
theorem dX7_append_13 : decode cX7_append 13 = .ok (.aload_n 0, 1) := by decide +kernel
theorem dX7_append_14 : decode cX7_append 14 = .ok (.iload_n 1, 1) := by decide +kernel
theorem dX7_append_15 : decode cX7_append 15 = .ok (.invokevirtual 124, 3) := by decide +kernel
theorem dX7_append_18 : decode cX7_append 18 = .ok (.return_, 1) := by decide +kernel
theorem dX7_win_0 : decode cX7_win 0 = .ok (.aload_n 0, 1) := by decide +kernel
theorem dX7_win_1 : decode cX7_win 1 = .ok (.iload_n 1, 1) := by decide +kernel
theorem dX7_win_2 : decode cX7_win 2 = .ok (.iconst 1, 1) := by decide +kernel
theorem dX7_win_3 : decode cX7_win 3 = .ok (.iconst 2, 1) := by decide +kernel
theorem dX7_win_4 : decode cX7_win 4 = .ok (.invokevirtual 43, 3) := by decide +kernel
theorem dX7_win_7 : decode cX7_win 7 = .ok (.aload_n 0, 1) := by decide +kernel
theorem dX7_win_8 : decode cX7_win 8 = .ok (.iload_n 1, 1) := by decide +kernel
theorem dX7_win_9 : decode cX7_win 9 = .ok (.iconst 5, 1) := by decide +kernel
theorem dX7_win_10 : decode cX7_win 10 = .ok (.iconst 3, 1) := by decide +kernel
theorem dX7_win_11 : decode cX7_win 11 = .ok (.invokevirtual 43, 3) := by decide +kernel
theorem dX7_win_14 : decode cX7_win 14 = .ok (.aload_n 0, 1) := by decide +kernel
theorem dX7_win_15 : decode cX7_win 15 = .ok (.iconst 4, 1) := by decide +kernel
theorem dX7_win_16 : decode cX7_win 16 = .ok (.iconst 1, 1) := by decide +kernel
theorem dX7_win_17 : decode cX7_win 17 = .ok (.invokevirtual 86, 3) := by decide +kernel
theorem dX7_win_20 : decode cX7_win 20 = .ok (.aload_n 0, 1) := by decide +kernel
theorem dX7_win_21 : decode cX7_win 21 = .ok (.iload_n 1, 1) := by decide +kernel
theorem dX7_win_22 : decode cX7_win 22 = .ok (.iconst 2, 1) := by decide +kernel
theorem dX7_win_23 : decode cX7_win 23 = .ok (.invokevirtual 38, 3) := by decide +kernel
theorem dX7_win_26 : decode cX7_win 26 = .ok (.bipush 100, 2) := by decide +kernel
theorem dX7_win_28 : decode cX7_win 28 = .ok (.if_icmp .ge 18, 3) := by decide +kernel
theorem dX7_win_31 : decode cX7_win 31 = .ok (.aload_n 0, 1) := by decide +kernel
theorem dX7_win_32 : decode cX7_win 32 = .ok (.getfield 9, 3) := by decide +kernel
theorem dX7_win_35 : decode cX7_win 35 = .ok (.bipush 16, 2) := by decide +kernel
theorem dX7_win_37 : decode cX7_win 37 = .ok (.aload_n 0, 1) := by decide +kernel
theorem dX7_win_38 : decode cX7_win 38 = .ok (.iload_n 1, 1) := by decide +kernel
theorem dX7_win_39 : decode cX7_win 39 = .ok (.iconst 2, 1) := by decide +kernel
theorem dX7_win_40 : decode cX7_win 40 = .ok (.invokevirtual 38, 3) := by decide +kernel
theorem dX7_win_43 : decode cX7_win 43 = .ok (.iadd, 1) := by decide +kernel
theorem dX7_win_44 : decode cX7_win 44 = .ok (.iload_n 1, 1) := by decide +kernel
theorem dX7_win_45 : decode cX7_win 45 = .ok (.iastore, 1) := by decide +kernel
theorem dX7_win_46 : decode cX7_win 46 = .ok (.iconst 0, 1) := by decide +kernel
theorem dX7_win_47 : decode cX7_win 47 = .ok (.istore_n 2, 1) := by decide +kernel
theorem dX7_win_48 : decode cX7_win 48 = .ok (.iload_n 2, 1) := by decide +kernel
theorem dX7_win_49 : decode cX7_win 49 = .ok (.iconst 5, 1) := by decide +kernel
theorem dX7_win_50 : decode cX7_win 50 = .ok (.if_icmp .ge 45, 3) := by decide +kernel
theorem dX7_win_53 : decode cX7_win 53 = .ok (.aload_n 0, 1) := by decide +kernel
theorem dX7_win_54 : decode cX7_win 54 = .ok (.iload_n 1, 1) := by decide +kernel
theorem dX7_win_55 : decode cX7_win 55 = .ok (.bipush 13, 2) := by decide +kernel
theorem dX7_win_57 : decode cX7_win 57 = .ok (.iload_n 2, 1) := by decide +kernel
theorem dX7_win_58 : decode cX7_win 58 = .ok (.iadd, 1) := by decide +kernel
theorem dX7_win_59 : decode cX7_win 59 = .ok (.aload_n 0, 1) := by decide +kernel
theorem dX7_win_60 : decode cX7_win 60 = .ok (.iload_n 1, 1) := by decide +kernel
theorem dX7_win_61 : decode cX7_win 61 = .ok (.invokevirtual 67, 3) := by decide +kernel
theorem dX7_win_64 : decode cX7_win 64 = .ok (.iconst 1, 1) := by decide +kernel
theorem dX7_win_65 : decode cX7_win 65 = .ok (.iadd, 1) := by decide +kernel
theorem dX7_win_66 : decode cX7_win 66 = .ok (.invokevirtual 43, 3) := by decide +kernel
theorem dX7_win_69 : decode cX7_win 69 = .ok (.aload_n 0, 1) := by decide +kernel
theorem dX7_win_70 : decode cX7_win 70 = .ok (.iload_n 1, 1) := by decide +kernel
theorem dX7_win_71 : decode cX7_win 71 = .ok (.bipush 18, 2) := by decide +kernel
theorem dX7_win_73 : decode cX7_win 73 = .ok (.iload_n 2, 1) := by decide +kernel
theorem dX7_win_74 : decode cX7_win 74 = .ok (.iadd, 1) := by decide +kernel
theorem dX7_win_75 : decode cX7_win 75 = .ok (.iconst 0, 1) := by decide +kernel
theorem dX7_win_76 : decode cX7_win 76 = .ok (.invokevirtual 43, 3) := by decide +kernel
theorem dX7_win_79 : decode cX7_win 79 = .ok (.aload_n 0, 1) := by decide +kernel
theorem dX7_win_80 : decode cX7_win 80 = .ok (.iload_n 1, 1) := by decide +kernel
theorem dX7_win_81 : decode cX7_win 81 = .ok (.bipush 23, 2) := by decide +kernel
theorem dX7_win_83 : decode cX7_win 83 = .ok (.iload_n 2, 1) := by decide +kernel
theorem dX7_win_84 : decode cX7_win 84 = .ok (.iadd, 1) := by decide +kernel
theorem dX7_win_85 : decode cX7_win 85 = .ok (.iconst (-1), 1) := by decide +kernel
theorem dX7_win_86 : decode cX7_win 86 = .ok (.invokevirtual 43, 3) := by decide +kernel
theorem dX7_win_89 : decode cX7_win 89 = .ok (.iinc 2 1, 3) := by decide +kernel
theorem dX7_win_92 : decode cX7_win 92 = .ok (.goto (-44), 3) := by decide +kernel
theorem dX7_win_95 : decode cX7_win 95 = .ok (.aload_n 0, 1) := by decide +kernel
theorem dX7_win_96 : decode cX7_win 96 = .ok (.iload_n 1, 1) := by decide +kernel
theorem dX7_win_97 : decode cX7_win 97 = .ok (.bipush 12, 2) := by decide +kernel
theorem dX7_win_99 : decode cX7_win 99 = .ok (.invokevirtual 38, 3) := by decide +kernel
theorem dX7_win_102 : decode cX7_win 102 = .ok (.bipush 24, 2) := by decide +kernel
theorem dX7_win_104 : decode cX7_win 104 = .ok (.if_icmp .ge 10, 3) := by decide +kernel
theorem dX7_win_107 : decode cX7_win 107 = .ok (.aload_n 0, 1) := by decide +kernel
theorem dX7_win_108 : decode cX7_win 108 = .ok (.iload_n 1, 1) := by decide +kernel
theorem dX7_win_109 : decode cX7_win 109 = .ok (.iconst 3, 1) := by decide +kernel
theorem dX7_win_110 : decode cX7_win 110 = .ok (.iconst 0, 1) := by decide +kernel
theorem dX7_win_111 : decode cX7_win 111 = .ok (.invokevirtual 127, 3) := by decide +kernel
theorem dX7_win_114 : decode cX7_win 114 = .ok (.aload_n 0, 1) := by decide +kernel
theorem dX7_win_115 : decode cX7_win 115 = .ok (.iload_n 1, 1) := by decide +kernel
theorem dX7_win_116 : decode cX7_win 116 = .ok (.invokevirtual 130, 3) := by decide +kernel
theorem dX7_win_119 : decode cX7_win 119 = .ok (.return_, 1) := by decide +kernel
theorem dX7_stand_0 : decode cX7_stand 0 = .ok (.aload_n 0, 1) := by decide +kernel
theorem dX7_stand_1 : decode cX7_stand 1 = .ok (.iload_n 1, 1) := by decide +kernel
theorem dX7_stand_2 : decode cX7_stand 2 = .ok (.iconst 2, 1) := by decide +kernel
theorem dX7_stand_3 : decode cX7_stand 3 = .ok (.aload_n 0, 1) := by decide +kernel
theorem dX7_stand_4 : decode cX7_stand 4 = .ok (.iload_n 1, 1) := by decide +kernel
theorem dX7_stand_5 : decode cX7_stand 5 = .ok (.iconst 2, 1) := by decide +kernel
theorem dX7_stand_6 : decode cX7_stand 6 = .ok (.invokevirtual 38, 3) := by decide +kernel
theorem dX7_stand_9 : decode cX7_stand 9 = .ok (.iconst 1, 1) := by decide +kernel
theorem dX7_stand_10 : decode cX7_stand 10 = .ok (.iadd, 1) := by decide +kernel
theorem dX7_stand_11 : decode cX7_stand 11 = .ok (.invokevirtual 43, 3) := by decide +kernel
theorem dX7_stand_14 : decode cX7_stand 14 = .ok (.aload_n 0, 1) := by decide +kernel
theorem dX7_stand_15 : decode cX7_stand 15 = .ok (.iload_n 1, 1) := by decide +kernel
theorem dX7_stand_16 : decode cX7_stand 16 = .ok (.iconst 1, 1) := by decide +kernel
theorem dX7_stand_17 : decode cX7_stand 17 = .ok (.iconst 1, 1) := by decide +kernel
theorem dX7_stand_18 : decode cX7_stand 18 = .ok (.invokevirtual 43, 3) := by decide +kernel
theorem dX7_stand_21 : decode cX7_stand 21 = .ok (.aload_n 0, 1) := by decide +kernel
theorem dX7_stand_22 : decode cX7_stand 22 = .ok (.iload_n 1, 1) := by decide +kernel
theorem dX7_stand_23 : decode cX7_stand 23 = .ok (.iconst 3, 1) := by decide +kernel
theorem dX7_stand_24 : decode cX7_stand 24 = .ok (.iload_n 1, 1) := by decide +kernel
theorem dX7_stand_25 : decode cX7_stand 25 = .ok (.invokevirtual 43, 3) := by decide +kernel
theorem dX7_stand_28 : decode cX7_stand 28 = .ok (.aload_n 0, 1) := by decide +kernel
theorem dX7_stand_29 : decode cX7_stand 29 = .ok (.iload_n 1, 1) := by decide +kernel
theorem dX7_stand_30 : decode cX7_stand 30 = .ok (.bipush 6, 2) := by decide +kernel
theorem dX7_stand_32 : decode cX7_stand 32 = .ok (.iconst 1, 1) := by decide +kernel
theorem dX7_stand_33 : decode cX7_stand 33 = .ok (.iload_n 1, 1) := by decide +kernel
theorem dX7_stand_34 : decode cX7_stand 34 = .ok (.ishl, 1) := by decide +kernel
theorem dX7_stand_35 : decode cX7_stand 35 = .ok (.invokevirtual 43, 3) := by decide +kernel
theorem dX7_stand_38 : decode cX7_stand 38 = .ok (.aload_n 0, 1) := by decide +kernel
theorem dX7_stand_39 : decode cX7_stand 39 = .ok (.iload_n 1, 1) := by decide +kernel
theorem dX7_stand_40 : decode cX7_stand 40 = .ok (.invokevirtual 47, 3) := by decide +kernel
theorem dX7_stand_43 : decode cX7_stand 43 = .ok (.aload_n 0, 1) := by decide +kernel
theorem dX7_stand_44 : decode cX7_stand 44 = .ok (.iconst 3, 1) := by decide +kernel
theorem dX7_stand_45 : decode cX7_stand 45 = .ok (.iconst 1, 1) := by decide +kernel
theorem dX7_stand_46 : decode cX7_stand 46 = .ok (.invokevirtual 86, 3) := by decide +kernel
theorem dX7_stand_49 : decode cX7_stand 49 = .ok (.aload_n 0, 1) := by decide +kernel
theorem dX7_stand_50 : decode cX7_stand 50 = .ok (.iload_n 1, 1) := by decide +kernel
theorem dX7_stand_51 : decode cX7_stand 51 = .ok (.invokevirtual 108, 3) := by decide +kernel
theorem dX7_stand_54 : decode cX7_stand 54 = .ok (.istore_n 2, 1) := by decide +kernel
theorem dX7_stand_55 : decode cX7_stand 55 = .ok (.iconst 0, 1) := by decide +kernel
theorem dX7_stand_56 : decode cX7_stand 56 = .ok (.istore_n 3, 1) := by decide +kernel
theorem dX7_stand_57 : decode cX7_stand 57 = .ok (.iload_n 3, 1) := by decide +kernel
theorem dX7_stand_58 : decode cX7_stand 58 = .ok (.iconst 5, 1) := by decide +kernel
theorem dX7_stand_59 : decode cX7_stand 59 = .ok (.if_icmp .ge 45, 3) := by decide +kernel
theorem dX7_stand_62 : decode cX7_stand 62 = .ok (.iload_n 3, 1) := by decide +kernel
theorem dX7_stand_63 : decode cX7_stand 63 = .ok (.iload_n 1, 1) := by decide +kernel
theorem dX7_stand_64 : decode cX7_stand 64 = .ok (.if_icmp .eq 34, 3) := by decide +kernel
theorem dX7_stand_67 : decode cX7_stand 67 = .ok (.iload_n 2, 1) := by decide +kernel
theorem dX7_stand_68 : decode cX7_stand 68 = .ok (.iload_n 3, 1) := by decide +kernel
theorem dX7_stand_69 : decode cX7_stand 69 = .ok (.invokestatic 89, 3) := by decide +kernel
theorem dX7_stand_72 : decode cX7_stand 72 = .ok (.ifCond .eq 26, 3) := by decide +kernel
theorem dX7_stand_75 : decode cX7_stand 75 = .ok (.aload_n 0, 1) := by decide +kernel
theorem dX7_stand_76 : decode cX7_stand 76 = .ok (.iconst 0, 1) := by decide +kernel
theorem dX7_stand_77 : decode cX7_stand 77 = .ok (.iload_n 1, 1) := by decide +kernel
theorem dX7_stand_78 : decode cX7_stand 78 = .ok (.iload_n 3, 1) := by decide +kernel
theorem dX7_stand_79 : decode cX7_stand 79 = .ok (.aload_n 0, 1) := by decide +kernel
theorem dX7_stand_80 : decode cX7_stand 80 = .ok (.iload_n 1, 1) := by decide +kernel
theorem dX7_stand_81 : decode cX7_stand 81 = .ok (.invokevirtual 67, 3) := by decide +kernel
theorem dX7_stand_84 : decode cX7_stand 84 = .ok (.aload_n 0, 1) := by decide +kernel
theorem dX7_stand_85 : decode cX7_stand 85 = .ok (.iload_n 1, 1) := by decide +kernel
theorem dX7_stand_86 : decode cX7_stand 86 = .ok (.aload_n 0, 1) := by decide +kernel
theorem dX7_stand_87 : decode cX7_stand 87 = .ok (.iload_n 1, 1) := by decide +kernel
theorem dX7_stand_88 : decode cX7_stand 88 = .ok (.invokevirtual 67, 3) := by decide +kernel
theorem dX7_stand_91 : decode cX7_stand 91 = .ok (.invokevirtual 99, 3) := by decide +kernel
theorem dX7_stand_94 : decode cX7_stand 94 = .ok (.invokevirtual 95, 3) := by decide +kernel
theorem dX7_stand_97 : decode cX7_stand 97 = .ok (.pop, 1) := by decide +kernel
theorem dX7_stand_98 : decode cX7_stand 98 = .ok (.iinc 3 1, 3) := by decide +kernel
theorem dX7_stand_101 : decode cX7_stand 101 = .ok (.goto (-44), 3) := by decide +kernel
theorem dX7_stand_104 : decode cX7_stand 104 = .ok (.aload_n 0, 1) := by decide +kernel
theorem dX7_stand_105 : decode cX7_stand 105 = .ok (.iload_n 1, 1) := by decide +kernel
theorem dX7_stand_106 : decode cX7_stand 106 = .ok (.iconst 1, 1) := by decide +kernel
theorem dX7_stand_107 : decode cX7_stand 107 = .ok (.iload_n 1, 1) := by decide +kernel
theorem dX7_stand_108 : decode cX7_stand 108 = .ok (.ishl, 1) := by decide +kernel
theorem dX7_stand_109 : decode cX7_stand 109 = .ok (.invokevirtual 117, 3) := by decide +kernel
theorem dX7_stand_112 : decode cX7_stand 112 = .ok (.ifCond .eq 8, 3) := by decide +kernel
theorem dX7_stand_115 : decode cX7_stand 115 = .ok (.aload_n 0, 1) := by decide +kernel
theorem dX7_stand_116 : decode cX7_stand 116 = .ok (.iload_n 1, 1) := by decide +kernel
theorem dX7_stand_117 : decode cX7_stand 117 = .ok (.invokevirtual 133, 3) := by decide +kernel
theorem dX7_stand_120 : decode cX7_stand 120 = .ok (.return_, 1) := by decide +kernel
theorem dX7_answer_0 : decode cX7_answer 0 = .ok (.aload_n 0, 1) := by decide +kernel
theorem dX7_answer_1 : decode cX7_answer 1 = .ok (.iconst 3, 1) := by decide +kernel
theorem dX7_answer_2 : decode cX7_answer 2 = .ok (.iload_n 1, 1) := by decide +kernel
theorem dX7_answer_3 : decode cX7_answer 3 = .ok (.aload_n 0, 1) := by decide +kernel
theorem dX7_answer_4 : decode cX7_answer 4 = .ok (.getfield 16, 3) := by decide +kernel
theorem dX7_answer_7 : decode cX7_answer 7 = .ok (.iconst 1, 1) := by decide +kernel
theorem dX7_answer_8 : decode cX7_answer 8 = .ok (.iaload, 1) := by decide +kernel
theorem dX7_answer_9 : decode cX7_answer 9 = .ok (.iload_n 2, 1) := by decide +kernel
theorem dX7_answer_10 : decode cX7_answer 10 = .ok (.iload_n 3, 1) := by decide +kernel
theorem dX7_answer_11 : decode cX7_answer 11 = .ok (.invokevirtual 95, 3) := by decide +kernel
theorem dX7_answer_14 : decode cX7_answer 14 = .ok (.istore 4, 2) := by decide +kernel
theorem dX7_answer_16 : decode cX7_answer 16 = .ok (.iload 4, 2) := by decide +kernel
theorem dX7_answer_18 : decode cX7_answer 18 = .ok (.ifCond .lt 18, 3) := by decide +kernel
theorem dX7_answer_21 : decode cX7_answer 21 = .ok (.aload_n 0, 1) := by decide +kernel
theorem dX7_answer_22 : decode cX7_answer 22 = .ok (.iload 4, 2) := by decide +kernel
theorem dX7_answer_24 : decode cX7_answer 24 = .ok (.bipush 7, 2) := by decide +kernel
theorem dX7_answer_26 : decode cX7_answer 26 = .ok (.aload_n 0, 1) := by decide +kernel
theorem dX7_answer_27 : decode cX7_answer 27 = .ok (.getfield 16, 3) := by decide +kernel
theorem dX7_answer_30 : decode cX7_answer 30 = .ok (.bipush 7, 2) := by decide +kernel
theorem dX7_answer_32 : decode cX7_answer 32 = .ok (.iaload, 1) := by decide +kernel
theorem dX7_answer_33 : decode cX7_answer 33 = .ok (.invokevirtual 92, 3) := by decide +kernel
theorem dX7_answer_36 : decode cX7_answer 36 = .ok (.return_, 1) := by decide +kernel
theorem dX7_receiveRequest_0 : decode cX7_receiveRequest 0 = .ok (.aload_n 0, 1) := by decide +kernel
theorem dX7_receiveRequest_1 : decode cX7_receiveRequest 1 = .ok (.getfield 16, 3) := by decide +kernel
theorem dX7_receiveRequest_4 : decode cX7_receiveRequest 4 = .ok (.iconst 1, 1) := by decide +kernel
theorem dX7_receiveRequest_5 : decode cX7_receiveRequest 5 = .ok (.iaload, 1) := by decide +kernel
theorem dX7_receiveRequest_6 : decode cX7_receiveRequest 6 = .ok (.istore_n 2, 1) := by decide +kernel
theorem dX7_receiveRequest_7 : decode cX7_receiveRequest 7 = .ok (.aload_n 0, 1) := by decide +kernel
theorem dX7_receiveRequest_8 : decode cX7_receiveRequest 8 = .ok (.iload_n 1, 1) := by decide +kernel
theorem dX7_receiveRequest_9 : decode cX7_receiveRequest 9 = .ok (.aload_n 0, 1) := by decide +kernel
theorem dX7_receiveRequest_10 : decode cX7_receiveRequest 10 = .ok (.iload_n 1, 1) := by decide +kernel
theorem dX7_receiveRequest_11 : decode cX7_receiveRequest 11 = .ok (.invokevirtual 67, 3) := by decide +kernel
theorem dX7_receiveRequest_14 : decode cX7_receiveRequest 14 = .ok (.invokevirtual 99, 3) := by decide +kernel
theorem dX7_receiveRequest_17 : decode cX7_receiveRequest 17 = .ok (.istore_n 3, 1) := by decide +kernel
theorem dX7_receiveRequest_18 : decode cX7_receiveRequest 18 = .ok (.aload_n 0, 1) := by decide +kernel
theorem dX7_receiveRequest_19 : decode cX7_receiveRequest 19 = .ok (.getfield 16, 3) := by decide +kernel
theorem dX7_receiveRequest_22 : decode cX7_receiveRequest 22 = .ok (.bipush 6, 2) := by decide +kernel
theorem dX7_receiveRequest_24 : decode cX7_receiveRequest 24 = .ok (.iaload, 1) := by decide +kernel
theorem dX7_receiveRequest_25 : decode cX7_receiveRequest 25 = .ok (.iload_n 3, 1) := by decide +kernel
theorem dX7_receiveRequest_26 : decode cX7_receiveRequest 26 = .ok (.if_icmp .gt 28, 3) := by decide +kernel
theorem dX7_receiveRequest_29 : decode cX7_receiveRequest 29 = .ok (.aload_n 0, 1) := by decide +kernel
theorem dX7_receiveRequest_30 : decode cX7_receiveRequest 30 = .ok (.getfield 16, 3) := by decide +kernel
theorem dX7_receiveRequest_33 : decode cX7_receiveRequest 33 = .ok (.bipush 6, 2) := by decide +kernel
theorem dX7_receiveRequest_35 : decode cX7_receiveRequest 35 = .ok (.iaload, 1) := by decide +kernel
theorem dX7_receiveRequest_36 : decode cX7_receiveRequest 36 = .ok (.iload_n 3, 1) := by decide +kernel
theorem dX7_receiveRequest_37 : decode cX7_receiveRequest 37 = .ok (.if_icmp .ne 21, 3) := by decide +kernel
theorem dX7_receiveRequest_40 : decode cX7_receiveRequest 40 = .ok (.aload_n 0, 1) := by decide +kernel
theorem dX7_receiveRequest_41 : decode cX7_receiveRequest 41 = .ok (.getfield 16, 3) := by decide +kernel
theorem dX7_receiveRequest_44 : decode cX7_receiveRequest 44 = .ok (.iconst 5, 1) := by decide +kernel
theorem dX7_receiveRequest_45 : decode cX7_receiveRequest 45 = .ok (.iaload, 1) := by decide +kernel
theorem dX7_receiveRequest_46 : decode cX7_receiveRequest 46 = .ok (.aload_n 0, 1) := by decide +kernel
theorem dX7_receiveRequest_47 : decode cX7_receiveRequest 47 = .ok (.iload_n 1, 1) := by decide +kernel
theorem dX7_receiveRequest_48 : decode cX7_receiveRequest 48 = .ok (.invokevirtual 67, 3) := by decide +kernel
theorem dX7_receiveRequest_51 : decode cX7_receiveRequest 51 = .ok (.if_icmp .lt 7, 3) := by decide +kernel
theorem dX7_receiveRequest_54 : decode cX7_receiveRequest 54 = .ok (.iconst 1, 1) := by decide +kernel
theorem dX7_receiveRequest_55 : decode cX7_receiveRequest 55 = .ok (.goto 4, 3) := by decide +kernel
theorem dX7_receiveRequest_58 : decode cX7_receiveRequest 58 = .ok (.iconst 0, 1) := by decide +kernel
theorem dX7_receiveRequest_59 : decode cX7_receiveRequest 59 = .ok (.istore 4, 2) := by decide +kernel
theorem dX7_receiveRequest_61 : decode cX7_receiveRequest 61 = .ok (.aload_n 0, 1) := by decide +kernel
theorem dX7_receiveRequest_62 : decode cX7_receiveRequest 62 = .ok (.iload_n 1, 1) := by decide +kernel
theorem dX7_receiveRequest_63 : decode cX7_receiveRequest 63 = .ok (.iconst 3, 1) := by decide +kernel
theorem dX7_receiveRequest_64 : decode cX7_receiveRequest 64 = .ok (.invokevirtual 38, 3) := by decide +kernel
theorem dX7_receiveRequest_67 : decode cX7_receiveRequest 67 = .ok (.iconst (-1), 1) := by decide +kernel
theorem dX7_receiveRequest_68 : decode cX7_receiveRequest 68 = .ok (.if_icmp .eq 13, 3) := by decide +kernel
theorem dX7_receiveRequest_71 : decode cX7_receiveRequest 71 = .ok (.aload_n 0, 1) := by decide +kernel
theorem dX7_receiveRequest_72 : decode cX7_receiveRequest 72 = .ok (.iload_n 1, 1) := by decide +kernel
theorem dX7_receiveRequest_73 : decode cX7_receiveRequest 73 = .ok (.iconst 3, 1) := by decide +kernel
theorem dX7_receiveRequest_74 : decode cX7_receiveRequest 74 = .ok (.invokevirtual 38, 3) := by decide +kernel
theorem dX7_receiveRequest_77 : decode cX7_receiveRequest 77 = .ok (.iload_n 2, 1) := by decide +kernel
theorem dX7_receiveRequest_78 : decode cX7_receiveRequest 78 = .ok (.if_icmp .ne 7, 3) := by decide +kernel
theorem dX7_receiveRequest_81 : decode cX7_receiveRequest 81 = .ok (.iconst 1, 1) := by decide +kernel
theorem dX7_receiveRequest_82 : decode cX7_receiveRequest 82 = .ok (.goto 4, 3) := by decide +kernel
theorem dX7_receiveRequest_85 : decode cX7_receiveRequest 85 = .ok (.iconst 0, 1) := by decide +kernel
theorem dX7_receiveRequest_86 : decode cX7_receiveRequest 86 = .ok (.istore 5, 2) := by decide +kernel
theorem dX7_receiveRequest_88 : decode cX7_receiveRequest 88 = .ok (.aload_n 0, 1) := by decide +kernel
theorem dX7_receiveRequest_89 : decode cX7_receiveRequest 89 = .ok (.getfield 16, 3) := by decide +kernel
theorem dX7_receiveRequest_92 : decode cX7_receiveRequest 92 = .ok (.iconst 3, 1) := by decide +kernel
theorem dX7_receiveRequest_93 : decode cX7_receiveRequest 93 = .ok (.iaload, 1) := by decide +kernel
theorem dX7_receiveRequest_94 : decode cX7_receiveRequest 94 = .ok (.aload_n 0, 1) := by decide +kernel
theorem dX7_receiveRequest_95 : decode cX7_receiveRequest 95 = .ok (.iload_n 1, 1) := by decide +kernel
theorem dX7_receiveRequest_96 : decode cX7_receiveRequest 96 = .ok (.iconst 2, 1) := by decide +kernel
theorem dX7_receiveRequest_97 : decode cX7_receiveRequest 97 = .ok (.invokevirtual 38, 3) := by decide +kernel
theorem dX7_receiveRequest_100 : decode cX7_receiveRequest 100 = .ok (.if_icmp .ne 17, 3) := by decide +kernel
theorem dX7_receiveRequest_103 : decode cX7_receiveRequest 103 = .ok (.iload 5, 2) := by decide +kernel
theorem dX7_receiveRequest_105 : decode cX7_receiveRequest 105 = .ok (.ifCond .eq 12, 3) := by decide +kernel
theorem dX7_receiveRequest_108 : decode cX7_receiveRequest 108 = .ok (.iload 4, 2) := by decide +kernel
theorem dX7_receiveRequest_110 : decode cX7_receiveRequest 110 = .ok (.ifCond .eq 7, 3) := by decide +kernel
theorem dX7_receiveRequest_113 : decode cX7_receiveRequest 113 = .ok (.iconst 1, 1) := by decide +kernel
theorem dX7_receiveRequest_114 : decode cX7_receiveRequest 114 = .ok (.goto 4, 3) := by decide +kernel
theorem dX7_receiveRequest_117 : decode cX7_receiveRequest 117 = .ok (.iconst 0, 1) := by decide +kernel
theorem dX7_receiveRequest_118 : decode cX7_receiveRequest 118 = .ok (.istore 6, 2) := by decide +kernel
theorem dX7_receiveRequest_120 : decode cX7_receiveRequest 120 = .ok (.iload 6, 2) := by decide +kernel
theorem dX7_receiveRequest_122 : decode cX7_receiveRequest 122 = .ok (.ifCond .eq 15, 3) := by decide +kernel
theorem dX7_receiveRequest_125 : decode cX7_receiveRequest 125 = .ok (.aload_n 0, 1) := by decide +kernel
theorem dX7_receiveRequest_126 : decode cX7_receiveRequest 126 = .ok (.iload_n 1, 1) := by decide +kernel
theorem dX7_receiveRequest_127 : decode cX7_receiveRequest 127 = .ok (.iconst 3, 1) := by decide +kernel
theorem dX7_receiveRequest_128 : decode cX7_receiveRequest 128 = .ok (.iload_n 2, 1) := by decide +kernel
theorem dX7_receiveRequest_129 : decode cX7_receiveRequest 129 = .ok (.invokevirtual 43, 3) := by decide +kernel
theorem dX7_receiveRequest_132 : decode cX7_receiveRequest 132 = .ok (.aload_n 0, 1) := by decide +kernel
theorem dX7_receiveRequest_133 : decode cX7_receiveRequest 133 = .ok (.iload_n 1, 1) := by decide +kernel
theorem dX7_receiveRequest_134 : decode cX7_receiveRequest 134 = .ok (.invokevirtual 47, 3) := by decide +kernel
theorem dX7_receiveRequest_137 : decode cX7_receiveRequest 137 = .ok (.aload_n 0, 1) := by decide +kernel
theorem dX7_receiveRequest_138 : decode cX7_receiveRequest 138 = .ok (.iconst 1, 1) := by decide +kernel
theorem dX7_receiveRequest_139 : decode cX7_receiveRequest 139 = .ok (.iload_n 1, 1) := by decide +kernel
theorem dX7_receiveRequest_140 : decode cX7_receiveRequest 140 = .ok (.iload_n 2, 1) := by decide +kernel
theorem dX7_receiveRequest_141 : decode cX7_receiveRequest 141 = .ok (.iconst 0, 1) := by decide +kernel
theorem dX7_receiveRequest_142 : decode cX7_receiveRequest 142 = .ok (.iload 6, 2) := by decide +kernel
theorem dX7_receiveRequest_144 : decode cX7_receiveRequest 144 = .ok (.ifCond .eq 7, 3) := by decide +kernel
theorem dX7_receiveRequest_147 : decode cX7_receiveRequest 147 = .ok (.iconst 1, 1) := by decide +kernel
theorem dX7_receiveRequest_148 : decode cX7_receiveRequest 148 = .ok (.goto 4, 3) := by decide +kernel
theorem dX7_receiveRequest_151 : decode cX7_receiveRequest 151 = .ok (.iconst 0, 1) := by decide +kernel
theorem dX7_receiveRequest_152 : decode cX7_receiveRequest 152 = .ok (.invokevirtual 95, 3) := by decide +kernel
theorem dX7_receiveRequest_155 : decode cX7_receiveRequest 155 = .ok (.pop, 1) := by decide +kernel
theorem dX7_receiveRequest_156 : decode cX7_receiveRequest 156 = .ok (.return_, 1) := by decide +kernel
theorem dX7_receiveReply_0 : decode cX7_receiveReply 0 = .ok (.aload_n 0, 1) := by decide +kernel
theorem dX7_receiveReply_1 : decode cX7_receiveReply 1 = .ok (.iload_n 1, 1) := by decide +kernel
theorem dX7_receiveReply_2 : decode cX7_receiveReply 2 = .ok (.iconst 1, 1) := by decide +kernel
theorem dX7_receiveReply_3 : decode cX7_receiveReply 3 = .ok (.invokevirtual 38, 3) := by decide +kernel
theorem dX7_receiveReply_6 : decode cX7_receiveReply 6 = .ok (.iconst 1, 1) := by decide +kernel
theorem dX7_receiveReply_7 : decode cX7_receiveReply 7 = .ok (.if_icmp .ne 72, 3) := by decide +kernel
theorem dX7_receiveReply_10 : decode cX7_receiveReply 10 = .ok (.aload_n 0, 1) := by decide +kernel
theorem dX7_receiveReply_11 : decode cX7_receiveReply 11 = .ok (.getfield 16, 3) := by decide +kernel
theorem dX7_receiveReply_14 : decode cX7_receiveReply 14 = .ok (.iconst 3, 1) := by decide +kernel
theorem dX7_receiveReply_15 : decode cX7_receiveReply 15 = .ok (.iaload, 1) := by decide +kernel
theorem dX7_receiveReply_16 : decode cX7_receiveReply 16 = .ok (.aload_n 0, 1) := by decide +kernel
theorem dX7_receiveReply_17 : decode cX7_receiveReply 17 = .ok (.iload_n 1, 1) := by decide +kernel
theorem dX7_receiveReply_18 : decode cX7_receiveReply 18 = .ok (.iconst 2, 1) := by decide +kernel
theorem dX7_receiveReply_19 : decode cX7_receiveReply 19 = .ok (.invokevirtual 38, 3) := by decide +kernel
theorem dX7_receiveReply_22 : decode cX7_receiveReply 22 = .ok (.if_icmp .ne 57, 3) := by decide +kernel
theorem dX7_receiveReply_25 : decode cX7_receiveReply 25 = .ok (.aload_n 0, 1) := by decide +kernel
theorem dX7_receiveReply_26 : decode cX7_receiveReply 26 = .ok (.getfield 16, 3) := by decide +kernel
theorem dX7_receiveReply_29 : decode cX7_receiveReply 29 = .ok (.bipush 6, 2) := by decide +kernel
theorem dX7_receiveReply_31 : decode cX7_receiveReply 31 = .ok (.iaload, 1) := by decide +kernel
theorem dX7_receiveReply_32 : decode cX7_receiveReply 32 = .ok (.iconst 1, 1) := by decide +kernel
theorem dX7_receiveReply_33 : decode cX7_receiveReply 33 = .ok (.if_icmp .ne 46, 3) := by decide +kernel
theorem dX7_receiveReply_36 : decode cX7_receiveReply 36 = .ok (.aload_n 0, 1) := by decide +kernel
theorem dX7_receiveReply_37 : decode cX7_receiveReply 37 = .ok (.iload_n 1, 1) := by decide +kernel
theorem dX7_receiveReply_38 : decode cX7_receiveReply 38 = .ok (.bipush 6, 2) := by decide +kernel
theorem dX7_receiveReply_40 : decode cX7_receiveReply 40 = .ok (.aload_n 0, 1) := by decide +kernel
theorem dX7_receiveReply_41 : decode cX7_receiveReply 41 = .ok (.iload_n 1, 1) := by decide +kernel
theorem dX7_receiveReply_42 : decode cX7_receiveReply 42 = .ok (.bipush 6, 2) := by decide +kernel
theorem dX7_receiveReply_44 : decode cX7_receiveReply 44 = .ok (.invokevirtual 38, 3) := by decide +kernel
theorem dX7_receiveReply_47 : decode cX7_receiveReply 47 = .ok (.iconst 1, 1) := by decide +kernel
theorem dX7_receiveReply_48 : decode cX7_receiveReply 48 = .ok (.aload_n 0, 1) := by decide +kernel
theorem dX7_receiveReply_49 : decode cX7_receiveReply 49 = .ok (.getfield 16, 3) := by decide +kernel
theorem dX7_receiveReply_52 : decode cX7_receiveReply 52 = .ok (.iconst 1, 1) := by decide +kernel
theorem dX7_receiveReply_53 : decode cX7_receiveReply 53 = .ok (.iaload, 1) := by decide +kernel
theorem dX7_receiveReply_54 : decode cX7_receiveReply 54 = .ok (.ishl, 1) := by decide +kernel
theorem dX7_receiveReply_55 : decode cX7_receiveReply 55 = .ok (.ior, 1) := by decide +kernel
theorem dX7_receiveReply_56 : decode cX7_receiveReply 56 = .ok (.invokevirtual 43, 3) := by decide +kernel
theorem dX7_receiveReply_59 : decode cX7_receiveReply 59 = .ok (.aload_n 0, 1) := by decide +kernel
theorem dX7_receiveReply_60 : decode cX7_receiveReply 60 = .ok (.iload_n 1, 1) := by decide +kernel
theorem dX7_receiveReply_61 : decode cX7_receiveReply 61 = .ok (.aload_n 0, 1) := by decide +kernel
theorem dX7_receiveReply_62 : decode cX7_receiveReply 62 = .ok (.iload_n 1, 1) := by decide +kernel
theorem dX7_receiveReply_63 : decode cX7_receiveReply 63 = .ok (.bipush 6, 2) := by decide +kernel
theorem dX7_receiveReply_65 : decode cX7_receiveReply 65 = .ok (.invokevirtual 38, 3) := by decide +kernel
theorem dX7_receiveReply_68 : decode cX7_receiveReply 68 = .ok (.invokevirtual 117, 3) := by decide +kernel
theorem dX7_receiveReply_71 : decode cX7_receiveReply 71 = .ok (.ifCond .eq 8, 3) := by decide +kernel
theorem dX7_receiveReply_74 : decode cX7_receiveReply 74 = .ok (.aload_n 0, 1) := by decide +kernel
theorem dX7_receiveReply_75 : decode cX7_receiveReply 75 = .ok (.iload_n 1, 1) := by decide +kernel
theorem dX7_receiveReply_76 : decode cX7_receiveReply 76 = .ok (.invokevirtual 133, 3) := by decide +kernel
theorem dX7_receiveReply_79 : decode cX7_receiveReply 79 = .ok (.return_, 1) := by decide +kernel
theorem dX7_take_0 : decode cX7_take 0 = .ok (.iconst 0, 1) := by decide +kernel
theorem dX7_take_1 : decode cX7_take 1 = .ok (.istore_n 2, 1) := by decide +kernel
theorem dX7_take_2 : decode cX7_take 2 = .ok (.iload_n 2, 1) := by decide +kernel
theorem dX7_take_3 : decode cX7_take 3 = .ok (.aload_n 0, 1) := by decide +kernel
theorem dX7_take_4 : decode cX7_take 4 = .ok (.getfield 16, 3) := by decide +kernel
theorem dX7_take_7 : decode cX7_take 7 = .ok (.bipush 6, 2) := by decide +kernel
theorem dX7_take_9 : decode cX7_take 9 = .ok (.iaload, 1) := by decide +kernel
theorem dX7_take_10 : decode cX7_take 10 = .ok (.if_icmp .ge 152, 3) := by decide +kernel
theorem dX7_take_13 : decode cX7_take 13 = .ok (.aload_n 0, 1) := by decide +kernel
theorem dX7_take_14 : decode cX7_take 14 = .ok (.getfield 16, 3) := by decide +kernel
theorem dX7_take_17 : decode cX7_take 17 = .ok (.iconst 5, 1) := by decide +kernel
theorem dX7_take_18 : decode cX7_take 18 = .ok (.iaload, 1) := by decide +kernel
theorem dX7_take_19 : decode cX7_take 19 = .ok (.iconst 1, 1) := by decide +kernel
theorem dX7_take_20 : decode cX7_take 20 = .ok (.iadd, 1) := by decide +kernel
theorem dX7_take_21 : decode cX7_take 21 = .ok (.iload_n 2, 1) := by decide +kernel
theorem dX7_take_22 : decode cX7_take 22 = .ok (.iadd, 1) := by decide +kernel
theorem dX7_take_23 : decode cX7_take 23 = .ok (.istore_n 3, 1) := by decide +kernel
theorem dX7_take_24 : decode cX7_take 24 = .ok (.aload_n 0, 1) := by decide +kernel
theorem dX7_take_25 : decode cX7_take 25 = .ok (.getfield 16, 3) := by decide +kernel
theorem dX7_take_28 : decode cX7_take 28 = .ok (.bipush 13, 2) := by decide +kernel
theorem dX7_take_30 : decode cX7_take 30 = .ok (.iconst 3, 1) := by decide +kernel
theorem dX7_take_31 : decode cX7_take 31 = .ok (.iload_n 2, 1) := by decide +kernel
theorem dX7_take_32 : decode cX7_take 32 = .ok (.imul, 1) := by decide +kernel
theorem dX7_take_33 : decode cX7_take 33 = .ok (.iadd, 1) := by decide +kernel
theorem dX7_take_34 : decode cX7_take 34 = .ok (.iaload, 1) := by decide +kernel
theorem dX7_take_35 : decode cX7_take 35 = .ok (.istore 4, 2) := by decide +kernel
theorem dX7_take_37 : decode cX7_take 37 = .ok (.iload_n 3, 1) := by decide +kernel
theorem dX7_take_38 : decode cX7_take 38 = .ok (.aload_n 0, 1) := by decide +kernel
theorem dX7_take_39 : decode cX7_take 39 = .ok (.iload_n 1, 1) := by decide +kernel
theorem dX7_take_40 : decode cX7_take 40 = .ok (.bipush 7, 2) := by decide +kernel
theorem dX7_take_42 : decode cX7_take 42 = .ok (.invokevirtual 38, 3) := by decide +kernel
theorem dX7_take_45 : decode cX7_take 45 = .ok (.if_icmp .le 111, 3) := by decide +kernel
theorem dX7_take_48 : decode cX7_take 48 = .ok (.iload_n 3, 1) := by decide +kernel
theorem dX7_take_49 : decode cX7_take 49 = .ok (.aload_n 0, 1) := by decide +kernel
theorem dX7_take_50 : decode cX7_take 50 = .ok (.iload_n 1, 1) := by decide +kernel
theorem dX7_take_51 : decode cX7_take 51 = .ok (.invokevirtual 67, 3) := by decide +kernel
theorem dX7_take_54 : decode cX7_take 54 = .ok (.if_icmp .gt 46, 3) := by decide +kernel
theorem dX7_take_57 : decode cX7_take 57 = .ok (.aload_n 0, 1) := by decide +kernel
theorem dX7_take_58 : decode cX7_take 58 = .ok (.iload_n 1, 1) := by decide +kernel
theorem dX7_take_59 : decode cX7_take 59 = .ok (.iload_n 3, 1) := by decide +kernel
theorem dX7_take_60 : decode cX7_take 60 = .ok (.invokevirtual 99, 3) := by decide +kernel
theorem dX7_take_63 : decode cX7_take 63 = .ok (.iload 4, 2) := by decide +kernel
theorem dX7_take_65 : decode cX7_take 65 = .ok (.if_icmp .eq 35, 3) := by decide +kernel
theorem dX7_take_68 : decode cX7_take 68 = .ok (.aload_n 0, 1) := by decide +kernel
theorem dX7_take_69 : decode cX7_take 69 = .ok (.iconst 5, 1) := by decide +kernel
theorem dX7_take_70 : decode cX7_take 70 = .ok (.aload_n 0, 1) := by decide +kernel
theorem dX7_take_71 : decode cX7_take 71 = .ok (.iload_n 1, 1) := by decide +kernel
theorem dX7_take_72 : decode cX7_take 72 = .ok (.invokevirtual 67, 3) := by decide +kernel
theorem dX7_take_75 : decode cX7_take 75 = .ok (.iload_n 3, 1) := by decide +kernel
theorem dX7_take_76 : decode cX7_take 76 = .ok (.isub, 1) := by decide +kernel
theorem dX7_take_77 : decode cX7_take 77 = .ok (.iconst 1, 1) := by decide +kernel
theorem dX7_take_78 : decode cX7_take 78 = .ok (.iadd, 1) := by decide +kernel
theorem dX7_take_79 : decode cX7_take 79 = .ok (.invokevirtual 86, 3) := by decide +kernel
theorem dX7_take_82 : decode cX7_take 82 = .ok (.aload_n 0, 1) := by decide +kernel
theorem dX7_take_83 : decode cX7_take 83 = .ok (.iload_n 1, 1) := by decide +kernel
theorem dX7_take_84 : decode cX7_take 84 = .ok (.bipush 12, 2) := by decide +kernel
theorem dX7_take_86 : decode cX7_take 86 = .ok (.iload_n 3, 1) := by decide +kernel
theorem dX7_take_87 : decode cX7_take 87 = .ok (.aload_n 0, 1) := by decide +kernel
theorem dX7_take_88 : decode cX7_take 88 = .ok (.iload_n 1, 1) := by decide +kernel
theorem dX7_take_89 : decode cX7_take 89 = .ok (.bipush 7, 2) := by decide +kernel
theorem dX7_take_91 : decode cX7_take 91 = .ok (.invokevirtual 38, 3) := by decide +kernel
theorem dX7_take_94 : decode cX7_take 94 = .ok (.isub, 1) := by decide +kernel
theorem dX7_take_95 : decode cX7_take 95 = .ok (.iconst 1, 1) := by decide +kernel
theorem dX7_take_96 : decode cX7_take 96 = .ok (.isub, 1) := by decide +kernel
theorem dX7_take_97 : decode cX7_take 97 = .ok (.invokevirtual 43, 3) := by decide +kernel
theorem dX7_take_100 : decode cX7_take 100 = .ok (.iload_n 3, 1) := by decide +kernel
theorem dX7_take_101 : decode cX7_take 101 = .ok (.aload_n 0, 1) := by decide +kernel
theorem dX7_take_102 : decode cX7_take 102 = .ok (.iload_n 1, 1) := by decide +kernel
theorem dX7_take_103 : decode cX7_take 103 = .ok (.invokevirtual 67, 3) := by decide +kernel
theorem dX7_take_106 : decode cX7_take 106 = .ok (.if_icmp .le 50, 3) := by decide +kernel
theorem dX7_take_109 : decode cX7_take 109 = .ok (.aload_n 0, 1) := by decide +kernel
theorem dX7_take_110 : decode cX7_take 110 = .ok (.iload_n 1, 1) := by decide +kernel
theorem dX7_take_111 : decode cX7_take 111 = .ok (.bipush 12, 2) := by decide +kernel
theorem dX7_take_113 : decode cX7_take 113 = .ok (.invokevirtual 38, 3) := by decide +kernel
theorem dX7_take_116 : decode cX7_take 116 = .ok (.bipush 24, 2) := by decide +kernel
theorem dX7_take_118 : decode cX7_take 118 = .ok (.if_icmp .ne 5, 3) := by decide +kernel
theorem dX7_take_121 : decode cX7_take 121 = .ok (.iload_n 2, 1) := by decide +kernel
theorem dX7_take_122 : decode cX7_take 122 = .ok (.ireturn, 1) := by decide +kernel
theorem dX7_take_123 : decode cX7_take 123 = .ok (.aload_n 0, 1) := by decide +kernel
theorem dX7_take_124 : decode cX7_take 124 = .ok (.iload_n 1, 1) := by decide +kernel
theorem dX7_take_125 : decode cX7_take 125 = .ok (.iload 4, 2) := by decide +kernel
theorem dX7_take_127 : decode cX7_take 127 = .ok (.aload_n 0, 1) := by decide +kernel
theorem dX7_take_128 : decode cX7_take 128 = .ok (.getfield 16, 3) := by decide +kernel
theorem dX7_take_131 : decode cX7_take 131 = .ok (.bipush 13, 2) := by decide +kernel
theorem dX7_take_133 : decode cX7_take 133 = .ok (.iconst 3, 1) := by decide +kernel
theorem dX7_take_134 : decode cX7_take 134 = .ok (.iload_n 2, 1) := by decide +kernel
theorem dX7_take_135 : decode cX7_take 135 = .ok (.imul, 1) := by decide +kernel
theorem dX7_take_136 : decode cX7_take 136 = .ok (.iadd, 1) := by decide +kernel
theorem dX7_take_137 : decode cX7_take 137 = .ok (.iconst 1, 1) := by decide +kernel
theorem dX7_take_138 : decode cX7_take 138 = .ok (.iadd, 1) := by decide +kernel
theorem dX7_take_139 : decode cX7_take 139 = .ok (.iaload, 1) := by decide +kernel
theorem dX7_take_140 : decode cX7_take 140 = .ok (.aload_n 0, 1) := by decide +kernel
theorem dX7_take_141 : decode cX7_take 141 = .ok (.getfield 16, 3) := by decide +kernel
theorem dX7_take_144 : decode cX7_take 144 = .ok (.bipush 13, 2) := by decide +kernel
theorem dX7_take_146 : decode cX7_take 146 = .ok (.iconst 3, 1) := by decide +kernel
theorem dX7_take_147 : decode cX7_take 147 = .ok (.iload_n 2, 1) := by decide +kernel
theorem dX7_take_148 : decode cX7_take 148 = .ok (.imul, 1) := by decide +kernel
theorem dX7_take_149 : decode cX7_take 149 = .ok (.iadd, 1) := by decide +kernel
theorem dX7_take_150 : decode cX7_take 150 = .ok (.iconst 2, 1) := by decide +kernel
theorem dX7_take_151 : decode cX7_take 151 = .ok (.iadd, 1) := by decide +kernel
theorem dX7_take_152 : decode cX7_take 152 = .ok (.iaload, 1) := by decide +kernel
theorem dX7_take_153 : decode cX7_take 153 = .ok (.invokevirtual 120, 3) := by decide +kernel
theorem dX7_take_156 : decode cX7_take 156 = .ok (.iinc 2 1, 3) := by decide +kernel
theorem dX7_take_159 : decode cX7_take 159 = .ok (.goto (-157), 3) := by decide +kernel
theorem dX7_take_162 : decode cX7_take 162 = .ok (.aload_n 0, 1) := by decide +kernel
theorem dX7_take_163 : decode cX7_take 163 = .ok (.getfield 16, 3) := by decide +kernel
theorem dX7_take_166 : decode cX7_take 166 = .ok (.bipush 6, 2) := by decide +kernel
theorem dX7_take_168 : decode cX7_take 168 = .ok (.iaload, 1) := by decide +kernel
theorem dX7_take_169 : decode cX7_take 169 = .ok (.ireturn, 1) := by decide +kernel
theorem dX7_receiveAppend_0 : decode cX7_receiveAppend 0 = .ok (.aload_n 0, 1) := by decide +kernel
theorem dX7_receiveAppend_1 : decode cX7_receiveAppend 1 = .ok (.getfield 16, 3) := by decide +kernel
theorem dX7_receiveAppend_4 : decode cX7_receiveAppend 4 = .ok (.iconst 5, 1) := by decide +kernel
theorem dX7_receiveAppend_5 : decode cX7_receiveAppend 5 = .ok (.iaload, 1) := by decide +kernel
theorem dX7_receiveAppend_6 : decode cX7_receiveAppend 6 = .ok (.istore_n 2, 1) := by decide +kernel
theorem dX7_receiveAppend_7 : decode cX7_receiveAppend 7 = .ok (.iload_n 2, 1) := by decide +kernel
theorem dX7_receiveAppend_8 : decode cX7_receiveAppend 8 = .ok (.aload_n 0, 1) := by decide +kernel
theorem dX7_receiveAppend_9 : decode cX7_receiveAppend 9 = .ok (.iload_n 1, 1) := by decide +kernel
theorem dX7_receiveAppend_10 : decode cX7_receiveAppend 10 = .ok (.invokevirtual 67, 3) := by decide +kernel
theorem dX7_receiveAppend_13 : decode cX7_receiveAppend 13 = .ok (.if_icmp .le 7, 3) := by decide +kernel
theorem dX7_receiveAppend_16 : decode cX7_receiveAppend 16 = .ok (.iconst 1, 1) := by decide +kernel
theorem dX7_receiveAppend_17 : decode cX7_receiveAppend 17 = .ok (.goto 4, 3) := by decide +kernel
theorem dX7_receiveAppend_20 : decode cX7_receiveAppend 20 = .ok (.iconst 0, 1) := by decide +kernel
theorem dX7_receiveAppend_21 : decode cX7_receiveAppend 21 = .ok (.istore_n 3, 1) := by decide +kernel
theorem dX7_receiveAppend_22 : decode cX7_receiveAppend 22 = .ok (.iload_n 3, 1) := by decide +kernel
theorem dX7_receiveAppend_23 : decode cX7_receiveAppend 23 = .ok (.ifCond .ne 30, 3) := by decide +kernel
theorem dX7_receiveAppend_26 : decode cX7_receiveAppend 26 = .ok (.iload_n 2, 1) := by decide +kernel
theorem dX7_receiveAppend_27 : decode cX7_receiveAppend 27 = .ok (.aload_n 0, 1) := by decide +kernel
theorem dX7_receiveAppend_28 : decode cX7_receiveAppend 28 = .ok (.iload_n 1, 1) := by decide +kernel
theorem dX7_receiveAppend_29 : decode cX7_receiveAppend 29 = .ok (.bipush 7, 2) := by decide +kernel
theorem dX7_receiveAppend_31 : decode cX7_receiveAppend 31 = .ok (.invokevirtual 38, 3) := by decide +kernel
theorem dX7_receiveAppend_34 : decode cX7_receiveAppend 34 = .ok (.if_icmp .le 48, 3) := by decide +kernel
theorem dX7_receiveAppend_37 : decode cX7_receiveAppend 37 = .ok (.aload_n 0, 1) := by decide +kernel
theorem dX7_receiveAppend_38 : decode cX7_receiveAppend 38 = .ok (.iload_n 1, 1) := by decide +kernel
theorem dX7_receiveAppend_39 : decode cX7_receiveAppend 39 = .ok (.iload_n 2, 1) := by decide +kernel
theorem dX7_receiveAppend_40 : decode cX7_receiveAppend 40 = .ok (.invokevirtual 99, 3) := by decide +kernel
theorem dX7_receiveAppend_43 : decode cX7_receiveAppend 43 = .ok (.aload_n 0, 1) := by decide +kernel
theorem dX7_receiveAppend_44 : decode cX7_receiveAppend 44 = .ok (.getfield 16, 3) := by decide +kernel
theorem dX7_receiveAppend_47 : decode cX7_receiveAppend 47 = .ok (.bipush 8, 2) := by decide +kernel
theorem dX7_receiveAppend_49 : decode cX7_receiveAppend 49 = .ok (.iaload, 1) := by decide +kernel
theorem dX7_receiveAppend_50 : decode cX7_receiveAppend 50 = .ok (.if_icmp .eq 32, 3) := by decide +kernel
theorem dX7_receiveAppend_53 : decode cX7_receiveAppend 53 = .ok (.aload_n 0, 1) := by decide +kernel
theorem dX7_receiveAppend_54 : decode cX7_receiveAppend 54 = .ok (.iload_n 1, 1) := by decide +kernel
theorem dX7_receiveAppend_55 : decode cX7_receiveAppend 55 = .ok (.aload_n 0, 1) := by decide +kernel
theorem dX7_receiveAppend_56 : decode cX7_receiveAppend 56 = .ok (.iload_n 1, 1) := by decide +kernel
theorem dX7_receiveAppend_57 : decode cX7_receiveAppend 57 = .ok (.invokevirtual 67, 3) := by decide +kernel
theorem dX7_receiveAppend_60 : decode cX7_receiveAppend 60 = .ok (.iload_n 2, 1) := by decide +kernel
theorem dX7_receiveAppend_61 : decode cX7_receiveAppend 61 = .ok (.iconst 1, 1) := by decide +kernel
theorem dX7_receiveAppend_62 : decode cX7_receiveAppend 62 = .ok (.isub, 1) := by decide +kernel
theorem dX7_receiveAppend_63 : decode cX7_receiveAppend 63 = .ok (.if_icmp .ge 11, 3) := by decide +kernel
theorem dX7_receiveAppend_66 : decode cX7_receiveAppend 66 = .ok (.aload_n 0, 1) := by decide +kernel
theorem dX7_receiveAppend_67 : decode cX7_receiveAppend 67 = .ok (.iload_n 1, 1) := by decide +kernel
theorem dX7_receiveAppend_68 : decode cX7_receiveAppend 68 = .ok (.invokevirtual 67, 3) := by decide +kernel
theorem dX7_receiveAppend_71 : decode cX7_receiveAppend 71 = .ok (.goto 6, 3) := by decide +kernel
theorem dX7_receiveAppend_74 : decode cX7_receiveAppend 74 = .ok (.iload_n 2, 1) := by decide +kernel
theorem dX7_receiveAppend_75 : decode cX7_receiveAppend 75 = .ok (.iconst 1, 1) := by decide +kernel
theorem dX7_receiveAppend_76 : decode cX7_receiveAppend 76 = .ok (.isub, 1) := by decide +kernel
theorem dX7_receiveAppend_77 : decode cX7_receiveAppend 77 = .ok (.iconst 0, 1) := by decide +kernel
theorem dX7_receiveAppend_78 : decode cX7_receiveAppend 78 = .ok (.invokevirtual 136, 3) := by decide +kernel
theorem dX7_receiveAppend_81 : decode cX7_receiveAppend 81 = .ok (.return_, 1) := by decide +kernel
theorem dX7_receiveAppend_82 : decode cX7_receiveAppend 82 = .ok (.iload_n 2, 1) := by decide +kernel
theorem dX7_receiveAppend_83 : decode cX7_receiveAppend 83 = .ok (.aload_n 0, 1) := by decide +kernel
theorem dX7_receiveAppend_84 : decode cX7_receiveAppend 84 = .ok (.iload_n 1, 1) := by decide +kernel
theorem dX7_receiveAppend_85 : decode cX7_receiveAppend 85 = .ok (.invokevirtual 139, 3) := by decide +kernel
theorem dX7_receiveAppend_88 : decode cX7_receiveAppend 88 = .ok (.iadd, 1) := by decide +kernel
theorem dX7_receiveAppend_89 : decode cX7_receiveAppend 89 = .ok (.istore 4, 2) := by decide +kernel
theorem dX7_receiveAppend_91 : decode cX7_receiveAppend 91 = .ok (.aload_n 0, 1) := by decide +kernel
theorem dX7_receiveAppend_92 : decode cX7_receiveAppend 92 = .ok (.getfield 16, 3) := by decide +kernel
theorem dX7_receiveAppend_95 : decode cX7_receiveAppend 95 = .ok (.bipush 9, 2) := by decide +kernel
theorem dX7_receiveAppend_97 : decode cX7_receiveAppend 97 = .ok (.iaload, 1) := by decide +kernel
theorem dX7_receiveAppend_98 : decode cX7_receiveAppend 98 = .ok (.iload 4, 2) := by decide +kernel
theorem dX7_receiveAppend_100 : decode cX7_receiveAppend 100 = .ok (.if_icmp .ge 13, 3) := by decide +kernel
theorem dX7_receiveAppend_103 : decode cX7_receiveAppend 103 = .ok (.aload_n 0, 1) := by decide +kernel
theorem dX7_receiveAppend_104 : decode cX7_receiveAppend 104 = .ok (.getfield 16, 3) := by decide +kernel
theorem dX7_receiveAppend_107 : decode cX7_receiveAppend 107 = .ok (.bipush 9, 2) := by decide +kernel
theorem dX7_receiveAppend_109 : decode cX7_receiveAppend 109 = .ok (.iaload, 1) := by decide +kernel
theorem dX7_receiveAppend_110 : decode cX7_receiveAppend 110 = .ok (.goto 5, 3) := by decide +kernel
theorem dX7_receiveAppend_113 : decode cX7_receiveAppend 113 = .ok (.iload 4, 2) := by decide +kernel
theorem dX7_receiveAppend_115 : decode cX7_receiveAppend 115 = .ok (.istore 5, 2) := by decide +kernel
theorem dX7_receiveAppend_117 : decode cX7_receiveAppend 117 = .ok (.iload 5, 2) := by decide +kernel
theorem dX7_receiveAppend_119 : decode cX7_receiveAppend 119 = .ok (.aload_n 0, 1) := by decide +kernel
theorem dX7_receiveAppend_120 : decode cX7_receiveAppend 120 = .ok (.iload_n 1, 1) := by decide +kernel
theorem dX7_receiveAppend_121 : decode cX7_receiveAppend 121 = .ok (.iconst 4, 1) := by decide +kernel
theorem dX7_receiveAppend_122 : decode cX7_receiveAppend 122 = .ok (.invokevirtual 38, 3) := by decide +kernel
theorem dX7_receiveAppend_125 : decode cX7_receiveAppend 125 = .ok (.if_icmp .le 11, 3) := by decide +kernel
theorem dX7_receiveAppend_128 : decode cX7_receiveAppend 128 = .ok (.aload_n 0, 1) := by decide +kernel
theorem dX7_receiveAppend_129 : decode cX7_receiveAppend 129 = .ok (.iload_n 1, 1) := by decide +kernel
theorem dX7_receiveAppend_130 : decode cX7_receiveAppend 130 = .ok (.iconst 4, 1) := by decide +kernel
theorem dX7_receiveAppend_131 : decode cX7_receiveAppend 131 = .ok (.iload 5, 2) := by decide +kernel
theorem dX7_receiveAppend_133 : decode cX7_receiveAppend 133 = .ok (.invokevirtual 43, 3) := by decide +kernel
theorem dX7_receiveAppend_136 : decode cX7_receiveAppend 136 = .ok (.aload_n 0, 1) := by decide +kernel
theorem dX7_receiveAppend_137 : decode cX7_receiveAppend 137 = .ok (.iload_n 1, 1) := by decide +kernel
theorem dX7_receiveAppend_138 : decode cX7_receiveAppend 138 = .ok (.iload 4, 2) := by decide +kernel
theorem dX7_receiveAppend_140 : decode cX7_receiveAppend 140 = .ok (.iconst 1, 1) := by decide +kernel
theorem dX7_receiveAppend_141 : decode cX7_receiveAppend 141 = .ok (.invokevirtual 136, 3) := by decide +kernel
theorem dX7_receiveAppend_144 : decode cX7_receiveAppend 144 = .ok (.return_, 1) := by decide +kernel
theorem dX7_dropFirst_0 : decode cX7_dropFirst 0 = .ok (.aload_n 0, 1) := by decide +kernel
theorem dX7_dropFirst_1 : decode cX7_dropFirst 1 = .ok (.iload_n 1, 1) := by decide +kernel
theorem dX7_dropFirst_2 : decode cX7_dropFirst 2 = .ok (.bipush 12, 2) := by decide +kernel
theorem dX7_dropFirst_4 : decode cX7_dropFirst 4 = .ok (.invokevirtual 38, 3) := by decide +kernel
theorem dX7_dropFirst_7 : decode cX7_dropFirst 7 = .ok (.iload_n 2, 1) := by decide +kernel
theorem dX7_dropFirst_8 : decode cX7_dropFirst 8 = .ok (.isub, 1) := by decide +kernel
theorem dX7_dropFirst_9 : decode cX7_dropFirst 9 = .ok (.istore_n 3, 1) := by decide +kernel
theorem dX7_dropFirst_10 : decode cX7_dropFirst 10 = .ok (.iconst 0, 1) := by decide +kernel
theorem dX7_dropFirst_11 : decode cX7_dropFirst 11 = .ok (.istore 4, 2) := by decide +kernel
theorem dX7_dropFirst_13 : decode cX7_dropFirst 13 = .ok (.iload 4, 2) := by decide +kernel
theorem dX7_dropFirst_15 : decode cX7_dropFirst 15 = .ok (.iconst 3, 1) := by decide +kernel
theorem dX7_dropFirst_16 : decode cX7_dropFirst 16 = .ok (.iload_n 3, 1) := by decide +kernel
theorem dX7_dropFirst_17 : decode cX7_dropFirst 17 = .ok (.imul, 1) := by decide +kernel
theorem dX7_dropFirst_18 : decode cX7_dropFirst 18 = .ok (.if_icmp .ge 33, 3) := by decide +kernel
theorem dX7_dropFirst_21 : decode cX7_dropFirst 21 = .ok (.aload_n 0, 1) := by decide +kernel
theorem dX7_dropFirst_22 : decode cX7_dropFirst 22 = .ok (.iload_n 1, 1) := by decide +kernel
theorem dX7_dropFirst_23 : decode cX7_dropFirst 23 = .ok (.bipush 28, 2) := by decide +kernel
theorem dX7_dropFirst_25 : decode cX7_dropFirst 25 = .ok (.iload 4, 2) := by decide +kernel
theorem dX7_dropFirst_27 : decode cX7_dropFirst 27 = .ok (.iadd, 1) := by decide +kernel
theorem dX7_dropFirst_28 : decode cX7_dropFirst 28 = .ok (.aload_n 0, 1) := by decide +kernel
theorem dX7_dropFirst_29 : decode cX7_dropFirst 29 = .ok (.iload_n 1, 1) := by decide +kernel
theorem dX7_dropFirst_30 : decode cX7_dropFirst 30 = .ok (.bipush 28, 2) := by decide +kernel
theorem dX7_dropFirst_32 : decode cX7_dropFirst 32 = .ok (.iload 4, 2) := by decide +kernel
theorem dX7_dropFirst_34 : decode cX7_dropFirst 34 = .ok (.iadd, 1) := by decide +kernel
theorem dX7_dropFirst_35 : decode cX7_dropFirst 35 = .ok (.iconst 3, 1) := by decide +kernel
theorem dX7_dropFirst_36 : decode cX7_dropFirst 36 = .ok (.iload_n 2, 1) := by decide +kernel
theorem dX7_dropFirst_37 : decode cX7_dropFirst 37 = .ok (.imul, 1) := by decide +kernel
theorem dX7_dropFirst_38 : decode cX7_dropFirst 38 = .ok (.iadd, 1) := by decide +kernel
theorem dX7_dropFirst_39 : decode cX7_dropFirst 39 = .ok (.invokevirtual 38, 3) := by decide +kernel
theorem dX7_dropFirst_42 : decode cX7_dropFirst 42 = .ok (.invokevirtual 43, 3) := by decide +kernel
theorem dX7_dropFirst_45 : decode cX7_dropFirst 45 = .ok (.iinc 4 1, 3) := by decide +kernel
theorem dX7_dropFirst_48 : decode cX7_dropFirst 48 = .ok (.goto (-35), 3) := by decide +kernel
theorem dX7_dropFirst_51 : decode cX7_dropFirst 51 = .ok (.aload_n 0, 1) := by decide +kernel
theorem dX7_dropFirst_52 : decode cX7_dropFirst 52 = .ok (.iload_n 1, 1) := by decide +kernel
theorem dX7_dropFirst_53 : decode cX7_dropFirst 53 = .ok (.bipush 12, 2) := by decide +kernel
theorem dX7_dropFirst_55 : decode cX7_dropFirst 55 = .ok (.iload_n 3, 1) := by decide +kernel
theorem dX7_dropFirst_56 : decode cX7_dropFirst 56 = .ok (.invokevirtual 43, 3) := by decide +kernel
theorem dX7_dropFirst_59 : decode cX7_dropFirst 59 = .ok (.return_, 1) := by decide +kernel
theorem dX7_receiveSnapshot_0 : decode cX7_receiveSnapshot 0 = .ok (.aload_n 0, 1) := by decide +kernel
theorem dX7_receiveSnapshot_1 : decode cX7_receiveSnapshot 1 = .ok (.getfield 16, 3) := by decide +kernel
theorem dX7_receiveSnapshot_4 : decode cX7_receiveSnapshot 4 = .ok (.iconst 5, 1) := by decide +kernel
theorem dX7_receiveSnapshot_5 : decode cX7_receiveSnapshot 5 = .ok (.iaload, 1) := by decide +kernel
theorem dX7_receiveSnapshot_6 : decode cX7_receiveSnapshot 6 = .ok (.aload_n 0, 1) := by decide +kernel
theorem dX7_receiveSnapshot_7 : decode cX7_receiveSnapshot 7 = .ok (.iload_n 1, 1) := by decide +kernel
theorem dX7_receiveSnapshot_8 : decode cX7_receiveSnapshot 8 = .ok (.iconst 4, 1) := by decide +kernel
theorem dX7_receiveSnapshot_9 : decode cX7_receiveSnapshot 9 = .ok (.invokevirtual 38, 3) := by decide +kernel
theorem dX7_receiveSnapshot_12 : decode cX7_receiveSnapshot 12 = .ok (.if_icmp .le 167, 3) := by decide +kernel
theorem dX7_receiveSnapshot_15 : decode cX7_receiveSnapshot 15 = .ok (.aload_n 0, 1) := by decide +kernel
theorem dX7_receiveSnapshot_16 : decode cX7_receiveSnapshot 16 = .ok (.getfield 16, 3) := by decide +kernel
theorem dX7_receiveSnapshot_19 : decode cX7_receiveSnapshot 19 = .ok (.iconst 5, 1) := by decide +kernel
theorem dX7_receiveSnapshot_20 : decode cX7_receiveSnapshot 20 = .ok (.iaload, 1) := by decide +kernel
theorem dX7_receiveSnapshot_21 : decode cX7_receiveSnapshot 21 = .ok (.aload_n 0, 1) := by decide +kernel
theorem dX7_receiveSnapshot_22 : decode cX7_receiveSnapshot 22 = .ok (.iload_n 1, 1) := by decide +kernel
theorem dX7_receiveSnapshot_23 : decode cX7_receiveSnapshot 23 = .ok (.invokevirtual 67, 3) := by decide +kernel
theorem dX7_receiveSnapshot_26 : decode cX7_receiveSnapshot 26 = .ok (.if_icmp .gt 28, 3) := by decide +kernel
theorem dX7_receiveSnapshot_29 : decode cX7_receiveSnapshot 29 = .ok (.aload_n 0, 1) := by decide +kernel
theorem dX7_receiveSnapshot_30 : decode cX7_receiveSnapshot 30 = .ok (.iload_n 1, 1) := by decide +kernel
theorem dX7_receiveSnapshot_31 : decode cX7_receiveSnapshot 31 = .ok (.aload_n 0, 1) := by decide +kernel
theorem dX7_receiveSnapshot_32 : decode cX7_receiveSnapshot 32 = .ok (.getfield 16, 3) := by decide +kernel
theorem dX7_receiveSnapshot_35 : decode cX7_receiveSnapshot 35 = .ok (.iconst 5, 1) := by decide +kernel
theorem dX7_receiveSnapshot_36 : decode cX7_receiveSnapshot 36 = .ok (.iaload, 1) := by decide +kernel
theorem dX7_receiveSnapshot_37 : decode cX7_receiveSnapshot 37 = .ok (.invokevirtual 99, 3) := by decide +kernel
theorem dX7_receiveSnapshot_40 : decode cX7_receiveSnapshot 40 = .ok (.aload_n 0, 1) := by decide +kernel
theorem dX7_receiveSnapshot_41 : decode cX7_receiveSnapshot 41 = .ok (.getfield 16, 3) := by decide +kernel
theorem dX7_receiveSnapshot_44 : decode cX7_receiveSnapshot 44 = .ok (.bipush 6, 2) := by decide +kernel
theorem dX7_receiveSnapshot_46 : decode cX7_receiveSnapshot 46 = .ok (.iaload, 1) := by decide +kernel
theorem dX7_receiveSnapshot_47 : decode cX7_receiveSnapshot 47 = .ok (.if_icmp .ne 7, 3) := by decide +kernel
theorem dX7_receiveSnapshot_50 : decode cX7_receiveSnapshot 50 = .ok (.iconst 1, 1) := by decide +kernel
theorem dX7_receiveSnapshot_51 : decode cX7_receiveSnapshot 51 = .ok (.goto 4, 3) := by decide +kernel
theorem dX7_receiveSnapshot_54 : decode cX7_receiveSnapshot 54 = .ok (.iconst 0, 1) := by decide +kernel
theorem dX7_receiveSnapshot_55 : decode cX7_receiveSnapshot 55 = .ok (.istore_n 2, 1) := by decide +kernel
theorem dX7_receiveSnapshot_56 : decode cX7_receiveSnapshot 56 = .ok (.iload_n 2, 1) := by decide +kernel
theorem dX7_receiveSnapshot_57 : decode cX7_receiveSnapshot 57 = .ok (.ifCond .eq 20, 3) := by decide +kernel
theorem dX7_receiveSnapshot_60 : decode cX7_receiveSnapshot 60 = .ok (.aload_n 0, 1) := by decide +kernel
theorem dX7_receiveSnapshot_61 : decode cX7_receiveSnapshot 61 = .ok (.getfield 16, 3) := by decide +kernel
theorem dX7_receiveSnapshot_64 : decode cX7_receiveSnapshot 64 = .ok (.iconst 5, 1) := by decide +kernel
theorem dX7_receiveSnapshot_65 : decode cX7_receiveSnapshot 65 = .ok (.iaload, 1) := by decide +kernel
theorem dX7_receiveSnapshot_66 : decode cX7_receiveSnapshot 66 = .ok (.aload_n 0, 1) := by decide +kernel
theorem dX7_receiveSnapshot_67 : decode cX7_receiveSnapshot 67 = .ok (.iload_n 1, 1) := by decide +kernel
theorem dX7_receiveSnapshot_68 : decode cX7_receiveSnapshot 68 = .ok (.bipush 7, 2) := by decide +kernel
theorem dX7_receiveSnapshot_70 : decode cX7_receiveSnapshot 70 = .ok (.invokevirtual 38, 3) := by decide +kernel
theorem dX7_receiveSnapshot_73 : decode cX7_receiveSnapshot 73 = .ok (.isub, 1) := by decide +kernel
theorem dX7_receiveSnapshot_74 : decode cX7_receiveSnapshot 74 = .ok (.goto 10, 3) := by decide +kernel
theorem dX7_receiveSnapshot_77 : decode cX7_receiveSnapshot 77 = .ok (.aload_n 0, 1) := by decide +kernel
theorem dX7_receiveSnapshot_78 : decode cX7_receiveSnapshot 78 = .ok (.iload_n 1, 1) := by decide +kernel
theorem dX7_receiveSnapshot_79 : decode cX7_receiveSnapshot 79 = .ok (.bipush 12, 2) := by decide +kernel
theorem dX7_receiveSnapshot_81 : decode cX7_receiveSnapshot 81 = .ok (.invokevirtual 38, 3) := by decide +kernel
theorem dX7_receiveSnapshot_84 : decode cX7_receiveSnapshot 84 = .ok (.istore_n 3, 1) := by decide +kernel
theorem dX7_receiveSnapshot_85 : decode cX7_receiveSnapshot 85 = .ok (.aload_n 0, 1) := by decide +kernel
theorem dX7_receiveSnapshot_86 : decode cX7_receiveSnapshot 86 = .ok (.iload_n 1, 1) := by decide +kernel
theorem dX7_receiveSnapshot_87 : decode cX7_receiveSnapshot 87 = .ok (.iload_n 3, 1) := by decide +kernel
theorem dX7_receiveSnapshot_88 : decode cX7_receiveSnapshot 88 = .ok (.invokevirtual 142, 3) := by decide +kernel
theorem dX7_receiveSnapshot_91 : decode cX7_receiveSnapshot 91 = .ok (.aload_n 0, 1) := by decide +kernel
theorem dX7_receiveSnapshot_92 : decode cX7_receiveSnapshot 92 = .ok (.iload_n 1, 1) := by decide +kernel
theorem dX7_receiveSnapshot_93 : decode cX7_receiveSnapshot 93 = .ok (.bipush 7, 2) := by decide +kernel
theorem dX7_receiveSnapshot_95 : decode cX7_receiveSnapshot 95 = .ok (.aload_n 0, 1) := by decide +kernel
theorem dX7_receiveSnapshot_96 : decode cX7_receiveSnapshot 96 = .ok (.getfield 16, 3) := by decide +kernel
theorem dX7_receiveSnapshot_99 : decode cX7_receiveSnapshot 99 = .ok (.iconst 5, 1) := by decide +kernel
theorem dX7_receiveSnapshot_100 : decode cX7_receiveSnapshot 100 = .ok (.iaload, 1) := by decide +kernel
theorem dX7_receiveSnapshot_101 : decode cX7_receiveSnapshot 101 = .ok (.invokevirtual 43, 3) := by decide +kernel
theorem dX7_receiveSnapshot_104 : decode cX7_receiveSnapshot 104 = .ok (.aload_n 0, 1) := by decide +kernel
theorem dX7_receiveSnapshot_105 : decode cX7_receiveSnapshot 105 = .ok (.iload_n 1, 1) := by decide +kernel
theorem dX7_receiveSnapshot_106 : decode cX7_receiveSnapshot 106 = .ok (.bipush 8, 2) := by decide +kernel
theorem dX7_receiveSnapshot_108 : decode cX7_receiveSnapshot 108 = .ok (.aload_n 0, 1) := by decide +kernel
theorem dX7_receiveSnapshot_109 : decode cX7_receiveSnapshot 109 = .ok (.getfield 16, 3) := by decide +kernel
theorem dX7_receiveSnapshot_112 : decode cX7_receiveSnapshot 112 = .ok (.bipush 6, 2) := by decide +kernel
theorem dX7_receiveSnapshot_114 : decode cX7_receiveSnapshot 114 = .ok (.iaload, 1) := by decide +kernel
theorem dX7_receiveSnapshot_115 : decode cX7_receiveSnapshot 115 = .ok (.invokevirtual 43, 3) := by decide +kernel
theorem dX7_receiveSnapshot_118 : decode cX7_receiveSnapshot 118 = .ok (.aload_n 0, 1) := by decide +kernel
theorem dX7_receiveSnapshot_119 : decode cX7_receiveSnapshot 119 = .ok (.iload_n 1, 1) := by decide +kernel
theorem dX7_receiveSnapshot_120 : decode cX7_receiveSnapshot 120 = .ok (.bipush 9, 2) := by decide +kernel
theorem dX7_receiveSnapshot_122 : decode cX7_receiveSnapshot 122 = .ok (.aload_n 0, 1) := by decide +kernel
theorem dX7_receiveSnapshot_123 : decode cX7_receiveSnapshot 123 = .ok (.getfield 16, 3) := by decide +kernel
theorem dX7_receiveSnapshot_126 : decode cX7_receiveSnapshot 126 = .ok (.bipush 10, 2) := by decide +kernel
theorem dX7_receiveSnapshot_128 : decode cX7_receiveSnapshot 128 = .ok (.iaload, 1) := by decide +kernel
theorem dX7_receiveSnapshot_129 : decode cX7_receiveSnapshot 129 = .ok (.invokevirtual 43, 3) := by decide +kernel
theorem dX7_receiveSnapshot_132 : decode cX7_receiveSnapshot 132 = .ok (.aload_n 0, 1) := by decide +kernel
theorem dX7_receiveSnapshot_133 : decode cX7_receiveSnapshot 133 = .ok (.iload_n 1, 1) := by decide +kernel
theorem dX7_receiveSnapshot_134 : decode cX7_receiveSnapshot 134 = .ok (.bipush 10, 2) := by decide +kernel
theorem dX7_receiveSnapshot_136 : decode cX7_receiveSnapshot 136 = .ok (.aload_n 0, 1) := by decide +kernel
theorem dX7_receiveSnapshot_137 : decode cX7_receiveSnapshot 137 = .ok (.getfield 16, 3) := by decide +kernel
theorem dX7_receiveSnapshot_140 : decode cX7_receiveSnapshot 140 = .ok (.bipush 11, 2) := by decide +kernel
theorem dX7_receiveSnapshot_142 : decode cX7_receiveSnapshot 142 = .ok (.iaload, 1) := by decide +kernel
theorem dX7_receiveSnapshot_143 : decode cX7_receiveSnapshot 143 = .ok (.invokevirtual 43, 3) := by decide +kernel
theorem dX7_receiveSnapshot_146 : decode cX7_receiveSnapshot 146 = .ok (.aload_n 0, 1) := by decide +kernel
theorem dX7_receiveSnapshot_147 : decode cX7_receiveSnapshot 147 = .ok (.iload_n 1, 1) := by decide +kernel
theorem dX7_receiveSnapshot_148 : decode cX7_receiveSnapshot 148 = .ok (.bipush 11, 2) := by decide +kernel
theorem dX7_receiveSnapshot_150 : decode cX7_receiveSnapshot 150 = .ok (.aload_n 0, 1) := by decide +kernel
theorem dX7_receiveSnapshot_151 : decode cX7_receiveSnapshot 151 = .ok (.getfield 16, 3) := by decide +kernel
theorem dX7_receiveSnapshot_154 : decode cX7_receiveSnapshot 154 = .ok (.bipush 12, 2) := by decide +kernel
theorem dX7_receiveSnapshot_156 : decode cX7_receiveSnapshot 156 = .ok (.iaload, 1) := by decide +kernel
theorem dX7_receiveSnapshot_157 : decode cX7_receiveSnapshot 157 = .ok (.invokevirtual 43, 3) := by decide +kernel
theorem dX7_receiveSnapshot_160 : decode cX7_receiveSnapshot 160 = .ok (.aload_n 0, 1) := by decide +kernel
theorem dX7_receiveSnapshot_161 : decode cX7_receiveSnapshot 161 = .ok (.iload_n 1, 1) := by decide +kernel
theorem dX7_receiveSnapshot_162 : decode cX7_receiveSnapshot 162 = .ok (.iconst 4, 1) := by decide +kernel
theorem dX7_receiveSnapshot_163 : decode cX7_receiveSnapshot 163 = .ok (.aload_n 0, 1) := by decide +kernel
theorem dX7_receiveSnapshot_164 : decode cX7_receiveSnapshot 164 = .ok (.getfield 16, 3) := by decide +kernel
theorem dX7_receiveSnapshot_167 : decode cX7_receiveSnapshot 167 = .ok (.iconst 5, 1) := by decide +kernel
theorem dX7_receiveSnapshot_168 : decode cX7_receiveSnapshot 168 = .ok (.iaload, 1) := by decide +kernel
theorem dX7_receiveSnapshot_169 : decode cX7_receiveSnapshot 169 = .ok (.invokevirtual 43, 3) := by decide +kernel
theorem dX7_receiveSnapshot_172 : decode cX7_receiveSnapshot 172 = .ok (.aload_n 0, 1) := by decide +kernel
theorem dX7_receiveSnapshot_173 : decode cX7_receiveSnapshot 173 = .ok (.bipush 6, 2) := by decide +kernel
theorem dX7_receiveSnapshot_175 : decode cX7_receiveSnapshot 175 = .ok (.iconst 1, 1) := by decide +kernel
theorem dX7_receiveSnapshot_176 : decode cX7_receiveSnapshot 176 = .ok (.invokevirtual 86, 3) := by decide +kernel
theorem dX7_receiveSnapshot_179 : decode cX7_receiveSnapshot 179 = .ok (.aload_n 0, 1) := by decide +kernel
theorem dX7_receiveSnapshot_180 : decode cX7_receiveSnapshot 180 = .ok (.iload_n 1, 1) := by decide +kernel
theorem dX7_receiveSnapshot_181 : decode cX7_receiveSnapshot 181 = .ok (.aload_n 0, 1) := by decide +kernel
theorem dX7_receiveSnapshot_182 : decode cX7_receiveSnapshot 182 = .ok (.iload_n 1, 1) := by decide +kernel
theorem dX7_receiveSnapshot_183 : decode cX7_receiveSnapshot 183 = .ok (.iconst 4, 1) := by decide +kernel
theorem dX7_receiveSnapshot_184 : decode cX7_receiveSnapshot 184 = .ok (.invokevirtual 38, 3) := by decide +kernel
theorem dX7_receiveSnapshot_187 : decode cX7_receiveSnapshot 187 = .ok (.iconst 1, 1) := by decide +kernel
theorem dX7_receiveSnapshot_188 : decode cX7_receiveSnapshot 188 = .ok (.invokevirtual 136, 3) := by decide +kernel
theorem dX7_receiveSnapshot_191 : decode cX7_receiveSnapshot 191 = .ok (.return_, 1) := by decide +kernel
theorem dX7_receiveFromLeader_0 : decode cX7_receiveFromLeader 0 = .ok (.aload_n 0, 1) := by decide +kernel
theorem dX7_receiveFromLeader_1 : decode cX7_receiveFromLeader 1 = .ok (.getfield 16, 3) := by decide +kernel
theorem dX7_receiveFromLeader_4 : decode cX7_receiveFromLeader 4 = .ok (.iconst 3, 1) := by decide +kernel
theorem dX7_receiveFromLeader_5 : decode cX7_receiveFromLeader 5 = .ok (.iaload, 1) := by decide +kernel
theorem dX7_receiveFromLeader_6 : decode cX7_receiveFromLeader 6 = .ok (.aload_n 0, 1) := by decide +kernel
theorem dX7_receiveFromLeader_7 : decode cX7_receiveFromLeader 7 = .ok (.iload_n 1, 1) := by decide +kernel
theorem dX7_receiveFromLeader_8 : decode cX7_receiveFromLeader 8 = .ok (.iconst 2, 1) := by decide +kernel
theorem dX7_receiveFromLeader_9 : decode cX7_receiveFromLeader 9 = .ok (.invokevirtual 38, 3) := by decide +kernel
theorem dX7_receiveFromLeader_12 : decode cX7_receiveFromLeader 12 = .ok (.if_icmp .ge 11, 3) := by decide +kernel
theorem dX7_receiveFromLeader_15 : decode cX7_receiveFromLeader 15 = .ok (.aload_n 0, 1) := by decide +kernel
theorem dX7_receiveFromLeader_16 : decode cX7_receiveFromLeader 16 = .ok (.iload_n 1, 1) := by decide +kernel
theorem dX7_receiveFromLeader_17 : decode cX7_receiveFromLeader 17 = .ok (.iconst 0, 1) := by decide +kernel
theorem dX7_receiveFromLeader_18 : decode cX7_receiveFromLeader 18 = .ok (.iconst 0, 1) := by decide +kernel
theorem dX7_receiveFromLeader_19 : decode cX7_receiveFromLeader 19 = .ok (.invokevirtual 136, 3) := by decide +kernel
theorem dX7_receiveFromLeader_22 : decode cX7_receiveFromLeader 22 = .ok (.return_, 1) := by decide +kernel
theorem dX7_receiveFromLeader_23 : decode cX7_receiveFromLeader 23 = .ok (.aload_n 0, 1) := by decide +kernel
theorem dX7_receiveFromLeader_24 : decode cX7_receiveFromLeader 24 = .ok (.iload_n 1, 1) := by decide +kernel
theorem dX7_receiveFromLeader_25 : decode cX7_receiveFromLeader 25 = .ok (.iconst 1, 1) := by decide +kernel
theorem dX7_receiveFromLeader_26 : decode cX7_receiveFromLeader 26 = .ok (.iconst 0, 1) := by decide +kernel
theorem dX7_receiveFromLeader_27 : decode cX7_receiveFromLeader 27 = .ok (.invokevirtual 43, 3) := by decide +kernel
theorem dX7_receiveFromLeader_30 : decode cX7_receiveFromLeader 30 = .ok (.aload_n 0, 1) := by decide +kernel
theorem dX7_receiveFromLeader_31 : decode cX7_receiveFromLeader 31 = .ok (.iload_n 1, 1) := by decide +kernel
theorem dX7_receiveFromLeader_32 : decode cX7_receiveFromLeader 32 = .ok (.invokevirtual 47, 3) := by decide +kernel
theorem dX7_receiveFromLeader_35 : decode cX7_receiveFromLeader 35 = .ok (.aload_n 0, 1) := by decide +kernel
theorem dX7_receiveFromLeader_36 : decode cX7_receiveFromLeader 36 = .ok (.getfield 16, 3) := by decide +kernel
theorem dX7_receiveFromLeader_39 : decode cX7_receiveFromLeader 39 = .ok (.iconst 0, 1) := by decide +kernel
theorem dX7_receiveFromLeader_40 : decode cX7_receiveFromLeader 40 = .ok (.iaload, 1) := by decide +kernel
theorem dX7_receiveFromLeader_41 : decode cX7_receiveFromLeader 41 = .ok (.iconst 2, 1) := by decide +kernel
theorem dX7_receiveFromLeader_42 : decode cX7_receiveFromLeader 42 = .ok (.if_icmp .ne 11, 3) := by decide +kernel
theorem dX7_receiveFromLeader_45 : decode cX7_receiveFromLeader 45 = .ok (.aload_n 0, 1) := by decide +kernel
theorem dX7_receiveFromLeader_46 : decode cX7_receiveFromLeader 46 = .ok (.iload_n 1, 1) := by decide +kernel
theorem dX7_receiveFromLeader_47 : decode cX7_receiveFromLeader 47 = .ok (.invokevirtual 145, 3) := by decide +kernel
theorem dX7_receiveFromLeader_50 : decode cX7_receiveFromLeader 50 = .ok (.goto 8, 3) := by decide +kernel
theorem dX7_receiveFromLeader_53 : decode cX7_receiveFromLeader 53 = .ok (.aload_n 0, 1) := by decide +kernel
theorem dX7_receiveFromLeader_54 : decode cX7_receiveFromLeader 54 = .ok (.iload_n 1, 1) := by decide +kernel
theorem dX7_receiveFromLeader_55 : decode cX7_receiveFromLeader 55 = .ok (.invokevirtual 148, 3) := by decide +kernel
theorem dX7_receiveFromLeader_58 : decode cX7_receiveFromLeader 58 = .ok (.return_, 1) := by decide +kernel
theorem dX7_receiveAnswer_0 : decode cX7_receiveAnswer 0 = .ok (.aload_n 0, 1) := by decide +kernel
theorem dX7_receiveAnswer_1 : decode cX7_receiveAnswer 1 = .ok (.getfield 16, 3) := by decide +kernel
theorem dX7_receiveAnswer_4 : decode cX7_receiveAnswer 4 = .ok (.iconst 1, 1) := by decide +kernel
theorem dX7_receiveAnswer_5 : decode cX7_receiveAnswer 5 = .ok (.iaload, 1) := by decide +kernel
theorem dX7_receiveAnswer_6 : decode cX7_receiveAnswer 6 = .ok (.istore_n 2, 1) := by decide +kernel
theorem dX7_receiveAnswer_7 : decode cX7_receiveAnswer 7 = .ok (.aload_n 0, 1) := by decide +kernel
theorem dX7_receiveAnswer_8 : decode cX7_receiveAnswer 8 = .ok (.iload_n 1, 1) := by decide +kernel
theorem dX7_receiveAnswer_9 : decode cX7_receiveAnswer 9 = .ok (.iconst 1, 1) := by decide +kernel
theorem dX7_receiveAnswer_10 : decode cX7_receiveAnswer 10 = .ok (.invokevirtual 38, 3) := by decide +kernel
theorem dX7_receiveAnswer_13 : decode cX7_receiveAnswer 13 = .ok (.iconst 2, 1) := by decide +kernel
theorem dX7_receiveAnswer_14 : decode cX7_receiveAnswer 14 = .ok (.if_icmp .ne 18, 3) := by decide +kernel
theorem dX7_receiveAnswer_17 : decode cX7_receiveAnswer 17 = .ok (.aload_n 0, 1) := by decide +kernel
theorem dX7_receiveAnswer_18 : decode cX7_receiveAnswer 18 = .ok (.getfield 16, 3) := by decide +kernel
theorem dX7_receiveAnswer_21 : decode cX7_receiveAnswer 21 = .ok (.iconst 3, 1) := by decide +kernel
theorem dX7_receiveAnswer_22 : decode cX7_receiveAnswer 22 = .ok (.iaload, 1) := by decide +kernel
theorem dX7_receiveAnswer_23 : decode cX7_receiveAnswer 23 = .ok (.aload_n 0, 1) := by decide +kernel
theorem dX7_receiveAnswer_24 : decode cX7_receiveAnswer 24 = .ok (.iload_n 1, 1) := by decide +kernel
theorem dX7_receiveAnswer_25 : decode cX7_receiveAnswer 25 = .ok (.iconst 2, 1) := by decide +kernel
theorem dX7_receiveAnswer_26 : decode cX7_receiveAnswer 26 = .ok (.invokevirtual 38, 3) := by decide +kernel
theorem dX7_receiveAnswer_29 : decode cX7_receiveAnswer 29 = .ok (.if_icmp .eq 4, 3) := by decide +kernel
theorem dX7_receiveAnswer_32 : decode cX7_receiveAnswer 32 = .ok (.return_, 1) := by decide +kernel
theorem dX7_receiveAnswer_33 : decode cX7_receiveAnswer 33 = .ok (.aload_n 0, 1) := by decide +kernel
theorem dX7_receiveAnswer_34 : decode cX7_receiveAnswer 34 = .ok (.getfield 16, 3) := by decide +kernel
theorem dX7_receiveAnswer_37 : decode cX7_receiveAnswer 37 = .ok (.bipush 6, 2) := by decide +kernel
theorem dX7_receiveAnswer_39 : decode cX7_receiveAnswer 39 = .ok (.iaload, 1) := by decide +kernel
theorem dX7_receiveAnswer_40 : decode cX7_receiveAnswer 40 = .ok (.iconst 1, 1) := by decide +kernel
theorem dX7_receiveAnswer_41 : decode cX7_receiveAnswer 41 = .ok (.if_icmp .ne 99, 3) := by decide +kernel
theorem dX7_receiveAnswer_44 : decode cX7_receiveAnswer 44 = .ok (.aload_n 0, 1) := by decide +kernel
theorem dX7_receiveAnswer_45 : decode cX7_receiveAnswer 45 = .ok (.iload_n 1, 1) := by decide +kernel
theorem dX7_receiveAnswer_46 : decode cX7_receiveAnswer 46 = .ok (.bipush 18, 2) := by decide +kernel
theorem dX7_receiveAnswer_48 : decode cX7_receiveAnswer 48 = .ok (.iload_n 2, 1) := by decide +kernel
theorem dX7_receiveAnswer_49 : decode cX7_receiveAnswer 49 = .ok (.iadd, 1) := by decide +kernel
theorem dX7_receiveAnswer_50 : decode cX7_receiveAnswer 50 = .ok (.invokevirtual 38, 3) := by decide +kernel
theorem dX7_receiveAnswer_53 : decode cX7_receiveAnswer 53 = .ok (.istore_n 3, 1) := by decide +kernel
theorem dX7_receiveAnswer_54 : decode cX7_receiveAnswer 54 = .ok (.aload_n 0, 1) := by decide +kernel
theorem dX7_receiveAnswer_55 : decode cX7_receiveAnswer 55 = .ok (.getfield 16, 3) := by decide +kernel
theorem dX7_receiveAnswer_58 : decode cX7_receiveAnswer 58 = .ok (.iconst 5, 1) := by decide +kernel
theorem dX7_receiveAnswer_59 : decode cX7_receiveAnswer 59 = .ok (.iaload, 1) := by decide +kernel
theorem dX7_receiveAnswer_60 : decode cX7_receiveAnswer 60 = .ok (.iload_n 3, 1) := by decide +kernel
theorem dX7_receiveAnswer_61 : decode cX7_receiveAnswer 61 = .ok (.if_icmp .le 12, 3) := by decide +kernel
theorem dX7_receiveAnswer_64 : decode cX7_receiveAnswer 64 = .ok (.aload_n 0, 1) := by decide +kernel
theorem dX7_receiveAnswer_65 : decode cX7_receiveAnswer 65 = .ok (.getfield 16, 3) := by decide +kernel
theorem dX7_receiveAnswer_68 : decode cX7_receiveAnswer 68 = .ok (.iconst 5, 1) := by decide +kernel
theorem dX7_receiveAnswer_69 : decode cX7_receiveAnswer 69 = .ok (.iaload, 1) := by decide +kernel
theorem dX7_receiveAnswer_70 : decode cX7_receiveAnswer 70 = .ok (.goto 4, 3) := by decide +kernel
theorem dX7_receiveAnswer_73 : decode cX7_receiveAnswer 73 = .ok (.iload_n 3, 1) := by decide +kernel
theorem dX7_receiveAnswer_74 : decode cX7_receiveAnswer 74 = .ok (.istore_n 3, 1) := by decide +kernel
theorem dX7_receiveAnswer_75 : decode cX7_receiveAnswer 75 = .ok (.aload_n 0, 1) := by decide +kernel
theorem dX7_receiveAnswer_76 : decode cX7_receiveAnswer 76 = .ok (.iload_n 1, 1) := by decide +kernel
theorem dX7_receiveAnswer_77 : decode cX7_receiveAnswer 77 = .ok (.bipush 18, 2) := by decide +kernel
theorem dX7_receiveAnswer_79 : decode cX7_receiveAnswer 79 = .ok (.iload_n 2, 1) := by decide +kernel
theorem dX7_receiveAnswer_80 : decode cX7_receiveAnswer 80 = .ok (.iadd, 1) := by decide +kernel
theorem dX7_receiveAnswer_81 : decode cX7_receiveAnswer 81 = .ok (.iload_n 3, 1) := by decide +kernel
theorem dX7_receiveAnswer_82 : decode cX7_receiveAnswer 82 = .ok (.invokevirtual 43, 3) := by decide +kernel
theorem dX7_receiveAnswer_85 : decode cX7_receiveAnswer 85 = .ok (.aload_n 0, 1) := by decide +kernel
theorem dX7_receiveAnswer_86 : decode cX7_receiveAnswer 86 = .ok (.iload_n 1, 1) := by decide +kernel
theorem dX7_receiveAnswer_87 : decode cX7_receiveAnswer 87 = .ok (.bipush 13, 2) := by decide +kernel
theorem dX7_receiveAnswer_89 : decode cX7_receiveAnswer 89 = .ok (.iload_n 2, 1) := by decide +kernel
theorem dX7_receiveAnswer_90 : decode cX7_receiveAnswer 90 = .ok (.iadd, 1) := by decide +kernel
theorem dX7_receiveAnswer_91 : decode cX7_receiveAnswer 91 = .ok (.iload_n 3, 1) := by decide +kernel
theorem dX7_receiveAnswer_92 : decode cX7_receiveAnswer 92 = .ok (.iconst 1, 1) := by decide +kernel
theorem dX7_receiveAnswer_93 : decode cX7_receiveAnswer 93 = .ok (.iadd, 1) := by decide +kernel
theorem dX7_receiveAnswer_94 : decode cX7_receiveAnswer 94 = .ok (.invokevirtual 43, 3) := by decide +kernel
theorem dX7_receiveAnswer_97 : decode cX7_receiveAnswer 97 = .ok (.aload_n 0, 1) := by decide +kernel
theorem dX7_receiveAnswer_98 : decode cX7_receiveAnswer 98 = .ok (.getfield 16, 3) := by decide +kernel
theorem dX7_receiveAnswer_101 : decode cX7_receiveAnswer 101 = .ok (.bipush 7, 2) := by decide +kernel
theorem dX7_receiveAnswer_103 : decode cX7_receiveAnswer 103 = .ok (.iaload, 1) := by decide +kernel
theorem dX7_receiveAnswer_104 : decode cX7_receiveAnswer 104 = .ok (.aload_n 0, 1) := by decide +kernel
theorem dX7_receiveAnswer_105 : decode cX7_receiveAnswer 105 = .ok (.iload_n 1, 1) := by decide +kernel
theorem dX7_receiveAnswer_106 : decode cX7_receiveAnswer 106 = .ok (.bipush 23, 2) := by decide +kernel
theorem dX7_receiveAnswer_108 : decode cX7_receiveAnswer 108 = .ok (.iload_n 2, 1) := by decide +kernel
theorem dX7_receiveAnswer_109 : decode cX7_receiveAnswer 109 = .ok (.iadd, 1) := by decide +kernel
theorem dX7_receiveAnswer_110 : decode cX7_receiveAnswer 110 = .ok (.invokevirtual 38, 3) := by decide +kernel
theorem dX7_receiveAnswer_113 : decode cX7_receiveAnswer 113 = .ok (.if_icmp .le 19, 3) := by decide +kernel
theorem dX7_receiveAnswer_116 : decode cX7_receiveAnswer 116 = .ok (.aload_n 0, 1) := by decide +kernel
theorem dX7_receiveAnswer_117 : decode cX7_receiveAnswer 117 = .ok (.iload_n 1, 1) := by decide +kernel
theorem dX7_receiveAnswer_118 : decode cX7_receiveAnswer 118 = .ok (.bipush 23, 2) := by decide +kernel
theorem dX7_receiveAnswer_120 : decode cX7_receiveAnswer 120 = .ok (.iload_n 2, 1) := by decide +kernel
theorem dX7_receiveAnswer_121 : decode cX7_receiveAnswer 121 = .ok (.iadd, 1) := by decide +kernel
theorem dX7_receiveAnswer_122 : decode cX7_receiveAnswer 122 = .ok (.aload_n 0, 1) := by decide +kernel
theorem dX7_receiveAnswer_123 : decode cX7_receiveAnswer 123 = .ok (.getfield 16, 3) := by decide +kernel
theorem dX7_receiveAnswer_126 : decode cX7_receiveAnswer 126 = .ok (.bipush 7, 2) := by decide +kernel
theorem dX7_receiveAnswer_128 : decode cX7_receiveAnswer 128 = .ok (.iaload, 1) := by decide +kernel
theorem dX7_receiveAnswer_129 : decode cX7_receiveAnswer 129 = .ok (.invokevirtual 43, 3) := by decide +kernel
theorem dX7_receiveAnswer_132 : decode cX7_receiveAnswer 132 = .ok (.aload_n 0, 1) := by decide +kernel
theorem dX7_receiveAnswer_133 : decode cX7_receiveAnswer 133 = .ok (.iload_n 1, 1) := by decide +kernel
theorem dX7_receiveAnswer_134 : decode cX7_receiveAnswer 134 = .ok (.invokevirtual 124, 3) := by decide +kernel
theorem dX7_receiveAnswer_137 : decode cX7_receiveAnswer 137 = .ok (.goto 65, 3) := by decide +kernel
theorem dX7_receiveAnswer_140 : decode cX7_receiveAnswer 140 = .ok (.aload_n 0, 1) := by decide +kernel
theorem dX7_receiveAnswer_141 : decode cX7_receiveAnswer 141 = .ok (.iload_n 1, 1) := by decide +kernel
theorem dX7_receiveAnswer_142 : decode cX7_receiveAnswer 142 = .ok (.bipush 13, 2) := by decide +kernel
theorem dX7_receiveAnswer_144 : decode cX7_receiveAnswer 144 = .ok (.iload_n 2, 1) := by decide +kernel
theorem dX7_receiveAnswer_145 : decode cX7_receiveAnswer 145 = .ok (.iadd, 1) := by decide +kernel
theorem dX7_receiveAnswer_146 : decode cX7_receiveAnswer 146 = .ok (.invokevirtual 38, 3) := by decide +kernel
theorem dX7_receiveAnswer_149 : decode cX7_receiveAnswer 149 = .ok (.iconst 1, 1) := by decide +kernel
theorem dX7_receiveAnswer_150 : decode cX7_receiveAnswer 150 = .ok (.isub, 1) := by decide +kernel
theorem dX7_receiveAnswer_151 : decode cX7_receiveAnswer 151 = .ok (.istore_n 3, 1) := by decide +kernel
theorem dX7_receiveAnswer_152 : decode cX7_receiveAnswer 152 = .ok (.aload_n 0, 1) := by decide +kernel
theorem dX7_receiveAnswer_153 : decode cX7_receiveAnswer 153 = .ok (.getfield 16, 3) := by decide +kernel
theorem dX7_receiveAnswer_156 : decode cX7_receiveAnswer 156 = .ok (.iconst 5, 1) := by decide +kernel
theorem dX7_receiveAnswer_157 : decode cX7_receiveAnswer 157 = .ok (.iaload, 1) := by decide +kernel
theorem dX7_receiveAnswer_158 : decode cX7_receiveAnswer 158 = .ok (.iconst 1, 1) := by decide +kernel
theorem dX7_receiveAnswer_159 : decode cX7_receiveAnswer 159 = .ok (.iadd, 1) := by decide +kernel
theorem dX7_receiveAnswer_160 : decode cX7_receiveAnswer 160 = .ok (.iload_n 3, 1) := by decide +kernel
theorem dX7_receiveAnswer_161 : decode cX7_receiveAnswer 161 = .ok (.if_icmp .ge 14, 3) := by decide +kernel
theorem dX7_receiveAnswer_164 : decode cX7_receiveAnswer 164 = .ok (.aload_n 0, 1) := by decide +kernel
theorem dX7_receiveAnswer_165 : decode cX7_receiveAnswer 165 = .ok (.getfield 16, 3) := by decide +kernel
theorem dX7_receiveAnswer_168 : decode cX7_receiveAnswer 168 = .ok (.iconst 5, 1) := by decide +kernel
theorem dX7_receiveAnswer_169 : decode cX7_receiveAnswer 169 = .ok (.iaload, 1) := by decide +kernel
theorem dX7_receiveAnswer_170 : decode cX7_receiveAnswer 170 = .ok (.iconst 1, 1) := by decide +kernel
theorem dX7_receiveAnswer_171 : decode cX7_receiveAnswer 171 = .ok (.iadd, 1) := by decide +kernel
theorem dX7_receiveAnswer_172 : decode cX7_receiveAnswer 172 = .ok (.goto 4, 3) := by decide +kernel
theorem dX7_receiveAnswer_175 : decode cX7_receiveAnswer 175 = .ok (.iload_n 3, 1) := by decide +kernel
theorem dX7_receiveAnswer_176 : decode cX7_receiveAnswer 176 = .ok (.istore_n 3, 1) := by decide +kernel
theorem dX7_receiveAnswer_177 : decode cX7_receiveAnswer 177 = .ok (.aload_n 0, 1) := by decide +kernel
theorem dX7_receiveAnswer_178 : decode cX7_receiveAnswer 178 = .ok (.iload_n 1, 1) := by decide +kernel
theorem dX7_receiveAnswer_179 : decode cX7_receiveAnswer 179 = .ok (.bipush 13, 2) := by decide +kernel
theorem dX7_receiveAnswer_181 : decode cX7_receiveAnswer 181 = .ok (.iload_n 2, 1) := by decide +kernel
theorem dX7_receiveAnswer_182 : decode cX7_receiveAnswer 182 = .ok (.iadd, 1) := by decide +kernel
theorem dX7_receiveAnswer_183 : decode cX7_receiveAnswer 183 = .ok (.iload_n 3, 1) := by decide +kernel
theorem dX7_receiveAnswer_184 : decode cX7_receiveAnswer 184 = .ok (.iconst 1, 1) := by decide +kernel
theorem dX7_receiveAnswer_185 : decode cX7_receiveAnswer 185 = .ok (.if_icmp .ge 7, 3) := by decide +kernel
theorem dX7_receiveAnswer_188 : decode cX7_receiveAnswer 188 = .ok (.iconst 1, 1) := by decide +kernel
theorem dX7_receiveAnswer_189 : decode cX7_receiveAnswer 189 = .ok (.goto 4, 3) := by decide +kernel
theorem dX7_receiveAnswer_192 : decode cX7_receiveAnswer 192 = .ok (.iload_n 3, 1) := by decide +kernel
theorem dX7_receiveAnswer_193 : decode cX7_receiveAnswer 193 = .ok (.invokevirtual 43, 3) := by decide +kernel
theorem dX7_receiveAnswer_196 : decode cX7_receiveAnswer 196 = .ok (.aload_n 0, 1) := by decide +kernel
theorem dX7_receiveAnswer_197 : decode cX7_receiveAnswer 197 = .ok (.iload_n 1, 1) := by decide +kernel
theorem dX7_receiveAnswer_198 : decode cX7_receiveAnswer 198 = .ok (.iload_n 2, 1) := by decide +kernel
theorem dX7_receiveAnswer_199 : decode cX7_receiveAnswer 199 = .ok (.invokevirtual 111, 3) := by decide +kernel
theorem dX7_receiveAnswer_202 : decode cX7_receiveAnswer 202 = .ok (.return_, 1) := by decide +kernel
theorem dX7_receive_0 : decode cX7_receive 0 = .ok (.aload_n 0, 1) := by decide +kernel
theorem dX7_receive_1 : decode cX7_receive 1 = .ok (.getfield 16, 3) := by decide +kernel
theorem dX7_receive_4 : decode cX7_receive 4 = .ok (.iconst 2, 1) := by decide +kernel
theorem dX7_receive_5 : decode cX7_receive 5 = .ok (.iaload, 1) := by decide +kernel
theorem dX7_receive_6 : decode cX7_receive 6 = .ok (.istore_n 1, 1) := by decide +kernel
theorem dX7_receive_7 : decode cX7_receive 7 = .ok (.aload_n 0, 1) := by decide +kernel
theorem dX7_receive_8 : decode cX7_receive 8 = .ok (.iload_n 1, 1) := by decide +kernel
theorem dX7_receive_9 : decode cX7_receive 9 = .ok (.iconst 0, 1) := by decide +kernel
theorem dX7_receive_10 : decode cX7_receive 10 = .ok (.invokevirtual 38, 3) := by decide +kernel
theorem dX7_receive_13 : decode cX7_receive 13 = .ok (.ifCond .ne 10, 3) := by decide +kernel
theorem dX7_receive_16 : decode cX7_receive 16 = .ok (.aload_n 0, 1) := by decide +kernel
theorem dX7_receive_17 : decode cX7_receive 17 = .ok (.iconst 2, 1) := by decide +kernel
theorem dX7_receive_18 : decode cX7_receive 18 = .ok (.iconst 1, 1) := by decide +kernel
theorem dX7_receive_19 : decode cX7_receive 19 = .ok (.invokevirtual 86, 3) := by decide +kernel
theorem dX7_receive_22 : decode cX7_receive 22 = .ok (.return_, 1) := by decide +kernel
theorem dX7_receive_23 : decode cX7_receive 23 = .ok (.aload_n 0, 1) := by decide +kernel
theorem dX7_receive_24 : decode cX7_receive 24 = .ok (.getfield 16, 3) := by decide +kernel
theorem dX7_receive_27 : decode cX7_receive 27 = .ok (.iconst 3, 1) := by decide +kernel
theorem dX7_receive_28 : decode cX7_receive 28 = .ok (.iaload, 1) := by decide +kernel
theorem dX7_receive_29 : decode cX7_receive 29 = .ok (.aload_n 0, 1) := by decide +kernel
theorem dX7_receive_30 : decode cX7_receive 30 = .ok (.iload_n 1, 1) := by decide +kernel
theorem dX7_receive_31 : decode cX7_receive 31 = .ok (.iconst 2, 1) := by decide +kernel
theorem dX7_receive_32 : decode cX7_receive 32 = .ok (.invokevirtual 38, 3) := by decide +kernel
theorem dX7_receive_35 : decode cX7_receive 35 = .ok (.if_icmp .le 29, 3) := by decide +kernel
theorem dX7_receive_38 : decode cX7_receive 38 = .ok (.aload_n 0, 1) := by decide +kernel
theorem dX7_receive_39 : decode cX7_receive 39 = .ok (.iload_n 1, 1) := by decide +kernel
theorem dX7_receive_40 : decode cX7_receive 40 = .ok (.iconst 2, 1) := by decide +kernel
theorem dX7_receive_41 : decode cX7_receive 41 = .ok (.aload_n 0, 1) := by decide +kernel
theorem dX7_receive_42 : decode cX7_receive 42 = .ok (.getfield 16, 3) := by decide +kernel
theorem dX7_receive_45 : decode cX7_receive 45 = .ok (.iconst 3, 1) := by decide +kernel
theorem dX7_receive_46 : decode cX7_receive 46 = .ok (.iaload, 1) := by decide +kernel
theorem dX7_receive_47 : decode cX7_receive 47 = .ok (.invokevirtual 43, 3) := by decide +kernel
theorem dX7_receive_50 : decode cX7_receive 50 = .ok (.aload_n 0, 1) := by decide +kernel
theorem dX7_receive_51 : decode cX7_receive 51 = .ok (.iload_n 1, 1) := by decide +kernel
theorem dX7_receive_52 : decode cX7_receive 52 = .ok (.iconst 3, 1) := by decide +kernel
theorem dX7_receive_53 : decode cX7_receive 53 = .ok (.iconst (-1), 1) := by decide +kernel
theorem dX7_receive_54 : decode cX7_receive 54 = .ok (.invokevirtual 43, 3) := by decide +kernel
theorem dX7_receive_57 : decode cX7_receive 57 = .ok (.aload_n 0, 1) := by decide +kernel
theorem dX7_receive_58 : decode cX7_receive 58 = .ok (.iload_n 1, 1) := by decide +kernel
theorem dX7_receive_59 : decode cX7_receive 59 = .ok (.iconst 1, 1) := by decide +kernel
theorem dX7_receive_60 : decode cX7_receive 60 = .ok (.iconst 0, 1) := by decide +kernel
theorem dX7_receive_61 : decode cX7_receive 61 = .ok (.invokevirtual 43, 3) := by decide +kernel
theorem dX7_receive_64 : decode cX7_receive 64 = .ok (.aload_n 0, 1) := by decide +kernel
theorem dX7_receive_65 : decode cX7_receive 65 = .ok (.getfield 16, 3) := by decide +kernel
theorem dX7_receive_68 : decode cX7_receive 68 = .ok (.iconst 0, 1) := by decide +kernel
theorem dX7_receive_69 : decode cX7_receive 69 = .ok (.iaload, 1) := by decide +kernel
theorem dX7_receive_70 : decode cX7_receive 70 = .ok (.tableswitch 54 0 3 #[30, 38, 54, 46], 30) := by decide +kernel
theorem dX7_receive_100 : decode cX7_receive 100 = .ok (.aload_n 0, 1) := by decide +kernel
theorem dX7_receive_101 : decode cX7_receive 101 = .ok (.iload_n 1, 1) := by decide +kernel
theorem dX7_receive_102 : decode cX7_receive 102 = .ok (.invokevirtual 151, 3) := by decide +kernel
theorem dX7_receive_105 : decode cX7_receive 105 = .ok (.goto 24, 3) := by decide +kernel
theorem dX7_receive_108 : decode cX7_receive 108 = .ok (.aload_n 0, 1) := by decide +kernel
theorem dX7_receive_109 : decode cX7_receive 109 = .ok (.iload_n 1, 1) := by decide +kernel
theorem dX7_receive_110 : decode cX7_receive 110 = .ok (.invokevirtual 154, 3) := by decide +kernel
theorem dX7_receive_113 : decode cX7_receive 113 = .ok (.goto 16, 3) := by decide +kernel
theorem dX7_receive_116 : decode cX7_receive 116 = .ok (.aload_n 0, 1) := by decide +kernel
theorem dX7_receive_117 : decode cX7_receive 117 = .ok (.iload_n 1, 1) := by decide +kernel
theorem dX7_receive_118 : decode cX7_receive 118 = .ok (.invokevirtual 157, 3) := by decide +kernel
theorem dX7_receive_121 : decode cX7_receive 121 = .ok (.goto 8, 3) := by decide +kernel
theorem dX7_receive_124 : decode cX7_receive 124 = .ok (.aload_n 0, 1) := by decide +kernel
theorem dX7_receive_125 : decode cX7_receive 125 = .ok (.iload_n 1, 1) := by decide +kernel
theorem dX7_receive_126 : decode cX7_receive 126 = .ok (.invokevirtual 160, 3) := by decide +kernel
theorem dX7_receive_129 : decode cX7_receive 129 = .ok (.return_, 1) := by decide +kernel
theorem dX7_firstDue_0 : decode cX7_firstDue 0 = .ok (.iconst 0, 1) := by decide +kernel
theorem dX7_firstDue_1 : decode cX7_firstDue 1 = .ok (.istore_n 1, 1) := by decide +kernel
theorem dX7_firstDue_2 : decode cX7_firstDue 2 = .ok (.iload_n 1, 1) := by decide +kernel
theorem dX7_firstDue_3 : decode cX7_firstDue 3 = .ok (.aload_n 0, 1) := by decide +kernel
theorem dX7_firstDue_4 : decode cX7_firstDue 4 = .ok (.getfield 9, 3) := by decide +kernel
theorem dX7_firstDue_7 : decode cX7_firstDue 7 = .ok (.iconst 3, 1) := by decide +kernel
theorem dX7_firstDue_8 : decode cX7_firstDue 8 = .ok (.iaload, 1) := by decide +kernel
theorem dX7_firstDue_9 : decode cX7_firstDue 9 = .ok (.if_icmp .ge 26, 3) := by decide +kernel
theorem dX7_firstDue_12 : decode cX7_firstDue 12 = .ok (.aload_n 0, 1) := by decide +kernel
theorem dX7_firstDue_13 : decode cX7_firstDue 13 = .ok (.iload_n 1, 1) := by decide +kernel
theorem dX7_firstDue_14 : decode cX7_firstDue 14 = .ok (.iconst 4, 1) := by decide +kernel
theorem dX7_firstDue_15 : decode cX7_firstDue 15 = .ok (.invokevirtual 163, 3) := by decide +kernel
theorem dX7_firstDue_18 : decode cX7_firstDue 18 = .ok (.aload_n 0, 1) := by decide +kernel
theorem dX7_firstDue_19 : decode cX7_firstDue 19 = .ok (.getfield 9, 3) := by decide +kernel
theorem dX7_firstDue_22 : decode cX7_firstDue 22 = .ok (.iconst 0, 1) := by decide +kernel
theorem dX7_firstDue_23 : decode cX7_firstDue 23 = .ok (.iaload, 1) := by decide +kernel
theorem dX7_firstDue_24 : decode cX7_firstDue 24 = .ok (.if_icmp .gt 5, 3) := by decide +kernel
theorem dX7_firstDue_27 : decode cX7_firstDue 27 = .ok (.iload_n 1, 1) := by decide +kernel
theorem dX7_firstDue_28 : decode cX7_firstDue 28 = .ok (.ireturn, 1) := by decide +kernel
theorem dX7_firstDue_29 : decode cX7_firstDue 29 = .ok (.iinc 1 1, 3) := by decide +kernel
theorem dX7_firstDue_32 : decode cX7_firstDue 32 = .ok (.goto (-30), 3) := by decide +kernel
theorem dX7_firstDue_35 : decode cX7_firstDue 35 = .ok (.iconst (-1), 1) := by decide +kernel
theorem dX7_firstDue_36 : decode cX7_firstDue 36 = .ok (.ireturn, 1) := by decide +kernel
theorem dX7_goOn_0 : decode cX7_goOn 0 = .ok (.aload_n 0, 1) := by decide +kernel
theorem dX7_goOn_1 : decode cX7_goOn 1 = .ok (.iload_n 1, 1) := by decide +kernel
theorem dX7_goOn_2 : decode cX7_goOn 2 = .ok (.iconst 1, 1) := by decide +kernel
theorem dX7_goOn_3 : decode cX7_goOn 3 = .ok (.invokevirtual 38, 3) := by decide +kernel
theorem dX7_goOn_6 : decode cX7_goOn 6 = .ok (.iconst 2, 1) := by decide +kernel
theorem dX7_goOn_7 : decode cX7_goOn 7 = .ok (.if_icmp .ne 7, 3) := by decide +kernel
theorem dX7_goOn_10 : decode cX7_goOn 10 = .ok (.iconst 1, 1) := by decide +kernel
theorem dX7_goOn_11 : decode cX7_goOn 11 = .ok (.goto 4, 3) := by decide +kernel
theorem dX7_goOn_14 : decode cX7_goOn 14 = .ok (.iconst 0, 1) := by decide +kernel
theorem dX7_goOn_15 : decode cX7_goOn 15 = .ok (.istore_n 2, 1) := by decide +kernel
theorem dX7_goOn_16 : decode cX7_goOn 16 = .ok (.iload_n 2, 1) := by decide +kernel
theorem dX7_goOn_17 : decode cX7_goOn 17 = .ok (.ifCond .ne 16, 3) := by decide +kernel
theorem dX7_goOn_20 : decode cX7_goOn 20 = .ok (.aload_n 0, 1) := by decide +kernel
theorem dX7_goOn_21 : decode cX7_goOn 21 = .ok (.iload_n 1, 1) := by decide +kernel
theorem dX7_goOn_22 : decode cX7_goOn 22 = .ok (.invokevirtual 108, 3) := by decide +kernel
theorem dX7_goOn_25 : decode cX7_goOn 25 = .ok (.iload_n 1, 1) := by decide +kernel
theorem dX7_goOn_26 : decode cX7_goOn 26 = .ok (.invokestatic 89, 3) := by decide +kernel
theorem dX7_goOn_29 : decode cX7_goOn 29 = .ok (.ifCond .ne 4, 3) := by decide +kernel
theorem dX7_goOn_32 : decode cX7_goOn 32 = .ok (.return_, 1) := by decide +kernel
theorem dX7_goOn_33 : decode cX7_goOn 33 = .ok (.aload_n 0, 1) := by decide +kernel
theorem dX7_goOn_34 : decode cX7_goOn 34 = .ok (.iload_n 1, 1) := by decide +kernel
theorem dX7_goOn_35 : decode cX7_goOn 35 = .ok (.iconst 5, 1) := by decide +kernel
theorem dX7_goOn_36 : decode cX7_goOn 36 = .ok (.aload_n 0, 1) := by decide +kernel
theorem dX7_goOn_37 : decode cX7_goOn 37 = .ok (.iload_n 1, 1) := by decide +kernel
theorem dX7_goOn_38 : decode cX7_goOn 38 = .ok (.iconst 5, 1) := by decide +kernel
theorem dX7_goOn_39 : decode cX7_goOn 39 = .ok (.invokevirtual 38, 3) := by decide +kernel
theorem dX7_goOn_42 : decode cX7_goOn 42 = .ok (.iconst 1, 1) := by decide +kernel
theorem dX7_goOn_43 : decode cX7_goOn 43 = .ok (.isub, 1) := by decide +kernel
theorem dX7_goOn_44 : decode cX7_goOn 44 = .ok (.invokevirtual 43, 3) := by decide +kernel
theorem dX7_goOn_47 : decode cX7_goOn 47 = .ok (.aload_n 0, 1) := by decide +kernel
theorem dX7_goOn_48 : decode cX7_goOn 48 = .ok (.iload_n 1, 1) := by decide +kernel
theorem dX7_goOn_49 : decode cX7_goOn 49 = .ok (.iconst 5, 1) := by decide +kernel
theorem dX7_goOn_50 : decode cX7_goOn 50 = .ok (.invokevirtual 38, 3) := by decide +kernel
theorem dX7_goOn_53 : decode cX7_goOn 53 = .ok (.ifCond .ne 27, 3) := by decide +kernel
theorem dX7_goOn_56 : decode cX7_goOn 56 = .ok (.iload_n 2, 1) := by decide +kernel
theorem dX7_goOn_57 : decode cX7_goOn 57 = .ok (.ifCond .eq 18, 3) := by decide +kernel
theorem dX7_goOn_60 : decode cX7_goOn 60 = .ok (.aload_n 0, 1) := by decide +kernel
theorem dX7_goOn_61 : decode cX7_goOn 61 = .ok (.iload_n 1, 1) := by decide +kernel
theorem dX7_goOn_62 : decode cX7_goOn 62 = .ok (.iconst 5, 1) := by decide +kernel
theorem dX7_goOn_63 : decode cX7_goOn 63 = .ok (.iconst 3, 1) := by decide +kernel
theorem dX7_goOn_64 : decode cX7_goOn 64 = .ok (.invokevirtual 43, 3) := by decide +kernel
theorem dX7_goOn_67 : decode cX7_goOn 67 = .ok (.aload_n 0, 1) := by decide +kernel
theorem dX7_goOn_68 : decode cX7_goOn 68 = .ok (.iload_n 1, 1) := by decide +kernel
theorem dX7_goOn_69 : decode cX7_goOn 69 = .ok (.invokevirtual 130, 3) := by decide +kernel
theorem dX7_goOn_72 : decode cX7_goOn 72 = .ok (.goto 8, 3) := by decide +kernel
theorem dX7_goOn_75 : decode cX7_goOn 75 = .ok (.aload_n 0, 1) := by decide +kernel
theorem dX7_goOn_76 : decode cX7_goOn 76 = .ok (.iload_n 1, 1) := by decide +kernel
theorem dX7_goOn_77 : decode cX7_goOn 77 = .ok (.invokevirtual 166, 3) := by decide +kernel
theorem dX7_goOn_80 : decode cX7_goOn 80 = .ok (.return_, 1) := by decide +kernel
theorem dX7_tickOnce_0 : decode cX7_tickOnce 0 = .ok (.aload_n 0, 1) := by decide +kernel
theorem dX7_tickOnce_1 : decode cX7_tickOnce 1 = .ok (.getfield 9, 3) := by decide +kernel
theorem dX7_tickOnce_4 : decode cX7_tickOnce 4 = .ok (.iconst 0, 1) := by decide +kernel
theorem dX7_tickOnce_5 : decode cX7_tickOnce 5 = .ok (.dup2, 1) := by decide +kernel
theorem dX7_tickOnce_6 : decode cX7_tickOnce 6 = .ok (.iaload, 1) := by decide +kernel
theorem dX7_tickOnce_7 : decode cX7_tickOnce 7 = .ok (.iconst 1, 1) := by decide +kernel
theorem dX7_tickOnce_8 : decode cX7_tickOnce 8 = .ok (.iadd, 1) := by decide +kernel
theorem dX7_tickOnce_9 : decode cX7_tickOnce 9 = .ok (.iastore, 1) := by decide +kernel
theorem dX7_tickOnce_10 : decode cX7_tickOnce 10 = .ok (.aload_n 0, 1) := by decide +kernel
theorem dX7_tickOnce_11 : decode cX7_tickOnce 11 = .ok (.invokevirtual 169, 3) := by decide +kernel
theorem dX7_tickOnce_14 : decode cX7_tickOnce 14 = .ok (.istore_n 1, 1) := by decide +kernel
theorem dX7_tickOnce_15 : decode cX7_tickOnce 15 = .ok (.iload_n 1, 1) := by decide +kernel
theorem dX7_tickOnce_16 : decode cX7_tickOnce 16 = .ok (.ifCond .lt 46, 3) := by decide +kernel
theorem dX7_tickOnce_19 : decode cX7_tickOnce 19 = .ok (.iconst 0, 1) := by decide +kernel
theorem dX7_tickOnce_20 : decode cX7_tickOnce 20 = .ok (.istore_n 2, 1) := by decide +kernel
theorem dX7_tickOnce_21 : decode cX7_tickOnce 21 = .ok (.iload_n 2, 1) := by decide +kernel
theorem dX7_tickOnce_22 : decode cX7_tickOnce 22 = .ok (.bipush 25, 2) := by decide +kernel
theorem dX7_tickOnce_24 : decode cX7_tickOnce 24 = .ok (.if_icmp .ge 21, 3) := by decide +kernel
theorem dX7_tickOnce_27 : decode cX7_tickOnce 27 = .ok (.aload_n 0, 1) := by decide +kernel
theorem dX7_tickOnce_28 : decode cX7_tickOnce 28 = .ok (.getfield 16, 3) := by decide +kernel
theorem dX7_tickOnce_31 : decode cX7_tickOnce 31 = .ok (.iload_n 2, 1) := by decide +kernel
theorem dX7_tickOnce_32 : decode cX7_tickOnce 32 = .ok (.aload_n 0, 1) := by decide +kernel
theorem dX7_tickOnce_33 : decode cX7_tickOnce 33 = .ok (.iload_n 1, 1) := by decide +kernel
theorem dX7_tickOnce_34 : decode cX7_tickOnce 34 = .ok (.iload_n 2, 1) := by decide +kernel
theorem dX7_tickOnce_35 : decode cX7_tickOnce 35 = .ok (.invokevirtual 163, 3) := by decide +kernel
theorem dX7_tickOnce_38 : decode cX7_tickOnce 38 = .ok (.iastore, 1) := by decide +kernel
theorem dX7_tickOnce_39 : decode cX7_tickOnce 39 = .ok (.iinc 2 1, 3) := by decide +kernel
theorem dX7_tickOnce_42 : decode cX7_tickOnce 42 = .ok (.goto (-21), 3) := by decide +kernel
theorem dX7_tickOnce_45 : decode cX7_tickOnce 45 = .ok (.aload_n 0, 1) := by decide +kernel
theorem dX7_tickOnce_46 : decode cX7_tickOnce 46 = .ok (.iload_n 1, 1) := by decide +kernel
theorem dX7_tickOnce_47 : decode cX7_tickOnce 47 = .ok (.invokevirtual 173, 3) := by decide +kernel
theorem dX7_tickOnce_50 : decode cX7_tickOnce 50 = .ok (.aload_n 0, 1) := by decide +kernel
theorem dX7_tickOnce_51 : decode cX7_tickOnce 51 = .ok (.invokevirtual 176, 3) := by decide +kernel
theorem dX7_tickOnce_54 : decode cX7_tickOnce 54 = .ok (.aload_n 0, 1) := by decide +kernel
theorem dX7_tickOnce_55 : decode cX7_tickOnce 55 = .ok (.invokevirtual 169, 3) := by decide +kernel
theorem dX7_tickOnce_58 : decode cX7_tickOnce 58 = .ok (.istore_n 1, 1) := by decide +kernel
theorem dX7_tickOnce_59 : decode cX7_tickOnce 59 = .ok (.goto (-44), 3) := by decide +kernel
theorem dX7_tickOnce_62 : decode cX7_tickOnce 62 = .ok (.iconst 0, 1) := by decide +kernel
theorem dX7_tickOnce_63 : decode cX7_tickOnce 63 = .ok (.istore_n 1, 1) := by decide +kernel
theorem dX7_tickOnce_64 : decode cX7_tickOnce 64 = .ok (.iload_n 1, 1) := by decide +kernel
theorem dX7_tickOnce_65 : decode cX7_tickOnce 65 = .ok (.iconst 5, 1) := by decide +kernel
theorem dX7_tickOnce_66 : decode cX7_tickOnce 66 = .ok (.if_icmp .ge 24, 3) := by decide +kernel
theorem dX7_tickOnce_69 : decode cX7_tickOnce 69 = .ok (.aload_n 0, 1) := by decide +kernel
theorem dX7_tickOnce_70 : decode cX7_tickOnce 70 = .ok (.iload_n 1, 1) := by decide +kernel
theorem dX7_tickOnce_71 : decode cX7_tickOnce 71 = .ok (.iconst 0, 1) := by decide +kernel
theorem dX7_tickOnce_72 : decode cX7_tickOnce 72 = .ok (.invokevirtual 38, 3) := by decide +kernel
theorem dX7_tickOnce_75 : decode cX7_tickOnce 75 = .ok (.iconst 1, 1) := by decide +kernel
theorem dX7_tickOnce_76 : decode cX7_tickOnce 76 = .ok (.if_icmp .ne 8, 3) := by decide +kernel
theorem dX7_tickOnce_79 : decode cX7_tickOnce 79 = .ok (.aload_n 0, 1) := by decide +kernel
theorem dX7_tickOnce_80 : decode cX7_tickOnce 80 = .ok (.iload_n 1, 1) := by decide +kernel
theorem dX7_tickOnce_81 : decode cX7_tickOnce 81 = .ok (.invokevirtual 179, 3) := by decide +kernel
theorem dX7_tickOnce_84 : decode cX7_tickOnce 84 = .ok (.iinc 1 1, 3) := by decide +kernel
theorem dX7_tickOnce_87 : decode cX7_tickOnce 87 = .ok (.goto (-23), 3) := by decide +kernel
theorem dX7_tickOnce_90 : decode cX7_tickOnce 90 = .ok (.return_, 1) := by decide +kernel
theorem dX7_tick_0 : decode cX7_tick 0 = .ok (.aload_n 0, 1) := by decide +kernel
theorem dX7_tick_1 : decode cX7_tick 1 = .ok (.iconst 1, 1) := by decide +kernel
theorem dX7_tick_2 : decode cX7_tick 2 = .ok (.iload_n 1, 1) := by decide +kernel
theorem dX7_tick_3 : decode cX7_tick 3 = .ok (.iconst 1, 1) := by decide +kernel
theorem dX7_tick_4 : decode cX7_tick 4 = .ok (.bipush 60, 2) := by decide +kernel
theorem dX7_tick_6 : decode cX7_tick 6 = .ok (.invokestatic 34, 3) := by decide +kernel
theorem dX7_tick_9 : decode cX7_tick 9 = .ok (.ifCond .ne 7, 3) := by decide +kernel
theorem dX7_tick_12 : decode cX7_tick 12 = .ok (.iconst 1, 1) := by decide +kernel
theorem dX7_tick_13 : decode cX7_tick 13 = .ok (.goto 4, 3) := by decide +kernel
theorem dX7_tick_16 : decode cX7_tick 16 = .ok (.iconst 0, 1) := by decide +kernel
theorem dX7_tick_17 : decode cX7_tick 17 = .ok (.invokevirtual 55, 3) := by decide +kernel
theorem dX7_tick_20 : decode cX7_tick 20 = .ok (.ifCond .eq 5, 3) := by decide +kernel
theorem dX7_tick_23 : decode cX7_tick 23 = .ok (.iconst 0, 1) := by decide +kernel
theorem dX7_tick_24 : decode cX7_tick 24 = .ok (.ireturn, 1) := by decide +kernel
theorem dX7_tick_25 : decode cX7_tick 25 = .ok (.iconst 0, 1) := by decide +kernel
theorem dX7_tick_26 : decode cX7_tick 26 = .ok (.istore_n 2, 1) := by decide +kernel
theorem dX7_tick_27 : decode cX7_tick 27 = .ok (.iload_n 2, 1) := by decide +kernel
theorem dX7_tick_28 : decode cX7_tick 28 = .ok (.iload_n 1, 1) := by decide +kernel
theorem dX7_tick_29 : decode cX7_tick 29 = .ok (.if_icmp .ge 13, 3) := by decide +kernel
theorem dX7_tick_32 : decode cX7_tick 32 = .ok (.aload_n 0, 1) := by decide +kernel
theorem dX7_tick_33 : decode cX7_tick 33 = .ok (.invokevirtual 182, 3) := by decide +kernel
theorem dX7_tick_36 : decode cX7_tick 36 = .ok (.iinc 2 1, 3) := by decide +kernel
theorem dX7_tick_39 : decode cX7_tick 39 = .ok (.goto (-12), 3) := by decide +kernel
theorem dX7_tick_42 : decode cX7_tick 42 = .ok (.aload_n 0, 1) := by decide +kernel
theorem dX7_tick_43 : decode cX7_tick 43 = .ok (.getfield 9, 3) := by decide +kernel
theorem dX7_tick_46 : decode cX7_tick 46 = .ok (.iconst 0, 1) := by decide +kernel
theorem dX7_tick_47 : decode cX7_tick 47 = .ok (.iaload, 1) := by decide +kernel
theorem dX7_tick_48 : decode cX7_tick 48 = .ok (.ireturn, 1) := by decide +kernel
theorem dX7_setDelay_0 : decode cX7_setDelay 0 = .ok (.aload_n 0, 1) := by decide +kernel
theorem dX7_setDelay_1 : decode cX7_setDelay 1 = .ok (.iconst 1, 1) := by decide +kernel
theorem dX7_setDelay_2 : decode cX7_setDelay 2 = .ok (.iload_n 1, 1) := by decide +kernel
theorem dX7_setDelay_3 : decode cX7_setDelay 3 = .ok (.iconst 1, 1) := by decide +kernel
theorem dX7_setDelay_4 : decode cX7_setDelay 4 = .ok (.iconst 5, 1) := by decide +kernel
theorem dX7_setDelay_5 : decode cX7_setDelay 5 = .ok (.invokestatic 34, 3) := by decide +kernel
theorem dX7_setDelay_8 : decode cX7_setDelay 8 = .ok (.ifCond .ne 7, 3) := by decide +kernel
theorem dX7_setDelay_11 : decode cX7_setDelay 11 = .ok (.iconst 1, 1) := by decide +kernel
theorem dX7_setDelay_12 : decode cX7_setDelay 12 = .ok (.goto 4, 3) := by decide +kernel
theorem dX7_setDelay_15 : decode cX7_setDelay 15 = .ok (.iconst 0, 1) := by decide +kernel
theorem dX7_setDelay_16 : decode cX7_setDelay 16 = .ok (.invokevirtual 55, 3) := by decide +kernel
theorem dX7_setDelay_19 : decode cX7_setDelay 19 = .ok (.ifCond .eq 5, 3) := by decide +kernel
theorem dX7_setDelay_22 : decode cX7_setDelay 22 = .ok (.iconst 0, 1) := by decide +kernel
theorem dX7_setDelay_23 : decode cX7_setDelay 23 = .ok (.ireturn, 1) := by decide +kernel
theorem dX7_setDelay_24 : decode cX7_setDelay 24 = .ok (.aload_n 0, 1) := by decide +kernel
theorem dX7_setDelay_25 : decode cX7_setDelay 25 = .ok (.getfield 9, 3) := by decide +kernel
theorem dX7_setDelay_28 : decode cX7_setDelay 28 = .ok (.iconst 1, 1) := by decide +kernel
theorem dX7_setDelay_29 : decode cX7_setDelay 29 = .ok (.iaload, 1) := by decide +kernel
theorem dX7_setDelay_30 : decode cX7_setDelay 30 = .ok (.istore_n 2, 1) := by decide +kernel
theorem dX7_setDelay_31 : decode cX7_setDelay 31 = .ok (.aload_n 0, 1) := by decide +kernel
theorem dX7_setDelay_32 : decode cX7_setDelay 32 = .ok (.getfield 9, 3) := by decide +kernel
theorem dX7_setDelay_35 : decode cX7_setDelay 35 = .ok (.iconst 1, 1) := by decide +kernel
theorem dX7_setDelay_36 : decode cX7_setDelay 36 = .ok (.iload_n 1, 1) := by decide +kernel
theorem dX7_setDelay_37 : decode cX7_setDelay 37 = .ok (.iastore, 1) := by decide +kernel
theorem dX7_setDelay_38 : decode cX7_setDelay 38 = .ok (.iload_n 2, 1) := by decide +kernel
theorem dX7_setDelay_39 : decode cX7_setDelay 39 = .ok (.ireturn, 1) := by decide +kernel
theorem dX7_setLink_0 : decode cX7_setLink 0 = .ok (.aload_n 0, 1) := by decide +kernel
theorem dX7_setLink_1 : decode cX7_setLink 1 = .ok (.iconst 1, 1) := by decide +kernel
theorem dX7_setLink_2 : decode cX7_setLink 2 = .ok (.iload_n 1, 1) := by decide +kernel
theorem dX7_setLink_3 : decode cX7_setLink 3 = .ok (.invokestatic 185, 3) := by decide +kernel
theorem dX7_setLink_6 : decode cX7_setLink 6 = .ok (.ifCond .eq 10, 3) := by decide +kernel
theorem dX7_setLink_9 : decode cX7_setLink 9 = .ok (.iload_n 2, 1) := by decide +kernel
theorem dX7_setLink_10 : decode cX7_setLink 10 = .ok (.invokestatic 185, 3) := by decide +kernel
theorem dX7_setLink_13 : decode cX7_setLink 13 = .ok (.ifCond .ne 7, 3) := by decide +kernel
theorem dX7_setLink_16 : decode cX7_setLink 16 = .ok (.iconst 1, 1) := by decide +kernel
theorem dX7_setLink_17 : decode cX7_setLink 17 = .ok (.goto 4, 3) := by decide +kernel
theorem dX7_setLink_20 : decode cX7_setLink 20 = .ok (.iconst 0, 1) := by decide +kernel
theorem dX7_setLink_21 : decode cX7_setLink 21 = .ok (.invokevirtual 55, 3) := by decide +kernel
theorem dX7_setLink_24 : decode cX7_setLink 24 = .ok (.ifCond .ne 21, 3) := by decide +kernel
theorem dX7_setLink_27 : decode cX7_setLink 27 = .ok (.aload_n 0, 1) := by decide +kernel
theorem dX7_setLink_28 : decode cX7_setLink 28 = .ok (.iconst 2, 1) := by decide +kernel
theorem dX7_setLink_29 : decode cX7_setLink 29 = .ok (.iload_n 1, 1) := by decide +kernel
theorem dX7_setLink_30 : decode cX7_setLink 30 = .ok (.iload_n 2, 1) := by decide +kernel
theorem dX7_setLink_31 : decode cX7_setLink 31 = .ok (.if_icmp .ne 7, 3) := by decide +kernel
theorem dX7_setLink_34 : decode cX7_setLink 34 = .ok (.iconst 1, 1) := by decide +kernel
theorem dX7_setLink_35 : decode cX7_setLink 35 = .ok (.goto 4, 3) := by decide +kernel
theorem dX7_setLink_38 : decode cX7_setLink 38 = .ok (.iconst 0, 1) := by decide +kernel
theorem dX7_setLink_39 : decode cX7_setLink 39 = .ok (.invokevirtual 55, 3) := by decide +kernel
theorem dX7_setLink_42 : decode cX7_setLink 42 = .ok (.ifCond .eq 5, 3) := by decide +kernel
theorem dX7_setLink_45 : decode cX7_setLink 45 = .ok (.iconst 0, 1) := by decide +kernel
theorem dX7_setLink_46 : decode cX7_setLink 46 = .ok (.ireturn, 1) := by decide +kernel
theorem dX7_setLink_47 : decode cX7_setLink 47 = .ok (.aload_n 0, 1) := by decide +kernel
theorem dX7_setLink_48 : decode cX7_setLink 48 = .ok (.getfield 9, 3) := by decide +kernel
theorem dX7_setLink_51 : decode cX7_setLink 51 = .ok (.iconst 4, 1) := by decide +kernel
theorem dX7_setLink_52 : decode cX7_setLink 52 = .ok (.iload_n 1, 1) := by decide +kernel
theorem dX7_setLink_53 : decode cX7_setLink 53 = .ok (.iadd, 1) := by decide +kernel
theorem dX7_setLink_54 : decode cX7_setLink 54 = .ok (.iaload, 1) := by decide +kernel
theorem dX7_setLink_55 : decode cX7_setLink 55 = .ok (.iload_n 2, 1) := by decide +kernel
theorem dX7_setLink_56 : decode cX7_setLink 56 = .ok (.invokestatic 89, 3) := by decide +kernel
theorem dX7_setLink_59 : decode cX7_setLink 59 = .ok (.istore 4, 2) := by decide +kernel
theorem dX7_setLink_61 : decode cX7_setLink 61 = .ok (.aload_n 0, 1) := by decide +kernel
theorem dX7_setLink_62 : decode cX7_setLink 62 = .ok (.getfield 9, 3) := by decide +kernel
theorem dX7_setLink_65 : decode cX7_setLink 65 = .ok (.iconst 4, 1) := by decide +kernel
theorem dX7_setLink_66 : decode cX7_setLink 66 = .ok (.iload_n 1, 1) := by decide +kernel
theorem dX7_setLink_67 : decode cX7_setLink 67 = .ok (.iadd, 1) := by decide +kernel
theorem dX7_setLink_68 : decode cX7_setLink 68 = .ok (.iload_n 3, 1) := by decide +kernel
theorem dX7_setLink_69 : decode cX7_setLink 69 = .ok (.ifCond .eq 18, 3) := by decide +kernel
theorem dX7_setLink_72 : decode cX7_setLink 72 = .ok (.aload_n 0, 1) := by decide +kernel
theorem dX7_setLink_73 : decode cX7_setLink 73 = .ok (.getfield 9, 3) := by decide +kernel
theorem dX7_setLink_76 : decode cX7_setLink 76 = .ok (.iconst 4, 1) := by decide +kernel
theorem dX7_setLink_77 : decode cX7_setLink 77 = .ok (.iload_n 1, 1) := by decide +kernel
theorem dX7_setLink_78 : decode cX7_setLink 78 = .ok (.iadd, 1) := by decide +kernel
theorem dX7_setLink_79 : decode cX7_setLink 79 = .ok (.iaload, 1) := by decide +kernel
theorem dX7_setLink_80 : decode cX7_setLink 80 = .ok (.iconst 1, 1) := by decide +kernel
theorem dX7_setLink_81 : decode cX7_setLink 81 = .ok (.iload_n 2, 1) := by decide +kernel
theorem dX7_setLink_82 : decode cX7_setLink 82 = .ok (.ishl, 1) := by decide +kernel
theorem dX7_setLink_83 : decode cX7_setLink 83 = .ok (.ior, 1) := by decide +kernel
theorem dX7_setLink_84 : decode cX7_setLink 84 = .ok (.goto 17, 3) := by decide +kernel
theorem dX7_setLink_87 : decode cX7_setLink 87 = .ok (.aload_n 0, 1) := by decide +kernel
theorem dX7_setLink_88 : decode cX7_setLink 88 = .ok (.getfield 9, 3) := by decide +kernel
theorem dX7_setLink_91 : decode cX7_setLink 91 = .ok (.iconst 4, 1) := by decide +kernel
theorem dX7_setLink_92 : decode cX7_setLink 92 = .ok (.iload_n 1, 1) := by decide +kernel
theorem dX7_setLink_93 : decode cX7_setLink 93 = .ok (.iadd, 1) := by decide +kernel
theorem dX7_setLink_94 : decode cX7_setLink 94 = .ok (.iaload, 1) := by decide +kernel
theorem dX7_setLink_95 : decode cX7_setLink 95 = .ok (.iconst 1, 1) := by decide +kernel
theorem dX7_setLink_96 : decode cX7_setLink 96 = .ok (.iload_n 2, 1) := by decide +kernel
theorem dX7_setLink_97 : decode cX7_setLink 97 = .ok (.ishl, 1) := by decide +kernel
theorem dX7_setLink_98 : decode cX7_setLink 98 = .ok (.iconst (-1), 1) := by decide +kernel
theorem dX7_setLink_99 : decode cX7_setLink 99 = .ok (.ixor, 1) := by decide +kernel
theorem dX7_setLink_100 : decode cX7_setLink 100 = .ok (.iand, 1) := by decide +kernel
theorem dX7_setLink_101 : decode cX7_setLink 101 = .ok (.iastore, 1) := by decide +kernel
theorem dX7_setLink_102 : decode cX7_setLink 102 = .ok (.aload_n 0, 1) := by decide +kernel
theorem dX7_setLink_103 : decode cX7_setLink 103 = .ok (.getfield 9, 3) := by decide +kernel
theorem dX7_setLink_106 : decode cX7_setLink 106 = .ok (.iconst 4, 1) := by decide +kernel
theorem dX7_setLink_107 : decode cX7_setLink 107 = .ok (.iload_n 2, 1) := by decide +kernel
theorem dX7_setLink_108 : decode cX7_setLink 108 = .ok (.iadd, 1) := by decide +kernel
theorem dX7_setLink_109 : decode cX7_setLink 109 = .ok (.iload_n 3, 1) := by decide +kernel
theorem dX7_setLink_110 : decode cX7_setLink 110 = .ok (.ifCond .eq 18, 3) := by decide +kernel
theorem dX7_setLink_113 : decode cX7_setLink 113 = .ok (.aload_n 0, 1) := by decide +kernel
theorem dX7_setLink_114 : decode cX7_setLink 114 = .ok (.getfield 9, 3) := by decide +kernel
theorem dX7_setLink_117 : decode cX7_setLink 117 = .ok (.iconst 4, 1) := by decide +kernel
theorem dX7_setLink_118 : decode cX7_setLink 118 = .ok (.iload_n 2, 1) := by decide +kernel
theorem dX7_setLink_119 : decode cX7_setLink 119 = .ok (.iadd, 1) := by decide +kernel
theorem dX7_setLink_120 : decode cX7_setLink 120 = .ok (.iaload, 1) := by decide +kernel
theorem dX7_setLink_121 : decode cX7_setLink 121 = .ok (.iconst 1, 1) := by decide +kernel
theorem dX7_setLink_122 : decode cX7_setLink 122 = .ok (.iload_n 1, 1) := by decide +kernel
theorem dX7_setLink_123 : decode cX7_setLink 123 = .ok (.ishl, 1) := by decide +kernel
theorem dX7_setLink_124 : decode cX7_setLink 124 = .ok (.ior, 1) := by decide +kernel
theorem dX7_setLink_125 : decode cX7_setLink 125 = .ok (.goto 17, 3) := by decide +kernel
theorem dX7_setLink_128 : decode cX7_setLink 128 = .ok (.aload_n 0, 1) := by decide +kernel
theorem dX7_setLink_129 : decode cX7_setLink 129 = .ok (.getfield 9, 3) := by decide +kernel
theorem dX7_setLink_132 : decode cX7_setLink 132 = .ok (.iconst 4, 1) := by decide +kernel
theorem dX7_setLink_133 : decode cX7_setLink 133 = .ok (.iload_n 2, 1) := by decide +kernel
theorem dX7_setLink_134 : decode cX7_setLink 134 = .ok (.iadd, 1) := by decide +kernel
theorem dX7_setLink_135 : decode cX7_setLink 135 = .ok (.iaload, 1) := by decide +kernel
theorem dX7_setLink_136 : decode cX7_setLink 136 = .ok (.iconst 1, 1) := by decide +kernel
theorem dX7_setLink_137 : decode cX7_setLink 137 = .ok (.iload_n 1, 1) := by decide +kernel
theorem dX7_setLink_138 : decode cX7_setLink 138 = .ok (.ishl, 1) := by decide +kernel
theorem dX7_setLink_139 : decode cX7_setLink 139 = .ok (.iconst (-1), 1) := by decide +kernel
theorem dX7_setLink_140 : decode cX7_setLink 140 = .ok (.ixor, 1) := by decide +kernel
theorem dX7_setLink_141 : decode cX7_setLink 141 = .ok (.iand, 1) := by decide +kernel
theorem dX7_setLink_142 : decode cX7_setLink 142 = .ok (.iastore, 1) := by decide +kernel
theorem dX7_setLink_143 : decode cX7_setLink 143 = .ok (.iload 4, 2) := by decide +kernel
theorem dX7_setLink_145 : decode cX7_setLink 145 = .ok (.ireturn, 1) := by decide +kernel
theorem dX7_crash_0 : decode cX7_crash 0 = .ok (.aload_n 0, 1) := by decide +kernel
theorem dX7_crash_1 : decode cX7_crash 1 = .ok (.iconst 1, 1) := by decide +kernel
theorem dX7_crash_2 : decode cX7_crash 2 = .ok (.iload_n 1, 1) := by decide +kernel
theorem dX7_crash_3 : decode cX7_crash 3 = .ok (.invokestatic 185, 3) := by decide +kernel
theorem dX7_crash_6 : decode cX7_crash 6 = .ok (.ifCond .ne 7, 3) := by decide +kernel
theorem dX7_crash_9 : decode cX7_crash 9 = .ok (.iconst 1, 1) := by decide +kernel
theorem dX7_crash_10 : decode cX7_crash 10 = .ok (.goto 4, 3) := by decide +kernel
theorem dX7_crash_13 : decode cX7_crash 13 = .ok (.iconst 0, 1) := by decide +kernel
theorem dX7_crash_14 : decode cX7_crash 14 = .ok (.invokevirtual 55, 3) := by decide +kernel
theorem dX7_crash_17 : decode cX7_crash 17 = .ok (.ifCond .ne 25, 3) := by decide +kernel
theorem dX7_crash_20 : decode cX7_crash 20 = .ok (.aload_n 0, 1) := by decide +kernel
theorem dX7_crash_21 : decode cX7_crash 21 = .ok (.iconst 2, 1) := by decide +kernel
theorem dX7_crash_22 : decode cX7_crash 22 = .ok (.aload_n 0, 1) := by decide +kernel
theorem dX7_crash_23 : decode cX7_crash 23 = .ok (.iload_n 1, 1) := by decide +kernel
theorem dX7_crash_24 : decode cX7_crash 24 = .ok (.iconst 0, 1) := by decide +kernel
theorem dX7_crash_25 : decode cX7_crash 25 = .ok (.invokevirtual 38, 3) := by decide +kernel
theorem dX7_crash_28 : decode cX7_crash 28 = .ok (.ifCond .ne 7, 3) := by decide +kernel
theorem dX7_crash_31 : decode cX7_crash 31 = .ok (.iconst 1, 1) := by decide +kernel
theorem dX7_crash_32 : decode cX7_crash 32 = .ok (.goto 4, 3) := by decide +kernel
theorem dX7_crash_35 : decode cX7_crash 35 = .ok (.iconst 0, 1) := by decide +kernel
theorem dX7_crash_36 : decode cX7_crash 36 = .ok (.invokevirtual 55, 3) := by decide +kernel
theorem dX7_crash_39 : decode cX7_crash 39 = .ok (.ifCond .eq 5, 3) := by decide +kernel
theorem dX7_crash_42 : decode cX7_crash 42 = .ok (.iconst 0, 1) := by decide +kernel
theorem dX7_crash_43 : decode cX7_crash 43 = .ok (.ireturn, 1) := by decide +kernel
theorem dX7_crash_44 : decode cX7_crash 44 = .ok (.aload_n 0, 1) := by decide +kernel
theorem dX7_crash_45 : decode cX7_crash 45 = .ok (.iload_n 1, 1) := by decide +kernel
theorem dX7_crash_46 : decode cX7_crash 46 = .ok (.iconst 0, 1) := by decide +kernel
theorem dX7_crash_47 : decode cX7_crash 47 = .ok (.iconst 0, 1) := by decide +kernel
theorem dX7_crash_48 : decode cX7_crash 48 = .ok (.invokevirtual 43, 3) := by decide +kernel
theorem dX7_crash_51 : decode cX7_crash 51 = .ok (.aload_n 0, 1) := by decide +kernel
theorem dX7_crash_52 : decode cX7_crash 52 = .ok (.iload_n 1, 1) := by decide +kernel
theorem dX7_crash_53 : decode cX7_crash 53 = .ok (.iconst 1, 1) := by decide +kernel
theorem dX7_crash_54 : decode cX7_crash 54 = .ok (.iconst 0, 1) := by decide +kernel
theorem dX7_crash_55 : decode cX7_crash 55 = .ok (.invokevirtual 43, 3) := by decide +kernel
theorem dX7_crash_58 : decode cX7_crash 58 = .ok (.aload_n 0, 1) := by decide +kernel
theorem dX7_crash_59 : decode cX7_crash 59 = .ok (.iload_n 1, 1) := by decide +kernel
theorem dX7_crash_60 : decode cX7_crash 60 = .ok (.iconst 2, 1) := by decide +kernel
theorem dX7_crash_61 : decode cX7_crash 61 = .ok (.invokevirtual 38, 3) := by decide +kernel
theorem dX7_crash_64 : decode cX7_crash 64 = .ok (.ireturn, 1) := by decide +kernel
theorem dX7_restart_0 : decode cX7_restart 0 = .ok (.aload_n 0, 1) := by decide +kernel
theorem dX7_restart_1 : decode cX7_restart 1 = .ok (.iconst 1, 1) := by decide +kernel
theorem dX7_restart_2 : decode cX7_restart 2 = .ok (.iload_n 1, 1) := by decide +kernel
theorem dX7_restart_3 : decode cX7_restart 3 = .ok (.invokestatic 185, 3) := by decide +kernel
theorem dX7_restart_6 : decode cX7_restart 6 = .ok (.ifCond .ne 7, 3) := by decide +kernel
theorem dX7_restart_9 : decode cX7_restart 9 = .ok (.iconst 1, 1) := by decide +kernel
theorem dX7_restart_10 : decode cX7_restart 10 = .ok (.goto 4, 3) := by decide +kernel
theorem dX7_restart_13 : decode cX7_restart 13 = .ok (.iconst 0, 1) := by decide +kernel
theorem dX7_restart_14 : decode cX7_restart 14 = .ok (.invokevirtual 55, 3) := by decide +kernel
theorem dX7_restart_17 : decode cX7_restart 17 = .ok (.ifCond .ne 26, 3) := by decide +kernel
theorem dX7_restart_20 : decode cX7_restart 20 = .ok (.aload_n 0, 1) := by decide +kernel
theorem dX7_restart_21 : decode cX7_restart 21 = .ok (.iconst 2, 1) := by decide +kernel
theorem dX7_restart_22 : decode cX7_restart 22 = .ok (.aload_n 0, 1) := by decide +kernel
theorem dX7_restart_23 : decode cX7_restart 23 = .ok (.iload_n 1, 1) := by decide +kernel
theorem dX7_restart_24 : decode cX7_restart 24 = .ok (.iconst 0, 1) := by decide +kernel
theorem dX7_restart_25 : decode cX7_restart 25 = .ok (.invokevirtual 38, 3) := by decide +kernel
theorem dX7_restart_28 : decode cX7_restart 28 = .ok (.iconst 1, 1) := by decide +kernel
theorem dX7_restart_29 : decode cX7_restart 29 = .ok (.if_icmp .ne 7, 3) := by decide +kernel
theorem dX7_restart_32 : decode cX7_restart 32 = .ok (.iconst 1, 1) := by decide +kernel
theorem dX7_restart_33 : decode cX7_restart 33 = .ok (.goto 4, 3) := by decide +kernel
theorem dX7_restart_36 : decode cX7_restart 36 = .ok (.iconst 0, 1) := by decide +kernel
theorem dX7_restart_37 : decode cX7_restart 37 = .ok (.invokevirtual 55, 3) := by decide +kernel
theorem dX7_restart_40 : decode cX7_restart 40 = .ok (.ifCond .eq 5, 3) := by decide +kernel
theorem dX7_restart_43 : decode cX7_restart 43 = .ok (.iconst 0, 1) := by decide +kernel
theorem dX7_restart_44 : decode cX7_restart 44 = .ok (.ireturn, 1) := by decide +kernel
theorem dX7_restart_45 : decode cX7_restart 45 = .ok (.aload_n 0, 1) := by decide +kernel
theorem dX7_restart_46 : decode cX7_restart 46 = .ok (.iload_n 1, 1) := by decide +kernel
theorem dX7_restart_47 : decode cX7_restart 47 = .ok (.iconst 0, 1) := by decide +kernel
theorem dX7_restart_48 : decode cX7_restart 48 = .ok (.iconst 1, 1) := by decide +kernel
theorem dX7_restart_49 : decode cX7_restart 49 = .ok (.invokevirtual 43, 3) := by decide +kernel
theorem dX7_restart_52 : decode cX7_restart 52 = .ok (.aload_n 0, 1) := by decide +kernel
theorem dX7_restart_53 : decode cX7_restart 53 = .ok (.iload_n 1, 1) := by decide +kernel
theorem dX7_restart_54 : decode cX7_restart 54 = .ok (.iconst 4, 1) := by decide +kernel
theorem dX7_restart_55 : decode cX7_restart 55 = .ok (.aload_n 0, 1) := by decide +kernel
theorem dX7_restart_56 : decode cX7_restart 56 = .ok (.iload_n 1, 1) := by decide +kernel
theorem dX7_restart_57 : decode cX7_restart 57 = .ok (.bipush 7, 2) := by decide +kernel
theorem dX7_restart_59 : decode cX7_restart 59 = .ok (.invokevirtual 38, 3) := by decide +kernel
theorem dX7_restart_62 : decode cX7_restart 62 = .ok (.invokevirtual 43, 3) := by decide +kernel
theorem dX7_restart_65 : decode cX7_restart 65 = .ok (.aload_n 0, 1) := by decide +kernel
theorem dX7_restart_66 : decode cX7_restart 66 = .ok (.iload_n 1, 1) := by decide +kernel
theorem dX7_restart_67 : decode cX7_restart 67 = .ok (.invokevirtual 47, 3) := by decide +kernel
theorem dX7_restart_70 : decode cX7_restart 70 = .ok (.aload_n 0, 1) := by decide +kernel
theorem dX7_restart_71 : decode cX7_restart 71 = .ok (.iload_n 1, 1) := by decide +kernel
theorem dX7_restart_72 : decode cX7_restart 72 = .ok (.invokevirtual 67, 3) := by decide +kernel
theorem dX7_restart_75 : decode cX7_restart 75 = .ok (.ireturn, 1) := by decide +kernel
theorem dX7_submit_0 : decode cX7_submit 0 = .ok (.aload_n 0, 1) := by decide +kernel
theorem dX7_submit_1 : decode cX7_submit 1 = .ok (.iconst 1, 1) := by decide +kernel
theorem dX7_submit_2 : decode cX7_submit 2 = .ok (.iload_n 1, 1) := by decide +kernel
theorem dX7_submit_3 : decode cX7_submit 3 = .ok (.invokestatic 185, 3) := by decide +kernel
theorem dX7_submit_6 : decode cX7_submit 6 = .ok (.ifCond .ne 7, 3) := by decide +kernel
theorem dX7_submit_9 : decode cX7_submit 9 = .ok (.iconst 1, 1) := by decide +kernel
theorem dX7_submit_10 : decode cX7_submit 10 = .ok (.goto 4, 3) := by decide +kernel
theorem dX7_submit_13 : decode cX7_submit 13 = .ok (.iconst 0, 1) := by decide +kernel
theorem dX7_submit_14 : decode cX7_submit 14 = .ok (.invokevirtual 55, 3) := by decide +kernel
theorem dX7_submit_17 : decode cX7_submit 17 = .ok (.ifCond .ne 51, 3) := by decide +kernel
theorem dX7_submit_20 : decode cX7_submit 20 = .ok (.aload_n 0, 1) := by decide +kernel
theorem dX7_submit_21 : decode cX7_submit 21 = .ok (.iconst 2, 1) := by decide +kernel
theorem dX7_submit_22 : decode cX7_submit 22 = .ok (.aload_n 0, 1) := by decide +kernel
theorem dX7_submit_23 : decode cX7_submit 23 = .ok (.iload_n 1, 1) := by decide +kernel
theorem dX7_submit_24 : decode cX7_submit 24 = .ok (.iconst 1, 1) := by decide +kernel
theorem dX7_submit_25 : decode cX7_submit 25 = .ok (.invokevirtual 38, 3) := by decide +kernel
theorem dX7_submit_28 : decode cX7_submit 28 = .ok (.iconst 2, 1) := by decide +kernel
theorem dX7_submit_29 : decode cX7_submit 29 = .ok (.if_icmp .eq 7, 3) := by decide +kernel
theorem dX7_submit_32 : decode cX7_submit 32 = .ok (.iconst 1, 1) := by decide +kernel
theorem dX7_submit_33 : decode cX7_submit 33 = .ok (.goto 4, 3) := by decide +kernel
theorem dX7_submit_36 : decode cX7_submit 36 = .ok (.iconst 0, 1) := by decide +kernel
theorem dX7_submit_37 : decode cX7_submit 37 = .ok (.invokevirtual 55, 3) := by decide +kernel
theorem dX7_submit_40 : decode cX7_submit 40 = .ok (.ifCond .ne 28, 3) := by decide +kernel
theorem dX7_submit_43 : decode cX7_submit 43 = .ok (.aload_n 0, 1) := by decide +kernel
theorem dX7_submit_44 : decode cX7_submit 44 = .ok (.iconst 3, 1) := by decide +kernel
theorem dX7_submit_45 : decode cX7_submit 45 = .ok (.aload_n 0, 1) := by decide +kernel
theorem dX7_submit_46 : decode cX7_submit 46 = .ok (.iload_n 1, 1) := by decide +kernel
theorem dX7_submit_47 : decode cX7_submit 47 = .ok (.bipush 12, 2) := by decide +kernel
theorem dX7_submit_49 : decode cX7_submit 49 = .ok (.invokevirtual 38, 3) := by decide +kernel
theorem dX7_submit_52 : decode cX7_submit 52 = .ok (.bipush 24, 2) := by decide +kernel
theorem dX7_submit_54 : decode cX7_submit 54 = .ok (.if_icmp .ne 7, 3) := by decide +kernel
theorem dX7_submit_57 : decode cX7_submit 57 = .ok (.iconst 1, 1) := by decide +kernel
theorem dX7_submit_58 : decode cX7_submit 58 = .ok (.goto 4, 3) := by decide +kernel
theorem dX7_submit_61 : decode cX7_submit 61 = .ok (.iconst 0, 1) := by decide +kernel
theorem dX7_submit_62 : decode cX7_submit 62 = .ok (.invokevirtual 55, 3) := by decide +kernel
theorem dX7_submit_65 : decode cX7_submit 65 = .ok (.ifCond .eq 5, 3) := by decide +kernel
theorem dX7_submit_68 : decode cX7_submit 68 = .ok (.iconst 0, 1) := by decide +kernel
theorem dX7_submit_69 : decode cX7_submit 69 = .ok (.ireturn, 1) := by decide +kernel
theorem dX7_submit_70 : decode cX7_submit 70 = .ok (.aload_n 0, 1) := by decide +kernel
theorem dX7_submit_71 : decode cX7_submit 71 = .ok (.iload_n 1, 1) := by decide +kernel
theorem dX7_submit_72 : decode cX7_submit 72 = .ok (.invokevirtual 67, 3) := by decide +kernel
theorem dX7_submit_75 : decode cX7_submit 75 = .ok (.iconst 1, 1) := by decide +kernel
theorem dX7_submit_76 : decode cX7_submit 76 = .ok (.iadd, 1) := by decide +kernel
theorem dX7_submit_77 : decode cX7_submit 77 = .ok (.istore_n 3, 1) := by decide +kernel
theorem dX7_submit_78 : decode cX7_submit 78 = .ok (.aload_n 0, 1) := by decide +kernel
theorem dX7_submit_79 : decode cX7_submit 79 = .ok (.iload_n 1, 1) := by decide +kernel
theorem dX7_submit_80 : decode cX7_submit 80 = .ok (.iconst 0, 1) := by decide +kernel
theorem dX7_submit_81 : decode cX7_submit 81 = .ok (.iload_n 2, 1) := by decide +kernel
theorem dX7_submit_82 : decode cX7_submit 82 = .ok (.invokevirtual 127, 3) := by decide +kernel
theorem dX7_submit_85 : decode cX7_submit 85 = .ok (.iload_n 3, 1) := by decide +kernel
theorem dX7_submit_86 : decode cX7_submit 86 = .ok (.ireturn, 1) := by decide +kernel
theorem dX7_canChange_0 : decode cX7_canChange 0 = .ok (.aload_n 0, 1) := by decide +kernel
theorem dX7_canChange_1 : decode cX7_canChange 1 = .ok (.iload_n 1, 1) := by decide +kernel
theorem dX7_canChange_2 : decode cX7_canChange 2 = .ok (.invokevirtual 73, 3) := by decide +kernel
theorem dX7_canChange_5 : decode cX7_canChange 5 = .ok (.istore_n 2, 1) := by decide +kernel
theorem dX7_canChange_6 : decode cX7_canChange 6 = .ok (.aload_n 0, 1) := by decide +kernel
theorem dX7_canChange_7 : decode cX7_canChange 7 = .ok (.iload_n 1, 1) := by decide +kernel
theorem dX7_canChange_8 : decode cX7_canChange 8 = .ok (.iconst 1, 1) := by decide +kernel
theorem dX7_canChange_9 : decode cX7_canChange 9 = .ok (.invokevirtual 38, 3) := by decide +kernel
theorem dX7_canChange_12 : decode cX7_canChange 12 = .ok (.iconst 2, 1) := by decide +kernel
theorem dX7_canChange_13 : decode cX7_canChange 13 = .ok (.if_icmp .ne 26, 3) := by decide +kernel
theorem dX7_canChange_16 : decode cX7_canChange 16 = .ok (.aload_n 0, 1) := by decide +kernel
theorem dX7_canChange_17 : decode cX7_canChange 17 = .ok (.iload_n 1, 1) := by decide +kernel
theorem dX7_canChange_18 : decode cX7_canChange 18 = .ok (.iload_n 2, 1) := by decide +kernel
theorem dX7_canChange_19 : decode cX7_canChange 19 = .ok (.invokevirtual 76, 3) := by decide +kernel
theorem dX7_canChange_22 : decode cX7_canChange 22 = .ok (.ifCond .ne 17, 3) := by decide +kernel
theorem dX7_canChange_25 : decode cX7_canChange 25 = .ok (.iload_n 2, 1) := by decide +kernel
theorem dX7_canChange_26 : decode cX7_canChange 26 = .ok (.aload_n 0, 1) := by decide +kernel
theorem dX7_canChange_27 : decode cX7_canChange 27 = .ok (.iload_n 1, 1) := by decide +kernel
theorem dX7_canChange_28 : decode cX7_canChange 28 = .ok (.iconst 4, 1) := by decide +kernel
theorem dX7_canChange_29 : decode cX7_canChange 29 = .ok (.invokevirtual 38, 3) := by decide +kernel
theorem dX7_canChange_32 : decode cX7_canChange 32 = .ok (.if_icmp .gt 7, 3) := by decide +kernel
theorem dX7_canChange_35 : decode cX7_canChange 35 = .ok (.iconst 1, 1) := by decide +kernel
theorem dX7_canChange_36 : decode cX7_canChange 36 = .ok (.goto 4, 3) := by decide +kernel
theorem dX7_canChange_39 : decode cX7_canChange 39 = .ok (.iconst 0, 1) := by decide +kernel
theorem dX7_canChange_40 : decode cX7_canChange 40 = .ok (.ireturn, 1) := by decide +kernel
theorem dX7_reconfigure_0 : decode cX7_reconfigure 0 = .ok (.aload_n 0, 1) := by decide +kernel
theorem dX7_reconfigure_1 : decode cX7_reconfigure 1 = .ok (.iconst 1, 1) := by decide +kernel
theorem dX7_reconfigure_2 : decode cX7_reconfigure 2 = .ok (.iload_n 1, 1) := by decide +kernel
theorem dX7_reconfigure_3 : decode cX7_reconfigure 3 = .ok (.invokestatic 185, 3) := by decide +kernel
theorem dX7_reconfigure_6 : decode cX7_reconfigure 6 = .ok (.ifCond .ne 7, 3) := by decide +kernel
theorem dX7_reconfigure_9 : decode cX7_reconfigure 9 = .ok (.iconst 1, 1) := by decide +kernel
theorem dX7_reconfigure_10 : decode cX7_reconfigure 10 = .ok (.goto 4, 3) := by decide +kernel
theorem dX7_reconfigure_13 : decode cX7_reconfigure 13 = .ok (.iconst 0, 1) := by decide +kernel
theorem dX7_reconfigure_14 : decode cX7_reconfigure 14 = .ok (.invokevirtual 55, 3) := by decide +kernel
theorem dX7_reconfigure_17 : decode cX7_reconfigure 17 = .ok (.ifCond .ne 69, 3) := by decide +kernel
theorem dX7_reconfigure_20 : decode cX7_reconfigure 20 = .ok (.aload_n 0, 1) := by decide +kernel
theorem dX7_reconfigure_21 : decode cX7_reconfigure 21 = .ok (.iconst 2, 1) := by decide +kernel
theorem dX7_reconfigure_22 : decode cX7_reconfigure 22 = .ok (.iload_n 2, 1) := by decide +kernel
theorem dX7_reconfigure_23 : decode cX7_reconfigure 23 = .ok (.invokestatic 51, 3) := by decide +kernel
theorem dX7_reconfigure_26 : decode cX7_reconfigure 26 = .ok (.ifCond .ne 7, 3) := by decide +kernel
theorem dX7_reconfigure_29 : decode cX7_reconfigure 29 = .ok (.iconst 1, 1) := by decide +kernel
theorem dX7_reconfigure_30 : decode cX7_reconfigure 30 = .ok (.goto 4, 3) := by decide +kernel
theorem dX7_reconfigure_33 : decode cX7_reconfigure 33 = .ok (.iconst 0, 1) := by decide +kernel
theorem dX7_reconfigure_34 : decode cX7_reconfigure 34 = .ok (.invokevirtual 55, 3) := by decide +kernel
theorem dX7_reconfigure_37 : decode cX7_reconfigure 37 = .ok (.ifCond .ne 49, 3) := by decide +kernel
theorem dX7_reconfigure_40 : decode cX7_reconfigure 40 = .ok (.aload_n 0, 1) := by decide +kernel
theorem dX7_reconfigure_41 : decode cX7_reconfigure 41 = .ok (.iconst 3, 1) := by decide +kernel
theorem dX7_reconfigure_42 : decode cX7_reconfigure 42 = .ok (.aload_n 0, 1) := by decide +kernel
theorem dX7_reconfigure_43 : decode cX7_reconfigure 43 = .ok (.iload_n 1, 1) := by decide +kernel
theorem dX7_reconfigure_44 : decode cX7_reconfigure 44 = .ok (.invokevirtual 188, 3) := by decide +kernel
theorem dX7_reconfigure_47 : decode cX7_reconfigure 47 = .ok (.ifCond .ne 7, 3) := by decide +kernel
theorem dX7_reconfigure_50 : decode cX7_reconfigure 50 = .ok (.iconst 1, 1) := by decide +kernel
theorem dX7_reconfigure_51 : decode cX7_reconfigure 51 = .ok (.goto 4, 3) := by decide +kernel
theorem dX7_reconfigure_54 : decode cX7_reconfigure 54 = .ok (.iconst 0, 1) := by decide +kernel
theorem dX7_reconfigure_55 : decode cX7_reconfigure 55 = .ok (.invokevirtual 55, 3) := by decide +kernel
theorem dX7_reconfigure_58 : decode cX7_reconfigure 58 = .ok (.ifCond .ne 28, 3) := by decide +kernel
theorem dX7_reconfigure_61 : decode cX7_reconfigure 61 = .ok (.aload_n 0, 1) := by decide +kernel
theorem dX7_reconfigure_62 : decode cX7_reconfigure 62 = .ok (.iconst 4, 1) := by decide +kernel
theorem dX7_reconfigure_63 : decode cX7_reconfigure 63 = .ok (.aload_n 0, 1) := by decide +kernel
theorem dX7_reconfigure_64 : decode cX7_reconfigure 64 = .ok (.iload_n 1, 1) := by decide +kernel
theorem dX7_reconfigure_65 : decode cX7_reconfigure 65 = .ok (.bipush 12, 2) := by decide +kernel
theorem dX7_reconfigure_67 : decode cX7_reconfigure 67 = .ok (.invokevirtual 38, 3) := by decide +kernel
theorem dX7_reconfigure_70 : decode cX7_reconfigure 70 = .ok (.bipush 24, 2) := by decide +kernel
theorem dX7_reconfigure_72 : decode cX7_reconfigure 72 = .ok (.if_icmp .ne 7, 3) := by decide +kernel
theorem dX7_reconfigure_75 : decode cX7_reconfigure 75 = .ok (.iconst 1, 1) := by decide +kernel
theorem dX7_reconfigure_76 : decode cX7_reconfigure 76 = .ok (.goto 4, 3) := by decide +kernel
theorem dX7_reconfigure_79 : decode cX7_reconfigure 79 = .ok (.iconst 0, 1) := by decide +kernel
theorem dX7_reconfigure_80 : decode cX7_reconfigure 80 = .ok (.invokevirtual 55, 3) := by decide +kernel
theorem dX7_reconfigure_83 : decode cX7_reconfigure 83 = .ok (.ifCond .eq 5, 3) := by decide +kernel
theorem dX7_reconfigure_86 : decode cX7_reconfigure 86 = .ok (.iconst 0, 1) := by decide +kernel
theorem dX7_reconfigure_87 : decode cX7_reconfigure 87 = .ok (.ireturn, 1) := by decide +kernel
theorem dX7_reconfigure_88 : decode cX7_reconfigure 88 = .ok (.aload_n 0, 1) := by decide +kernel
theorem dX7_reconfigure_89 : decode cX7_reconfigure 89 = .ok (.iload_n 1, 1) := by decide +kernel
theorem dX7_reconfigure_90 : decode cX7_reconfigure 90 = .ok (.invokevirtual 67, 3) := by decide +kernel
theorem dX7_reconfigure_93 : decode cX7_reconfigure 93 = .ok (.iconst 1, 1) := by decide +kernel
theorem dX7_reconfigure_94 : decode cX7_reconfigure 94 = .ok (.iadd, 1) := by decide +kernel
theorem dX7_reconfigure_95 : decode cX7_reconfigure 95 = .ok (.istore_n 3, 1) := by decide +kernel
theorem dX7_reconfigure_96 : decode cX7_reconfigure 96 = .ok (.aload_n 0, 1) := by decide +kernel
theorem dX7_reconfigure_97 : decode cX7_reconfigure 97 = .ok (.iload_n 1, 1) := by decide +kernel
theorem dX7_reconfigure_98 : decode cX7_reconfigure 98 = .ok (.iconst 1, 1) := by decide +kernel
theorem dX7_reconfigure_99 : decode cX7_reconfigure 99 = .ok (.bipush 32, 2) := by decide +kernel
theorem dX7_reconfigure_101 : decode cX7_reconfigure 101 = .ok (.aload_n 0, 1) := by decide +kernel
theorem dX7_reconfigure_102 : decode cX7_reconfigure 102 = .ok (.iload_n 1, 1) := by decide +kernel
theorem dX7_reconfigure_103 : decode cX7_reconfigure 103 = .ok (.aload_n 0, 1) := by decide +kernel
theorem dX7_reconfigure_104 : decode cX7_reconfigure 104 = .ok (.iload_n 1, 1) := by decide +kernel
theorem dX7_reconfigure_105 : decode cX7_reconfigure 105 = .ok (.invokevirtual 73, 3) := by decide +kernel
theorem dX7_reconfigure_108 : decode cX7_reconfigure 108 = .ok (.invokevirtual 79, 3) := by decide +kernel
theorem dX7_reconfigure_111 : decode cX7_reconfigure 111 = .ok (.imul, 1) := by decide +kernel
theorem dX7_reconfigure_112 : decode cX7_reconfigure 112 = .ok (.iload_n 2, 1) := by decide +kernel
theorem dX7_reconfigure_113 : decode cX7_reconfigure 113 = .ok (.iadd, 1) := by decide +kernel
theorem dX7_reconfigure_114 : decode cX7_reconfigure 114 = .ok (.invokevirtual 127, 3) := by decide +kernel
theorem dX7_reconfigure_117 : decode cX7_reconfigure 117 = .ok (.iload_n 3, 1) := by decide +kernel
theorem dX7_reconfigure_118 : decode cX7_reconfigure 118 = .ok (.ireturn, 1) := by decide +kernel
theorem dX7_pack_0 : decode cX7_pack 0 = .ok (.aload_n 0, 1) := by decide +kernel
theorem dX7_pack_1 : decode cX7_pack 1 = .ok (.iconst 1, 1) := by decide +kernel
theorem dX7_pack_2 : decode cX7_pack 2 = .ok (.iload_n 1, 1) := by decide +kernel
theorem dX7_pack_3 : decode cX7_pack 3 = .ok (.invokestatic 185, 3) := by decide +kernel
theorem dX7_pack_6 : decode cX7_pack 6 = .ok (.ifCond .ne 7, 3) := by decide +kernel
theorem dX7_pack_9 : decode cX7_pack 9 = .ok (.iconst 1, 1) := by decide +kernel
theorem dX7_pack_10 : decode cX7_pack 10 = .ok (.goto 4, 3) := by decide +kernel
theorem dX7_pack_13 : decode cX7_pack 13 = .ok (.iconst 0, 1) := by decide +kernel
theorem dX7_pack_14 : decode cX7_pack 14 = .ok (.invokevirtual 55, 3) := by decide +kernel
theorem dX7_pack_17 : decode cX7_pack 17 = .ok (.ifCond .ne 25, 3) := by decide +kernel
theorem dX7_pack_20 : decode cX7_pack 20 = .ok (.aload_n 0, 1) := by decide +kernel
theorem dX7_pack_21 : decode cX7_pack 21 = .ok (.iconst 2, 1) := by decide +kernel
theorem dX7_pack_22 : decode cX7_pack 22 = .ok (.aload_n 0, 1) := by decide +kernel
theorem dX7_pack_23 : decode cX7_pack 23 = .ok (.iload_n 1, 1) := by decide +kernel
theorem dX7_pack_24 : decode cX7_pack 24 = .ok (.iconst 0, 1) := by decide +kernel
theorem dX7_pack_25 : decode cX7_pack 25 = .ok (.invokevirtual 38, 3) := by decide +kernel
theorem dX7_pack_28 : decode cX7_pack 28 = .ok (.ifCond .ne 7, 3) := by decide +kernel
theorem dX7_pack_31 : decode cX7_pack 31 = .ok (.iconst 1, 1) := by decide +kernel
theorem dX7_pack_32 : decode cX7_pack 32 = .ok (.goto 4, 3) := by decide +kernel
theorem dX7_pack_35 : decode cX7_pack 35 = .ok (.iconst 0, 1) := by decide +kernel
theorem dX7_pack_36 : decode cX7_pack 36 = .ok (.invokevirtual 55, 3) := by decide +kernel
theorem dX7_pack_39 : decode cX7_pack 39 = .ok (.ifCond .eq 5, 3) := by decide +kernel
theorem dX7_pack_42 : decode cX7_pack 42 = .ok (.iconst 0, 1) := by decide +kernel
theorem dX7_pack_43 : decode cX7_pack 43 = .ok (.ireturn, 1) := by decide +kernel
theorem dX7_pack_44 : decode cX7_pack 44 = .ok (.aload_n 0, 1) := by decide +kernel
theorem dX7_pack_45 : decode cX7_pack 45 = .ok (.iload_n 1, 1) := by decide +kernel
theorem dX7_pack_46 : decode cX7_pack 46 = .ok (.iconst 4, 1) := by decide +kernel
theorem dX7_pack_47 : decode cX7_pack 47 = .ok (.invokevirtual 38, 3) := by decide +kernel
theorem dX7_pack_50 : decode cX7_pack 50 = .ok (.istore_n 2, 1) := by decide +kernel
theorem dX7_pack_51 : decode cX7_pack 51 = .ok (.iload_n 2, 1) := by decide +kernel
theorem dX7_pack_52 : decode cX7_pack 52 = .ok (.aload_n 0, 1) := by decide +kernel
theorem dX7_pack_53 : decode cX7_pack 53 = .ok (.iload_n 1, 1) := by decide +kernel
theorem dX7_pack_54 : decode cX7_pack 54 = .ok (.bipush 7, 2) := by decide +kernel
theorem dX7_pack_56 : decode cX7_pack 56 = .ok (.invokevirtual 38, 3) := by decide +kernel
theorem dX7_pack_59 : decode cX7_pack 59 = .ok (.isub, 1) := by decide +kernel
theorem dX7_pack_60 : decode cX7_pack 60 = .ok (.istore_n 3, 1) := by decide +kernel
theorem dX7_pack_61 : decode cX7_pack 61 = .ok (.aload_n 0, 1) := by decide +kernel
theorem dX7_pack_62 : decode cX7_pack 62 = .ok (.iload_n 1, 1) := by decide +kernel
theorem dX7_pack_63 : decode cX7_pack 63 = .ok (.iload_n 2, 1) := by decide +kernel
theorem dX7_pack_64 : decode cX7_pack 64 = .ok (.invokevirtual 70, 3) := by decide +kernel
theorem dX7_pack_67 : decode cX7_pack 67 = .ok (.istore 4, 2) := by decide +kernel
theorem dX7_pack_69 : decode cX7_pack 69 = .ok (.aload_n 0, 1) := by decide +kernel
theorem dX7_pack_70 : decode cX7_pack 70 = .ok (.iload_n 1, 1) := by decide +kernel
theorem dX7_pack_71 : decode cX7_pack 71 = .ok (.iload 4, 2) := by decide +kernel
theorem dX7_pack_73 : decode cX7_pack 73 = .ok (.invokevirtual 76, 3) := by decide +kernel
theorem dX7_pack_76 : decode cX7_pack 76 = .ok (.istore 5, 2) := by decide +kernel
theorem dX7_pack_78 : decode cX7_pack 78 = .ok (.aload_n 0, 1) := by decide +kernel
theorem dX7_pack_79 : decode cX7_pack 79 = .ok (.iload_n 1, 1) := by decide +kernel
theorem dX7_pack_80 : decode cX7_pack 80 = .ok (.iload 4, 2) := by decide +kernel
theorem dX7_pack_82 : decode cX7_pack 82 = .ok (.invokevirtual 79, 3) := by decide +kernel
theorem dX7_pack_85 : decode cX7_pack 85 = .ok (.istore 6, 2) := by decide +kernel
theorem dX7_pack_87 : decode cX7_pack 87 = .ok (.aload_n 0, 1) := by decide +kernel
theorem dX7_pack_88 : decode cX7_pack 88 = .ok (.iload_n 1, 1) := by decide +kernel
theorem dX7_pack_89 : decode cX7_pack 89 = .ok (.invokevirtual 191, 3) := by decide +kernel
theorem dX7_pack_92 : decode cX7_pack 92 = .ok (.istore 7, 2) := by decide +kernel
theorem dX7_pack_94 : decode cX7_pack 94 = .ok (.aload_n 0, 1) := by decide +kernel
theorem dX7_pack_95 : decode cX7_pack 95 = .ok (.iload_n 1, 1) := by decide +kernel
theorem dX7_pack_96 : decode cX7_pack 96 = .ok (.iload_n 2, 1) := by decide +kernel
theorem dX7_pack_97 : decode cX7_pack 97 = .ok (.invokevirtual 99, 3) := by decide +kernel
theorem dX7_pack_100 : decode cX7_pack 100 = .ok (.istore 8, 2) := by decide +kernel
theorem dX7_pack_102 : decode cX7_pack 102 = .ok (.aload_n 0, 1) := by decide +kernel
theorem dX7_pack_103 : decode cX7_pack 103 = .ok (.iload_n 1, 1) := by decide +kernel
theorem dX7_pack_104 : decode cX7_pack 104 = .ok (.iload_n 3, 1) := by decide +kernel
theorem dX7_pack_105 : decode cX7_pack 105 = .ok (.invokevirtual 142, 3) := by decide +kernel
theorem dX7_pack_108 : decode cX7_pack 108 = .ok (.aload_n 0, 1) := by decide +kernel
theorem dX7_pack_109 : decode cX7_pack 109 = .ok (.iload_n 1, 1) := by decide +kernel
theorem dX7_pack_110 : decode cX7_pack 110 = .ok (.bipush 7, 2) := by decide +kernel
theorem dX7_pack_112 : decode cX7_pack 112 = .ok (.iload_n 2, 1) := by decide +kernel
theorem dX7_pack_113 : decode cX7_pack 113 = .ok (.invokevirtual 43, 3) := by decide +kernel
theorem dX7_pack_116 : decode cX7_pack 116 = .ok (.aload_n 0, 1) := by decide +kernel
theorem dX7_pack_117 : decode cX7_pack 117 = .ok (.iload_n 1, 1) := by decide +kernel
theorem dX7_pack_118 : decode cX7_pack 118 = .ok (.bipush 8, 2) := by decide +kernel
theorem dX7_pack_120 : decode cX7_pack 120 = .ok (.iload 8, 2) := by decide +kernel
theorem dX7_pack_122 : decode cX7_pack 122 = .ok (.invokevirtual 43, 3) := by decide +kernel
theorem dX7_pack_125 : decode cX7_pack 125 = .ok (.aload_n 0, 1) := by decide +kernel
theorem dX7_pack_126 : decode cX7_pack 126 = .ok (.iload_n 1, 1) := by decide +kernel
theorem dX7_pack_127 : decode cX7_pack 127 = .ok (.bipush 9, 2) := by decide +kernel
theorem dX7_pack_129 : decode cX7_pack 129 = .ok (.iload 7, 2) := by decide +kernel
theorem dX7_pack_131 : decode cX7_pack 131 = .ok (.invokevirtual 43, 3) := by decide +kernel
theorem dX7_pack_134 : decode cX7_pack 134 = .ok (.aload_n 0, 1) := by decide +kernel
theorem dX7_pack_135 : decode cX7_pack 135 = .ok (.iload_n 1, 1) := by decide +kernel
theorem dX7_pack_136 : decode cX7_pack 136 = .ok (.bipush 10, 2) := by decide +kernel
theorem dX7_pack_138 : decode cX7_pack 138 = .ok (.iload 5, 2) := by decide +kernel
theorem dX7_pack_140 : decode cX7_pack 140 = .ok (.invokevirtual 43, 3) := by decide +kernel
theorem dX7_pack_143 : decode cX7_pack 143 = .ok (.aload_n 0, 1) := by decide +kernel
theorem dX7_pack_144 : decode cX7_pack 144 = .ok (.iload_n 1, 1) := by decide +kernel
theorem dX7_pack_145 : decode cX7_pack 145 = .ok (.bipush 11, 2) := by decide +kernel
theorem dX7_pack_147 : decode cX7_pack 147 = .ok (.iload 6, 2) := by decide +kernel
theorem dX7_pack_149 : decode cX7_pack 149 = .ok (.invokevirtual 43, 3) := by decide +kernel
theorem dX7_pack_152 : decode cX7_pack 152 = .ok (.iload_n 3, 1) := by decide +kernel
theorem dX7_pack_153 : decode cX7_pack 153 = .ok (.ireturn, 1) := by decide +kernel
theorem dX7_echoing_0 : decode cX7_echoing 0 = .ok (.aload_n 0, 1) := by decide +kernel
theorem dX7_echoing_1 : decode cX7_echoing 1 = .ok (.getfield 9, 3) := by decide +kernel
theorem dX7_echoing_4 : decode cX7_echoing 4 = .ok (.iconst 0, 1) := by decide +kernel
theorem dX7_echoing_5 : decode cX7_echoing 5 = .ok (.iaload, 1) := by decide +kernel
theorem dX7_echoing_6 : decode cX7_echoing 6 = .ok (.iload_n 2, 1) := by decide +kernel
theorem dX7_echoing_7 : decode cX7_echoing 7 = .ok (.if_icmp .lt 9, 3) := by decide +kernel
theorem dX7_echoing_10 : decode cX7_echoing 10 = .ok (.iconst 1, 1) := by decide +kernel
theorem dX7_echoing_11 : decode cX7_echoing 11 = .ok (.iload_n 1, 1) := by decide +kernel
theorem dX7_echoing_12 : decode cX7_echoing 12 = .ok (.ishl, 1) := by decide +kernel
theorem dX7_echoing_13 : decode cX7_echoing 13 = .ok (.goto 4, 3) := by decide +kernel
theorem dX7_echoing_16 : decode cX7_echoing 16 = .ok (.iconst 0, 1) := by decide +kernel
theorem dX7_echoing_17 : decode cX7_echoing 17 = .ok (.istore_n 3, 1) := by decide +kernel
theorem dX7_echoing_18 : decode cX7_echoing 18 = .ok (.iconst 0, 1) := by decide +kernel
theorem dX7_echoing_19 : decode cX7_echoing 19 = .ok (.istore 4, 2) := by decide +kernel
theorem dX7_echoing_21 : decode cX7_echoing 21 = .ok (.iload 4, 2) := by decide +kernel
theorem dX7_echoing_23 : decode cX7_echoing 23 = .ok (.iconst 5, 1) := by decide +kernel
theorem dX7_echoing_24 : decode cX7_echoing 24 = .ok (.if_icmp .ge 40, 3) := by decide +kernel
theorem dX7_echoing_27 : decode cX7_echoing 27 = .ok (.iload_n 3, 1) := by decide +kernel
theorem dX7_echoing_28 : decode cX7_echoing 28 = .ok (.iload 4, 2) := by decide +kernel
theorem dX7_echoing_30 : decode cX7_echoing 30 = .ok (.iload_n 1, 1) := by decide +kernel
theorem dX7_echoing_31 : decode cX7_echoing 31 = .ok (.if_icmp .eq 24, 3) := by decide +kernel
theorem dX7_echoing_34 : decode cX7_echoing 34 = .ok (.aload_n 0, 1) := by decide +kernel
theorem dX7_echoing_35 : decode cX7_echoing 35 = .ok (.iload_n 1, 1) := by decide +kernel
theorem dX7_echoing_36 : decode cX7_echoing 36 = .ok (.bipush 23, 2) := by decide +kernel
theorem dX7_echoing_38 : decode cX7_echoing 38 = .ok (.iload 4, 2) := by decide +kernel
theorem dX7_echoing_40 : decode cX7_echoing 40 = .ok (.iadd, 1) := by decide +kernel
theorem dX7_echoing_41 : decode cX7_echoing 41 = .ok (.invokevirtual 38, 3) := by decide +kernel
theorem dX7_echoing_44 : decode cX7_echoing 44 = .ok (.iload_n 2, 1) := by decide +kernel
theorem dX7_echoing_45 : decode cX7_echoing 45 = .ok (.if_icmp .lt 10, 3) := by decide +kernel
theorem dX7_echoing_48 : decode cX7_echoing 48 = .ok (.iconst 1, 1) := by decide +kernel
theorem dX7_echoing_49 : decode cX7_echoing 49 = .ok (.iload 4, 2) := by decide +kernel
theorem dX7_echoing_51 : decode cX7_echoing 51 = .ok (.ishl, 1) := by decide +kernel
theorem dX7_echoing_52 : decode cX7_echoing 52 = .ok (.goto 4, 3) := by decide +kernel
theorem dX7_echoing_55 : decode cX7_echoing 55 = .ok (.iconst 0, 1) := by decide +kernel
theorem dX7_echoing_56 : decode cX7_echoing 56 = .ok (.ior, 1) := by decide +kernel
theorem dX7_echoing_57 : decode cX7_echoing 57 = .ok (.istore_n 3, 1) := by decide +kernel
theorem dX7_echoing_58 : decode cX7_echoing 58 = .ok (.iinc 4 1, 3) := by decide +kernel
theorem dX7_echoing_61 : decode cX7_echoing 61 = .ok (.goto (-40), 3) := by decide +kernel
theorem dX7_echoing_64 : decode cX7_echoing 64 = .ok (.iload_n 3, 1) := by decide +kernel
theorem dX7_echoing_65 : decode cX7_echoing 65 = .ok (.ireturn, 1) := by decide +kernel
theorem dX7_lease_0 : decode cX7_lease 0 = .ok (.aload_n 0, 1) := by decide +kernel
theorem dX7_lease_1 : decode cX7_lease 1 = .ok (.getfield 9, 3) := by decide +kernel
theorem dX7_lease_4 : decode cX7_lease 4 = .ok (.iconst 0, 1) := by decide +kernel
theorem dX7_lease_5 : decode cX7_lease 5 = .ok (.iaload, 1) := by decide +kernel
theorem dX7_lease_6 : decode cX7_lease 6 = .ok (.istore_n 2, 1) := by decide +kernel
theorem dX7_lease_7 : decode cX7_lease 7 = .ok (.iload_n 2, 1) := by decide +kernel
theorem dX7_lease_8 : decode cX7_lease 8 = .ok (.ifCond .lt 28, 3) := by decide +kernel
theorem dX7_lease_11 : decode cX7_lease 11 = .ok (.aload_n 0, 1) := by decide +kernel
theorem dX7_lease_12 : decode cX7_lease 12 = .ok (.iload_n 1, 1) := by decide +kernel
theorem dX7_lease_13 : decode cX7_lease 13 = .ok (.aload_n 0, 1) := by decide +kernel
theorem dX7_lease_14 : decode cX7_lease 14 = .ok (.iload_n 1, 1) := by decide +kernel
theorem dX7_lease_15 : decode cX7_lease 15 = .ok (.iload_n 2, 1) := by decide +kernel
theorem dX7_lease_16 : decode cX7_lease 16 = .ok (.invokevirtual 194, 3) := by decide +kernel
theorem dX7_lease_19 : decode cX7_lease 19 = .ok (.invokevirtual 117, 3) := by decide +kernel
theorem dX7_lease_22 : decode cX7_lease 22 = .ok (.ifCond .eq 8, 3) := by decide +kernel
theorem dX7_lease_25 : decode cX7_lease 25 = .ok (.bipush 6, 2) := by decide +kernel
theorem dX7_lease_27 : decode cX7_lease 27 = .ok (.iload_n 2, 1) := by decide +kernel
theorem dX7_lease_28 : decode cX7_lease 28 = .ok (.iadd, 1) := by decide +kernel
theorem dX7_lease_29 : decode cX7_lease 29 = .ok (.ireturn, 1) := by decide +kernel
theorem dX7_lease_30 : decode cX7_lease 30 = .ok (.iinc 2 (-1), 3) := by decide +kernel
theorem dX7_lease_33 : decode cX7_lease 33 = .ok (.goto (-26), 3) := by decide +kernel
theorem dX7_lease_36 : decode cX7_lease 36 = .ok (.iconst (-1), 1) := by decide +kernel
theorem dX7_lease_37 : decode cX7_lease 37 = .ok (.ireturn, 1) := by decide +kernel
theorem dX7_canAnswer_0 : decode cX7_canAnswer 0 = .ok (.aload_n 0, 1) := by decide +kernel
theorem dX7_canAnswer_1 : decode cX7_canAnswer 1 = .ok (.getfield 9, 3) := by decide +kernel
theorem dX7_canAnswer_4 : decode cX7_canAnswer 4 = .ok (.iconst 0, 1) := by decide +kernel
theorem dX7_canAnswer_5 : decode cX7_canAnswer 5 = .ok (.iaload, 1) := by decide +kernel
theorem dX7_canAnswer_6 : decode cX7_canAnswer 6 = .ok (.aload_n 0, 1) := by decide +kernel
theorem dX7_canAnswer_7 : decode cX7_canAnswer 7 = .ok (.iload_n 1, 1) := by decide +kernel
theorem dX7_canAnswer_8 : decode cX7_canAnswer 8 = .ok (.invokevirtual 197, 3) := by decide +kernel
theorem dX7_canAnswer_11 : decode cX7_canAnswer 11 = .ok (.if_icmp .ge 27, 3) := by decide +kernel
theorem dX7_canAnswer_14 : decode cX7_canAnswer 14 = .ok (.aload_n 0, 1) := by decide +kernel
theorem dX7_canAnswer_15 : decode cX7_canAnswer 15 = .ok (.iload_n 1, 1) := by decide +kernel
theorem dX7_canAnswer_16 : decode cX7_canAnswer 16 = .ok (.aload_n 0, 1) := by decide +kernel
theorem dX7_canAnswer_17 : decode cX7_canAnswer 17 = .ok (.iload_n 1, 1) := by decide +kernel
theorem dX7_canAnswer_18 : decode cX7_canAnswer 18 = .ok (.iconst 4, 1) := by decide +kernel
theorem dX7_canAnswer_19 : decode cX7_canAnswer 19 = .ok (.invokevirtual 38, 3) := by decide +kernel
theorem dX7_canAnswer_22 : decode cX7_canAnswer 22 = .ok (.invokevirtual 99, 3) := by decide +kernel
theorem dX7_canAnswer_25 : decode cX7_canAnswer 25 = .ok (.aload_n 0, 1) := by decide +kernel
theorem dX7_canAnswer_26 : decode cX7_canAnswer 26 = .ok (.iload_n 1, 1) := by decide +kernel
theorem dX7_canAnswer_27 : decode cX7_canAnswer 27 = .ok (.iconst 2, 1) := by decide +kernel
theorem dX7_canAnswer_28 : decode cX7_canAnswer 28 = .ok (.invokevirtual 38, 3) := by decide +kernel
theorem dX7_canAnswer_31 : decode cX7_canAnswer 31 = .ok (.if_icmp .ne 7, 3) := by decide +kernel
theorem dX7_canAnswer_34 : decode cX7_canAnswer 34 = .ok (.iconst 1, 1) := by decide +kernel
theorem dX7_canAnswer_35 : decode cX7_canAnswer 35 = .ok (.goto 4, 3) := by decide +kernel
theorem dX7_canAnswer_38 : decode cX7_canAnswer 38 = .ok (.iconst 0, 1) := by decide +kernel
theorem dX7_canAnswer_39 : decode cX7_canAnswer 39 = .ok (.ireturn, 1) := by decide +kernel
theorem dX7_read_0 : decode cX7_read 0 = .ok (.aload_n 0, 1) := by decide +kernel
theorem dX7_read_1 : decode cX7_read 1 = .ok (.iconst 1, 1) := by decide +kernel
theorem dX7_read_2 : decode cX7_read 2 = .ok (.iload_n 1, 1) := by decide +kernel
theorem dX7_read_3 : decode cX7_read 3 = .ok (.invokestatic 185, 3) := by decide +kernel
theorem dX7_read_6 : decode cX7_read 6 = .ok (.ifCond .ne 7, 3) := by decide +kernel
theorem dX7_read_9 : decode cX7_read 9 = .ok (.iconst 1, 1) := by decide +kernel
theorem dX7_read_10 : decode cX7_read 10 = .ok (.goto 4, 3) := by decide +kernel
theorem dX7_read_13 : decode cX7_read 13 = .ok (.iconst 0, 1) := by decide +kernel
theorem dX7_read_14 : decode cX7_read 14 = .ok (.invokevirtual 55, 3) := by decide +kernel
theorem dX7_read_17 : decode cX7_read 17 = .ok (.ifCond .ne 47, 3) := by decide +kernel
theorem dX7_read_20 : decode cX7_read 20 = .ok (.aload_n 0, 1) := by decide +kernel
theorem dX7_read_21 : decode cX7_read 21 = .ok (.iconst 2, 1) := by decide +kernel
theorem dX7_read_22 : decode cX7_read 22 = .ok (.aload_n 0, 1) := by decide +kernel
theorem dX7_read_23 : decode cX7_read 23 = .ok (.iload_n 1, 1) := by decide +kernel
theorem dX7_read_24 : decode cX7_read 24 = .ok (.iconst 1, 1) := by decide +kernel
theorem dX7_read_25 : decode cX7_read 25 = .ok (.invokevirtual 38, 3) := by decide +kernel
theorem dX7_read_28 : decode cX7_read 28 = .ok (.iconst 2, 1) := by decide +kernel
theorem dX7_read_29 : decode cX7_read 29 = .ok (.if_icmp .eq 7, 3) := by decide +kernel
theorem dX7_read_32 : decode cX7_read 32 = .ok (.iconst 1, 1) := by decide +kernel
theorem dX7_read_33 : decode cX7_read 33 = .ok (.goto 4, 3) := by decide +kernel
theorem dX7_read_36 : decode cX7_read 36 = .ok (.iconst 0, 1) := by decide +kernel
theorem dX7_read_37 : decode cX7_read 37 = .ok (.invokevirtual 55, 3) := by decide +kernel
theorem dX7_read_40 : decode cX7_read 40 = .ok (.ifCond .ne 24, 3) := by decide +kernel
theorem dX7_read_43 : decode cX7_read 43 = .ok (.aload_n 0, 1) := by decide +kernel
theorem dX7_read_44 : decode cX7_read 44 = .ok (.iconst 3, 1) := by decide +kernel
theorem dX7_read_45 : decode cX7_read 45 = .ok (.aload_n 0, 1) := by decide +kernel
theorem dX7_read_46 : decode cX7_read 46 = .ok (.iload_n 1, 1) := by decide +kernel
theorem dX7_read_47 : decode cX7_read 47 = .ok (.invokevirtual 200, 3) := by decide +kernel
theorem dX7_read_50 : decode cX7_read 50 = .ok (.ifCond .ne 7, 3) := by decide +kernel
theorem dX7_read_53 : decode cX7_read 53 = .ok (.iconst 1, 1) := by decide +kernel
theorem dX7_read_54 : decode cX7_read 54 = .ok (.goto 4, 3) := by decide +kernel
theorem dX7_read_57 : decode cX7_read 57 = .ok (.iconst 0, 1) := by decide +kernel
theorem dX7_read_58 : decode cX7_read 58 = .ok (.invokevirtual 55, 3) := by decide +kernel
theorem dX7_read_61 : decode cX7_read 61 = .ok (.ifCond .eq 5, 3) := by decide +kernel
theorem dX7_read_64 : decode cX7_read 64 = .ok (.iconst 0, 1) := by decide +kernel
theorem dX7_read_65 : decode cX7_read 65 = .ok (.ireturn, 1) := by decide +kernel
theorem dX7_read_66 : decode cX7_read 66 = .ok (.aload_n 0, 1) := by decide +kernel
theorem dX7_read_67 : decode cX7_read 67 = .ok (.iload_n 1, 1) := by decide +kernel
theorem dX7_read_68 : decode cX7_read 68 = .ok (.invokevirtual 191, 3) := by decide +kernel
theorem dX7_read_71 : decode cX7_read 71 = .ok (.ireturn, 1) := by decide +kernel
theorem dX7_node_0 : decode cX7_node 0 = .ok (.aload_n 0, 1) := by decide +kernel
theorem dX7_node_1 : decode cX7_node 1 = .ok (.iconst 1, 1) := by decide +kernel
theorem dX7_node_2 : decode cX7_node 2 = .ok (.iload_n 1, 1) := by decide +kernel
theorem dX7_node_3 : decode cX7_node 3 = .ok (.invokestatic 185, 3) := by decide +kernel
theorem dX7_node_6 : decode cX7_node 6 = .ok (.ifCond .ne 7, 3) := by decide +kernel
theorem dX7_node_9 : decode cX7_node 9 = .ok (.iconst 1, 1) := by decide +kernel
theorem dX7_node_10 : decode cX7_node 10 = .ok (.goto 4, 3) := by decide +kernel
theorem dX7_node_13 : decode cX7_node 13 = .ok (.iconst 0, 1) := by decide +kernel
theorem dX7_node_14 : decode cX7_node 14 = .ok (.invokevirtual 55, 3) := by decide +kernel
theorem dX7_node_17 : decode cX7_node 17 = .ok (.ifCond .ne 26, 3) := by decide +kernel
theorem dX7_node_20 : decode cX7_node 20 = .ok (.aload_n 0, 1) := by decide +kernel
theorem dX7_node_21 : decode cX7_node 21 = .ok (.iconst 2, 1) := by decide +kernel
theorem dX7_node_22 : decode cX7_node 22 = .ok (.iload_n 2, 1) := by decide +kernel
theorem dX7_node_23 : decode cX7_node 23 = .ok (.iconst 0, 1) := by decide +kernel
theorem dX7_node_24 : decode cX7_node 24 = .ok (.bipush 13, 2) := by decide +kernel
theorem dX7_node_26 : decode cX7_node 26 = .ok (.invokestatic 34, 3) := by decide +kernel
theorem dX7_node_29 : decode cX7_node 29 = .ok (.ifCond .ne 7, 3) := by decide +kernel
theorem dX7_node_32 : decode cX7_node 32 = .ok (.iconst 1, 1) := by decide +kernel
theorem dX7_node_33 : decode cX7_node 33 = .ok (.goto 4, 3) := by decide +kernel
theorem dX7_node_36 : decode cX7_node 36 = .ok (.iconst 0, 1) := by decide +kernel
theorem dX7_node_37 : decode cX7_node 37 = .ok (.invokevirtual 55, 3) := by decide +kernel
theorem dX7_node_40 : decode cX7_node 40 = .ok (.ifCond .eq 5, 3) := by decide +kernel
theorem dX7_node_43 : decode cX7_node 43 = .ok (.iconst 0, 1) := by decide +kernel
theorem dX7_node_44 : decode cX7_node 44 = .ok (.ireturn, 1) := by decide +kernel
theorem dX7_node_45 : decode cX7_node 45 = .ok (.iload_n 2, 1) := by decide +kernel
theorem dX7_node_46 : decode cX7_node 46 = .ok (.tableswitch 152 5 13 #[50, 56, 67, 75, 81, 88, 99, 110, 130], 50) := by decide +kernel
theorem dX7_node_96 : decode cX7_node 96 = .ok (.aload_n 0, 1) := by decide +kernel
theorem dX7_node_97 : decode cX7_node 97 = .ok (.iload_n 1, 1) := by decide +kernel
theorem dX7_node_98 : decode cX7_node 98 = .ok (.invokevirtual 67, 3) := by decide +kernel
theorem dX7_node_101 : decode cX7_node 101 = .ok (.ireturn, 1) := by decide +kernel
theorem dX7_node_102 : decode cX7_node 102 = .ok (.aload_n 0, 1) := by decide +kernel
theorem dX7_node_103 : decode cX7_node 103 = .ok (.iload_n 1, 1) := by decide +kernel
theorem dX7_node_104 : decode cX7_node 104 = .ok (.aload_n 0, 1) := by decide +kernel
theorem dX7_node_105 : decode cX7_node 105 = .ok (.iload_n 1, 1) := by decide +kernel
theorem dX7_node_106 : decode cX7_node 106 = .ok (.invokevirtual 67, 3) := by decide +kernel
theorem dX7_node_109 : decode cX7_node 109 = .ok (.invokevirtual 99, 3) := by decide +kernel
theorem dX7_node_112 : decode cX7_node 112 = .ok (.ireturn, 1) := by decide +kernel
theorem dX7_node_113 : decode cX7_node 113 = .ok (.aload_n 0, 1) := by decide +kernel
theorem dX7_node_114 : decode cX7_node 114 = .ok (.iload_n 1, 1) := by decide +kernel
theorem dX7_node_115 : decode cX7_node 115 = .ok (.bipush 7, 2) := by decide +kernel
theorem dX7_node_117 : decode cX7_node 117 = .ok (.invokevirtual 38, 3) := by decide +kernel
theorem dX7_node_120 : decode cX7_node 120 = .ok (.ireturn, 1) := by decide +kernel
theorem dX7_node_121 : decode cX7_node 121 = .ok (.aload_n 0, 1) := by decide +kernel
theorem dX7_node_122 : decode cX7_node 122 = .ok (.iload_n 1, 1) := by decide +kernel
theorem dX7_node_123 : decode cX7_node 123 = .ok (.invokevirtual 191, 3) := by decide +kernel
theorem dX7_node_126 : decode cX7_node 126 = .ok (.ireturn, 1) := by decide +kernel
theorem dX7_node_127 : decode cX7_node 127 = .ok (.aload_n 0, 1) := by decide +kernel
theorem dX7_node_128 : decode cX7_node 128 = .ok (.iload_n 1, 1) := by decide +kernel
theorem dX7_node_129 : decode cX7_node 129 = .ok (.iconst 5, 1) := by decide +kernel
theorem dX7_node_130 : decode cX7_node 130 = .ok (.invokevirtual 38, 3) := by decide +kernel
theorem dX7_node_133 : decode cX7_node 133 = .ok (.ireturn, 1) := by decide +kernel
theorem dX7_node_134 : decode cX7_node 134 = .ok (.aload_n 0, 1) := by decide +kernel
theorem dX7_node_135 : decode cX7_node 135 = .ok (.iload_n 1, 1) := by decide +kernel
theorem dX7_node_136 : decode cX7_node 136 = .ok (.aload_n 0, 1) := by decide +kernel
theorem dX7_node_137 : decode cX7_node 137 = .ok (.iload_n 1, 1) := by decide +kernel
theorem dX7_node_138 : decode cX7_node 138 = .ok (.invokevirtual 73, 3) := by decide +kernel
theorem dX7_node_141 : decode cX7_node 141 = .ok (.invokevirtual 76, 3) := by decide +kernel
theorem dX7_node_144 : decode cX7_node 144 = .ok (.ireturn, 1) := by decide +kernel
theorem dX7_node_145 : decode cX7_node 145 = .ok (.aload_n 0, 1) := by decide +kernel
theorem dX7_node_146 : decode cX7_node 146 = .ok (.iload_n 1, 1) := by decide +kernel
theorem dX7_node_147 : decode cX7_node 147 = .ok (.aload_n 0, 1) := by decide +kernel
theorem dX7_node_148 : decode cX7_node 148 = .ok (.iload_n 1, 1) := by decide +kernel
theorem dX7_node_149 : decode cX7_node 149 = .ok (.invokevirtual 73, 3) := by decide +kernel
theorem dX7_node_152 : decode cX7_node 152 = .ok (.invokevirtual 79, 3) := by decide +kernel
theorem dX7_node_155 : decode cX7_node 155 = .ok (.ireturn, 1) := by decide +kernel
theorem dX7_node_156 : decode cX7_node 156 = .ok (.aload_n 0, 1) := by decide +kernel
theorem dX7_node_157 : decode cX7_node 157 = .ok (.iload_n 1, 1) := by decide +kernel
theorem dX7_node_158 : decode cX7_node 158 = .ok (.iconst 1, 1) := by decide +kernel
theorem dX7_node_159 : decode cX7_node 159 = .ok (.invokevirtual 38, 3) := by decide +kernel
theorem dX7_node_162 : decode cX7_node 162 = .ok (.iconst 2, 1) := by decide +kernel
theorem dX7_node_163 : decode cX7_node 163 = .ok (.if_icmp .ne 11, 3) := by decide +kernel
theorem dX7_node_166 : decode cX7_node 166 = .ok (.aload_n 0, 1) := by decide +kernel
theorem dX7_node_167 : decode cX7_node 167 = .ok (.iload_n 1, 1) := by decide +kernel
theorem dX7_node_168 : decode cX7_node 168 = .ok (.invokevirtual 197, 3) := by decide +kernel
theorem dX7_node_171 : decode cX7_node 171 = .ok (.goto 4, 3) := by decide +kernel
theorem dX7_node_174 : decode cX7_node 174 = .ok (.iconst (-1), 1) := by decide +kernel
theorem dX7_node_175 : decode cX7_node 175 = .ok (.ireturn, 1) := by decide +kernel
theorem dX7_node_176 : decode cX7_node 176 = .ok (.aload_n 0, 1) := by decide +kernel
theorem dX7_node_177 : decode cX7_node 177 = .ok (.iload_n 1, 1) := by decide +kernel
theorem dX7_node_178 : decode cX7_node 178 = .ok (.iconst 1, 1) := by decide +kernel
theorem dX7_node_179 : decode cX7_node 179 = .ok (.invokevirtual 38, 3) := by decide +kernel
theorem dX7_node_182 : decode cX7_node 182 = .ok (.iconst 1, 1) := by decide +kernel
theorem dX7_node_183 : decode cX7_node 183 = .ok (.if_icmp .ne 13, 3) := by decide +kernel
theorem dX7_node_186 : decode cX7_node 186 = .ok (.aload_n 0, 1) := by decide +kernel
theorem dX7_node_187 : decode cX7_node 187 = .ok (.iload_n 1, 1) := by decide +kernel
theorem dX7_node_188 : decode cX7_node 188 = .ok (.bipush 6, 2) := by decide +kernel
theorem dX7_node_190 : decode cX7_node 190 = .ok (.invokevirtual 38, 3) := by decide +kernel
theorem dX7_node_193 : decode cX7_node 193 = .ok (.goto 4, 3) := by decide +kernel
theorem dX7_node_196 : decode cX7_node 196 = .ok (.iconst 0, 1) := by decide +kernel
theorem dX7_node_197 : decode cX7_node 197 = .ok (.ireturn, 1) := by decide +kernel
theorem dX7_node_198 : decode cX7_node 198 = .ok (.aload_n 0, 1) := by decide +kernel
theorem dX7_node_199 : decode cX7_node 199 = .ok (.iload_n 1, 1) := by decide +kernel
theorem dX7_node_200 : decode cX7_node 200 = .ok (.iload_n 2, 1) := by decide +kernel
theorem dX7_node_201 : decode cX7_node 201 = .ok (.invokevirtual 38, 3) := by decide +kernel
theorem dX7_node_204 : decode cX7_node 204 = .ok (.ireturn, 1) := by decide +kernel
theorem dX7_noted_0 : decode cX7_noted 0 = .ok (.aload_n 0, 1) := by decide +kernel
theorem dX7_noted_1 : decode cX7_noted 1 = .ok (.iconst 1, 1) := by decide +kernel
theorem dX7_noted_2 : decode cX7_noted 2 = .ok (.iload_n 1, 1) := by decide +kernel
theorem dX7_noted_3 : decode cX7_noted 3 = .ok (.invokestatic 185, 3) := by decide +kernel
theorem dX7_noted_6 : decode cX7_noted 6 = .ok (.ifCond .eq 10, 3) := by decide +kernel
theorem dX7_noted_9 : decode cX7_noted 9 = .ok (.iload_n 2, 1) := by decide +kernel
theorem dX7_noted_10 : decode cX7_noted 10 = .ok (.invokestatic 185, 3) := by decide +kernel
theorem dX7_noted_13 : decode cX7_noted 13 = .ok (.ifCond .ne 7, 3) := by decide +kernel
theorem dX7_noted_16 : decode cX7_noted 16 = .ok (.iconst 1, 1) := by decide +kernel
theorem dX7_noted_17 : decode cX7_noted 17 = .ok (.goto 4, 3) := by decide +kernel
theorem dX7_noted_20 : decode cX7_noted 20 = .ok (.iconst 0, 1) := by decide +kernel
theorem dX7_noted_21 : decode cX7_noted 21 = .ok (.invokevirtual 55, 3) := by decide +kernel
theorem dX7_noted_24 : decode cX7_noted 24 = .ok (.ifCond .ne 53, 3) := by decide +kernel
theorem dX7_noted_27 : decode cX7_noted 27 = .ok (.aload_n 0, 1) := by decide +kernel
theorem dX7_noted_28 : decode cX7_noted 28 = .ok (.iconst 2, 1) := by decide +kernel
theorem dX7_noted_29 : decode cX7_noted 29 = .ok (.iload_n 1, 1) := by decide +kernel
theorem dX7_noted_30 : decode cX7_noted 30 = .ok (.iload_n 2, 1) := by decide +kernel
theorem dX7_noted_31 : decode cX7_noted 31 = .ok (.if_icmp .eq 12, 3) := by decide +kernel
theorem dX7_noted_34 : decode cX7_noted 34 = .ok (.iload_n 3, 1) := by decide +kernel
theorem dX7_noted_35 : decode cX7_noted 35 = .ok (.iconst 0, 1) := by decide +kernel
theorem dX7_noted_36 : decode cX7_noted 36 = .ok (.iconst 2, 1) := by decide +kernel
theorem dX7_noted_37 : decode cX7_noted 37 = .ok (.invokestatic 34, 3) := by decide +kernel
theorem dX7_noted_40 : decode cX7_noted 40 = .ok (.ifCond .ne 7, 3) := by decide +kernel
theorem dX7_noted_43 : decode cX7_noted 43 = .ok (.iconst 1, 1) := by decide +kernel
theorem dX7_noted_44 : decode cX7_noted 44 = .ok (.goto 4, 3) := by decide +kernel
theorem dX7_noted_47 : decode cX7_noted 47 = .ok (.iconst 0, 1) := by decide +kernel
theorem dX7_noted_48 : decode cX7_noted 48 = .ok (.invokevirtual 55, 3) := by decide +kernel
theorem dX7_noted_51 : decode cX7_noted 51 = .ok (.ifCond .ne 26, 3) := by decide +kernel
theorem dX7_noted_54 : decode cX7_noted 54 = .ok (.aload_n 0, 1) := by decide +kernel
theorem dX7_noted_55 : decode cX7_noted 55 = .ok (.iconst 3, 1) := by decide +kernel
theorem dX7_noted_56 : decode cX7_noted 56 = .ok (.aload_n 0, 1) := by decide +kernel
theorem dX7_noted_57 : decode cX7_noted 57 = .ok (.iload_n 1, 1) := by decide +kernel
theorem dX7_noted_58 : decode cX7_noted 58 = .ok (.iconst 1, 1) := by decide +kernel
theorem dX7_noted_59 : decode cX7_noted 59 = .ok (.invokevirtual 38, 3) := by decide +kernel
theorem dX7_noted_62 : decode cX7_noted 62 = .ok (.iconst 2, 1) := by decide +kernel
theorem dX7_noted_63 : decode cX7_noted 63 = .ok (.if_icmp .eq 7, 3) := by decide +kernel
theorem dX7_noted_66 : decode cX7_noted 66 = .ok (.iconst 1, 1) := by decide +kernel
theorem dX7_noted_67 : decode cX7_noted 67 = .ok (.goto 4, 3) := by decide +kernel
theorem dX7_noted_70 : decode cX7_noted 70 = .ok (.iconst 0, 1) := by decide +kernel
theorem dX7_noted_71 : decode cX7_noted 71 = .ok (.invokevirtual 55, 3) := by decide +kernel
theorem dX7_noted_74 : decode cX7_noted 74 = .ok (.ifCond .eq 5, 3) := by decide +kernel
theorem dX7_noted_77 : decode cX7_noted 77 = .ok (.iconst 0, 1) := by decide +kernel
theorem dX7_noted_78 : decode cX7_noted 78 = .ok (.ireturn, 1) := by decide +kernel
theorem dX7_noted_79 : decode cX7_noted 79 = .ok (.aload_n 0, 1) := by decide +kernel
theorem dX7_noted_80 : decode cX7_noted 80 = .ok (.iload_n 1, 1) := by decide +kernel
theorem dX7_noted_81 : decode cX7_noted 81 = .ok (.iload_n 3, 1) := by decide +kernel
theorem dX7_noted_82 : decode cX7_noted 82 = .ok (.ifCond .ne 8, 3) := by decide +kernel
theorem dX7_noted_85 : decode cX7_noted 85 = .ok (.bipush 13, 2) := by decide +kernel
theorem dX7_noted_87 : decode cX7_noted 87 = .ok (.goto 15, 3) := by decide +kernel
theorem dX7_noted_90 : decode cX7_noted 90 = .ok (.iload_n 3, 1) := by decide +kernel
theorem dX7_noted_91 : decode cX7_noted 91 = .ok (.iconst 1, 1) := by decide +kernel
theorem dX7_noted_92 : decode cX7_noted 92 = .ok (.if_icmp .ne 8, 3) := by decide +kernel
theorem dX7_noted_95 : decode cX7_noted 95 = .ok (.bipush 18, 2) := by decide +kernel
theorem dX7_noted_97 : decode cX7_noted 97 = .ok (.goto 5, 3) := by decide +kernel
theorem dX7_noted_100 : decode cX7_noted 100 = .ok (.bipush 23, 2) := by decide +kernel
theorem dX7_noted_102 : decode cX7_noted 102 = .ok (.iload_n 2, 1) := by decide +kernel
theorem dX7_noted_103 : decode cX7_noted 103 = .ok (.iadd, 1) := by decide +kernel
theorem dX7_noted_104 : decode cX7_noted 104 = .ok (.invokevirtual 38, 3) := by decide +kernel
theorem dX7_noted_107 : decode cX7_noted 107 = .ok (.ireturn, 1) := by decide +kernel
theorem dX7_entry_0 : decode cX7_entry 0 = .ok (.iload_n 1, 1) := by decide +kernel
theorem dX7_entry_1 : decode cX7_entry 1 = .ok (.invokestatic 185, 3) := by decide +kernel
theorem dX7_entry_4 : decode cX7_entry 4 = .ok (.ifCond .eq 28, 3) := by decide +kernel
theorem dX7_entry_7 : decode cX7_entry 7 = .ok (.iload_n 2, 1) := by decide +kernel
theorem dX7_entry_8 : decode cX7_entry 8 = .ok (.aload_n 0, 1) := by decide +kernel
theorem dX7_entry_9 : decode cX7_entry 9 = .ok (.iload_n 1, 1) := by decide +kernel
theorem dX7_entry_10 : decode cX7_entry 10 = .ok (.bipush 7, 2) := by decide +kernel
theorem dX7_entry_12 : decode cX7_entry 12 = .ok (.invokevirtual 38, 3) := by decide +kernel
theorem dX7_entry_15 : decode cX7_entry 15 = .ok (.iconst 1, 1) := by decide +kernel
theorem dX7_entry_16 : decode cX7_entry 16 = .ok (.iadd, 1) := by decide +kernel
theorem dX7_entry_17 : decode cX7_entry 17 = .ok (.aload_n 0, 1) := by decide +kernel
theorem dX7_entry_18 : decode cX7_entry 18 = .ok (.iload_n 1, 1) := by decide +kernel
theorem dX7_entry_19 : decode cX7_entry 19 = .ok (.invokevirtual 67, 3) := by decide +kernel
theorem dX7_entry_22 : decode cX7_entry 22 = .ok (.invokestatic 34, 3) := by decide +kernel
theorem dX7_entry_25 : decode cX7_entry 25 = .ok (.ifCond .eq 7, 3) := by decide +kernel
theorem dX7_entry_28 : decode cX7_entry 28 = .ok (.iconst 1, 1) := by decide +kernel
theorem dX7_entry_29 : decode cX7_entry 29 = .ok (.goto 4, 3) := by decide +kernel
theorem dX7_entry_32 : decode cX7_entry 32 = .ok (.iconst 0, 1) := by decide +kernel
theorem dX7_entry_33 : decode cX7_entry 33 = .ok (.istore 4, 2) := by decide +kernel
theorem dX7_entry_35 : decode cX7_entry 35 = .ok (.aload_n 0, 1) := by decide +kernel
theorem dX7_entry_36 : decode cX7_entry 36 = .ok (.iconst 1, 1) := by decide +kernel
theorem dX7_entry_37 : decode cX7_entry 37 = .ok (.iload 4, 2) := by decide +kernel
theorem dX7_entry_39 : decode cX7_entry 39 = .ok (.ifCond .ne 7, 3) := by decide +kernel
theorem dX7_entry_42 : decode cX7_entry 42 = .ok (.iconst 1, 1) := by decide +kernel
theorem dX7_entry_43 : decode cX7_entry 43 = .ok (.goto 4, 3) := by decide +kernel
theorem dX7_entry_46 : decode cX7_entry 46 = .ok (.iconst 0, 1) := by decide +kernel
theorem dX7_entry_47 : decode cX7_entry 47 = .ok (.invokevirtual 55, 3) := by decide +kernel
theorem dX7_entry_50 : decode cX7_entry 50 = .ok (.ifCond .ne 25, 3) := by decide +kernel
theorem dX7_entry_53 : decode cX7_entry 53 = .ok (.aload_n 0, 1) := by decide +kernel
theorem dX7_entry_54 : decode cX7_entry 54 = .ok (.iconst 2, 1) := by decide +kernel
theorem dX7_entry_55 : decode cX7_entry 55 = .ok (.iload_n 3, 1) := by decide +kernel
theorem dX7_entry_56 : decode cX7_entry 56 = .ok (.iconst 0, 1) := by decide +kernel
theorem dX7_entry_57 : decode cX7_entry 57 = .ok (.iconst 2, 1) := by decide +kernel
theorem dX7_entry_58 : decode cX7_entry 58 = .ok (.invokestatic 34, 3) := by decide +kernel
theorem dX7_entry_61 : decode cX7_entry 61 = .ok (.ifCond .ne 7, 3) := by decide +kernel
theorem dX7_entry_64 : decode cX7_entry 64 = .ok (.iconst 1, 1) := by decide +kernel
theorem dX7_entry_65 : decode cX7_entry 65 = .ok (.goto 4, 3) := by decide +kernel
theorem dX7_entry_68 : decode cX7_entry 68 = .ok (.iconst 0, 1) := by decide +kernel
theorem dX7_entry_69 : decode cX7_entry 69 = .ok (.invokevirtual 55, 3) := by decide +kernel
theorem dX7_entry_72 : decode cX7_entry 72 = .ok (.ifCond .eq 7, 3) := by decide +kernel
theorem dX7_entry_75 : decode cX7_entry 75 = .ok (.iconst 0, 1) := by decide +kernel
theorem dX7_entry_76 : decode cX7_entry 76 = .ok (.goto 10, 3) := by decide +kernel
theorem dX7_entry_79 : decode cX7_entry 79 = .ok (.aload_n 0, 1) := by decide +kernel
theorem dX7_entry_80 : decode cX7_entry 80 = .ok (.iload_n 1, 1) := by decide +kernel
theorem dX7_entry_81 : decode cX7_entry 81 = .ok (.iload_n 2, 1) := by decide +kernel
theorem dX7_entry_82 : decode cX7_entry 82 = .ok (.iload_n 3, 1) := by decide +kernel
theorem dX7_entry_83 : decode cX7_entry 83 = .ok (.invokevirtual 63, 3) := by decide +kernel
theorem dX7_entry_86 : decode cX7_entry 86 = .ok (.ireturn, 1) := by decide +kernel
theorem dX7_messages_0 : decode cX7_messages 0 = .ok (.aload_n 0, 1) := by decide +kernel
theorem dX7_messages_1 : decode cX7_messages 1 = .ok (.iconst 0, 1) := by decide +kernel
theorem dX7_messages_2 : decode cX7_messages 2 = .ok (.putfield 30, 3) := by decide +kernel
theorem dX7_messages_5 : decode cX7_messages 5 = .ok (.aload_n 0, 1) := by decide +kernel
theorem dX7_messages_6 : decode cX7_messages 6 = .ok (.getfield 9, 3) := by decide +kernel
theorem dX7_messages_9 : decode cX7_messages 9 = .ok (.iconst 3, 1) := by decide +kernel
theorem dX7_messages_10 : decode cX7_messages 10 = .ok (.iaload, 1) := by decide +kernel
theorem dX7_messages_11 : decode cX7_messages 11 = .ok (.ireturn, 1) := by decide +kernel
theorem dX7_message_0 : decode cX7_message 0 = .ok (.aload_n 0, 1) := by decide +kernel
theorem dX7_message_1 : decode cX7_message 1 = .ok (.iconst 1, 1) := by decide +kernel
theorem dX7_message_2 : decode cX7_message 2 = .ok (.iload_n 1, 1) := by decide +kernel
theorem dX7_message_3 : decode cX7_message 3 = .ok (.iconst 0, 1) := by decide +kernel
theorem dX7_message_4 : decode cX7_message 4 = .ok (.aload_n 0, 1) := by decide +kernel
theorem dX7_message_5 : decode cX7_message 5 = .ok (.getfield 9, 3) := by decide +kernel
theorem dX7_message_8 : decode cX7_message 8 = .ok (.iconst 3, 1) := by decide +kernel
theorem dX7_message_9 : decode cX7_message 9 = .ok (.iaload, 1) := by decide +kernel
theorem dX7_message_10 : decode cX7_message 10 = .ok (.iconst 1, 1) := by decide +kernel
theorem dX7_message_11 : decode cX7_message 11 = .ok (.isub, 1) := by decide +kernel
theorem dX7_message_12 : decode cX7_message 12 = .ok (.invokestatic 34, 3) := by decide +kernel
theorem dX7_message_15 : decode cX7_message 15 = .ok (.ifCond .ne 7, 3) := by decide +kernel
theorem dX7_message_18 : decode cX7_message 18 = .ok (.iconst 1, 1) := by decide +kernel
theorem dX7_message_19 : decode cX7_message 19 = .ok (.goto 4, 3) := by decide +kernel
theorem dX7_message_22 : decode cX7_message 22 = .ok (.iconst 0, 1) := by decide +kernel
theorem dX7_message_23 : decode cX7_message 23 = .ok (.invokevirtual 55, 3) := by decide +kernel
theorem dX7_message_26 : decode cX7_message 26 = .ok (.ifCond .ne 26, 3) := by decide +kernel
theorem dX7_message_29 : decode cX7_message 29 = .ok (.aload_n 0, 1) := by decide +kernel
theorem dX7_message_30 : decode cX7_message 30 = .ok (.iconst 2, 1) := by decide +kernel
theorem dX7_message_31 : decode cX7_message 31 = .ok (.iload_n 2, 1) := by decide +kernel
theorem dX7_message_32 : decode cX7_message 32 = .ok (.iconst 0, 1) := by decide +kernel
theorem dX7_message_33 : decode cX7_message 33 = .ok (.bipush 6, 2) := by decide +kernel
theorem dX7_message_35 : decode cX7_message 35 = .ok (.invokestatic 34, 3) := by decide +kernel
theorem dX7_message_38 : decode cX7_message 38 = .ok (.ifCond .ne 7, 3) := by decide +kernel
theorem dX7_message_41 : decode cX7_message 41 = .ok (.iconst 1, 1) := by decide +kernel
theorem dX7_message_42 : decode cX7_message 42 = .ok (.goto 4, 3) := by decide +kernel
theorem dX7_message_45 : decode cX7_message 45 = .ok (.iconst 0, 1) := by decide +kernel
theorem dX7_message_46 : decode cX7_message 46 = .ok (.invokevirtual 55, 3) := by decide +kernel
theorem dX7_message_49 : decode cX7_message 49 = .ok (.ifCond .eq 7, 3) := by decide +kernel
theorem dX7_message_52 : decode cX7_message 52 = .ok (.iconst 0, 1) := by decide +kernel
theorem dX7_message_53 : decode cX7_message 53 = .ok (.goto 9, 3) := by decide +kernel
theorem dX7_message_56 : decode cX7_message 56 = .ok (.aload_n 0, 1) := by decide +kernel
theorem dX7_message_57 : decode cX7_message 57 = .ok (.iload_n 1, 1) := by decide +kernel
theorem dX7_message_58 : decode cX7_message 58 = .ok (.iload_n 2, 1) := by decide +kernel
theorem dX7_message_59 : decode cX7_message 59 = .ok (.invokevirtual 163, 3) := by decide +kernel
theorem dX7_message_62 : decode cX7_message 62 = .ok (.ireturn, 1) := by decide +kernel
theorem dX7_lose_0 : decode cX7_lose 0 = .ok (.aload_n 0, 1) := by decide +kernel
theorem dX7_lose_1 : decode cX7_lose 1 = .ok (.iconst 1, 1) := by decide +kernel
theorem dX7_lose_2 : decode cX7_lose 2 = .ok (.iload_n 1, 1) := by decide +kernel
theorem dX7_lose_3 : decode cX7_lose 3 = .ok (.iconst 0, 1) := by decide +kernel
theorem dX7_lose_4 : decode cX7_lose 4 = .ok (.aload_n 0, 1) := by decide +kernel
theorem dX7_lose_5 : decode cX7_lose 5 = .ok (.getfield 9, 3) := by decide +kernel
theorem dX7_lose_8 : decode cX7_lose 8 = .ok (.iconst 3, 1) := by decide +kernel
theorem dX7_lose_9 : decode cX7_lose 9 = .ok (.iaload, 1) := by decide +kernel
theorem dX7_lose_10 : decode cX7_lose 10 = .ok (.iconst 1, 1) := by decide +kernel
theorem dX7_lose_11 : decode cX7_lose 11 = .ok (.isub, 1) := by decide +kernel
theorem dX7_lose_12 : decode cX7_lose 12 = .ok (.invokestatic 34, 3) := by decide +kernel
theorem dX7_lose_15 : decode cX7_lose 15 = .ok (.ifCond .ne 7, 3) := by decide +kernel
theorem dX7_lose_18 : decode cX7_lose 18 = .ok (.iconst 1, 1) := by decide +kernel
theorem dX7_lose_19 : decode cX7_lose 19 = .ok (.goto 4, 3) := by decide +kernel
theorem dX7_lose_22 : decode cX7_lose 22 = .ok (.iconst 0, 1) := by decide +kernel
theorem dX7_lose_23 : decode cX7_lose 23 = .ok (.invokevirtual 55, 3) := by decide +kernel
theorem dX7_lose_26 : decode cX7_lose 26 = .ok (.ifCond .eq 5, 3) := by decide +kernel
theorem dX7_lose_29 : decode cX7_lose 29 = .ok (.iconst 0, 1) := by decide +kernel
theorem dX7_lose_30 : decode cX7_lose 30 = .ok (.ireturn, 1) := by decide +kernel
theorem dX7_lose_31 : decode cX7_lose 31 = .ok (.aload_n 0, 1) := by decide +kernel
theorem dX7_lose_32 : decode cX7_lose 32 = .ok (.iload_n 1, 1) := by decide +kernel
theorem dX7_lose_33 : decode cX7_lose 33 = .ok (.invokevirtual 173, 3) := by decide +kernel
theorem dX7_lose_36 : decode cX7_lose 36 = .ok (.aload_n 0, 1) := by decide +kernel
theorem dX7_lose_37 : decode cX7_lose 37 = .ok (.iconst 2, 1) := by decide +kernel
theorem dX7_lose_38 : decode cX7_lose 38 = .ok (.iconst 1, 1) := by decide +kernel
theorem dX7_lose_39 : decode cX7_lose 39 = .ok (.invokevirtual 86, 3) := by decide +kernel
theorem dX7_lose_42 : decode cX7_lose 42 = .ok (.aload_n 0, 1) := by decide +kernel
theorem dX7_lose_43 : decode cX7_lose 43 = .ok (.getfield 9, 3) := by decide +kernel
theorem dX7_lose_46 : decode cX7_lose 46 = .ok (.iconst 3, 1) := by decide +kernel
theorem dX7_lose_47 : decode cX7_lose 47 = .ok (.iaload, 1) := by decide +kernel
theorem dX7_lose_48 : decode cX7_lose 48 = .ok (.ireturn, 1) := by decide +kernel
theorem dX7_leader_0 : decode cX7_leader 0 = .ok (.iconst (-1), 1) := by decide +kernel
theorem dX7_leader_1 : decode cX7_leader 1 = .ok (.istore_n 1, 1) := by decide +kernel
theorem dX7_leader_2 : decode cX7_leader 2 = .ok (.iconst 0, 1) := by decide +kernel
theorem dX7_leader_3 : decode cX7_leader 3 = .ok (.istore_n 2, 1) := by decide +kernel
theorem dX7_leader_4 : decode cX7_leader 4 = .ok (.iload_n 2, 1) := by decide +kernel
theorem dX7_leader_5 : decode cX7_leader 5 = .ok (.iconst 5, 1) := by decide +kernel
theorem dX7_leader_6 : decode cX7_leader 6 = .ok (.if_icmp .ge 64, 3) := by decide +kernel
theorem dX7_leader_9 : decode cX7_leader 9 = .ok (.aload_n 0, 1) := by decide +kernel
theorem dX7_leader_10 : decode cX7_leader 10 = .ok (.iload_n 2, 1) := by decide +kernel
theorem dX7_leader_11 : decode cX7_leader 11 = .ok (.iconst 0, 1) := by decide +kernel
theorem dX7_leader_12 : decode cX7_leader 12 = .ok (.invokevirtual 38, 3) := by decide +kernel
theorem dX7_leader_15 : decode cX7_leader 15 = .ok (.iconst 1, 1) := by decide +kernel
theorem dX7_leader_16 : decode cX7_leader 16 = .ok (.if_icmp .ne 17, 3) := by decide +kernel
theorem dX7_leader_19 : decode cX7_leader 19 = .ok (.aload_n 0, 1) := by decide +kernel
theorem dX7_leader_20 : decode cX7_leader 20 = .ok (.iload_n 2, 1) := by decide +kernel
theorem dX7_leader_21 : decode cX7_leader 21 = .ok (.iconst 1, 1) := by decide +kernel
theorem dX7_leader_22 : decode cX7_leader 22 = .ok (.invokevirtual 38, 3) := by decide +kernel
theorem dX7_leader_25 : decode cX7_leader 25 = .ok (.iconst 2, 1) := by decide +kernel
theorem dX7_leader_26 : decode cX7_leader 26 = .ok (.if_icmp .ne 7, 3) := by decide +kernel
theorem dX7_leader_29 : decode cX7_leader 29 = .ok (.iconst 1, 1) := by decide +kernel
theorem dX7_leader_30 : decode cX7_leader 30 = .ok (.goto 4, 3) := by decide +kernel
theorem dX7_leader_33 : decode cX7_leader 33 = .ok (.iconst 0, 1) := by decide +kernel
theorem dX7_leader_34 : decode cX7_leader 34 = .ok (.istore_n 3, 1) := by decide +kernel
theorem dX7_leader_35 : decode cX7_leader 35 = .ok (.iload_n 3, 1) := by decide +kernel
theorem dX7_leader_36 : decode cX7_leader 36 = .ok (.ifCond .eq 26, 3) := by decide +kernel
theorem dX7_leader_39 : decode cX7_leader 39 = .ok (.iload_n 1, 1) := by decide +kernel
theorem dX7_leader_40 : decode cX7_leader 40 = .ok (.ifCond .lt 18, 3) := by decide +kernel
theorem dX7_leader_43 : decode cX7_leader 43 = .ok (.aload_n 0, 1) := by decide +kernel
theorem dX7_leader_44 : decode cX7_leader 44 = .ok (.iload_n 2, 1) := by decide +kernel
theorem dX7_leader_45 : decode cX7_leader 45 = .ok (.iconst 2, 1) := by decide +kernel
theorem dX7_leader_46 : decode cX7_leader 46 = .ok (.invokevirtual 38, 3) := by decide +kernel
theorem dX7_leader_49 : decode cX7_leader 49 = .ok (.aload_n 0, 1) := by decide +kernel
theorem dX7_leader_50 : decode cX7_leader 50 = .ok (.iload_n 1, 1) := by decide +kernel
theorem dX7_leader_51 : decode cX7_leader 51 = .ok (.iconst 2, 1) := by decide +kernel
theorem dX7_leader_52 : decode cX7_leader 52 = .ok (.invokevirtual 38, 3) := by decide +kernel
theorem dX7_leader_55 : decode cX7_leader 55 = .ok (.if_icmp .le 7, 3) := by decide +kernel
theorem dX7_leader_58 : decode cX7_leader 58 = .ok (.iload_n 2, 1) := by decide +kernel
theorem dX7_leader_59 : decode cX7_leader 59 = .ok (.goto 4, 3) := by decide +kernel
theorem dX7_leader_62 : decode cX7_leader 62 = .ok (.iload_n 1, 1) := by decide +kernel
theorem dX7_leader_63 : decode cX7_leader 63 = .ok (.istore_n 1, 1) := by decide +kernel
theorem dX7_leader_64 : decode cX7_leader 64 = .ok (.iinc 2 1, 3) := by decide +kernel
theorem dX7_leader_67 : decode cX7_leader 67 = .ok (.goto (-63), 3) := by decide +kernel
theorem dX7_leader_70 : decode cX7_leader 70 = .ok (.aload_n 0, 1) := by decide +kernel
theorem dX7_leader_71 : decode cX7_leader 71 = .ok (.iconst 1, 1) := by decide +kernel
theorem dX7_leader_72 : decode cX7_leader 72 = .ok (.iload_n 1, 1) := by decide +kernel
theorem dX7_leader_73 : decode cX7_leader 73 = .ok (.ifCond .ge 7, 3) := by decide +kernel
theorem dX7_leader_76 : decode cX7_leader 76 = .ok (.iconst 1, 1) := by decide +kernel
theorem dX7_leader_77 : decode cX7_leader 77 = .ok (.goto 4, 3) := by decide +kernel
theorem dX7_leader_80 : decode cX7_leader 80 = .ok (.iconst 0, 1) := by decide +kernel
theorem dX7_leader_81 : decode cX7_leader 81 = .ok (.invokevirtual 55, 3) := by decide +kernel
theorem dX7_leader_84 : decode cX7_leader 84 = .ok (.ifCond .eq 7, 3) := by decide +kernel
theorem dX7_leader_87 : decode cX7_leader 87 = .ok (.iconst 0, 1) := by decide +kernel
theorem dX7_leader_88 : decode cX7_leader 88 = .ok (.goto 4, 3) := by decide +kernel
theorem dX7_leader_91 : decode cX7_leader 91 = .ok (.iload_n 1, 1) := by decide +kernel
theorem dX7_leader_92 : decode cX7_leader 92 = .ok (.ireturn, 1) := by decide +kernel
theorem dX7_winner_0 : decode cX7_winner 0 = .ok (.iload_n 1, 1) := by decide +kernel
theorem dX7_winner_1 : decode cX7_winner 1 = .ok (.iconst 0, 1) := by decide +kernel
theorem dX7_winner_2 : decode cX7_winner 2 = .ok (.bipush 99, 2) := by decide +kernel
theorem dX7_winner_4 : decode cX7_winner 4 = .ok (.invokestatic 34, 3) := by decide +kernel
theorem dX7_winner_7 : decode cX7_winner 7 = .ok (.ifCond .eq 19, 3) := by decide +kernel
theorem dX7_winner_10 : decode cX7_winner 10 = .ok (.aload_n 0, 1) := by decide +kernel
theorem dX7_winner_11 : decode cX7_winner 11 = .ok (.getfield 9, 3) := by decide +kernel
theorem dX7_winner_14 : decode cX7_winner 14 = .ok (.bipush 16, 2) := by decide +kernel
theorem dX7_winner_16 : decode cX7_winner 16 = .ok (.iload_n 1, 1) := by decide +kernel
theorem dX7_winner_17 : decode cX7_winner 17 = .ok (.iadd, 1) := by decide +kernel
theorem dX7_winner_18 : decode cX7_winner 18 = .ok (.iaload, 1) := by decide +kernel
theorem dX7_winner_19 : decode cX7_winner 19 = .ok (.ifCond .lt 7, 3) := by decide +kernel
theorem dX7_winner_22 : decode cX7_winner 22 = .ok (.iconst 1, 1) := by decide +kernel
theorem dX7_winner_23 : decode cX7_winner 23 = .ok (.goto 4, 3) := by decide +kernel
theorem dX7_winner_26 : decode cX7_winner 26 = .ok (.iconst 0, 1) := by decide +kernel
theorem dX7_winner_27 : decode cX7_winner 27 = .ok (.istore_n 2, 1) := by decide +kernel
theorem dX7_winner_28 : decode cX7_winner 28 = .ok (.aload_n 0, 1) := by decide +kernel
theorem dX7_winner_29 : decode cX7_winner 29 = .ok (.iconst 1, 1) := by decide +kernel
theorem dX7_winner_30 : decode cX7_winner 30 = .ok (.iload_n 2, 1) := by decide +kernel
theorem dX7_winner_31 : decode cX7_winner 31 = .ok (.ifCond .ne 7, 3) := by decide +kernel
theorem dX7_winner_34 : decode cX7_winner 34 = .ok (.iconst 1, 1) := by decide +kernel
theorem dX7_winner_35 : decode cX7_winner 35 = .ok (.goto 4, 3) := by decide +kernel
theorem dX7_winner_38 : decode cX7_winner 38 = .ok (.iconst 0, 1) := by decide +kernel
theorem dX7_winner_39 : decode cX7_winner 39 = .ok (.invokevirtual 55, 3) := by decide +kernel
theorem dX7_winner_42 : decode cX7_winner 42 = .ok (.ifCond .eq 7, 3) := by decide +kernel
theorem dX7_winner_45 : decode cX7_winner 45 = .ok (.iconst 0, 1) := by decide +kernel
theorem dX7_winner_46 : decode cX7_winner 46 = .ok (.goto 12, 3) := by decide +kernel
theorem dX7_winner_49 : decode cX7_winner 49 = .ok (.aload_n 0, 1) := by decide +kernel
theorem dX7_winner_50 : decode cX7_winner 50 = .ok (.getfield 9, 3) := by decide +kernel
theorem dX7_winner_53 : decode cX7_winner 53 = .ok (.bipush 16, 2) := by decide +kernel
theorem dX7_winner_55 : decode cX7_winner 55 = .ok (.iload_n 1, 1) := by decide +kernel
theorem dX7_winner_56 : decode cX7_winner 56 = .ok (.iadd, 1) := by decide +kernel
theorem dX7_winner_57 : decode cX7_winner 57 = .ok (.iaload, 1) := by decide +kernel
theorem dX7_winner_58 : decode cX7_winner 58 = .ok (.ireturn, 1) := by decide +kernel
theorem dX7_alike_0 : decode cX7_alike 0 = .ok (.aload_n 0, 1) := by decide +kernel
theorem dX7_alike_1 : decode cX7_alike 1 = .ok (.iconst 1, 1) := by decide +kernel
theorem dX7_alike_2 : decode cX7_alike 2 = .ok (.iload_n 1, 1) := by decide +kernel
theorem dX7_alike_3 : decode cX7_alike 3 = .ok (.invokestatic 185, 3) := by decide +kernel
theorem dX7_alike_6 : decode cX7_alike 6 = .ok (.ifCond .eq 10, 3) := by decide +kernel
theorem dX7_alike_9 : decode cX7_alike 9 = .ok (.iload_n 2, 1) := by decide +kernel
theorem dX7_alike_10 : decode cX7_alike 10 = .ok (.invokestatic 185, 3) := by decide +kernel
theorem dX7_alike_13 : decode cX7_alike 13 = .ok (.ifCond .ne 7, 3) := by decide +kernel
theorem dX7_alike_16 : decode cX7_alike 16 = .ok (.iconst 1, 1) := by decide +kernel
theorem dX7_alike_17 : decode cX7_alike 17 = .ok (.goto 4, 3) := by decide +kernel
theorem dX7_alike_20 : decode cX7_alike 20 = .ok (.iconst 0, 1) := by decide +kernel
theorem dX7_alike_21 : decode cX7_alike 21 = .ok (.invokevirtual 55, 3) := by decide +kernel
theorem dX7_alike_24 : decode cX7_alike 24 = .ok (.ifCond .eq 5, 3) := by decide +kernel
theorem dX7_alike_27 : decode cX7_alike 27 = .ok (.iconst 0, 1) := by decide +kernel
theorem dX7_alike_28 : decode cX7_alike 28 = .ok (.ireturn, 1) := by decide +kernel
theorem dX7_alike_29 : decode cX7_alike 29 = .ok (.aload_n 0, 1) := by decide +kernel
theorem dX7_alike_30 : decode cX7_alike 30 = .ok (.iload_n 1, 1) := by decide +kernel
theorem dX7_alike_31 : decode cX7_alike 31 = .ok (.bipush 7, 2) := by decide +kernel
theorem dX7_alike_33 : decode cX7_alike 33 = .ok (.invokevirtual 38, 3) := by decide +kernel
theorem dX7_alike_36 : decode cX7_alike 36 = .ok (.aload_n 0, 1) := by decide +kernel
theorem dX7_alike_37 : decode cX7_alike 37 = .ok (.iload_n 2, 1) := by decide +kernel
theorem dX7_alike_38 : decode cX7_alike 38 = .ok (.bipush 7, 2) := by decide +kernel
theorem dX7_alike_40 : decode cX7_alike 40 = .ok (.invokevirtual 38, 3) := by decide +kernel
theorem dX7_alike_43 : decode cX7_alike 43 = .ok (.if_icmp .le 13, 3) := by decide +kernel
theorem dX7_alike_46 : decode cX7_alike 46 = .ok (.aload_n 0, 1) := by decide +kernel
theorem dX7_alike_47 : decode cX7_alike 47 = .ok (.iload_n 1, 1) := by decide +kernel
theorem dX7_alike_48 : decode cX7_alike 48 = .ok (.bipush 7, 2) := by decide +kernel
theorem dX7_alike_50 : decode cX7_alike 50 = .ok (.invokevirtual 38, 3) := by decide +kernel
theorem dX7_alike_53 : decode cX7_alike 53 = .ok (.goto 10, 3) := by decide +kernel
theorem dX7_alike_56 : decode cX7_alike 56 = .ok (.aload_n 0, 1) := by decide +kernel
theorem dX7_alike_57 : decode cX7_alike 57 = .ok (.iload_n 2, 1) := by decide +kernel
theorem dX7_alike_58 : decode cX7_alike 58 = .ok (.bipush 7, 2) := by decide +kernel
theorem dX7_alike_60 : decode cX7_alike 60 = .ok (.invokevirtual 38, 3) := by decide +kernel
theorem dX7_alike_63 : decode cX7_alike 63 = .ok (.istore_n 3, 1) := by decide +kernel
theorem dX7_alike_64 : decode cX7_alike 64 = .ok (.aload_n 0, 1) := by decide +kernel
theorem dX7_alike_65 : decode cX7_alike 65 = .ok (.iload_n 1, 1) := by decide +kernel
theorem dX7_alike_66 : decode cX7_alike 66 = .ok (.invokevirtual 67, 3) := by decide +kernel
theorem dX7_alike_69 : decode cX7_alike 69 = .ok (.aload_n 0, 1) := by decide +kernel
theorem dX7_alike_70 : decode cX7_alike 70 = .ok (.iload_n 2, 1) := by decide +kernel
theorem dX7_alike_71 : decode cX7_alike 71 = .ok (.invokevirtual 67, 3) := by decide +kernel
theorem dX7_alike_74 : decode cX7_alike 74 = .ok (.if_icmp .ge 11, 3) := by decide +kernel
theorem dX7_alike_77 : decode cX7_alike 77 = .ok (.aload_n 0, 1) := by decide +kernel
theorem dX7_alike_78 : decode cX7_alike 78 = .ok (.iload_n 1, 1) := by decide +kernel
theorem dX7_alike_79 : decode cX7_alike 79 = .ok (.invokevirtual 67, 3) := by decide +kernel
theorem dX7_alike_82 : decode cX7_alike 82 = .ok (.goto 8, 3) := by decide +kernel
theorem dX7_alike_85 : decode cX7_alike 85 = .ok (.aload_n 0, 1) := by decide +kernel
theorem dX7_alike_86 : decode cX7_alike 86 = .ok (.iload_n 2, 1) := by decide +kernel
theorem dX7_alike_87 : decode cX7_alike 87 = .ok (.invokevirtual 67, 3) := by decide +kernel
theorem dX7_alike_90 : decode cX7_alike 90 = .ok (.istore 4, 2) := by decide +kernel
theorem dX7_alike_92 : decode cX7_alike 92 = .ok (.iload_n 3, 1) := by decide +kernel
theorem dX7_alike_93 : decode cX7_alike 93 = .ok (.iload 4, 2) := by decide +kernel
theorem dX7_alike_95 : decode cX7_alike 95 = .ok (.if_icmp .le 5, 3) := by decide +kernel
theorem dX7_alike_98 : decode cX7_alike 98 = .ok (.iconst (-1), 1) := by decide +kernel
theorem dX7_alike_99 : decode cX7_alike 99 = .ok (.ireturn, 1) := by decide +kernel
theorem dX7_alike_100 : decode cX7_alike 100 = .ok (.iload_n 3, 1) := by decide +kernel
theorem dX7_alike_101 : decode cX7_alike 101 = .ok (.iload 4, 2) := by decide +kernel
theorem dX7_alike_103 : decode cX7_alike 103 = .ok (.if_icmp .ge 28, 3) := by decide +kernel
theorem dX7_alike_106 : decode cX7_alike 106 = .ok (.aload_n 0, 1) := by decide +kernel
theorem dX7_alike_107 : decode cX7_alike 107 = .ok (.iload_n 1, 1) := by decide +kernel
theorem dX7_alike_108 : decode cX7_alike 108 = .ok (.iload_n 3, 1) := by decide +kernel
theorem dX7_alike_109 : decode cX7_alike 109 = .ok (.iconst 1, 1) := by decide +kernel
theorem dX7_alike_110 : decode cX7_alike 110 = .ok (.iadd, 1) := by decide +kernel
theorem dX7_alike_111 : decode cX7_alike 111 = .ok (.invokevirtual 99, 3) := by decide +kernel
theorem dX7_alike_114 : decode cX7_alike 114 = .ok (.aload_n 0, 1) := by decide +kernel
theorem dX7_alike_115 : decode cX7_alike 115 = .ok (.iload_n 2, 1) := by decide +kernel
theorem dX7_alike_116 : decode cX7_alike 116 = .ok (.iload_n 3, 1) := by decide +kernel
theorem dX7_alike_117 : decode cX7_alike 117 = .ok (.iconst 1, 1) := by decide +kernel
theorem dX7_alike_118 : decode cX7_alike 118 = .ok (.iadd, 1) := by decide +kernel
theorem dX7_alike_119 : decode cX7_alike 119 = .ok (.invokevirtual 99, 3) := by decide +kernel
theorem dX7_alike_122 : decode cX7_alike 122 = .ok (.if_icmp .ne 9, 3) := by decide +kernel
theorem dX7_alike_125 : decode cX7_alike 125 = .ok (.iinc 3 1, 3) := by decide +kernel
theorem dX7_alike_128 : decode cX7_alike 128 = .ok (.goto (-28), 3) := by decide +kernel
theorem dX7_alike_131 : decode cX7_alike 131 = .ok (.iload_n 3, 1) := by decide +kernel
theorem dX7_alike_132 : decode cX7_alike 132 = .ok (.ireturn, 1) := by decide +kernel
theorem dX7_statistic_0 : decode cX7_statistic 0 = .ok (.aload_n 0, 1) := by decide +kernel
theorem dX7_statistic_1 : decode cX7_statistic 1 = .ok (.iconst 1, 1) := by decide +kernel
theorem dX7_statistic_2 : decode cX7_statistic 2 = .ok (.iload_n 1, 1) := by decide +kernel
theorem dX7_statistic_3 : decode cX7_statistic 3 = .ok (.iconst 0, 1) := by decide +kernel
theorem dX7_statistic_4 : decode cX7_statistic 4 = .ok (.bipush 6, 2) := by decide +kernel
theorem dX7_statistic_6 : decode cX7_statistic 6 = .ok (.invokestatic 34, 3) := by decide +kernel
theorem dX7_statistic_9 : decode cX7_statistic 9 = .ok (.ifCond .ne 7, 3) := by decide +kernel
theorem dX7_statistic_12 : decode cX7_statistic 12 = .ok (.iconst 1, 1) := by decide +kernel
theorem dX7_statistic_13 : decode cX7_statistic 13 = .ok (.goto 4, 3) := by decide +kernel
theorem dX7_statistic_16 : decode cX7_statistic 16 = .ok (.iconst 0, 1) := by decide +kernel
theorem dX7_statistic_17 : decode cX7_statistic 17 = .ok (.invokevirtual 55, 3) := by decide +kernel
theorem dX7_statistic_20 : decode cX7_statistic 20 = .ok (.ifCond .eq 5, 3) := by decide +kernel
theorem dX7_statistic_23 : decode cX7_statistic 23 = .ok (.iconst 0, 1) := by decide +kernel
theorem dX7_statistic_24 : decode cX7_statistic 24 = .ok (.ireturn, 1) := by decide +kernel
theorem dX7_statistic_25 : decode cX7_statistic 25 = .ok (.iload_n 1, 1) := by decide +kernel
theorem dX7_statistic_26 : decode cX7_statistic 26 = .ok (.ifCond .ne 12, 3) := by decide +kernel
theorem dX7_statistic_29 : decode cX7_statistic 29 = .ok (.aload_n 0, 1) := by decide +kernel
theorem dX7_statistic_30 : decode cX7_statistic 30 = .ok (.getfield 9, 3) := by decide +kernel
theorem dX7_statistic_33 : decode cX7_statistic 33 = .ok (.iconst 0, 1) := by decide +kernel
theorem dX7_statistic_34 : decode cX7_statistic 34 = .ok (.iaload, 1) := by decide +kernel
theorem dX7_statistic_35 : decode cX7_statistic 35 = .ok (.goto 12, 3) := by decide +kernel
theorem dX7_statistic_38 : decode cX7_statistic 38 = .ok (.aload_n 0, 1) := by decide +kernel
theorem dX7_statistic_39 : decode cX7_statistic 39 = .ok (.getfield 9, 3) := by decide +kernel
theorem dX7_statistic_42 : decode cX7_statistic 42 = .ok (.bipush 9, 2) := by decide +kernel
theorem dX7_statistic_44 : decode cX7_statistic 44 = .ok (.iload_n 1, 1) := by decide +kernel
theorem dX7_statistic_45 : decode cX7_statistic 45 = .ok (.iadd, 1) := by decide +kernel
theorem dX7_statistic_46 : decode cX7_statistic 46 = .ok (.iaload, 1) := by decide +kernel
theorem dX7_statistic_47 : decode cX7_statistic 47 = .ok (.ireturn, 1) := by decide +kernel
theorem dX7_share_0 : decode cX7_share 0 = .ok (.aload_n 0, 1) := by decide +kernel
