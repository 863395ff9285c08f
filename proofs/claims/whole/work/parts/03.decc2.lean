theorem dX12_through_21 : decode cX12_through 21 = .ok (.aload_n 0, 1) := by decide +kernel
theorem dX12_through_22 : decode cX12_through 22 = .ok (.bipush 10, 2) := by decide +kernel
theorem dX12_through_24 : decode cX12_through 24 = .ok (.aload_n 0, 1) := by decide +kernel
theorem dX12_through_25 : decode cX12_through 25 = .ok (.iconst (-1), 1) := by decide +kernel
theorem dX12_through_26 : decode cX12_through 26 = .ok (.invokevirtual 154, 3) := by decide +kernel
theorem dX12_through_29 : decode cX12_through 29 = .ok (.iconst 5, 1) := by decide +kernel
theorem dX12_through_30 : decode cX12_through 30 = .ok (.if_icmp .ge 8, 3) := by decide +kernel
theorem dX12_through_33 : decode cX12_through 33 = .ok (.bipush 11, 2) := by decide +kernel
theorem dX12_through_35 : decode cX12_through 35 = .ok (.goto 5, 3) := by decide +kernel
theorem dX12_through_38 : decode cX12_through 38 = .ok (.bipush 12, 2) := by decide +kernel
theorem dX12_through_40 : decode cX12_through 40 = .ok (.invokevirtual 123, 3) := by decide +kernel
theorem dX12_through_43 : decode cX12_through 43 = .ok (.ireturn, 1) := by decide +kernel
theorem dX12_through_44 : decode cX12_through 44 = .ok (.aload_n 0, 1) := by decide +kernel
theorem dX12_through_45 : decode cX12_through 45 = .ok (.iload_n 1, 1) := by decide +kernel
theorem dX12_through_46 : decode cX12_through 46 = .ok (.invokevirtual 142, 3) := by decide +kernel
theorem dX12_through_49 : decode cX12_through 49 = .ok (.ireturn, 1) := by decide +kernel
theorem dX12_isPlace_0 : decode cX12_isPlace 0 = .ok (.aload_n 0, 1) := by decide +kernel
theorem dX12_isPlace_1 : decode cX12_isPlace 1 = .ok (.aload_n 0, 1) := by decide +kernel
theorem dX12_isPlace_2 : decode cX12_isPlace 2 = .ok (.getfield 7, 3) := by decide +kernel
theorem dX12_isPlace_5 : decode cX12_isPlace 5 = .ok (.bipush 36, 2) := by decide +kernel
theorem dX12_isPlace_7 : decode cX12_isPlace 7 = .ok (.iaload, 1) := by decide +kernel
theorem dX12_isPlace_8 : decode cX12_isPlace 8 = .ok (.putfield 40, 3) := by decide +kernel
theorem dX12_isPlace_11 : decode cX12_isPlace 11 = .ok (.iload_n 1, 1) := by decide +kernel
theorem dX12_isPlace_12 : decode cX12_isPlace 12 = .ok (.iconst 0, 1) := by decide +kernel
theorem dX12_isPlace_13 : decode cX12_isPlace 13 = .ok (.aload_n 0, 1) := by decide +kernel
theorem dX12_isPlace_14 : decode cX12_isPlace 14 = .ok (.invokevirtual 66, 3) := by decide +kernel
theorem dX12_isPlace_17 : decode cX12_isPlace 17 = .ok (.iconst 1, 1) := by decide +kernel
theorem dX12_isPlace_18 : decode cX12_isPlace 18 = .ok (.isub, 1) := by decide +kernel
theorem dX12_isPlace_19 : decode cX12_isPlace 19 = .ok (.invokestatic 113, 3) := by decide +kernel
theorem dX12_isPlace_22 : decode cX12_isPlace 22 = .ok (.ireturn, 1) := by decide +kernel
theorem dX12_markOf_0 : decode cX12_markOf 0 = .ok (.iconst 0, 1) := by decide +kernel
theorem dX12_markOf_1 : decode cX12_markOf 1 = .ok (.istore_n 3, 1) := by decide +kernel
theorem dX12_markOf_2 : decode cX12_markOf 2 = .ok (.iload_n 3, 1) := by decide +kernel
theorem dX12_markOf_3 : decode cX12_markOf 3 = .ok (.aload_n 0, 1) := by decide +kernel
theorem dX12_markOf_4 : decode cX12_markOf 4 = .ok (.getfield 7, 3) := by decide +kernel
theorem dX12_markOf_7 : decode cX12_markOf 7 = .ok (.iload_n 1, 1) := by decide +kernel
theorem dX12_markOf_8 : decode cX12_markOf 8 = .ok (.bipush 37, 2) := by decide +kernel
theorem dX12_markOf_10 : decode cX12_markOf 10 = .ok (.iadd, 1) := by decide +kernel
theorem dX12_markOf_11 : decode cX12_markOf 11 = .ok (.iaload, 1) := by decide +kernel
theorem dX12_markOf_12 : decode cX12_markOf 12 = .ok (.if_icmp .ge 26, 3) := by decide +kernel
theorem dX12_markOf_15 : decode cX12_markOf 15 = .ok (.aload_n 0, 1) := by decide +kernel
theorem dX12_markOf_16 : decode cX12_markOf 16 = .ok (.getfield 7, 3) := by decide +kernel
theorem dX12_markOf_19 : decode cX12_markOf 19 = .ok (.iload_n 1, 1) := by decide +kernel
theorem dX12_markOf_20 : decode cX12_markOf 20 = .ok (.bipush 38, 2) := by decide +kernel
theorem dX12_markOf_22 : decode cX12_markOf 22 = .ok (.iadd, 1) := by decide +kernel
theorem dX12_markOf_23 : decode cX12_markOf 23 = .ok (.iload_n 3, 1) := by decide +kernel
theorem dX12_markOf_24 : decode cX12_markOf 24 = .ok (.iadd, 1) := by decide +kernel
theorem dX12_markOf_25 : decode cX12_markOf 25 = .ok (.iaload, 1) := by decide +kernel
theorem dX12_markOf_26 : decode cX12_markOf 26 = .ok (.iload_n 2, 1) := by decide +kernel
theorem dX12_markOf_27 : decode cX12_markOf 27 = .ok (.if_icmp .ne 5, 3) := by decide +kernel
theorem dX12_markOf_30 : decode cX12_markOf 30 = .ok (.iload_n 3, 1) := by decide +kernel
theorem dX12_markOf_31 : decode cX12_markOf 31 = .ok (.ireturn, 1) := by decide +kernel
theorem dX12_markOf_32 : decode cX12_markOf 32 = .ok (.iinc 3 1, 3) := by decide +kernel
theorem dX12_markOf_35 : decode cX12_markOf 35 = .ok (.goto (-33), 3) := by decide +kernel
theorem dX12_markOf_38 : decode cX12_markOf 38 = .ok (.iconst (-1), 1) := by decide +kernel
theorem dX12_markOf_39 : decode cX12_markOf 39 = .ok (.ireturn, 1) := by decide +kernel
theorem dX12_mark_0 : decode cX12_mark 0 = .ok (.aload_n 0, 1) := by decide +kernel
theorem dX12_mark_1 : decode cX12_mark 1 = .ok (.iload_n 1, 1) := by decide +kernel
theorem dX12_mark_2 : decode cX12_mark 2 = .ok (.invokevirtual 161, 3) := by decide +kernel
theorem dX12_mark_5 : decode cX12_mark 5 = .ok (.ifCond .ne 10, 3) := by decide +kernel
theorem dX12_mark_8 : decode cX12_mark 8 = .ok (.aload_n 0, 1) := by decide +kernel
theorem dX12_mark_9 : decode cX12_mark 9 = .ok (.iconst 1, 1) := by decide +kernel
theorem dX12_mark_10 : decode cX12_mark 10 = .ok (.iconst 0, 1) := by decide +kernel
theorem dX12_mark_11 : decode cX12_mark 11 = .ok (.invokevirtual 123, 3) := by decide +kernel
theorem dX12_mark_14 : decode cX12_mark 14 = .ok (.ireturn, 1) := by decide +kernel
theorem dX12_mark_15 : decode cX12_mark 15 = .ok (.aload_n 0, 1) := by decide +kernel
theorem dX12_mark_16 : decode cX12_mark 16 = .ok (.iconst 0, 1) := by decide +kernel
theorem dX12_mark_17 : decode cX12_mark 17 = .ok (.iload_n 1, 1) := by decide +kernel
theorem dX12_mark_18 : decode cX12_mark 18 = .ok (.invokevirtual 164, 3) := by decide +kernel
theorem dX12_mark_21 : decode cX12_mark 21 = .ok (.istore_n 3, 1) := by decide +kernel
theorem dX12_mark_22 : decode cX12_mark 22 = .ok (.iload_n 3, 1) := by decide +kernel
theorem dX12_mark_23 : decode cX12_mark 23 = .ok (.iconst (-1), 1) := by decide +kernel
theorem dX12_mark_24 : decode cX12_mark 24 = .ok (.if_icmp .ne 7, 3) := by decide +kernel
theorem dX12_mark_27 : decode cX12_mark 27 = .ok (.iconst 1, 1) := by decide +kernel
theorem dX12_mark_28 : decode cX12_mark 28 = .ok (.goto 4, 3) := by decide +kernel
theorem dX12_mark_31 : decode cX12_mark 31 = .ok (.iconst 0, 1) := by decide +kernel
theorem dX12_mark_32 : decode cX12_mark 32 = .ok (.iload_n 2, 1) := by decide +kernel
theorem dX12_mark_33 : decode cX12_mark 33 = .ok (.if_icmp .ne 10, 3) := by decide +kernel
theorem dX12_mark_36 : decode cX12_mark 36 = .ok (.aload_n 0, 1) := by decide +kernel
theorem dX12_mark_37 : decode cX12_mark 37 = .ok (.iconst 2, 1) := by decide +kernel
theorem dX12_mark_38 : decode cX12_mark 38 = .ok (.iconst 0, 1) := by decide +kernel
theorem dX12_mark_39 : decode cX12_mark 39 = .ok (.invokevirtual 123, 3) := by decide +kernel
theorem dX12_mark_42 : decode cX12_mark 42 = .ok (.ireturn, 1) := by decide +kernel
theorem dX12_mark_43 : decode cX12_mark 43 = .ok (.iload_n 2, 1) := by decide +kernel
theorem dX12_mark_44 : decode cX12_mark 44 = .ok (.ifCond .ne 22, 3) := by decide +kernel
theorem dX12_mark_47 : decode cX12_mark 47 = .ok (.aload_n 0, 1) := by decide +kernel
theorem dX12_mark_48 : decode cX12_mark 48 = .ok (.getfield 7, 3) := by decide +kernel
theorem dX12_mark_51 : decode cX12_mark 51 = .ok (.bipush 37, 2) := by decide +kernel
theorem dX12_mark_53 : decode cX12_mark 53 = .ok (.iaload, 1) := by decide +kernel
theorem dX12_mark_54 : decode cX12_mark 54 = .ok (.bipush 8, 2) := by decide +kernel
theorem dX12_mark_56 : decode cX12_mark 56 = .ok (.if_icmp .ne 10, 3) := by decide +kernel
theorem dX12_mark_59 : decode cX12_mark 59 = .ok (.aload_n 0, 1) := by decide +kernel
theorem dX12_mark_60 : decode cX12_mark 60 = .ok (.iconst 3, 1) := by decide +kernel
theorem dX12_mark_61 : decode cX12_mark 61 = .ok (.iconst 0, 1) := by decide +kernel
theorem dX12_mark_62 : decode cX12_mark 62 = .ok (.invokevirtual 123, 3) := by decide +kernel
theorem dX12_mark_65 : decode cX12_mark 65 = .ok (.ireturn, 1) := by decide +kernel
theorem dX12_mark_66 : decode cX12_mark 66 = .ok (.aload_n 0, 1) := by decide +kernel
theorem dX12_mark_67 : decode cX12_mark 67 = .ok (.invokevirtual 126, 3) := by decide +kernel
theorem dX12_mark_70 : decode cX12_mark 70 = .ok (.iload_n 2, 1) := by decide +kernel
theorem dX12_mark_71 : decode cX12_mark 71 = .ok (.ifCond .eq 40, 3) := by decide +kernel
theorem dX12_mark_74 : decode cX12_mark 74 = .ok (.aload_n 0, 1) := by decide +kernel
theorem dX12_mark_75 : decode cX12_mark 75 = .ok (.getfield 7, 3) := by decide +kernel
theorem dX12_mark_78 : decode cX12_mark 78 = .ok (.bipush 37, 2) := by decide +kernel
theorem dX12_mark_80 : decode cX12_mark 80 = .ok (.dup2, 1) := by decide +kernel
theorem dX12_mark_81 : decode cX12_mark 81 = .ok (.iaload, 1) := by decide +kernel
theorem dX12_mark_82 : decode cX12_mark 82 = .ok (.iconst 1, 1) := by decide +kernel
theorem dX12_mark_83 : decode cX12_mark 83 = .ok (.isub, 1) := by decide +kernel
theorem dX12_mark_84 : decode cX12_mark 84 = .ok (.iastore, 1) := by decide +kernel
theorem dX12_mark_85 : decode cX12_mark 85 = .ok (.aload_n 0, 1) := by decide +kernel
theorem dX12_mark_86 : decode cX12_mark 86 = .ok (.bipush 38, 2) := by decide +kernel
theorem dX12_mark_88 : decode cX12_mark 88 = .ok (.iload_n 3, 1) := by decide +kernel
theorem dX12_mark_89 : decode cX12_mark 89 = .ok (.iadd, 1) := by decide +kernel
theorem dX12_mark_90 : decode cX12_mark 90 = .ok (.iconst 1, 1) := by decide +kernel
theorem dX12_mark_91 : decode cX12_mark 91 = .ok (.iadd, 1) := by decide +kernel
theorem dX12_mark_92 : decode cX12_mark 92 = .ok (.bipush 38, 2) := by decide +kernel
theorem dX12_mark_94 : decode cX12_mark 94 = .ok (.iload_n 3, 1) := by decide +kernel
theorem dX12_mark_95 : decode cX12_mark 95 = .ok (.iadd, 1) := by decide +kernel
theorem dX12_mark_96 : decode cX12_mark 96 = .ok (.aload_n 0, 1) := by decide +kernel
theorem dX12_mark_97 : decode cX12_mark 97 = .ok (.getfield 7, 3) := by decide +kernel
theorem dX12_mark_100 : decode cX12_mark 100 = .ok (.bipush 37, 2) := by decide +kernel
theorem dX12_mark_102 : decode cX12_mark 102 = .ok (.iaload, 1) := by decide +kernel
theorem dX12_mark_103 : decode cX12_mark 103 = .ok (.iload_n 3, 1) := by decide +kernel
theorem dX12_mark_104 : decode cX12_mark 104 = .ok (.isub, 1) := by decide +kernel
theorem dX12_mark_105 : decode cX12_mark 105 = .ok (.invokevirtual 109, 3) := by decide +kernel
theorem dX12_mark_108 : decode cX12_mark 108 = .ok (.goto 30, 3) := by decide +kernel
theorem dX12_mark_111 : decode cX12_mark 111 = .ok (.aload_n 0, 1) := by decide +kernel
theorem dX12_mark_112 : decode cX12_mark 112 = .ok (.getfield 7, 3) := by decide +kernel
theorem dX12_mark_115 : decode cX12_mark 115 = .ok (.bipush 38, 2) := by decide +kernel
theorem dX12_mark_117 : decode cX12_mark 117 = .ok (.aload_n 0, 1) := by decide +kernel
theorem dX12_mark_118 : decode cX12_mark 118 = .ok (.getfield 7, 3) := by decide +kernel
theorem dX12_mark_121 : decode cX12_mark 121 = .ok (.bipush 37, 2) := by decide +kernel
theorem dX12_mark_123 : decode cX12_mark 123 = .ok (.iaload, 1) := by decide +kernel
theorem dX12_mark_124 : decode cX12_mark 124 = .ok (.iadd, 1) := by decide +kernel
theorem dX12_mark_125 : decode cX12_mark 125 = .ok (.iload_n 1, 1) := by decide +kernel
theorem dX12_mark_126 : decode cX12_mark 126 = .ok (.iastore, 1) := by decide +kernel
theorem dX12_mark_127 : decode cX12_mark 127 = .ok (.aload_n 0, 1) := by decide +kernel
theorem dX12_mark_128 : decode cX12_mark 128 = .ok (.getfield 7, 3) := by decide +kernel
theorem dX12_mark_131 : decode cX12_mark 131 = .ok (.bipush 37, 2) := by decide +kernel
theorem dX12_mark_133 : decode cX12_mark 133 = .ok (.dup2, 1) := by decide +kernel
theorem dX12_mark_134 : decode cX12_mark 134 = .ok (.iaload, 1) := by decide +kernel
theorem dX12_mark_135 : decode cX12_mark 135 = .ok (.iconst 1, 1) := by decide +kernel
theorem dX12_mark_136 : decode cX12_mark 136 = .ok (.iadd, 1) := by decide +kernel
theorem dX12_mark_137 : decode cX12_mark 137 = .ok (.iastore, 1) := by decide +kernel
theorem dX12_mark_138 : decode cX12_mark 138 = .ok (.aload_n 0, 1) := by decide +kernel
theorem dX12_mark_139 : decode cX12_mark 139 = .ok (.iconst 0, 1) := by decide +kernel
theorem dX12_mark_140 : decode cX12_mark 140 = .ok (.iconst 0, 1) := by decide +kernel
theorem dX12_mark_141 : decode cX12_mark 141 = .ok (.invokevirtual 123, 3) := by decide +kernel
theorem dX12_mark_144 : decode cX12_mark 144 = .ok (.ireturn, 1) := by decide +kernel
theorem dX12_why_0 : decode cX12_why 0 = .ok (.iload_n 1, 1) := by decide +kernel
theorem dX12_why_1 : decode cX12_why 1 = .ok (.iconst 0, 1) := by decide +kernel
theorem dX12_why_2 : decode cX12_why 2 = .ok (.iconst 1, 1) := by decide +kernel
theorem dX12_why_3 : decode cX12_why 3 = .ok (.invokestatic 113, 3) := by decide +kernel
theorem dX12_why_6 : decode cX12_why 6 = .ok (.ifCond .eq 15, 3) := by decide +kernel
theorem dX12_why_9 : decode cX12_why 9 = .ok (.aload_n 0, 1) := by decide +kernel
theorem dX12_why_10 : decode cX12_why 10 = .ok (.getfield 7, 3) := by decide +kernel
theorem dX12_why_13 : decode cX12_why 13 = .ok (.bipush 46, 2) := by decide +kernel
theorem dX12_why_15 : decode cX12_why 15 = .ok (.iload_n 1, 1) := by decide +kernel
theorem dX12_why_16 : decode cX12_why 16 = .ok (.iadd, 1) := by decide +kernel
theorem dX12_why_17 : decode cX12_why 17 = .ok (.iaload, 1) := by decide +kernel
theorem dX12_why_18 : decode cX12_why 18 = .ok (.goto 4, 3) := by decide +kernel
theorem dX12_why_21 : decode cX12_why 21 = .ok (.iconst (-1), 1) := by decide +kernel
theorem dX12_why_22 : decode cX12_why 22 = .ok (.ireturn, 1) := by decide +kernel
theorem dX12_undo_0 : decode cX12_undo 0 = .ok (.aload_n 0, 1) := by decide +kernel
theorem dX12_undo_1 : decode cX12_undo 1 = .ok (.getfield 106, 3) := by decide +kernel
theorem dX12_undo_4 : decode cX12_undo 4 = .ok (.ifCond .ne 5, 3) := by decide +kernel
theorem dX12_undo_7 : decode cX12_undo 7 = .ok (.iconst (-1), 1) := by decide +kernel
theorem dX12_undo_8 : decode cX12_undo 8 = .ok (.ireturn, 1) := by decide +kernel
theorem dX12_undo_9 : decode cX12_undo 9 = .ok (.aload_n 0, 1) := by decide +kernel
theorem dX12_undo_10 : decode cX12_undo 10 = .ok (.dup, 1) := by decide +kernel
theorem dX12_undo_11 : decode cX12_undo 11 = .ok (.getfield 106, 3) := by decide +kernel
theorem dX12_undo_14 : decode cX12_undo 14 = .ok (.iconst 1, 1) := by decide +kernel
theorem dX12_undo_15 : decode cX12_undo 15 = .ok (.isub, 1) := by decide +kernel
theorem dX12_undo_16 : decode cX12_undo 16 = .ok (.putfield 106, 3) := by decide +kernel
theorem dX12_undo_19 : decode cX12_undo 19 = .ok (.aload_n 0, 1) := by decide +kernel
theorem dX12_undo_20 : decode cX12_undo 20 = .ok (.bipush 94, 2) := by decide +kernel
theorem dX12_undo_22 : decode cX12_undo 22 = .ok (.bipush 46, 2) := by decide +kernel
theorem dX12_undo_24 : decode cX12_undo 24 = .ok (.aload_n 0, 1) := by decide +kernel
theorem dX12_undo_25 : decode cX12_undo 25 = .ok (.getfield 106, 3) := by decide +kernel
theorem dX12_undo_28 : decode cX12_undo 28 = .ok (.imul, 1) := by decide +kernel
theorem dX12_undo_29 : decode cX12_undo 29 = .ok (.iadd, 1) := by decide +kernel
theorem dX12_undo_30 : decode cX12_undo 30 = .ok (.iconst 0, 1) := by decide +kernel
theorem dX12_undo_31 : decode cX12_undo 31 = .ok (.bipush 46, 2) := by decide +kernel
theorem dX12_undo_33 : decode cX12_undo 33 = .ok (.invokevirtual 109, 3) := by decide +kernel
theorem dX12_undo_36 : decode cX12_undo 36 = .ok (.aload_n 0, 1) := by decide +kernel
theorem dX12_undo_37 : decode cX12_undo 37 = .ok (.getfield 106, 3) := by decide +kernel
theorem dX12_undo_40 : decode cX12_undo 40 = .ok (.ireturn, 1) := by decide +kernel
theorem dX12_proper_0 : decode cX12_proper 0 = .ok (.iconst 0, 1) := by decide +kernel
theorem dX12_proper_1 : decode cX12_proper 1 = .ok (.istore_n 1, 1) := by decide +kernel
theorem dX12_proper_2 : decode cX12_proper 2 = .ok (.iconst 0, 1) := by decide +kernel
theorem dX12_proper_3 : decode cX12_proper 3 = .ok (.istore_n 2, 1) := by decide +kernel
theorem dX12_proper_4 : decode cX12_proper 4 = .ok (.iload_n 2, 1) := by decide +kernel
theorem dX12_proper_5 : decode cX12_proper 5 = .ok (.bipush 6, 2) := by decide +kernel
theorem dX12_proper_7 : decode cX12_proper 7 = .ok (.if_icmp .ge 31, 3) := by decide +kernel
theorem dX12_proper_10 : decode cX12_proper 10 = .ok (.aload_n 0, 1) := by decide +kernel
theorem dX12_proper_11 : decode cX12_proper 11 = .ok (.iconst 0, 1) := by decide +kernel
theorem dX12_proper_12 : decode cX12_proper 12 = .ok (.iload_n 2, 1) := by decide +kernel
theorem dX12_proper_13 : decode cX12_proper 13 = .ok (.invokevirtual 145, 3) := by decide +kernel
theorem dX12_proper_16 : decode cX12_proper 16 = .ok (.iload_n 1, 1) := by decide +kernel
theorem dX12_proper_17 : decode cX12_proper 17 = .ok (.aload_n 0, 1) := by decide +kernel
theorem dX12_proper_18 : decode cX12_proper 18 = .ok (.invokevirtual 85, 3) := by decide +kernel
theorem dX12_proper_21 : decode cX12_proper 21 = .ok (.iconst 3, 1) := by decide +kernel
theorem dX12_proper_22 : decode cX12_proper 22 = .ok (.if_icmp .ne 7, 3) := by decide +kernel
theorem dX12_proper_25 : decode cX12_proper 25 = .ok (.iconst 1, 1) := by decide +kernel
theorem dX12_proper_26 : decode cX12_proper 26 = .ok (.goto 4, 3) := by decide +kernel
theorem dX12_proper_29 : decode cX12_proper 29 = .ok (.iconst 0, 1) := by decide +kernel
theorem dX12_proper_30 : decode cX12_proper 30 = .ok (.iadd, 1) := by decide +kernel
theorem dX12_proper_31 : decode cX12_proper 31 = .ok (.istore_n 1, 1) := by decide +kernel
theorem dX12_proper_32 : decode cX12_proper 32 = .ok (.iinc 2 1, 3) := by decide +kernel
theorem dX12_proper_35 : decode cX12_proper 35 = .ok (.goto (-31), 3) := by decide +kernel
theorem dX12_proper_38 : decode cX12_proper 38 = .ok (.iload_n 1, 1) := by decide +kernel
theorem dX12_proper_39 : decode cX12_proper 39 = .ok (.ireturn, 1) := by decide +kernel
theorem dX12_areOnLine_0 : decode cX12_areOnLine 0 = .ok (.aload_n 0, 1) := by decide +kernel
theorem dX12_areOnLine_1 : decode cX12_areOnLine 1 = .ok (.iload_n 3, 1) := by decide +kernel
theorem dX12_areOnLine_2 : decode cX12_areOnLine 2 = .ok (.aload_n 0, 1) := by decide +kernel
theorem dX12_areOnLine_3 : decode cX12_areOnLine 3 = .ok (.iload_n 1, 1) := by decide +kernel
theorem dX12_areOnLine_4 : decode cX12_areOnLine 4 = .ok (.iload_n 2, 1) := by decide +kernel
theorem dX12_areOnLine_5 : decode cX12_areOnLine 5 = .ok (.invokevirtual 167, 3) := by decide +kernel
theorem dX12_areOnLine_8 : decode cX12_areOnLine 8 = .ok (.invokevirtual 74, 3) := by decide +kernel
theorem dX12_areOnLine_11 : decode cX12_areOnLine 11 = .ok (.ireturn, 1) := by decide +kernel
theorem dX12_lineOf_0 : decode cX12_lineOf 0 = .ok (.aload_n 0, 1) := by decide +kernel
theorem dX12_lineOf_1 : decode cX12_lineOf 1 = .ok (.iload_n 1, 1) := by decide +kernel
theorem dX12_lineOf_2 : decode cX12_lineOf 2 = .ok (.invokevirtual 59, 3) := by decide +kernel
theorem dX12_lineOf_5 : decode cX12_lineOf 5 = .ok (.aload_n 0, 1) := by decide +kernel
theorem dX12_lineOf_6 : decode cX12_lineOf 6 = .ok (.getfield 43, 3) := by decide +kernel
theorem dX12_lineOf_9 : decode cX12_lineOf 9 = .ok (.istore_n 3, 1) := by decide +kernel
theorem dX12_lineOf_10 : decode cX12_lineOf 10 = .ok (.aload_n 0, 1) := by decide +kernel
theorem dX12_lineOf_11 : decode cX12_lineOf 11 = .ok (.getfield 46, 3) := by decide +kernel
theorem dX12_lineOf_14 : decode cX12_lineOf 14 = .ok (.istore 4, 2) := by decide +kernel
theorem dX12_lineOf_16 : decode cX12_lineOf 16 = .ok (.aload_n 0, 1) := by decide +kernel
theorem dX12_lineOf_17 : decode cX12_lineOf 17 = .ok (.getfield 49, 3) := by decide +kernel
theorem dX12_lineOf_20 : decode cX12_lineOf 20 = .ok (.istore 5, 2) := by decide +kernel
theorem dX12_lineOf_22 : decode cX12_lineOf 22 = .ok (.aload_n 0, 1) := by decide +kernel
theorem dX12_lineOf_23 : decode cX12_lineOf 23 = .ok (.iload_n 2, 1) := by decide +kernel
theorem dX12_lineOf_24 : decode cX12_lineOf 24 = .ok (.invokevirtual 59, 3) := by decide +kernel
theorem dX12_lineOf_27 : decode cX12_lineOf 27 = .ok (.aload_n 0, 1) := by decide +kernel
theorem dX12_lineOf_28 : decode cX12_lineOf 28 = .ok (.iload 4, 2) := by decide +kernel
theorem dX12_lineOf_30 : decode cX12_lineOf 30 = .ok (.aload_n 0, 1) := by decide +kernel
theorem dX12_lineOf_31 : decode cX12_lineOf 31 = .ok (.getfield 49, 3) := by decide +kernel
theorem dX12_lineOf_34 : decode cX12_lineOf 34 = .ok (.imul, 1) := by decide +kernel
theorem dX12_lineOf_35 : decode cX12_lineOf 35 = .ok (.iload 5, 2) := by decide +kernel
theorem dX12_lineOf_37 : decode cX12_lineOf 37 = .ok (.aload_n 0, 1) := by decide +kernel
theorem dX12_lineOf_38 : decode cX12_lineOf 38 = .ok (.getfield 46, 3) := by decide +kernel
theorem dX12_lineOf_41 : decode cX12_lineOf 41 = .ok (.imul, 1) := by decide +kernel
theorem dX12_lineOf_42 : decode cX12_lineOf 42 = .ok (.isub, 1) := by decide +kernel
theorem dX12_lineOf_43 : decode cX12_lineOf 43 = .ok (.iload 5, 2) := by decide +kernel
theorem dX12_lineOf_45 : decode cX12_lineOf 45 = .ok (.aload_n 0, 1) := by decide +kernel
theorem dX12_lineOf_46 : decode cX12_lineOf 46 = .ok (.getfield 43, 3) := by decide +kernel
theorem dX12_lineOf_49 : decode cX12_lineOf 49 = .ok (.imul, 1) := by decide +kernel
theorem dX12_lineOf_50 : decode cX12_lineOf 50 = .ok (.iload_n 3, 1) := by decide +kernel
theorem dX12_lineOf_51 : decode cX12_lineOf 51 = .ok (.aload_n 0, 1) := by decide +kernel
theorem dX12_lineOf_52 : decode cX12_lineOf 52 = .ok (.getfield 49, 3) := by decide +kernel
theorem dX12_lineOf_55 : decode cX12_lineOf 55 = .ok (.imul, 1) := by decide +kernel
theorem dX12_lineOf_56 : decode cX12_lineOf 56 = .ok (.isub, 1) := by decide +kernel
theorem dX12_lineOf_57 : decode cX12_lineOf 57 = .ok (.iload_n 3, 1) := by decide +kernel
theorem dX12_lineOf_58 : decode cX12_lineOf 58 = .ok (.aload_n 0, 1) := by decide +kernel
theorem dX12_lineOf_59 : decode cX12_lineOf 59 = .ok (.getfield 46, 3) := by decide +kernel
theorem dX12_lineOf_62 : decode cX12_lineOf 62 = .ok (.imul, 1) := by decide +kernel
theorem dX12_lineOf_63 : decode cX12_lineOf 63 = .ok (.iload 4, 2) := by decide +kernel
theorem dX12_lineOf_65 : decode cX12_lineOf 65 = .ok (.aload_n 0, 1) := by decide +kernel
theorem dX12_lineOf_66 : decode cX12_lineOf 66 = .ok (.getfield 43, 3) := by decide +kernel
theorem dX12_lineOf_69 : decode cX12_lineOf 69 = .ok (.imul, 1) := by decide +kernel
theorem dX12_lineOf_70 : decode cX12_lineOf 70 = .ok (.isub, 1) := by decide +kernel
theorem dX12_lineOf_71 : decode cX12_lineOf 71 = .ok (.invokevirtual 62, 3) := by decide +kernel
theorem dX12_lineOf_74 : decode cX12_lineOf 74 = .ok (.ireturn, 1) := by decide +kernel
theorem dX12_lined_0 : decode cX12_lined 0 = .ok (.aload_n 0, 1) := by decide +kernel
theorem dX12_lined_1 : decode cX12_lined 1 = .ok (.aload_n 0, 1) := by decide +kernel
theorem dX12_lined_2 : decode cX12_lined 2 = .ok (.getfield 7, 3) := by decide +kernel
theorem dX12_lined_5 : decode cX12_lined 5 = .ok (.bipush 36, 2) := by decide +kernel
theorem dX12_lined_7 : decode cX12_lined 7 = .ok (.iaload, 1) := by decide +kernel
theorem dX12_lined_8 : decode cX12_lined 8 = .ok (.putfield 40, 3) := by decide +kernel
theorem dX12_lined_11 : decode cX12_lined 11 = .ok (.iconst 0, 1) := by decide +kernel
theorem dX12_lined_12 : decode cX12_lined 12 = .ok (.istore_n 1, 1) := by decide +kernel
theorem dX12_lined_13 : decode cX12_lined 13 = .ok (.iconst 0, 1) := by decide +kernel
theorem dX12_lined_14 : decode cX12_lined 14 = .ok (.istore_n 2, 1) := by decide +kernel
theorem dX12_lined_15 : decode cX12_lined 15 = .ok (.iload_n 2, 1) := by decide +kernel
theorem dX12_lined_16 : decode cX12_lined 16 = .ok (.aload_n 0, 1) := by decide +kernel
theorem dX12_lined_17 : decode cX12_lined 17 = .ok (.getfield 7, 3) := by decide +kernel
theorem dX12_lined_20 : decode cX12_lined 20 = .ok (.bipush 37, 2) := by decide +kernel
theorem dX12_lined_22 : decode cX12_lined 22 = .ok (.iaload, 1) := by decide +kernel
theorem dX12_lined_23 : decode cX12_lined 23 = .ok (.if_icmp .ge 126, 3) := by decide +kernel
theorem dX12_lined_26 : decode cX12_lined 26 = .ok (.iconst 0, 1) := by decide +kernel
theorem dX12_lined_27 : decode cX12_lined 27 = .ok (.istore_n 3, 1) := by decide +kernel
theorem dX12_lined_28 : decode cX12_lined 28 = .ok (.iconst 0, 1) := by decide +kernel
theorem dX12_lined_29 : decode cX12_lined 29 = .ok (.istore 4, 2) := by decide +kernel
theorem dX12_lined_31 : decode cX12_lined 31 = .ok (.iload 4, 2) := by decide +kernel
theorem dX12_lined_33 : decode cX12_lined 33 = .ok (.aload_n 0, 1) := by decide +kernel
theorem dX12_lined_34 : decode cX12_lined 34 = .ok (.getfield 7, 3) := by decide +kernel
theorem dX12_lined_37 : decode cX12_lined 37 = .ok (.bipush 37, 2) := by decide +kernel
theorem dX12_lined_39 : decode cX12_lined 39 = .ok (.iaload, 1) := by decide +kernel
theorem dX12_lined_40 : decode cX12_lined 40 = .ok (.if_icmp .ge 91, 3) := by decide +kernel
theorem dX12_lined_43 : decode cX12_lined 43 = .ok (.iload 4, 2) := by decide +kernel
theorem dX12_lined_45 : decode cX12_lined 45 = .ok (.iconst 1, 1) := by decide +kernel
theorem dX12_lined_46 : decode cX12_lined 46 = .ok (.iadd, 1) := by decide +kernel
theorem dX12_lined_47 : decode cX12_lined 47 = .ok (.istore 5, 2) := by decide +kernel
theorem dX12_lined_49 : decode cX12_lined 49 = .ok (.iload 5, 2) := by decide +kernel
theorem dX12_lined_51 : decode cX12_lined 51 = .ok (.aload_n 0, 1) := by decide +kernel
theorem dX12_lined_52 : decode cX12_lined 52 = .ok (.getfield 7, 3) := by decide +kernel
theorem dX12_lined_55 : decode cX12_lined 55 = .ok (.bipush 37, 2) := by decide +kernel
theorem dX12_lined_57 : decode cX12_lined 57 = .ok (.iaload, 1) := by decide +kernel
theorem dX12_lined_58 : decode cX12_lined 58 = .ok (.if_icmp .ge 67, 3) := by decide +kernel
theorem dX12_lined_61 : decode cX12_lined 61 = .ok (.iload_n 3, 1) := by decide +kernel
theorem dX12_lined_62 : decode cX12_lined 62 = .ok (.ifCond .ne 51, 3) := by decide +kernel
theorem dX12_lined_65 : decode cX12_lined 65 = .ok (.iload 4, 2) := by decide +kernel
theorem dX12_lined_67 : decode cX12_lined 67 = .ok (.iload_n 2, 1) := by decide +kernel
theorem dX12_lined_68 : decode cX12_lined 68 = .ok (.if_icmp .eq 49, 3) := by decide +kernel
theorem dX12_lined_71 : decode cX12_lined 71 = .ok (.iload 5, 2) := by decide +kernel
theorem dX12_lined_73 : decode cX12_lined 73 = .ok (.iload_n 2, 1) := by decide +kernel
theorem dX12_lined_74 : decode cX12_lined 74 = .ok (.if_icmp .eq 43, 3) := by decide +kernel
theorem dX12_lined_77 : decode cX12_lined 77 = .ok (.aload_n 0, 1) := by decide +kernel
theorem dX12_lined_78 : decode cX12_lined 78 = .ok (.aload_n 0, 1) := by decide +kernel
theorem dX12_lined_79 : decode cX12_lined 79 = .ok (.getfield 7, 3) := by decide +kernel
theorem dX12_lined_82 : decode cX12_lined 82 = .ok (.bipush 38, 2) := by decide +kernel
theorem dX12_lined_84 : decode cX12_lined 84 = .ok (.iload 4, 2) := by decide +kernel
theorem dX12_lined_86 : decode cX12_lined 86 = .ok (.iadd, 1) := by decide +kernel
theorem dX12_lined_87 : decode cX12_lined 87 = .ok (.iaload, 1) := by decide +kernel
theorem dX12_lined_88 : decode cX12_lined 88 = .ok (.aload_n 0, 1) := by decide +kernel
theorem dX12_lined_89 : decode cX12_lined 89 = .ok (.getfield 7, 3) := by decide +kernel
theorem dX12_lined_92 : decode cX12_lined 92 = .ok (.bipush 38, 2) := by decide +kernel
theorem dX12_lined_94 : decode cX12_lined 94 = .ok (.iload 5, 2) := by decide +kernel
theorem dX12_lined_96 : decode cX12_lined 96 = .ok (.iadd, 1) := by decide +kernel
theorem dX12_lined_97 : decode cX12_lined 97 = .ok (.iaload, 1) := by decide +kernel
theorem dX12_lined_98 : decode cX12_lined 98 = .ok (.aload_n 0, 1) := by decide +kernel
theorem dX12_lined_99 : decode cX12_lined 99 = .ok (.getfield 7, 3) := by decide +kernel
theorem dX12_lined_102 : decode cX12_lined 102 = .ok (.bipush 38, 2) := by decide +kernel
theorem dX12_lined_104 : decode cX12_lined 104 = .ok (.iload_n 2, 1) := by decide +kernel
theorem dX12_lined_105 : decode cX12_lined 105 = .ok (.iadd, 1) := by decide +kernel
theorem dX12_lined_106 : decode cX12_lined 106 = .ok (.iaload, 1) := by decide +kernel
theorem dX12_lined_107 : decode cX12_lined 107 = .ok (.invokevirtual 170, 3) := by decide +kernel
theorem dX12_lined_110 : decode cX12_lined 110 = .ok (.ifCond .eq 7, 3) := by decide +kernel
theorem dX12_lined_113 : decode cX12_lined 113 = .ok (.iconst 1, 1) := by decide +kernel
theorem dX12_lined_114 : decode cX12_lined 114 = .ok (.goto 4, 3) := by decide +kernel
theorem dX12_lined_117 : decode cX12_lined 117 = .ok (.iconst 0, 1) := by decide +kernel
theorem dX12_lined_118 : decode cX12_lined 118 = .ok (.istore_n 3, 1) := by decide +kernel
theorem dX12_lined_119 : decode cX12_lined 119 = .ok (.iinc 5 1, 3) := by decide +kernel
theorem dX12_lined_122 : decode cX12_lined 122 = .ok (.goto (-73), 3) := by decide +kernel
theorem dX12_lined_125 : decode cX12_lined 125 = .ok (.iinc 4 1, 3) := by decide +kernel
theorem dX12_lined_128 : decode cX12_lined 128 = .ok (.goto (-97), 3) := by decide +kernel
theorem dX12_lined_131 : decode cX12_lined 131 = .ok (.iload_n 1, 1) := by decide +kernel
theorem dX12_lined_132 : decode cX12_lined 132 = .ok (.iload_n 3, 1) := by decide +kernel
theorem dX12_lined_133 : decode cX12_lined 133 = .ok (.ifCond .eq 7, 3) := by decide +kernel
theorem dX12_lined_136 : decode cX12_lined 136 = .ok (.iconst 1, 1) := by decide +kernel
theorem dX12_lined_137 : decode cX12_lined 137 = .ok (.goto 4, 3) := by decide +kernel
theorem dX12_lined_140 : decode cX12_lined 140 = .ok (.iconst 0, 1) := by decide +kernel
theorem dX12_lined_141 : decode cX12_lined 141 = .ok (.iadd, 1) := by decide +kernel
theorem dX12_lined_142 : decode cX12_lined 142 = .ok (.istore_n 1, 1) := by decide +kernel
theorem dX12_lined_143 : decode cX12_lined 143 = .ok (.iinc 2 1, 3) := by decide +kernel
theorem dX12_lined_146 : decode cX12_lined 146 = .ok (.goto (-131), 3) := by decide +kernel
theorem dX12_lined_149 : decode cX12_lined 149 = .ok (.iload_n 1, 1) := by decide +kernel
theorem dX12_lined_150 : decode cX12_lined 150 = .ok (.ireturn, 1) := by decide +kernel
theorem dX12_count_0 : decode cX12_count 0 = .ok (.aload_n 0, 1) := by decide +kernel
theorem dX12_count_1 : decode cX12_count 1 = .ok (.aload_n 0, 1) := by decide +kernel
theorem dX12_count_2 : decode cX12_count 2 = .ok (.getfield 7, 3) := by decide +kernel
theorem dX12_count_5 : decode cX12_count 5 = .ok (.bipush 36, 2) := by decide +kernel
theorem dX12_count_7 : decode cX12_count 7 = .ok (.iaload, 1) := by decide +kernel
theorem dX12_count_8 : decode cX12_count 8 = .ok (.putfield 40, 3) := by decide +kernel
theorem dX12_count_11 : decode cX12_count 11 = .ok (.iload_n 1, 1) := by decide +kernel
theorem dX12_count_12 : decode cX12_count 12 = .ok (.tableswitch 95 0 7 #[48, 53, 58, 66, 75, 80, 85, 90], 48) := by decide +kernel
theorem dX12_count_60 : decode cX12_count 60 = .ok (.aload_n 0, 1) := by decide +kernel
theorem dX12_count_61 : decode cX12_count 61 = .ok (.getfield 40, 3) := by decide +kernel
theorem dX12_count_64 : decode cX12_count 64 = .ok (.ireturn, 1) := by decide +kernel
theorem dX12_count_65 : decode cX12_count 65 = .ok (.aload_n 0, 1) := by decide +kernel
theorem dX12_count_66 : decode cX12_count 66 = .ok (.invokevirtual 66, 3) := by decide +kernel
theorem dX12_count_69 : decode cX12_count 69 = .ok (.ireturn, 1) := by decide +kernel
theorem dX12_count_70 : decode cX12_count 70 = .ok (.aload_n 0, 1) := by decide +kernel
theorem dX12_count_71 : decode cX12_count 71 = .ok (.getfield 7, 3) := by decide +kernel
theorem dX12_count_74 : decode cX12_count 74 = .ok (.bipush 37, 2) := by decide +kernel
theorem dX12_count_76 : decode cX12_count 76 = .ok (.iaload, 1) := by decide +kernel
theorem dX12_count_77 : decode cX12_count 77 = .ok (.ireturn, 1) := by decide +kernel
theorem dX12_count_78 : decode cX12_count 78 = .ok (.bipush 6, 2) := by decide +kernel
theorem dX12_count_80 : decode cX12_count 80 = .ok (.aload_n 0, 1) := by decide +kernel
theorem dX12_count_81 : decode cX12_count 81 = .ok (.iconst (-1), 1) := by decide +kernel
theorem dX12_count_82 : decode cX12_count 82 = .ok (.invokevirtual 154, 3) := by decide +kernel
theorem dX12_count_85 : decode cX12_count 85 = .ok (.isub, 1) := by decide +kernel
theorem dX12_count_86 : decode cX12_count 86 = .ok (.ireturn, 1) := by decide +kernel
theorem dX12_count_87 : decode cX12_count 87 = .ok (.aload_n 0, 1) := by decide +kernel
theorem dX12_count_88 : decode cX12_count 88 = .ok (.getfield 106, 3) := by decide +kernel
theorem dX12_count_91 : decode cX12_count 91 = .ok (.ireturn, 1) := by decide +kernel
theorem dX12_count_92 : decode cX12_count 92 = .ok (.aload_n 0, 1) := by decide +kernel
theorem dX12_count_93 : decode cX12_count 93 = .ok (.getfield 173, 3) := by decide +kernel
theorem dX12_count_96 : decode cX12_count 96 = .ok (.ireturn, 1) := by decide +kernel
theorem dX12_count_97 : decode cX12_count 97 = .ok (.aload_n 0, 1) := by decide +kernel
theorem dX12_count_98 : decode cX12_count 98 = .ok (.invokevirtual 176, 3) := by decide +kernel
theorem dX12_count_101 : decode cX12_count 101 = .ok (.ireturn, 1) := by decide +kernel
theorem dX12_count_102 : decode cX12_count 102 = .ok (.aload_n 0, 1) := by decide +kernel
theorem dX12_count_103 : decode cX12_count 103 = .ok (.invokevirtual 179, 3) := by decide +kernel
theorem dX12_count_106 : decode cX12_count 106 = .ok (.ireturn, 1) := by decide +kernel
theorem dX12_count_107 : decode cX12_count 107 = .ok (.iconst (-1), 1) := by decide +kernel
theorem dX12_count_108 : decode cX12_count 108 = .ok (.ireturn, 1) := by decide +kernel
theorem dX12_conic_0 : decode cX12_conic 0 = .ok (.iload_n 1, 1) := by decide +kernel
theorem dX12_conic_1 : decode cX12_conic 1 = .ok (.invokestatic 136, 3) := by decide +kernel
theorem dX12_conic_4 : decode cX12_conic 4 = .ok (.ifCond .ne 6, 3) := by decide +kernel
theorem dX12_conic_7 : decode cX12_conic 7 = .ok (.ldc 182, 2) := by decide +kernel
theorem dX12_conic_9 : decode cX12_conic 9 = .ok (.ireturn, 1) := by decide +kernel
theorem dX12_conic_10 : decode cX12_conic 10 = .ok (.aload_n 0, 1) := by decide +kernel
theorem dX12_conic_11 : decode cX12_conic 11 = .ok (.iconst 0, 1) := by decide +kernel
theorem dX12_conic_12 : decode cX12_conic 12 = .ok (.iload_n 1, 1) := by decide +kernel
theorem dX12_conic_13 : decode cX12_conic 13 = .ok (.invokevirtual 145, 3) := by decide +kernel
theorem dX12_conic_16 : decode cX12_conic 16 = .ok (.iload_n 2, 1) := by decide +kernel
theorem dX12_conic_17 : decode cX12_conic 17 = .ok (.bipush 10, 2) := by decide +kernel
theorem dX12_conic_19 : decode cX12_conic 19 = .ok (.bipush 15, 2) := by decide +kernel
theorem dX12_conic_21 : decode cX12_conic 21 = .ok (.invokestatic 113, 3) := by decide +kernel
theorem dX12_conic_24 : decode cX12_conic 24 = .ok (.ifCond .eq 18, 3) := by decide +kernel
theorem dX12_conic_27 : decode cX12_conic 27 = .ok (.aload_n 0, 1) := by decide +kernel
theorem dX12_conic_28 : decode cX12_conic 28 = .ok (.getfield 7, 3) := by decide +kernel
theorem dX12_conic_31 : decode cX12_conic 31 = .ok (.bipush 6, 2) := by decide +kernel
theorem dX12_conic_33 : decode cX12_conic 33 = .ok (.iload_n 1, 1) := by decide +kernel
theorem dX12_conic_34 : decode cX12_conic 34 = .ok (.imul, 1) := by decide +kernel
theorem dX12_conic_35 : decode cX12_conic 35 = .ok (.iload_n 2, 1) := by decide +kernel
theorem dX12_conic_36 : decode cX12_conic 36 = .ok (.iadd, 1) := by decide +kernel
theorem dX12_conic_37 : decode cX12_conic 37 = .ok (.bipush 10, 2) := by decide +kernel
theorem dX12_conic_39 : decode cX12_conic 39 = .ok (.isub, 1) := by decide +kernel
theorem dX12_conic_40 : decode cX12_conic 40 = .ok (.iaload, 1) := by decide +kernel
theorem dX12_conic_41 : decode cX12_conic 41 = .ok (.ireturn, 1) := by decide +kernel
theorem dX12_conic_42 : decode cX12_conic 42 = .ok (.iload_n 2, 1) := by decide +kernel
theorem dX12_conic_43 : decode cX12_conic 43 = .ok (.bipush 20, 2) := by decide +kernel
theorem dX12_conic_45 : decode cX12_conic 45 = .ok (.bipush 25, 2) := by decide +kernel
theorem dX12_conic_47 : decode cX12_conic 47 = .ok (.invokestatic 113, 3) := by decide +kernel
theorem dX12_conic_50 : decode cX12_conic 50 = .ok (.ifCond .eq 13, 3) := by decide +kernel
theorem dX12_conic_53 : decode cX12_conic 53 = .ok (.aload_n 0, 1) := by decide +kernel
theorem dX12_conic_54 : decode cX12_conic 54 = .ok (.getfield 24, 3) := by decide +kernel
theorem dX12_conic_57 : decode cX12_conic 57 = .ok (.iload_n 2, 1) := by decide +kernel
theorem dX12_conic_58 : decode cX12_conic 58 = .ok (.bipush 20, 2) := by decide +kernel
theorem dX12_conic_60 : decode cX12_conic 60 = .ok (.isub, 1) := by decide +kernel
theorem dX12_conic_61 : decode cX12_conic 61 = .ok (.iaload, 1) := by decide +kernel
theorem dX12_conic_62 : decode cX12_conic 62 = .ok (.ireturn, 1) := by decide +kernel
theorem dX12_conic_63 : decode cX12_conic 63 = .ok (.iload_n 2, 1) := by decide +kernel
theorem dX12_conic_64 : decode cX12_conic 64 = .ok (.tableswitch 110 0 9 #[56, 62, 67, 72, 72, 72, 79, 84, 89, 89], 56) := by decide +kernel
theorem dX12_conic_120 : decode cX12_conic 120 = .ok (.aload_n 0, 1) := by decide +kernel
theorem dX12_conic_121 : decode cX12_conic 121 = .ok (.iload_n 1, 1) := by decide +kernel
theorem dX12_conic_122 : decode cX12_conic 122 = .ok (.invokevirtual 183, 3) := by decide +kernel
theorem dX12_conic_125 : decode cX12_conic 125 = .ok (.ireturn, 1) := by decide +kernel
theorem dX12_conic_126 : decode cX12_conic 126 = .ok (.aload_n 0, 1) := by decide +kernel
theorem dX12_conic_127 : decode cX12_conic 127 = .ok (.invokevirtual 148, 3) := by decide +kernel
theorem dX12_conic_130 : decode cX12_conic 130 = .ok (.ireturn, 1) := by decide +kernel
theorem dX12_conic_131 : decode cX12_conic 131 = .ok (.aload_n 0, 1) := by decide +kernel
theorem dX12_conic_132 : decode cX12_conic 132 = .ok (.invokevirtual 85, 3) := by decide +kernel
theorem dX12_conic_135 : decode cX12_conic 135 = .ok (.ireturn, 1) := by decide +kernel
theorem dX12_conic_136 : decode cX12_conic 136 = .ok (.aload_n 0, 1) := by decide +kernel
theorem dX12_conic_137 : decode cX12_conic 137 = .ok (.iload_n 1, 1) := by decide +kernel
theorem dX12_conic_138 : decode cX12_conic 138 = .ok (.iload_n 2, 1) := by decide +kernel
theorem dX12_conic_139 : decode cX12_conic 139 = .ok (.invokevirtual 100, 3) := by decide +kernel
theorem dX12_conic_142 : decode cX12_conic 142 = .ok (.ireturn, 1) := by decide +kernel
theorem dX12_conic_143 : decode cX12_conic 143 = .ok (.aload_n 0, 1) := by decide +kernel
theorem dX12_conic_144 : decode cX12_conic 144 = .ok (.invokevirtual 186, 3) := by decide +kernel
theorem dX12_conic_147 : decode cX12_conic 147 = .ok (.ireturn, 1) := by decide +kernel
theorem dX12_conic_148 : decode cX12_conic 148 = .ok (.aload_n 0, 1) := by decide +kernel
theorem dX12_conic_149 : decode cX12_conic 149 = .ok (.invokevirtual 88, 3) := by decide +kernel
theorem dX12_conic_152 : decode cX12_conic 152 = .ok (.ireturn, 1) := by decide +kernel
theorem dX12_conic_153 : decode cX12_conic 153 = .ok (.aload_n 0, 1) := by decide +kernel
theorem dX12_conic_154 : decode cX12_conic 154 = .ok (.invokevirtual 148, 3) := by decide +kernel
theorem dX12_conic_157 : decode cX12_conic 157 = .ok (.iconst 4, 1) := by decide +kernel
theorem dX12_conic_158 : decode cX12_conic 158 = .ok (.if_icmp .ne 14, 3) := by decide +kernel
theorem dX12_conic_161 : decode cX12_conic 161 = .ok (.aload_n 0, 1) := by decide +kernel
theorem dX12_conic_162 : decode cX12_conic 162 = .ok (.iload_n 2, 1) := by decide +kernel
theorem dX12_conic_163 : decode cX12_conic 163 = .ok (.bipush 7, 2) := by decide +kernel
theorem dX12_conic_165 : decode cX12_conic 165 = .ok (.isub, 1) := by decide +kernel
theorem dX12_conic_166 : decode cX12_conic 166 = .ok (.invokevirtual 189, 3) := by decide +kernel
theorem dX12_conic_169 : decode cX12_conic 169 = .ok (.goto 4, 3) := by decide +kernel
theorem dX12_conic_172 : decode cX12_conic 172 = .ok (.iconst (-1), 1) := by decide +kernel
theorem dX12_conic_173 : decode cX12_conic 173 = .ok (.ireturn, 1) := by decide +kernel
theorem dX12_conic_174 : decode cX12_conic 174 = .ok (.ldc 182, 2) := by decide +kernel
theorem dX12_conic_176 : decode cX12_conic 176 = .ok (.ireturn, 1) := by decide +kernel
theorem dX12_place_0 : decode cX12_place 0 = .ok (.aload_n 0, 1) := by decide +kernel
theorem dX12_place_1 : decode cX12_place 1 = .ok (.iload_n 1, 1) := by decide +kernel
theorem dX12_place_2 : decode cX12_place 2 = .ok (.invokevirtual 161, 3) := by decide +kernel
theorem dX12_place_5 : decode cX12_place 5 = .ok (.ifCond .eq 12, 3) := by decide +kernel
theorem dX12_place_8 : decode cX12_place 8 = .ok (.iload_n 2, 1) := by decide +kernel
theorem dX12_place_9 : decode cX12_place 9 = .ok (.iconst 0, 1) := by decide +kernel
theorem dX12_place_10 : decode cX12_place 10 = .ok (.iconst 2, 1) := by decide +kernel
theorem dX12_place_11 : decode cX12_place 11 = .ok (.invokestatic 113, 3) := by decide +kernel
theorem dX12_place_14 : decode cX12_place 14 = .ok (.ifCond .ne 5, 3) := by decide +kernel
theorem dX12_place_17 : decode cX12_place 17 = .ok (.iconst (-1), 1) := by decide +kernel
theorem dX12_place_18 : decode cX12_place 18 = .ok (.ireturn, 1) := by decide +kernel
theorem dX12_place_19 : decode cX12_place 19 = .ok (.aload_n 0, 1) := by decide +kernel
theorem dX12_place_20 : decode cX12_place 20 = .ok (.iload_n 1, 1) := by decide +kernel
theorem dX12_place_21 : decode cX12_place 21 = .ok (.invokevirtual 59, 3) := by decide +kernel
theorem dX12_place_24 : decode cX12_place 24 = .ok (.iload_n 2, 1) := by decide +kernel
theorem dX12_place_25 : decode cX12_place 25 = .ok (.ifCond .ne 10, 3) := by decide +kernel
theorem dX12_place_28 : decode cX12_place 28 = .ok (.aload_n 0, 1) := by decide +kernel
theorem dX12_place_29 : decode cX12_place 29 = .ok (.getfield 43, 3) := by decide +kernel
theorem dX12_place_32 : decode cX12_place 32 = .ok (.goto 19, 3) := by decide +kernel
theorem dX12_place_35 : decode cX12_place 35 = .ok (.iload_n 2, 1) := by decide +kernel
theorem dX12_place_36 : decode cX12_place 36 = .ok (.iconst 1, 1) := by decide +kernel
theorem dX12_place_37 : decode cX12_place 37 = .ok (.if_icmp .ne 10, 3) := by decide +kernel
theorem dX12_place_40 : decode cX12_place 40 = .ok (.aload_n 0, 1) := by decide +kernel
theorem dX12_place_41 : decode cX12_place 41 = .ok (.getfield 46, 3) := by decide +kernel
theorem dX12_place_44 : decode cX12_place 44 = .ok (.goto 7, 3) := by decide +kernel
theorem dX12_place_47 : decode cX12_place 47 = .ok (.aload_n 0, 1) := by decide +kernel
theorem dX12_place_48 : decode cX12_place 48 = .ok (.getfield 49, 3) := by decide +kernel
theorem dX12_place_51 : decode cX12_place 51 = .ok (.ireturn, 1) := by decide +kernel
theorem dX12_number_0 : decode cX12_number 0 = .ok (.aload_n 0, 1) := by decide +kernel
theorem dX12_number_1 : decode cX12_number 1 = .ok (.aload_n 0, 1) := by decide +kernel
theorem dX12_number_2 : decode cX12_number 2 = .ok (.getfield 7, 3) := by decide +kernel
theorem dX12_number_5 : decode cX12_number 5 = .ok (.bipush 36, 2) := by decide +kernel
theorem dX12_number_7 : decode cX12_number 7 = .ok (.iaload, 1) := by decide +kernel
theorem dX12_number_8 : decode cX12_number 8 = .ok (.putfield 40, 3) := by decide +kernel
theorem dX12_number_11 : decode cX12_number 11 = .ok (.aload_n 0, 1) := by decide +kernel
theorem dX12_number_12 : decode cX12_number 12 = .ok (.iload_n 1, 1) := by decide +kernel
theorem dX12_number_13 : decode cX12_number 13 = .ok (.iload_n 2, 1) := by decide +kernel
theorem dX12_number_14 : decode cX12_number 14 = .ok (.iload_n 3, 1) := by decide +kernel
theorem dX12_number_15 : decode cX12_number 15 = .ok (.invokevirtual 62, 3) := by decide +kernel
theorem dX12_number_18 : decode cX12_number 18 = .ok (.ireturn, 1) := by decide +kernel
theorem dX12_joined_0 : decode cX12_joined 0 = .ok (.aload_n 0, 1) := by decide +kernel
theorem dX12_joined_1 : decode cX12_joined 1 = .ok (.iload_n 1, 1) := by decide +kernel
theorem dX12_joined_2 : decode cX12_joined 2 = .ok (.invokevirtual 161, 3) := by decide +kernel
theorem dX12_joined_5 : decode cX12_joined 5 = .ok (.ifCond .eq 25, 3) := by decide +kernel
theorem dX12_joined_8 : decode cX12_joined 8 = .ok (.aload_n 0, 1) := by decide +kernel
theorem dX12_joined_9 : decode cX12_joined 9 = .ok (.iload_n 2, 1) := by decide +kernel
theorem dX12_joined_10 : decode cX12_joined 10 = .ok (.invokevirtual 161, 3) := by decide +kernel
theorem dX12_joined_13 : decode cX12_joined 13 = .ok (.ifCond .eq 17, 3) := by decide +kernel
theorem dX12_joined_16 : decode cX12_joined 16 = .ok (.iload_n 1, 1) := by decide +kernel
theorem dX12_joined_17 : decode cX12_joined 17 = .ok (.iload_n 2, 1) := by decide +kernel
theorem dX12_joined_18 : decode cX12_joined 18 = .ok (.if_icmp .eq 12, 3) := by decide +kernel
theorem dX12_joined_21 : decode cX12_joined 21 = .ok (.aload_n 0, 1) := by decide +kernel
theorem dX12_joined_22 : decode cX12_joined 22 = .ok (.iload_n 1, 1) := by decide +kernel
theorem dX12_joined_23 : decode cX12_joined 23 = .ok (.iload_n 2, 1) := by decide +kernel
theorem dX12_joined_24 : decode cX12_joined 24 = .ok (.invokevirtual 167, 3) := by decide +kernel
theorem dX12_joined_27 : decode cX12_joined 27 = .ok (.goto 4, 3) := by decide +kernel
theorem dX12_joined_30 : decode cX12_joined 30 = .ok (.iconst (-1), 1) := by decide +kernel
theorem dX12_joined_31 : decode cX12_joined 31 = .ok (.ireturn, 1) := by decide +kernel
theorem dX12_marked_0 : decode cX12_marked 0 = .ok (.iload_n 1, 1) := by decide +kernel
theorem dX12_marked_1 : decode cX12_marked 1 = .ok (.iconst 0, 1) := by decide +kernel
theorem dX12_marked_2 : decode cX12_marked 2 = .ok (.aload_n 0, 1) := by decide +kernel
theorem dX12_marked_3 : decode cX12_marked 3 = .ok (.getfield 7, 3) := by decide +kernel
theorem dX12_marked_6 : decode cX12_marked 6 = .ok (.bipush 37, 2) := by decide +kernel
theorem dX12_marked_8 : decode cX12_marked 8 = .ok (.iaload, 1) := by decide +kernel
theorem dX12_marked_9 : decode cX12_marked 9 = .ok (.iconst 1, 1) := by decide +kernel
theorem dX12_marked_10 : decode cX12_marked 10 = .ok (.isub, 1) := by decide +kernel
theorem dX12_marked_11 : decode cX12_marked 11 = .ok (.invokestatic 113, 3) := by decide +kernel
theorem dX12_marked_14 : decode cX12_marked 14 = .ok (.ifCond .eq 15, 3) := by decide +kernel
theorem dX12_marked_17 : decode cX12_marked 17 = .ok (.aload_n 0, 1) := by decide +kernel
theorem dX12_marked_18 : decode cX12_marked 18 = .ok (.getfield 7, 3) := by decide +kernel
theorem dX12_marked_21 : decode cX12_marked 21 = .ok (.bipush 38, 2) := by decide +kernel
theorem dX12_marked_23 : decode cX12_marked 23 = .ok (.iload_n 1, 1) := by decide +kernel
theorem dX12_marked_24 : decode cX12_marked 24 = .ok (.iadd, 1) := by decide +kernel
theorem dX12_marked_25 : decode cX12_marked 25 = .ok (.iaload, 1) := by decide +kernel
theorem dX12_marked_26 : decode cX12_marked 26 = .ok (.goto 4, 3) := by decide +kernel
theorem dX12_marked_29 : decode cX12_marked 29 = .ok (.iconst (-1), 1) := by decide +kernel
theorem dX12_marked_30 : decode cX12_marked 30 = .ok (.ireturn, 1) := by decide +kernel
theorem dX12_lies_0 : decode cX12_lies 0 = .ok (.iload_n 1, 1) := by decide +kernel
theorem dX12_lies_1 : decode cX12_lies 1 = .ok (.invokestatic 136, 3) := by decide +kernel
theorem dX12_lies_4 : decode cX12_lies 4 = .ok (.ifCond .eq 11, 3) := by decide +kernel
theorem dX12_lies_7 : decode cX12_lies 7 = .ok (.aload_n 0, 1) := by decide +kernel
theorem dX12_lies_8 : decode cX12_lies 8 = .ok (.iload_n 2, 1) := by decide +kernel
theorem dX12_lies_9 : decode cX12_lies 9 = .ok (.invokevirtual 161, 3) := by decide +kernel
theorem dX12_lies_12 : decode cX12_lies 12 = .ok (.ifCond .ne 5, 3) := by decide +kernel
theorem dX12_lies_15 : decode cX12_lies 15 = .ok (.iconst (-1), 1) := by decide +kernel
theorem dX12_lies_16 : decode cX12_lies 16 = .ok (.ireturn, 1) := by decide +kernel
theorem dX12_lies_17 : decode cX12_lies 17 = .ok (.aload_n 0, 1) := by decide +kernel
theorem dX12_lies_18 : decode cX12_lies 18 = .ok (.iconst 0, 1) := by decide +kernel
theorem dX12_lies_19 : decode cX12_lies 19 = .ok (.iload_n 1, 1) := by decide +kernel
theorem dX12_lies_20 : decode cX12_lies 20 = .ok (.invokevirtual 145, 3) := by decide +kernel
theorem dX12_lies_23 : decode cX12_lies 23 = .ok (.aload_n 0, 1) := by decide +kernel
theorem dX12_lies_24 : decode cX12_lies 24 = .ok (.iload_n 2, 1) := by decide +kernel
theorem dX12_lies_25 : decode cX12_lies 25 = .ok (.aload_n 0, 1) := by decide +kernel
theorem dX12_lies_26 : decode cX12_lies 26 = .ok (.invokevirtual 148, 3) := by decide +kernel
theorem dX12_lies_29 : decode cX12_lies 29 = .ok (.invokevirtual 97, 3) := by decide +kernel
theorem dX12_lies_32 : decode cX12_lies 32 = .ok (.ireturn, 1) := by decide +kernel
theorem dX12_on_0 : decode cX12_on 0 = .ok (.iload_n 1, 1) := by decide +kernel
theorem dX12_on_1 : decode cX12_on 1 = .ok (.invokestatic 136, 3) := by decide +kernel
theorem dX12_on_4 : decode cX12_on 4 = .ok (.ifCond .eq 7, 3) := by decide +kernel
theorem dX12_on_7 : decode cX12_on 7 = .ok (.iload_n 2, 1) := by decide +kernel
theorem dX12_on_8 : decode cX12_on 8 = .ok (.ifCond .ge 5, 3) := by decide +kernel
theorem dX12_on_11 : decode cX12_on 11 = .ok (.iconst (-1), 1) := by decide +kernel
theorem dX12_on_12 : decode cX12_on 12 = .ok (.ireturn, 1) := by decide +kernel
theorem dX12_on_13 : decode cX12_on 13 = .ok (.aload_n 0, 1) := by decide +kernel
theorem dX12_on_14 : decode cX12_on 14 = .ok (.iconst 0, 1) := by decide +kernel
theorem dX12_on_15 : decode cX12_on 15 = .ok (.iload_n 1, 1) := by decide +kernel
theorem dX12_on_16 : decode cX12_on 16 = .ok (.invokevirtual 145, 3) := by decide +kernel
theorem dX12_on_19 : decode cX12_on 19 = .ok (.iconst 0, 1) := by decide +kernel
theorem dX12_on_20 : decode cX12_on 20 = .ok (.istore 4, 2) := by decide +kernel
theorem dX12_on_22 : decode cX12_on 22 = .ok (.iconst 0, 1) := by decide +kernel
theorem dX12_on_23 : decode cX12_on 23 = .ok (.istore 5, 2) := by decide +kernel
theorem dX12_on_25 : decode cX12_on 25 = .ok (.iload 5, 2) := by decide +kernel
theorem dX12_on_27 : decode cX12_on 27 = .ok (.aload_n 0, 1) := by decide +kernel
theorem dX12_on_28 : decode cX12_on 28 = .ok (.invokevirtual 66, 3) := by decide +kernel
theorem dX12_on_31 : decode cX12_on 31 = .ok (.if_icmp .ge 49, 3) := by decide +kernel
theorem dX12_on_34 : decode cX12_on 34 = .ok (.iload_n 3, 1) := by decide +kernel
theorem dX12_on_35 : decode cX12_on 35 = .ok (.ifCond .eq 15, 3) := by decide +kernel
theorem dX12_on_38 : decode cX12_on 38 = .ok (.aload_n 0, 1) := by decide +kernel
theorem dX12_on_39 : decode cX12_on 39 = .ok (.iload 5, 2) := by decide +kernel
theorem dX12_on_41 : decode cX12_on 41 = .ok (.invokevirtual 78, 3) := by decide +kernel
theorem dX12_on_44 : decode cX12_on 44 = .ok (.ifCond .ne 18, 3) := by decide +kernel
theorem dX12_on_47 : decode cX12_on 47 = .ok (.goto 27, 3) := by decide +kernel
theorem dX12_on_50 : decode cX12_on 50 = .ok (.aload_n 0, 1) := by decide +kernel
theorem dX12_on_51 : decode cX12_on 51 = .ok (.iload 5, 2) := by decide +kernel
theorem dX12_on_53 : decode cX12_on 53 = .ok (.invokevirtual 70, 3) := by decide +kernel
theorem dX12_on_56 : decode cX12_on 56 = .ok (.ifCond .ne 6, 3) := by decide +kernel
theorem dX12_on_59 : decode cX12_on 59 = .ok (.goto 15, 3) := by decide +kernel
theorem dX12_on_62 : decode cX12_on 62 = .ok (.iload 4, 2) := by decide +kernel
theorem dX12_on_64 : decode cX12_on 64 = .ok (.iload_n 2, 1) := by decide +kernel
theorem dX12_on_65 : decode cX12_on 65 = .ok (.if_icmp .ne 6, 3) := by decide +kernel
theorem dX12_on_68 : decode cX12_on 68 = .ok (.iload 5, 2) := by decide +kernel
theorem dX12_on_70 : decode cX12_on 70 = .ok (.ireturn, 1) := by decide +kernel
theorem dX12_on_71 : decode cX12_on 71 = .ok (.iinc 4 1, 3) := by decide +kernel
theorem dX12_on_74 : decode cX12_on 74 = .ok (.iinc 5 1, 3) := by decide +kernel
theorem dX12_on_77 : decode cX12_on 77 = .ok (.goto (-52), 3) := by decide +kernel
theorem dX12_on_80 : decode cX12_on 80 = .ok (.iconst (-1), 1) := by decide +kernel
theorem dX12_on_81 : decode cX12_on 81 = .ok (.ireturn, 1) := by decide +kernel
theorem dX12_polar_0 : decode cX12_polar 0 = .ok (.iload_n 1, 1) := by decide +kernel
theorem dX12_polar_1 : decode cX12_polar 1 = .ok (.invokestatic 136, 3) := by decide +kernel
theorem dX12_polar_4 : decode cX12_polar 4 = .ok (.ifCond .eq 11, 3) := by decide +kernel
theorem dX12_polar_7 : decode cX12_polar 7 = .ok (.aload_n 0, 1) := by decide +kernel
theorem dX12_polar_8 : decode cX12_polar 8 = .ok (.iload_n 2, 1) := by decide +kernel
theorem dX12_polar_9 : decode cX12_polar 9 = .ok (.invokevirtual 161, 3) := by decide +kernel
theorem dX12_polar_12 : decode cX12_polar 12 = .ok (.ifCond .ne 5, 3) := by decide +kernel
theorem dX12_polar_15 : decode cX12_polar 15 = .ok (.iconst (-1), 1) := by decide +kernel
theorem dX12_polar_16 : decode cX12_polar 16 = .ok (.ireturn, 1) := by decide +kernel
theorem dX12_polar_17 : decode cX12_polar 17 = .ok (.aload_n 0, 1) := by decide +kernel
theorem dX12_polar_18 : decode cX12_polar 18 = .ok (.iconst 0, 1) := by decide +kernel
theorem dX12_polar_19 : decode cX12_polar 19 = .ok (.iload_n 1, 1) := by decide +kernel
theorem dX12_polar_20 : decode cX12_polar 20 = .ok (.invokevirtual 145, 3) := by decide +kernel
theorem dX12_polar_23 : decode cX12_polar 23 = .ok (.aload_n 0, 1) := by decide +kernel
theorem dX12_polar_24 : decode cX12_polar 24 = .ok (.iload_n 2, 1) := by decide +kernel
theorem dX12_polar_25 : decode cX12_polar 25 = .ok (.invokevirtual 91, 3) := by decide +kernel
theorem dX12_polar_28 : decode cX12_polar 28 = .ok (.ireturn, 1) := by decide +kernel
theorem dX12_pole_0 : decode cX12_pole 0 = .ok (.iload_n 1, 1) := by decide +kernel
theorem dX12_pole_1 : decode cX12_pole 1 = .ok (.invokestatic 136, 3) := by decide +kernel
theorem dX12_pole_4 : decode cX12_pole 4 = .ok (.ifCond .eq 11, 3) := by decide +kernel
theorem dX12_pole_7 : decode cX12_pole 7 = .ok (.aload_n 0, 1) := by decide +kernel
theorem dX12_pole_8 : decode cX12_pole 8 = .ok (.iload_n 2, 1) := by decide +kernel
theorem dX12_pole_9 : decode cX12_pole 9 = .ok (.invokevirtual 161, 3) := by decide +kernel
theorem dX12_pole_12 : decode cX12_pole 12 = .ok (.ifCond .ne 5, 3) := by decide +kernel
theorem dX12_pole_15 : decode cX12_pole 15 = .ok (.iconst (-1), 1) := by decide +kernel
theorem dX12_pole_16 : decode cX12_pole 16 = .ok (.ireturn, 1) := by decide +kernel
theorem dX12_pole_17 : decode cX12_pole 17 = .ok (.aload_n 0, 1) := by decide +kernel
theorem dX12_pole_18 : decode cX12_pole 18 = .ok (.iconst 0, 1) := by decide +kernel
theorem dX12_pole_19 : decode cX12_pole 19 = .ok (.iload_n 1, 1) := by decide +kernel
theorem dX12_pole_20 : decode cX12_pole 20 = .ok (.invokevirtual 145, 3) := by decide +kernel
theorem dX12_pole_23 : decode cX12_pole 23 = .ok (.aload_n 0, 1) := by decide +kernel
theorem dX12_pole_24 : decode cX12_pole 24 = .ok (.invokevirtual 85, 3) := by decide +kernel
theorem dX12_pole_27 : decode cX12_pole 27 = .ok (.iconst 3, 1) := by decide +kernel
theorem dX12_pole_28 : decode cX12_pole 28 = .ok (.if_icmp .eq 5, 3) := by decide +kernel
theorem dX12_pole_31 : decode cX12_pole 31 = .ok (.iconst (-1), 1) := by decide +kernel
theorem dX12_pole_32 : decode cX12_pole 32 = .ok (.ireturn, 1) := by decide +kernel
theorem dX12_pole_33 : decode cX12_pole 33 = .ok (.iconst 0, 1) := by decide +kernel
theorem dX12_pole_34 : decode cX12_pole 34 = .ok (.istore_n 3, 1) := by decide +kernel
theorem dX12_pole_35 : decode cX12_pole 35 = .ok (.iload_n 3, 1) := by decide +kernel
theorem dX12_pole_36 : decode cX12_pole 36 = .ok (.aload_n 0, 1) := by decide +kernel
theorem dX12_pole_37 : decode cX12_pole 37 = .ok (.invokevirtual 66, 3) := by decide +kernel
theorem dX12_pole_40 : decode cX12_pole 40 = .ok (.if_icmp .ge 20, 3) := by decide +kernel
theorem dX12_pole_43 : decode cX12_pole 43 = .ok (.aload_n 0, 1) := by decide +kernel
theorem dX12_pole_44 : decode cX12_pole 44 = .ok (.iload_n 3, 1) := by decide +kernel
theorem dX12_pole_45 : decode cX12_pole 45 = .ok (.invokevirtual 91, 3) := by decide +kernel
theorem dX12_pole_48 : decode cX12_pole 48 = .ok (.iload_n 2, 1) := by decide +kernel
theorem dX12_pole_49 : decode cX12_pole 49 = .ok (.if_icmp .ne 5, 3) := by decide +kernel
theorem dX12_pole_52 : decode cX12_pole 52 = .ok (.iload_n 3, 1) := by decide +kernel
theorem dX12_pole_53 : decode cX12_pole 53 = .ok (.ireturn, 1) := by decide +kernel
theorem dX12_pole_54 : decode cX12_pole 54 = .ok (.iinc 3 1, 3) := by decide +kernel
theorem dX12_pole_57 : decode cX12_pole 57 = .ok (.goto (-22), 3) := by decide +kernel
theorem dX12_pole_60 : decode cX12_pole 60 = .ok (.iconst (-1), 1) := by decide +kernel
theorem dX12_pole_61 : decode cX12_pole 61 = .ok (.ireturn, 1) := by decide +kernel
theorem dX12_meets_0 : decode cX12_meets 0 = .ok (.iload_n 1, 1) := by decide +kernel
theorem dX12_meets_1 : decode cX12_meets 1 = .ok (.invokestatic 136, 3) := by decide +kernel
theorem dX12_meets_4 : decode cX12_meets 4 = .ok (.ifCond .eq 11, 3) := by decide +kernel
theorem dX12_meets_7 : decode cX12_meets 7 = .ok (.aload_n 0, 1) := by decide +kernel
theorem dX12_meets_8 : decode cX12_meets 8 = .ok (.iload_n 2, 1) := by decide +kernel
theorem dX12_meets_9 : decode cX12_meets 9 = .ok (.invokevirtual 161, 3) := by decide +kernel
theorem dX12_meets_12 : decode cX12_meets 12 = .ok (.ifCond .ne 5, 3) := by decide +kernel
theorem dX12_meets_15 : decode cX12_meets 15 = .ok (.iconst (-1), 1) := by decide +kernel
theorem dX12_meets_16 : decode cX12_meets 16 = .ok (.ireturn, 1) := by decide +kernel
theorem dX12_meets_17 : decode cX12_meets 17 = .ok (.aload_n 0, 1) := by decide +kernel
theorem dX12_meets_18 : decode cX12_meets 18 = .ok (.iconst 0, 1) := by decide +kernel
theorem dX12_meets_19 : decode cX12_meets 19 = .ok (.iload_n 1, 1) := by decide +kernel
theorem dX12_meets_20 : decode cX12_meets 20 = .ok (.invokevirtual 145, 3) := by decide +kernel
theorem dX12_meets_23 : decode cX12_meets 23 = .ok (.iconst 0, 1) := by decide +kernel
theorem dX12_meets_24 : decode cX12_meets 24 = .ok (.istore_n 3, 1) := by decide +kernel
theorem dX12_meets_25 : decode cX12_meets 25 = .ok (.iconst 0, 1) := by decide +kernel
theorem dX12_meets_26 : decode cX12_meets 26 = .ok (.istore 4, 2) := by decide +kernel
theorem dX12_meets_28 : decode cX12_meets 28 = .ok (.iload 4, 2) := by decide +kernel
theorem dX12_meets_30 : decode cX12_meets 30 = .ok (.aload_n 0, 1) := by decide +kernel
theorem dX12_meets_31 : decode cX12_meets 31 = .ok (.invokevirtual 66, 3) := by decide +kernel
theorem dX12_meets_34 : decode cX12_meets 34 = .ok (.if_icmp .ge 36, 3) := by decide +kernel
theorem dX12_meets_37 : decode cX12_meets 37 = .ok (.iload_n 3, 1) := by decide +kernel
theorem dX12_meets_38 : decode cX12_meets 38 = .ok (.aload_n 0, 1) := by decide +kernel
theorem dX12_meets_39 : decode cX12_meets 39 = .ok (.iload 4, 2) := by decide +kernel
theorem dX12_meets_41 : decode cX12_meets 41 = .ok (.iload_n 2, 1) := by decide +kernel
theorem dX12_meets_42 : decode cX12_meets 42 = .ok (.invokevirtual 74, 3) := by decide +kernel
theorem dX12_meets_45 : decode cX12_meets 45 = .ok (.ifCond .eq 16, 3) := by decide +kernel
theorem dX12_meets_48 : decode cX12_meets 48 = .ok (.aload_n 0, 1) := by decide +kernel
theorem dX12_meets_49 : decode cX12_meets 49 = .ok (.iload 4, 2) := by decide +kernel
theorem dX12_meets_51 : decode cX12_meets 51 = .ok (.invokevirtual 70, 3) := by decide +kernel
theorem dX12_meets_54 : decode cX12_meets 54 = .ok (.ifCond .eq 7, 3) := by decide +kernel
theorem dX12_meets_57 : decode cX12_meets 57 = .ok (.iconst 1, 1) := by decide +kernel
theorem dX12_meets_58 : decode cX12_meets 58 = .ok (.goto 4, 3) := by decide +kernel
theorem dX12_meets_61 : decode cX12_meets 61 = .ok (.iconst 0, 1) := by decide +kernel
theorem dX12_meets_62 : decode cX12_meets 62 = .ok (.iadd, 1) := by decide +kernel
theorem dX12_meets_63 : decode cX12_meets 63 = .ok (.istore_n 3, 1) := by decide +kernel
theorem dX12_meets_64 : decode cX12_meets 64 = .ok (.iinc 4 1, 3) := by decide +kernel
theorem dX12_meets_67 : decode cX12_meets 67 = .ok (.goto (-39), 3) := by decide +kernel
theorem dX12_meets_70 : decode cX12_meets 70 = .ok (.iload_n 3, 1) := by decide +kernel
theorem dX12_meets_71 : decode cX12_meets 71 = .ok (.ireturn, 1) := by decide +kernel
theorem dX12_isTangent_0 : decode cX12_isTangent 0 = .ok (.iconst 0, 1) := by decide +kernel
theorem dX12_isTangent_1 : decode cX12_isTangent 1 = .ok (.istore_n 2, 1) := by decide +kernel
theorem dX12_isTangent_2 : decode cX12_isTangent 2 = .ok (.iload_n 2, 1) := by decide +kernel
theorem dX12_isTangent_3 : decode cX12_isTangent 3 = .ok (.aload_n 0, 1) := by decide +kernel
theorem dX12_isTangent_4 : decode cX12_isTangent 4 = .ok (.invokevirtual 66, 3) := by decide +kernel
theorem dX12_isTangent_7 : decode cX12_isTangent 7 = .ok (.if_icmp .ge 28, 3) := by decide +kernel
theorem dX12_isTangent_10 : decode cX12_isTangent 10 = .ok (.aload_n 0, 1) := by decide +kernel
theorem dX12_isTangent_11 : decode cX12_isTangent 11 = .ok (.iload_n 2, 1) := by decide +kernel
theorem dX12_isTangent_12 : decode cX12_isTangent 12 = .ok (.invokevirtual 70, 3) := by decide +kernel
theorem dX12_isTangent_15 : decode cX12_isTangent 15 = .ok (.ifCond .eq 14, 3) := by decide +kernel
theorem dX12_isTangent_18 : decode cX12_isTangent 18 = .ok (.aload_n 0, 1) := by decide +kernel
theorem dX12_isTangent_19 : decode cX12_isTangent 19 = .ok (.iload_n 2, 1) := by decide +kernel
theorem dX12_isTangent_20 : decode cX12_isTangent 20 = .ok (.invokevirtual 91, 3) := by decide +kernel
theorem dX12_isTangent_23 : decode cX12_isTangent 23 = .ok (.iload_n 1, 1) := by decide +kernel
theorem dX12_isTangent_24 : decode cX12_isTangent 24 = .ok (.if_icmp .ne 5, 3) := by decide +kernel
theorem dX12_isTangent_27 : decode cX12_isTangent 27 = .ok (.iconst 1, 1) := by decide +kernel
theorem dX12_isTangent_28 : decode cX12_isTangent 28 = .ok (.ireturn, 1) := by decide +kernel
theorem dX12_isTangent_29 : decode cX12_isTangent 29 = .ok (.iinc 2 1, 3) := by decide +kernel
theorem dX12_isTangent_32 : decode cX12_isTangent 32 = .ok (.goto (-30), 3) := by decide +kernel
theorem dX12_isTangent_35 : decode cX12_isTangent 35 = .ok (.iconst 0, 1) := by decide +kernel
theorem dX12_isTangent_36 : decode cX12_isTangent 36 = .ok (.ireturn, 1) := by decide +kernel
theorem dX12_tangent_0 : decode cX12_tangent 0 = .ok (.iload_n 1, 1) := by decide +kernel
theorem dX12_tangent_1 : decode cX12_tangent 1 = .ok (.invokestatic 136, 3) := by decide +kernel
theorem dX12_tangent_4 : decode cX12_tangent 4 = .ok (.ifCond .eq 16, 3) := by decide +kernel
theorem dX12_tangent_7 : decode cX12_tangent 7 = .ok (.aload_n 0, 1) := by decide +kernel
theorem dX12_tangent_8 : decode cX12_tangent 8 = .ok (.iload_n 2, 1) := by decide +kernel
theorem dX12_tangent_9 : decode cX12_tangent 9 = .ok (.invokevirtual 161, 3) := by decide +kernel
theorem dX12_tangent_12 : decode cX12_tangent 12 = .ok (.ifCond .eq 8, 3) := by decide +kernel
theorem dX12_tangent_15 : decode cX12_tangent 15 = .ok (.iload_n 3, 1) := by decide +kernel
theorem dX12_tangent_16 : decode cX12_tangent 16 = .ok (.iconst (-1), 1) := by decide +kernel
theorem dX12_tangent_17 : decode cX12_tangent 17 = .ok (.if_icmp .ge 5, 3) := by decide +kernel
theorem dX12_tangent_20 : decode cX12_tangent 20 = .ok (.iconst (-1), 1) := by decide +kernel
theorem dX12_tangent_21 : decode cX12_tangent 21 = .ok (.ireturn, 1) := by decide +kernel
theorem dX12_tangent_22 : decode cX12_tangent 22 = .ok (.aload_n 0, 1) := by decide +kernel
theorem dX12_tangent_23 : decode cX12_tangent 23 = .ok (.iconst 0, 1) := by decide +kernel
theorem dX12_tangent_24 : decode cX12_tangent 24 = .ok (.iload_n 1, 1) := by decide +kernel
theorem dX12_tangent_25 : decode cX12_tangent 25 = .ok (.invokevirtual 145, 3) := by decide +kernel
theorem dX12_tangent_28 : decode cX12_tangent 28 = .ok (.aload_n 0, 1) := by decide +kernel
theorem dX12_tangent_29 : decode cX12_tangent 29 = .ok (.invokevirtual 85, 3) := by decide +kernel
theorem dX12_tangent_32 : decode cX12_tangent 32 = .ok (.iconst 3, 1) := by decide +kernel
theorem dX12_tangent_33 : decode cX12_tangent 33 = .ok (.if_icmp .eq 5, 3) := by decide +kernel
theorem dX12_tangent_36 : decode cX12_tangent 36 = .ok (.iconst (-1), 1) := by decide +kernel
theorem dX12_tangent_37 : decode cX12_tangent 37 = .ok (.ireturn, 1) := by decide +kernel
theorem dX12_tangent_38 : decode cX12_tangent 38 = .ok (.iload_n 3, 1) := by decide +kernel
theorem dX12_tangent_39 : decode cX12_tangent 39 = .ok (.iconst (-1), 1) := by decide +kernel
theorem dX12_tangent_40 : decode cX12_tangent 40 = .ok (.if_icmp .ne 9, 3) := by decide +kernel
theorem dX12_tangent_43 : decode cX12_tangent 43 = .ok (.aload_n 0, 1) := by decide +kernel
theorem dX12_tangent_44 : decode cX12_tangent 44 = .ok (.iload_n 2, 1) := by decide +kernel
theorem dX12_tangent_45 : decode cX12_tangent 45 = .ok (.invokevirtual 94, 3) := by decide +kernel
theorem dX12_tangent_48 : decode cX12_tangent 48 = .ok (.ireturn, 1) := by decide +kernel
theorem dX12_tangent_49 : decode cX12_tangent 49 = .ok (.iconst 0, 1) := by decide +kernel
theorem dX12_tangent_50 : decode cX12_tangent 50 = .ok (.istore 4, 2) := by decide +kernel
theorem dX12_tangent_52 : decode cX12_tangent 52 = .ok (.iconst 0, 1) := by decide +kernel
theorem dX12_tangent_53 : decode cX12_tangent 53 = .ok (.istore 5, 2) := by decide +kernel
theorem dX12_tangent_55 : decode cX12_tangent 55 = .ok (.iload 5, 2) := by decide +kernel
theorem dX12_tangent_57 : decode cX12_tangent 57 = .ok (.aload_n 0, 1) := by decide +kernel
theorem dX12_tangent_58 : decode cX12_tangent 58 = .ok (.invokevirtual 66, 3) := by decide +kernel
theorem dX12_tangent_61 : decode cX12_tangent 61 = .ok (.if_icmp .ge 43, 3) := by decide +kernel
theorem dX12_tangent_64 : decode cX12_tangent 64 = .ok (.aload_n 0, 1) := by decide +kernel
theorem dX12_tangent_65 : decode cX12_tangent 65 = .ok (.iload_n 2, 1) := by decide +kernel
theorem dX12_tangent_66 : decode cX12_tangent 66 = .ok (.iload 5, 2) := by decide +kernel
theorem dX12_tangent_68 : decode cX12_tangent 68 = .ok (.invokevirtual 74, 3) := by decide +kernel
theorem dX12_tangent_71 : decode cX12_tangent 71 = .ok (.ifCond .eq 27, 3) := by decide +kernel
theorem dX12_tangent_74 : decode cX12_tangent 74 = .ok (.aload_n 0, 1) := by decide +kernel
theorem dX12_tangent_75 : decode cX12_tangent 75 = .ok (.iload 5, 2) := by decide +kernel
theorem dX12_tangent_77 : decode cX12_tangent 77 = .ok (.invokevirtual 192, 3) := by decide +kernel
theorem dX12_tangent_80 : decode cX12_tangent 80 = .ok (.ifCond .ne 6, 3) := by decide +kernel
theorem dX12_tangent_83 : decode cX12_tangent 83 = .ok (.goto 15, 3) := by decide +kernel
theorem dX12_tangent_86 : decode cX12_tangent 86 = .ok (.iload 4, 2) := by decide +kernel
theorem dX12_tangent_88 : decode cX12_tangent 88 = .ok (.iload_n 3, 1) := by decide +kernel
theorem dX12_tangent_89 : decode cX12_tangent 89 = .ok (.if_icmp .ne 6, 3) := by decide +kernel
theorem dX12_tangent_92 : decode cX12_tangent 92 = .ok (.iload 5, 2) := by decide +kernel
theorem dX12_tangent_94 : decode cX12_tangent 94 = .ok (.ireturn, 1) := by decide +kernel
theorem dX12_tangent_95 : decode cX12_tangent 95 = .ok (.iinc 4 1, 3) := by decide +kernel
theorem dX12_tangent_98 : decode cX12_tangent 98 = .ok (.iinc 5 1, 3) := by decide +kernel
theorem dX12_tangent_101 : decode cX12_tangent 101 = .ok (.goto (-46), 3) := by decide +kernel
theorem dX12_tangent_104 : decode cX12_tangent 104 = .ok (.iconst (-1), 1) := by decide +kernel
theorem dX12_tangent_105 : decode cX12_tangent 105 = .ok (.ireturn, 1) := by decide +kernel
theorem dX12_isPencil_0 : decode cX12_isPencil 0 = .ok (.iload_n 1, 1) := by decide +kernel
theorem dX12_isPencil_1 : decode cX12_isPencil 1 = .ok (.invokestatic 136, 3) := by decide +kernel
theorem dX12_isPencil_4 : decode cX12_isPencil 4 = .ok (.ifCond .eq 10, 3) := by decide +kernel
theorem dX12_isPencil_7 : decode cX12_isPencil 7 = .ok (.iload_n 2, 1) := by decide +kernel
theorem dX12_isPencil_8 : decode cX12_isPencil 8 = .ok (.invokestatic 136, 3) := by decide +kernel
theorem dX12_isPencil_11 : decode cX12_isPencil 11 = .ok (.ifCond .ne 5, 3) := by decide +kernel
theorem dX12_isPencil_14 : decode cX12_isPencil 14 = .ok (.iconst 0, 1) := by decide +kernel
theorem dX12_isPencil_15 : decode cX12_isPencil 15 = .ok (.ireturn, 1) := by decide +kernel
theorem dX12_isPencil_16 : decode cX12_isPencil 16 = .ok (.aload_n 0, 1) := by decide +kernel
theorem dX12_isPencil_17 : decode cX12_isPencil 17 = .ok (.aload_n 0, 1) := by decide +kernel
theorem dX12_isPencil_18 : decode cX12_isPencil 18 = .ok (.getfield 7, 3) := by decide +kernel
theorem dX12_isPencil_21 : decode cX12_isPencil 21 = .ok (.bipush 36, 2) := by decide +kernel
theorem dX12_isPencil_23 : decode cX12_isPencil 23 = .ok (.iaload, 1) := by decide +kernel
theorem dX12_isPencil_24 : decode cX12_isPencil 24 = .ok (.putfield 40, 3) := by decide +kernel
theorem dX12_isPencil_27 : decode cX12_isPencil 27 = .ok (.iconst 0, 1) := by decide +kernel
theorem dX12_isPencil_28 : decode cX12_isPencil 28 = .ok (.istore_n 3, 1) := by decide +kernel
theorem dX12_isPencil_29 : decode cX12_isPencil 29 = .ok (.iload_n 3, 1) := by decide +kernel
theorem dX12_isPencil_30 : decode cX12_isPencil 30 = .ok (.iconst 2, 1) := by decide +kernel
theorem dX12_isPencil_31 : decode cX12_isPencil 31 = .ok (.if_icmp .ge 32, 3) := by decide +kernel
theorem dX12_isPencil_34 : decode cX12_isPencil 34 = .ok (.aload_n 0, 1) := by decide +kernel
theorem dX12_isPencil_35 : decode cX12_isPencil 35 = .ok (.iconst 0, 1) := by decide +kernel
theorem dX12_isPencil_36 : decode cX12_isPencil 36 = .ok (.iload_n 3, 1) := by decide +kernel
theorem dX12_isPencil_37 : decode cX12_isPencil 37 = .ok (.ifCond .ne 7, 3) := by decide +kernel
theorem dX12_isPencil_40 : decode cX12_isPencil 40 = .ok (.iload_n 1, 1) := by decide +kernel
theorem dX12_isPencil_41 : decode cX12_isPencil 41 = .ok (.goto 4, 3) := by decide +kernel
theorem dX12_isPencil_44 : decode cX12_isPencil 44 = .ok (.iload_n 2, 1) := by decide +kernel
theorem dX12_isPencil_45 : decode cX12_isPencil 45 = .ok (.invokevirtual 145, 3) := by decide +kernel
theorem dX12_isPencil_48 : decode cX12_isPencil 48 = .ok (.aload_n 0, 1) := by decide +kernel
theorem dX12_isPencil_49 : decode cX12_isPencil 49 = .ok (.invokevirtual 195, 3) := by decide +kernel
theorem dX12_isPencil_52 : decode cX12_isPencil 52 = .ok (.ifCond .eq 5, 3) := by decide +kernel
theorem dX12_isPencil_55 : decode cX12_isPencil 55 = .ok (.iconst 0, 1) := by decide +kernel
theorem dX12_isPencil_56 : decode cX12_isPencil 56 = .ok (.ireturn, 1) := by decide +kernel
theorem dX12_isPencil_57 : decode cX12_isPencil 57 = .ok (.iinc 3 1, 3) := by decide +kernel
theorem dX12_isPencil_60 : decode cX12_isPencil 60 = .ok (.goto (-31), 3) := by decide +kernel
theorem dX12_isPencil_63 : decode cX12_isPencil 63 = .ok (.iconst 1, 1) := by decide +kernel
theorem dX12_isPencil_64 : decode cX12_isPencil 64 = .ok (.istore_n 3, 1) := by decide +kernel
theorem dX12_isPencil_65 : decode cX12_isPencil 65 = .ok (.iload_n 3, 1) := by decide +kernel
theorem dX12_isPencil_66 : decode cX12_isPencil 66 = .ok (.aload_n 0, 1) := by decide +kernel
theorem dX12_isPencil_67 : decode cX12_isPencil 67 = .ok (.getfield 40, 3) := by decide +kernel
theorem dX12_isPencil_70 : decode cX12_isPencil 70 = .ok (.if_icmp .ge 85, 3) := by decide +kernel
theorem dX12_isPencil_73 : decode cX12_isPencil 73 = .ok (.iconst 1, 1) := by decide +kernel
theorem dX12_isPencil_74 : decode cX12_isPencil 74 = .ok (.istore 4, 2) := by decide +kernel
theorem dX12_isPencil_76 : decode cX12_isPencil 76 = .ok (.iconst 0, 1) := by decide +kernel
theorem dX12_isPencil_77 : decode cX12_isPencil 77 = .ok (.istore 5, 2) := by decide +kernel
theorem dX12_isPencil_79 : decode cX12_isPencil 79 = .ok (.iload 5, 2) := by decide +kernel
theorem dX12_isPencil_81 : decode cX12_isPencil 81 = .ok (.bipush 6, 2) := by decide +kernel
theorem dX12_isPencil_83 : decode cX12_isPencil 83 = .ok (.if_icmp .ge 59, 3) := by decide +kernel
theorem dX12_isPencil_86 : decode cX12_isPencil 86 = .ok (.iload 4, 2) := by decide +kernel
theorem dX12_isPencil_88 : decode cX12_isPencil 88 = .ok (.ifCond .eq 45, 3) := by decide +kernel
theorem dX12_isPencil_91 : decode cX12_isPencil 91 = .ok (.aload_n 0, 1) := by decide +kernel
theorem dX12_isPencil_92 : decode cX12_isPencil 92 = .ok (.iload_n 3, 1) := by decide +kernel
theorem dX12_isPencil_93 : decode cX12_isPencil 93 = .ok (.aload_n 0, 1) := by decide +kernel
theorem dX12_isPencil_94 : decode cX12_isPencil 94 = .ok (.aload_n 0, 1) := by decide +kernel
theorem dX12_isPencil_95 : decode cX12_isPencil 95 = .ok (.getfield 7, 3) := by decide +kernel
theorem dX12_isPencil_98 : decode cX12_isPencil 98 = .ok (.bipush 6, 2) := by decide +kernel
theorem dX12_isPencil_100 : decode cX12_isPencil 100 = .ok (.iload_n 1, 1) := by decide +kernel
theorem dX12_isPencil_101 : decode cX12_isPencil 101 = .ok (.imul, 1) := by decide +kernel
theorem dX12_isPencil_102 : decode cX12_isPencil 102 = .ok (.iload 5, 2) := by decide +kernel
theorem dX12_isPencil_104 : decode cX12_isPencil 104 = .ok (.iadd, 1) := by decide +kernel
theorem dX12_isPencil_105 : decode cX12_isPencil 105 = .ok (.iaload, 1) := by decide +kernel
theorem dX12_isPencil_106 : decode cX12_isPencil 106 = .ok (.invokevirtual 52, 3) := by decide +kernel
theorem dX12_isPencil_109 : decode cX12_isPencil 109 = .ok (.imul, 1) := by decide +kernel
theorem dX12_isPencil_110 : decode cX12_isPencil 110 = .ok (.aload_n 0, 1) := by decide +kernel
theorem dX12_isPencil_111 : decode cX12_isPencil 111 = .ok (.getfield 7, 3) := by decide +kernel
theorem dX12_isPencil_114 : decode cX12_isPencil 114 = .ok (.bipush 6, 2) := by decide +kernel
theorem dX12_isPencil_116 : decode cX12_isPencil 116 = .ok (.iload_n 2, 1) := by decide +kernel
theorem dX12_isPencil_117 : decode cX12_isPencil 117 = .ok (.imul, 1) := by decide +kernel
theorem dX12_isPencil_118 : decode cX12_isPencil 118 = .ok (.iload 5, 2) := by decide +kernel
theorem dX12_isPencil_120 : decode cX12_isPencil 120 = .ok (.iadd, 1) := by decide +kernel
theorem dX12_isPencil_121 : decode cX12_isPencil 121 = .ok (.iaload, 1) := by decide +kernel
theorem dX12_isPencil_122 : decode cX12_isPencil 122 = .ok (.isub, 1) := by decide +kernel
theorem dX12_isPencil_123 : decode cX12_isPencil 123 = .ok (.invokevirtual 52, 3) := by decide +kernel
theorem dX12_isPencil_126 : decode cX12_isPencil 126 = .ok (.ifCond .ne 7, 3) := by decide +kernel
theorem dX12_isPencil_129 : decode cX12_isPencil 129 = .ok (.iconst 1, 1) := by decide +kernel
theorem dX12_isPencil_130 : decode cX12_isPencil 130 = .ok (.goto 4, 3) := by decide +kernel
theorem dX12_isPencil_133 : decode cX12_isPencil 133 = .ok (.iconst 0, 1) := by decide +kernel
theorem dX12_isPencil_134 : decode cX12_isPencil 134 = .ok (.istore 4, 2) := by decide +kernel
theorem dX12_isPencil_136 : decode cX12_isPencil 136 = .ok (.iinc 5 1, 3) := by decide +kernel
theorem dX12_isPencil_139 : decode cX12_isPencil 139 = .ok (.goto (-60), 3) := by decide +kernel
theorem dX12_isPencil_142 : decode cX12_isPencil 142 = .ok (.iload 4, 2) := by decide +kernel
theorem dX12_isPencil_144 : decode cX12_isPencil 144 = .ok (.ifCond .eq 5, 3) := by decide +kernel
theorem dX12_isPencil_147 : decode cX12_isPencil 147 = .ok (.iconst 0, 1) := by decide +kernel
theorem dX12_isPencil_148 : decode cX12_isPencil 148 = .ok (.ireturn, 1) := by decide +kernel
theorem dX12_isPencil_149 : decode cX12_isPencil 149 = .ok (.iinc 3 1, 3) := by decide +kernel
theorem dX12_isPencil_152 : decode cX12_isPencil 152 = .ok (.goto (-87), 3) := by decide +kernel
theorem dX12_isPencil_155 : decode cX12_isPencil 155 = .ok (.iconst 1, 1) := by decide +kernel
theorem dX12_isPencil_156 : decode cX12_isPencil 156 = .ok (.ireturn, 1) := by decide +kernel
theorem dX12_laysMember_0 : decode cX12_laysMember 0 = .ok (.iconst 0, 1) := by decide +kernel
theorem dX12_laysMember_1 : decode cX12_laysMember 1 = .ok (.istore 4, 2) := by decide +kernel
theorem dX12_laysMember_3 : decode cX12_laysMember 3 = .ok (.iload 4, 2) := by decide +kernel
theorem dX12_laysMember_5 : decode cX12_laysMember 5 = .ok (.bipush 6, 2) := by decide +kernel
theorem dX12_laysMember_7 : decode cX12_laysMember 7 = .ok (.if_icmp .ge 77, 3) := by decide +kernel
theorem dX12_laysMember_10 : decode cX12_laysMember 10 = .ok (.aload_n 0, 1) := by decide +kernel
theorem dX12_laysMember_11 : decode cX12_laysMember 11 = .ok (.aload_n 0, 1) := by decide +kernel
theorem dX12_laysMember_12 : decode cX12_laysMember 12 = .ok (.getfield 7, 3) := by decide +kernel
theorem dX12_laysMember_15 : decode cX12_laysMember 15 = .ok (.bipush 6, 2) := by decide +kernel
theorem dX12_laysMember_17 : decode cX12_laysMember 17 = .ok (.iload_n 1, 1) := by decide +kernel
theorem dX12_laysMember_18 : decode cX12_laysMember 18 = .ok (.imul, 1) := by decide +kernel
theorem dX12_laysMember_19 : decode cX12_laysMember 19 = .ok (.iload 4, 2) := by decide +kernel
theorem dX12_laysMember_21 : decode cX12_laysMember 21 = .ok (.iadd, 1) := by decide +kernel
theorem dX12_laysMember_22 : decode cX12_laysMember 22 = .ok (.iaload, 1) := by decide +kernel
theorem dX12_laysMember_23 : decode cX12_laysMember 23 = .ok (.invokevirtual 52, 3) := by decide +kernel
theorem dX12_laysMember_26 : decode cX12_laysMember 26 = .ok (.istore 5, 2) := by decide +kernel
theorem dX12_laysMember_28 : decode cX12_laysMember 28 = .ok (.aload_n 0, 1) := by decide +kernel
theorem dX12_laysMember_29 : decode cX12_laysMember 29 = .ok (.aload_n 0, 1) := by decide +kernel
theorem dX12_laysMember_30 : decode cX12_laysMember 30 = .ok (.getfield 7, 3) := by decide +kernel
theorem dX12_laysMember_33 : decode cX12_laysMember 33 = .ok (.bipush 6, 2) := by decide +kernel
theorem dX12_laysMember_35 : decode cX12_laysMember 35 = .ok (.iload_n 2, 1) := by decide +kernel
theorem dX12_laysMember_36 : decode cX12_laysMember 36 = .ok (.imul, 1) := by decide +kernel
theorem dX12_laysMember_37 : decode cX12_laysMember 37 = .ok (.iload 4, 2) := by decide +kernel
theorem dX12_laysMember_39 : decode cX12_laysMember 39 = .ok (.iadd, 1) := by decide +kernel
theorem dX12_laysMember_40 : decode cX12_laysMember 40 = .ok (.iaload, 1) := by decide +kernel
theorem dX12_laysMember_41 : decode cX12_laysMember 41 = .ok (.invokevirtual 52, 3) := by decide +kernel
theorem dX12_laysMember_44 : decode cX12_laysMember 44 = .ok (.istore 6, 2) := by decide +kernel
theorem dX12_laysMember_46 : decode cX12_laysMember 46 = .ok (.aload_n 0, 1) := by decide +kernel
theorem dX12_laysMember_47 : decode cX12_laysMember 47 = .ok (.getfield 24, 3) := by decide +kernel
theorem dX12_laysMember_50 : decode cX12_laysMember 50 = .ok (.iload 4, 2) := by decide +kernel
theorem dX12_laysMember_52 : decode cX12_laysMember 52 = .ok (.iload_n 3, 1) := by decide +kernel
theorem dX12_laysMember_53 : decode cX12_laysMember 53 = .ok (.aload_n 0, 1) := by decide +kernel
theorem dX12_laysMember_54 : decode cX12_laysMember 54 = .ok (.getfield 40, 3) := by decide +kernel
theorem dX12_laysMember_57 : decode cX12_laysMember 57 = .ok (.if_icmp .ne 8, 3) := by decide +kernel
theorem dX12_laysMember_60 : decode cX12_laysMember 60 = .ok (.iload 5, 2) := by decide +kernel
theorem dX12_laysMember_62 : decode cX12_laysMember 62 = .ok (.goto 15, 3) := by decide +kernel
theorem dX12_laysMember_65 : decode cX12_laysMember 65 = .ok (.iload 5, 2) := by decide +kernel
theorem dX12_laysMember_67 : decode cX12_laysMember 67 = .ok (.iload_n 3, 1) := by decide +kernel
theorem dX12_laysMember_68 : decode cX12_laysMember 68 = .ok (.imul, 1) := by decide +kernel
theorem dX12_laysMember_69 : decode cX12_laysMember 69 = .ok (.iload 6, 2) := by decide +kernel
theorem dX12_laysMember_71 : decode cX12_laysMember 71 = .ok (.iadd, 1) := by decide +kernel
theorem dX12_laysMember_72 : decode cX12_laysMember 72 = .ok (.aload_n 0, 1) := by decide +kernel
theorem dX12_laysMember_73 : decode cX12_laysMember 73 = .ok (.getfield 40, 3) := by decide +kernel
theorem dX12_laysMember_76 : decode cX12_laysMember 76 = .ok (.irem, 1) := by decide +kernel
theorem dX12_laysMember_77 : decode cX12_laysMember 77 = .ok (.iastore, 1) := by decide +kernel
theorem dX12_laysMember_78 : decode cX12_laysMember 78 = .ok (.iinc 4 1, 3) := by decide +kernel
theorem dX12_laysMember_81 : decode cX12_laysMember 81 = .ok (.goto (-78), 3) := by decide +kernel
theorem dX12_laysMember_84 : decode cX12_laysMember 84 = .ok (.return_, 1) := by decide +kernel
theorem dX12_isBase_0 : decode cX12_isBase 0 = .ok (.aload_n 0, 1) := by decide +kernel
theorem dX12_isBase_1 : decode cX12_isBase 1 = .ok (.iconst 0, 1) := by decide +kernel
theorem dX12_isBase_2 : decode cX12_isBase 2 = .ok (.iload_n 1, 1) := by decide +kernel
theorem dX12_isBase_3 : decode cX12_isBase 3 = .ok (.invokevirtual 145, 3) := by decide +kernel
theorem dX12_isBase_6 : decode cX12_isBase 6 = .ok (.aload_n 0, 1) := by decide +kernel
theorem dX12_isBase_7 : decode cX12_isBase 7 = .ok (.iload_n 3, 1) := by decide +kernel
theorem dX12_isBase_8 : decode cX12_isBase 8 = .ok (.invokevirtual 70, 3) := by decide +kernel
theorem dX12_isBase_11 : decode cX12_isBase 11 = .ok (.istore 4, 2) := by decide +kernel
theorem dX12_isBase_13 : decode cX12_isBase 13 = .ok (.aload_n 0, 1) := by decide +kernel
theorem dX12_isBase_14 : decode cX12_isBase 14 = .ok (.iconst 0, 1) := by decide +kernel
theorem dX12_isBase_15 : decode cX12_isBase 15 = .ok (.iload_n 2, 1) := by decide +kernel
theorem dX12_isBase_16 : decode cX12_isBase 16 = .ok (.invokevirtual 145, 3) := by decide +kernel
theorem dX12_isBase_19 : decode cX12_isBase 19 = .ok (.iload 4, 2) := by decide +kernel
theorem dX12_isBase_21 : decode cX12_isBase 21 = .ok (.ifCond .eq 15, 3) := by decide +kernel
theorem dX12_isBase_24 : decode cX12_isBase 24 = .ok (.aload_n 0, 1) := by decide +kernel
theorem dX12_isBase_25 : decode cX12_isBase 25 = .ok (.iload_n 3, 1) := by decide +kernel
theorem dX12_isBase_26 : decode cX12_isBase 26 = .ok (.invokevirtual 70, 3) := by decide +kernel
theorem dX12_isBase_29 : decode cX12_isBase 29 = .ok (.ifCond .eq 7, 3) := by decide +kernel
theorem dX12_isBase_32 : decode cX12_isBase 32 = .ok (.iconst 1, 1) := by decide +kernel
theorem dX12_isBase_33 : decode cX12_isBase 33 = .ok (.goto 4, 3) := by decide +kernel
theorem dX12_isBase_36 : decode cX12_isBase 36 = .ok (.iconst 0, 1) := by decide +kernel
theorem dX12_isBase_37 : decode cX12_isBase 37 = .ok (.ireturn, 1) := by decide +kernel
theorem dX12_base_0 : decode cX12_base 0 = .ok (.iconst 0, 1) := by decide +kernel
theorem dX12_base_1 : decode cX12_base 1 = .ok (.istore 4, 2) := by decide +kernel
theorem dX12_base_3 : decode cX12_base 3 = .ok (.iconst 0, 1) := by decide +kernel
theorem dX12_base_4 : decode cX12_base 4 = .ok (.istore 5, 2) := by decide +kernel
theorem dX12_base_6 : decode cX12_base 6 = .ok (.iload 5, 2) := by decide +kernel
theorem dX12_base_8 : decode cX12_base 8 = .ok (.aload_n 0, 1) := by decide +kernel
theorem dX12_base_9 : decode cX12_base 9 = .ok (.invokevirtual 66, 3) := by decide +kernel
theorem dX12_base_12 : decode cX12_base 12 = .ok (.if_icmp .ge 35, 3) := by decide +kernel
theorem dX12_base_15 : decode cX12_base 15 = .ok (.aload_n 0, 1) := by decide +kernel
theorem dX12_base_16 : decode cX12_base 16 = .ok (.iload_n 1, 1) := by decide +kernel
theorem dX12_base_17 : decode cX12_base 17 = .ok (.iload_n 2, 1) := by decide +kernel
theorem dX12_base_18 : decode cX12_base 18 = .ok (.iload 5, 2) := by decide +kernel
theorem dX12_base_20 : decode cX12_base 20 = .ok (.invokevirtual 198, 3) := by decide +kernel
theorem dX12_base_23 : decode cX12_base 23 = .ok (.ifCond .ne 6, 3) := by decide +kernel
theorem dX12_base_26 : decode cX12_base 26 = .ok (.goto 15, 3) := by decide +kernel
theorem dX12_base_29 : decode cX12_base 29 = .ok (.iload 4, 2) := by decide +kernel
theorem dX12_base_31 : decode cX12_base 31 = .ok (.iload_n 3, 1) := by decide +kernel
theorem dX12_base_32 : decode cX12_base 32 = .ok (.if_icmp .ne 6, 3) := by decide +kernel
theorem dX12_base_35 : decode cX12_base 35 = .ok (.iload 5, 2) := by decide +kernel
theorem dX12_base_37 : decode cX12_base 37 = .ok (.ireturn, 1) := by decide +kernel
theorem dX12_base_38 : decode cX12_base 38 = .ok (.iinc 4 1, 3) := by decide +kernel
theorem dX12_base_41 : decode cX12_base 41 = .ok (.iinc 5 1, 3) := by decide +kernel
theorem dX12_base_44 : decode cX12_base 44 = .ok (.goto (-38), 3) := by decide +kernel
theorem dX12_base_47 : decode cX12_base 47 = .ok (.iconst (-1), 1) := by decide +kernel
theorem dX12_base_48 : decode cX12_base 48 = .ok (.iload 4, 2) := by decide +kernel
theorem dX12_base_50 : decode cX12_base 50 = .ok (.isub, 1) := by decide +kernel
theorem dX12_base_51 : decode cX12_base 51 = .ok (.ireturn, 1) := by decide +kernel
theorem dX12_fallen_0 : decode cX12_fallen 0 = .ok (.iconst 0, 1) := by decide +kernel
theorem dX12_fallen_1 : decode cX12_fallen 1 = .ok (.istore_n 3, 1) := by decide +kernel
theorem dX12_fallen_2 : decode cX12_fallen 2 = .ok (.iconst 0, 1) := by decide +kernel
theorem dX12_fallen_3 : decode cX12_fallen 3 = .ok (.istore 4, 2) := by decide +kernel
theorem dX12_fallen_5 : decode cX12_fallen 5 = .ok (.iload 4, 2) := by decide +kernel
theorem dX12_fallen_7 : decode cX12_fallen 7 = .ok (.aload_n 0, 1) := by decide +kernel
theorem dX12_fallen_8 : decode cX12_fallen 8 = .ok (.getfield 40, 3) := by decide +kernel
theorem dX12_fallen_11 : decode cX12_fallen 11 = .ok (.if_icmp .gt 33, 3) := by decide +kernel
theorem dX12_fallen_14 : decode cX12_fallen 14 = .ok (.aload_n 0, 1) := by decide +kernel
theorem dX12_fallen_15 : decode cX12_fallen 15 = .ok (.iload_n 1, 1) := by decide +kernel
theorem dX12_fallen_16 : decode cX12_fallen 16 = .ok (.iload_n 2, 1) := by decide +kernel
theorem dX12_fallen_17 : decode cX12_fallen 17 = .ok (.iload 4, 2) := by decide +kernel
theorem dX12_fallen_19 : decode cX12_fallen 19 = .ok (.invokevirtual 201, 3) := by decide +kernel
theorem dX12_fallen_22 : decode cX12_fallen 22 = .ok (.iload_n 3, 1) := by decide +kernel
theorem dX12_fallen_23 : decode cX12_fallen 23 = .ok (.aload_n 0, 1) := by decide +kernel
theorem dX12_fallen_24 : decode cX12_fallen 24 = .ok (.invokevirtual 85, 3) := by decide +kernel
theorem dX12_fallen_27 : decode cX12_fallen 27 = .ok (.iconst 3, 1) := by decide +kernel
theorem dX12_fallen_28 : decode cX12_fallen 28 = .ok (.if_icmp .ge 7, 3) := by decide +kernel
theorem dX12_fallen_31 : decode cX12_fallen 31 = .ok (.iconst 1, 1) := by decide +kernel
theorem dX12_fallen_32 : decode cX12_fallen 32 = .ok (.goto 4, 3) := by decide +kernel
theorem dX12_fallen_35 : decode cX12_fallen 35 = .ok (.iconst 0, 1) := by decide +kernel
theorem dX12_fallen_36 : decode cX12_fallen 36 = .ok (.iadd, 1) := by decide +kernel
theorem dX12_fallen_37 : decode cX12_fallen 37 = .ok (.istore_n 3, 1) := by decide +kernel
theorem dX12_fallen_38 : decode cX12_fallen 38 = .ok (.iinc 4 1, 3) := by decide +kernel
theorem dX12_fallen_41 : decode cX12_fallen 41 = .ok (.goto (-36), 3) := by decide +kernel
theorem dX12_fallen_44 : decode cX12_fallen 44 = .ok (.iload_n 3, 1) := by decide +kernel
theorem dX12_fallen_45 : decode cX12_fallen 45 = .ok (.ireturn, 1) := by decide +kernel
theorem dX12_touching_0 : decode cX12_touching 0 = .ok (.aload_n 0, 1) := by decide +kernel
theorem dX12_touching_1 : decode cX12_touching 1 = .ok (.iconst 0, 1) := by decide +kernel
theorem dX12_touching_2 : decode cX12_touching 2 = .ok (.iload_n 1, 1) := by decide +kernel
theorem dX12_touching_3 : decode cX12_touching 3 = .ok (.invokevirtual 145, 3) := by decide +kernel
theorem dX12_touching_6 : decode cX12_touching 6 = .ok (.aload_n 0, 1) := by decide +kernel
theorem dX12_touching_7 : decode cX12_touching 7 = .ok (.invokevirtual 85, 3) := by decide +kernel
theorem dX12_touching_10 : decode cX12_touching 10 = .ok (.iconst 3, 1) := by decide +kernel
theorem dX12_touching_11 : decode cX12_touching 11 = .ok (.if_icmp .ne 7, 3) := by decide +kernel
theorem dX12_touching_14 : decode cX12_touching 14 = .ok (.iconst 1, 1) := by decide +kernel
theorem dX12_touching_15 : decode cX12_touching 15 = .ok (.goto 4, 3) := by decide +kernel
theorem dX12_touching_18 : decode cX12_touching 18 = .ok (.iconst 0, 1) := by decide +kernel
theorem dX12_touching_19 : decode cX12_touching 19 = .ok (.istore_n 3, 1) := by decide +kernel
theorem dX12_touching_20 : decode cX12_touching 20 = .ok (.aload_n 0, 1) := by decide +kernel
theorem dX12_touching_21 : decode cX12_touching 21 = .ok (.iconst 0, 1) := by decide +kernel
theorem dX12_touching_22 : decode cX12_touching 22 = .ok (.iload_n 2, 1) := by decide +kernel
theorem dX12_touching_23 : decode cX12_touching 23 = .ok (.invokevirtual 145, 3) := by decide +kernel
theorem dX12_touching_26 : decode cX12_touching 26 = .ok (.iload_n 3, 1) := by decide +kernel
theorem dX12_touching_27 : decode cX12_touching 27 = .ok (.ifCond .eq 11, 3) := by decide +kernel
theorem dX12_touching_30 : decode cX12_touching 30 = .ok (.aload_n 0, 1) := by decide +kernel
theorem dX12_touching_31 : decode cX12_touching 31 = .ok (.invokevirtual 85, 3) := by decide +kernel
theorem dX12_touching_34 : decode cX12_touching 34 = .ok (.iconst 3, 1) := by decide +kernel
theorem dX12_touching_35 : decode cX12_touching 35 = .ok (.if_icmp .eq 5, 3) := by decide +kernel
theorem dX12_touching_38 : decode cX12_touching 38 = .ok (.iconst (-1), 1) := by decide +kernel
theorem dX12_touching_39 : decode cX12_touching 39 = .ok (.ireturn, 1) := by decide +kernel
theorem dX12_touching_40 : decode cX12_touching 40 = .ok (.iconst 0, 1) := by decide +kernel
theorem dX12_touching_41 : decode cX12_touching 41 = .ok (.istore 4, 2) := by decide +kernel
theorem dX12_touching_43 : decode cX12_touching 43 = .ok (.iconst 0, 1) := by decide +kernel
theorem dX12_touching_44 : decode cX12_touching 44 = .ok (.istore 5, 2) := by decide +kernel
theorem dX12_touching_46 : decode cX12_touching 46 = .ok (.iload 5, 2) := by decide +kernel
theorem dX12_touching_48 : decode cX12_touching 48 = .ok (.aload_n 0, 1) := by decide +kernel
theorem dX12_touching_49 : decode cX12_touching 49 = .ok (.invokevirtual 66, 3) := by decide +kernel
theorem dX12_touching_52 : decode cX12_touching 52 = .ok (.if_icmp .ge 58, 3) := by decide +kernel
theorem dX12_touching_55 : decode cX12_touching 55 = .ok (.aload_n 0, 1) := by decide +kernel
theorem dX12_touching_56 : decode cX12_touching 56 = .ok (.iload_n 1, 1) := by decide +kernel
theorem dX12_touching_57 : decode cX12_touching 57 = .ok (.iload_n 2, 1) := by decide +kernel
theorem dX12_touching_58 : decode cX12_touching 58 = .ok (.iload 5, 2) := by decide +kernel
theorem dX12_touching_60 : decode cX12_touching 60 = .ok (.invokevirtual 198, 3) := by decide +kernel
theorem dX12_touching_63 : decode cX12_touching 63 = .ok (.ifCond .ne 6, 3) := by decide +kernel
theorem dX12_touching_66 : decode cX12_touching 66 = .ok (.goto 38, 3) := by decide +kernel
theorem dX12_touching_69 : decode cX12_touching 69 = .ok (.aload_n 0, 1) := by decide +kernel
theorem dX12_touching_70 : decode cX12_touching 70 = .ok (.iload 5, 2) := by decide +kernel
theorem dX12_touching_72 : decode cX12_touching 72 = .ok (.invokevirtual 91, 3) := by decide +kernel
theorem dX12_touching_75 : decode cX12_touching 75 = .ok (.istore 6, 2) := by decide +kernel
theorem dX12_touching_77 : decode cX12_touching 77 = .ok (.aload_n 0, 1) := by decide +kernel
theorem dX12_touching_78 : decode cX12_touching 78 = .ok (.iconst 0, 1) := by decide +kernel
theorem dX12_touching_79 : decode cX12_touching 79 = .ok (.iload_n 1, 1) := by decide +kernel
theorem dX12_touching_80 : decode cX12_touching 80 = .ok (.invokevirtual 145, 3) := by decide +kernel
theorem dX12_touching_83 : decode cX12_touching 83 = .ok (.iload 4, 2) := by decide +kernel
theorem dX12_touching_85 : decode cX12_touching 85 = .ok (.aload_n 0, 1) := by decide +kernel
theorem dX12_touching_86 : decode cX12_touching 86 = .ok (.iload 5, 2) := by decide +kernel
theorem dX12_touching_88 : decode cX12_touching 88 = .ok (.invokevirtual 91, 3) := by decide +kernel
theorem dX12_touching_91 : decode cX12_touching 91 = .ok (.iload 6, 2) := by decide +kernel
theorem dX12_touching_93 : decode cX12_touching 93 = .ok (.if_icmp .ne 7, 3) := by decide +kernel
theorem dX12_touching_96 : decode cX12_touching 96 = .ok (.iconst 1, 1) := by decide +kernel
theorem dX12_touching_97 : decode cX12_touching 97 = .ok (.goto 4, 3) := by decide +kernel
theorem dX12_touching_100 : decode cX12_touching 100 = .ok (.iconst 0, 1) := by decide +kernel
theorem dX12_touching_101 : decode cX12_touching 101 = .ok (.iadd, 1) := by decide +kernel
theorem dX12_touching_102 : decode cX12_touching 102 = .ok (.istore 4, 2) := by decide +kernel
theorem dX12_touching_104 : decode cX12_touching 104 = .ok (.iinc 5 1, 3) := by decide +kernel
theorem dX12_touching_107 : decode cX12_touching 107 = .ok (.goto (-61), 3) := by decide +kernel
theorem dX12_touching_110 : decode cX12_touching 110 = .ok (.iload 4, 2) := by decide +kernel
theorem dX12_touching_112 : decode cX12_touching 112 = .ok (.ireturn, 1) := by decide +kernel
theorem dX12_pencil_0 : decode cX12_pencil 0 = .ok (.aload_n 0, 1) := by decide +kernel
theorem dX12_pencil_1 : decode cX12_pencil 1 = .ok (.iload_n 1, 1) := by decide +kernel
theorem dX12_pencil_2 : decode cX12_pencil 2 = .ok (.iload_n 2, 1) := by decide +kernel
theorem dX12_pencil_3 : decode cX12_pencil 3 = .ok (.invokevirtual 204, 3) := by decide +kernel
theorem dX12_pencil_6 : decode cX12_pencil 6 = .ok (.ifCond .ne 5, 3) := by decide +kernel
theorem dX12_pencil_9 : decode cX12_pencil 9 = .ok (.iconst (-1), 1) := by decide +kernel
theorem dX12_pencil_10 : decode cX12_pencil 10 = .ok (.ireturn, 1) := by decide +kernel
theorem dX12_pencil_11 : decode cX12_pencil 11 = .ok (.iload_n 3, 1) := by decide +kernel
theorem dX12_pencil_12 : decode cX12_pencil 12 = .ok (.ifCond .ne 13, 3) := by decide +kernel
theorem dX12_pencil_15 : decode cX12_pencil 15 = .ok (.iconst (-1), 1) := by decide +kernel
theorem dX12_pencil_16 : decode cX12_pencil 16 = .ok (.aload_n 0, 1) := by decide +kernel
theorem dX12_pencil_17 : decode cX12_pencil 17 = .ok (.iload_n 1, 1) := by decide +kernel
theorem dX12_pencil_18 : decode cX12_pencil 18 = .ok (.iload_n 2, 1) := by decide +kernel
theorem dX12_pencil_19 : decode cX12_pencil 19 = .ok (.iconst (-1), 1) := by decide +kernel
theorem dX12_pencil_20 : decode cX12_pencil 20 = .ok (.invokevirtual 207, 3) := by decide +kernel
theorem dX12_pencil_23 : decode cX12_pencil 23 = .ok (.isub, 1) := by decide +kernel
theorem dX12_pencil_24 : decode cX12_pencil 24 = .ok (.ireturn, 1) := by decide +kernel
theorem dX12_pencil_25 : decode cX12_pencil 25 = .ok (.iload_n 3, 1) := by decide +kernel
theorem dX12_pencil_26 : decode cX12_pencil 26 = .ok (.iconst 1, 1) := by decide +kernel
theorem dX12_pencil_27 : decode cX12_pencil 27 = .ok (.if_icmp .ne 10, 3) := by decide +kernel
theorem dX12_pencil_30 : decode cX12_pencil 30 = .ok (.aload_n 0, 1) := by decide +kernel
theorem dX12_pencil_31 : decode cX12_pencil 31 = .ok (.iload_n 1, 1) := by decide +kernel
theorem dX12_pencil_32 : decode cX12_pencil 32 = .ok (.iload_n 2, 1) := by decide +kernel
theorem dX12_pencil_33 : decode cX12_pencil 33 = .ok (.invokevirtual 210, 3) := by decide +kernel
theorem dX12_pencil_36 : decode cX12_pencil 36 = .ok (.ireturn, 1) := by decide +kernel
theorem dX12_pencil_37 : decode cX12_pencil 37 = .ok (.iload_n 3, 1) := by decide +kernel
theorem dX12_pencil_38 : decode cX12_pencil 38 = .ok (.iconst 2, 1) := by decide +kernel
theorem dX12_pencil_39 : decode cX12_pencil 39 = .ok (.if_icmp .ne 10, 3) := by decide +kernel
theorem dX12_pencil_42 : decode cX12_pencil 42 = .ok (.aload_n 0, 1) := by decide +kernel
theorem dX12_pencil_43 : decode cX12_pencil 43 = .ok (.iload_n 1, 1) := by decide +kernel
theorem dX12_pencil_44 : decode cX12_pencil 44 = .ok (.iload_n 2, 1) := by decide +kernel
theorem dX12_pencil_45 : decode cX12_pencil 45 = .ok (.invokevirtual 213, 3) := by decide +kernel
theorem dX12_pencil_48 : decode cX12_pencil 48 = .ok (.ireturn, 1) := by decide +kernel
theorem dX12_pencil_49 : decode cX12_pencil 49 = .ok (.iload_n 3, 1) := by decide +kernel
theorem dX12_pencil_50 : decode cX12_pencil 50 = .ok (.bipush 100, 2) := by decide +kernel
theorem dX12_pencil_52 : decode cX12_pencil 52 = .ok (.sipush 999, 3) := by decide +kernel
theorem dX12_pencil_55 : decode cX12_pencil 55 = .ok (.invokestatic 113, 3) := by decide +kernel
theorem dX12_pencil_58 : decode cX12_pencil 58 = .ok (.ifCond .eq 27, 3) := by decide +kernel
theorem dX12_pencil_61 : decode cX12_pencil 61 = .ok (.aload_n 0, 1) := by decide +kernel
theorem dX12_pencil_62 : decode cX12_pencil 62 = .ok (.iload_n 1, 1) := by decide +kernel
theorem dX12_pencil_63 : decode cX12_pencil 63 = .ok (.iload_n 2, 1) := by decide +kernel
theorem dX12_pencil_64 : decode cX12_pencil 64 = .ok (.iload_n 3, 1) := by decide +kernel
theorem dX12_pencil_65 : decode cX12_pencil 65 = .ok (.bipush 100, 2) := by decide +kernel
theorem dX12_pencil_67 : decode cX12_pencil 67 = .ok (.isub, 1) := by decide +kernel
theorem dX12_pencil_68 : decode cX12_pencil 68 = .ok (.invokevirtual 207, 3) := by decide +kernel
theorem dX12_pencil_71 : decode cX12_pencil 71 = .ok (.istore 4, 2) := by decide +kernel
theorem dX12_pencil_73 : decode cX12_pencil 73 = .ok (.iload 4, 2) := by decide +kernel
theorem dX12_pencil_75 : decode cX12_pencil 75 = .ok (.ifCond .ge 7, 3) := by decide +kernel
theorem dX12_pencil_78 : decode cX12_pencil 78 = .ok (.iconst (-1), 1) := by decide +kernel
theorem dX12_pencil_79 : decode cX12_pencil 79 = .ok (.goto 5, 3) := by decide +kernel
theorem dX12_pencil_82 : decode cX12_pencil 82 = .ok (.iload 4, 2) := by decide +kernel
theorem dX12_pencil_84 : decode cX12_pencil 84 = .ok (.ireturn, 1) := by decide +kernel
theorem dX12_pencil_85 : decode cX12_pencil 85 = .ok (.iload_n 3, 1) := by decide +kernel
theorem dX12_pencil_86 : decode cX12_pencil 86 = .ok (.sipush 1000, 3) := by decide +kernel
theorem dX12_pencil_89 : decode cX12_pencil 89 = .ok (.irem, 1) := by decide +kernel
theorem dX12_pencil_90 : decode cX12_pencil 90 = .ok (.istore 4, 2) := by decide +kernel
theorem dX12_pencil_92 : decode cX12_pencil 92 = .ok (.iload_n 3, 1) := by decide +kernel
theorem dX12_pencil_93 : decode cX12_pencil 93 = .ok (.sipush 1000, 3) := by decide +kernel
theorem dX12_pencil_96 : decode cX12_pencil 96 = .ok (.sipush 3999, 3) := by decide +kernel
theorem dX12_pencil_99 : decode cX12_pencil 99 = .ok (.invokestatic 113, 3) := by decide +kernel
theorem dX12_pencil_102 : decode cX12_pencil 102 = .ok (.ifCond .eq 12, 3) := by decide +kernel
theorem dX12_pencil_105 : decode cX12_pencil 105 = .ok (.iload 4, 2) := by decide +kernel
theorem dX12_pencil_107 : decode cX12_pencil 107 = .ok (.aload_n 0, 1) := by decide +kernel
theorem dX12_pencil_108 : decode cX12_pencil 108 = .ok (.getfield 40, 3) := by decide +kernel
theorem dX12_pencil_111 : decode cX12_pencil 111 = .ok (.if_icmp .le 5, 3) := by decide +kernel
theorem dX12_pencil_114 : decode cX12_pencil 114 = .ok (.iconst (-1), 1) := by decide +kernel
theorem dX12_pencil_115 : decode cX12_pencil 115 = .ok (.ireturn, 1) := by decide +kernel
theorem dX12_pencil_116 : decode cX12_pencil 116 = .ok (.aload_n 0, 1) := by decide +kernel
theorem dX12_pencil_117 : decode cX12_pencil 117 = .ok (.iload_n 1, 1) := by decide +kernel
theorem dX12_pencil_118 : decode cX12_pencil 118 = .ok (.iload_n 2, 1) := by decide +kernel
theorem dX12_pencil_119 : decode cX12_pencil 119 = .ok (.iload 4, 2) := by decide +kernel
theorem dX12_pencil_121 : decode cX12_pencil 121 = .ok (.invokevirtual 201, 3) := by decide +kernel
theorem dX12_pencil_124 : decode cX12_pencil 124 = .ok (.iload_n 3, 1) := by decide +kernel
theorem dX12_pencil_125 : decode cX12_pencil 125 = .ok (.sipush 2000, 3) := by decide +kernel
theorem dX12_pencil_128 : decode cX12_pencil 128 = .ok (.if_icmp .ge 10, 3) := by decide +kernel
theorem dX12_pencil_131 : decode cX12_pencil 131 = .ok (.aload_n 0, 1) := by decide +kernel
theorem dX12_pencil_132 : decode cX12_pencil 132 = .ok (.invokevirtual 148, 3) := by decide +kernel
theorem dX12_pencil_135 : decode cX12_pencil 135 = .ok (.goto 21, 3) := by decide +kernel
theorem dX12_pencil_138 : decode cX12_pencil 138 = .ok (.iload_n 3, 1) := by decide +kernel
theorem dX12_pencil_139 : decode cX12_pencil 139 = .ok (.sipush 3000, 3) := by decide +kernel
theorem dX12_pencil_142 : decode cX12_pencil 142 = .ok (.if_icmp .ge 10, 3) := by decide +kernel
theorem dX12_pencil_145 : decode cX12_pencil 145 = .ok (.aload_n 0, 1) := by decide +kernel
theorem dX12_pencil_146 : decode cX12_pencil 146 = .ok (.invokevirtual 186, 3) := by decide +kernel
theorem dX12_pencil_149 : decode cX12_pencil 149 = .ok (.goto 7, 3) := by decide +kernel
theorem dX12_pencil_152 : decode cX12_pencil 152 = .ok (.aload_n 0, 1) := by decide +kernel
theorem dX12_pencil_153 : decode cX12_pencil 153 = .ok (.invokevirtual 88, 3) := by decide +kernel
theorem dX12_pencil_156 : decode cX12_pencil 156 = .ok (.ireturn, 1) := by decide +kernel
theorem dX12_member_0 : decode cX12_member 0 = .ok (.aload_n 0, 1) := by decide +kernel
theorem dX12_member_1 : decode cX12_member 1 = .ok (.iload_n 1, 1) := by decide +kernel
theorem dX12_member_2 : decode cX12_member 2 = .ok (.iload_n 2, 1) := by decide +kernel
theorem dX12_member_3 : decode cX12_member 3 = .ok (.invokevirtual 204, 3) := by decide +kernel
theorem dX12_member_6 : decode cX12_member 6 = .ok (.ifCond .eq 25, 3) := by decide +kernel
theorem dX12_member_9 : decode cX12_member 9 = .ok (.iload_n 3, 1) := by decide +kernel
theorem dX12_member_10 : decode cX12_member 10 = .ok (.iconst 0, 1) := by decide +kernel
theorem dX12_member_11 : decode cX12_member 11 = .ok (.aload_n 0, 1) := by decide +kernel
theorem dX12_member_12 : decode cX12_member 12 = .ok (.getfield 40, 3) := by decide +kernel
theorem dX12_member_15 : decode cX12_member 15 = .ok (.invokestatic 113, 3) := by decide +kernel
theorem dX12_member_18 : decode cX12_member 18 = .ok (.ifCond .eq 13, 3) := by decide +kernel
theorem dX12_member_21 : decode cX12_member 21 = .ok (.iload 4, 2) := by decide +kernel
theorem dX12_member_23 : decode cX12_member 23 = .ok (.iconst 0, 1) := by decide +kernel
theorem dX12_member_24 : decode cX12_member 24 = .ok (.iconst 5, 1) := by decide +kernel
theorem dX12_member_25 : decode cX12_member 25 = .ok (.invokestatic 113, 3) := by decide +kernel
theorem dX12_member_28 : decode cX12_member 28 = .ok (.ifCond .ne 5, 3) := by decide +kernel
theorem dX12_member_31 : decode cX12_member 31 = .ok (.iconst (-1), 1) := by decide +kernel
theorem dX12_member_32 : decode cX12_member 32 = .ok (.ireturn, 1) := by decide +kernel
theorem dX12_member_33 : decode cX12_member 33 = .ok (.aload_n 0, 1) := by decide +kernel
theorem dX12_member_34 : decode cX12_member 34 = .ok (.iload_n 1, 1) := by decide +kernel
theorem dX12_member_35 : decode cX12_member 35 = .ok (.iload_n 2, 1) := by decide +kernel
theorem dX12_member_36 : decode cX12_member 36 = .ok (.iload_n 3, 1) := by decide +kernel
theorem dX12_member_37 : decode cX12_member 37 = .ok (.invokevirtual 201, 3) := by decide +kernel
theorem dX12_member_40 : decode cX12_member 40 = .ok (.aload_n 0, 1) := by decide +kernel
theorem dX12_member_41 : decode cX12_member 41 = .ok (.getfield 24, 3) := by decide +kernel
theorem dX12_member_44 : decode cX12_member 44 = .ok (.iload 4, 2) := by decide +kernel
theorem dX12_member_46 : decode cX12_member 46 = .ok (.iaload, 1) := by decide +kernel
theorem dX12_member_47 : decode cX12_member 47 = .ok (.ireturn, 1) := by decide +kernel
theorem dX12_passing_0 : decode cX12_passing 0 = .ok (.aload_n 0, 1) := by decide +kernel
theorem dX12_passing_1 : decode cX12_passing 1 = .ok (.iload_n 1, 1) := by decide +kernel
theorem dX12_passing_2 : decode cX12_passing 2 = .ok (.iload_n 2, 1) := by decide +kernel
theorem dX12_passing_3 : decode cX12_passing 3 = .ok (.invokevirtual 204, 3) := by decide +kernel
theorem dX12_passing_6 : decode cX12_passing 6 = .ok (.ifCond .eq 11, 3) := by decide +kernel
theorem dX12_passing_9 : decode cX12_passing 9 = .ok (.aload_n 0, 1) := by decide +kernel
theorem dX12_passing_10 : decode cX12_passing 10 = .ok (.iload_n 3, 1) := by decide +kernel
theorem dX12_passing_11 : decode cX12_passing 11 = .ok (.invokevirtual 161, 3) := by decide +kernel
theorem dX12_passing_14 : decode cX12_passing 14 = .ok (.ifCond .ne 5, 3) := by decide +kernel
theorem dX12_passing_17 : decode cX12_passing 17 = .ok (.iconst (-1), 1) := by decide +kernel
theorem dX12_passing_18 : decode cX12_passing 18 = .ok (.ireturn, 1) := by decide +kernel
theorem dX12_passing_19 : decode cX12_passing 19 = .ok (.iconst 0, 1) := by decide +kernel
theorem dX12_passing_20 : decode cX12_passing 20 = .ok (.istore 4, 2) := by decide +kernel
theorem dX12_passing_22 : decode cX12_passing 22 = .ok (.iload 4, 2) := by decide +kernel
theorem dX12_passing_24 : decode cX12_passing 24 = .ok (.aload_n 0, 1) := by decide +kernel
theorem dX12_passing_25 : decode cX12_passing 25 = .ok (.getfield 40, 3) := by decide +kernel
theorem dX12_passing_28 : decode cX12_passing 28 = .ok (.if_icmp .gt 28, 3) := by decide +kernel
theorem dX12_passing_31 : decode cX12_passing 31 = .ok (.aload_n 0, 1) := by decide +kernel
theorem dX12_passing_32 : decode cX12_passing 32 = .ok (.iload_n 1, 1) := by decide +kernel
theorem dX12_passing_33 : decode cX12_passing 33 = .ok (.iload_n 2, 1) := by decide +kernel
theorem dX12_passing_34 : decode cX12_passing 34 = .ok (.iload 4, 2) := by decide +kernel
theorem dX12_passing_36 : decode cX12_passing 36 = .ok (.invokevirtual 201, 3) := by decide +kernel
theorem dX12_passing_39 : decode cX12_passing 39 = .ok (.aload_n 0, 1) := by decide +kernel
theorem dX12_passing_40 : decode cX12_passing 40 = .ok (.iload_n 3, 1) := by decide +kernel
theorem dX12_passing_41 : decode cX12_passing 41 = .ok (.invokevirtual 70, 3) := by decide +kernel
theorem dX12_passing_44 : decode cX12_passing 44 = .ok (.ifCond .eq 6, 3) := by decide +kernel
theorem dX12_passing_47 : decode cX12_passing 47 = .ok (.iload 4, 2) := by decide +kernel
theorem dX12_passing_49 : decode cX12_passing 49 = .ok (.ireturn, 1) := by decide +kernel
theorem dX12_passing_50 : decode cX12_passing 50 = .ok (.iinc 4 1, 3) := by decide +kernel
theorem dX12_passing_53 : decode cX12_passing 53 = .ok (.goto (-31), 3) := by decide +kernel
theorem dX12_passing_56 : decode cX12_passing 56 = .ok (.iconst (-1), 1) := by decide +kernel
theorem dX12_passing_57 : decode cX12_passing 57 = .ok (.ireturn, 1) := by decide +kernel
theorem dX12_only_0 : decode cX12_only 0 = .ok (.iload_n 1, 1) := by decide +kernel
theorem dX12_only_1 : decode cX12_only 1 = .ok (.iconst 0, 1) := by decide +kernel
theorem dX12_only_2 : decode cX12_only 2 = .ok (.iconst 5, 1) := by decide +kernel
theorem dX12_only_3 : decode cX12_only 3 = .ok (.invokestatic 113, 3) := by decide +kernel
theorem dX12_only_6 : decode cX12_only 6 = .ok (.ifCond .eq 19, 3) := by decide +kernel
theorem dX12_only_9 : decode cX12_only 9 = .ok (.aload_n 0, 1) := by decide +kernel
theorem dX12_only_10 : decode cX12_only 10 = .ok (.invokevirtual 157, 3) := by decide +kernel
theorem dX12_only_13 : decode cX12_only 13 = .ok (.ifCond .eq 12, 3) := by decide +kernel
theorem dX12_only_16 : decode cX12_only 16 = .ok (.aload_n 0, 1) := by decide +kernel
theorem dX12_only_17 : decode cX12_only 17 = .ok (.getfield 30, 3) := by decide +kernel
theorem dX12_only_20 : decode cX12_only 20 = .ok (.iload_n 1, 1) := by decide +kernel
theorem dX12_only_21 : decode cX12_only 21 = .ok (.iaload, 1) := by decide +kernel
theorem dX12_only_22 : decode cX12_only 22 = .ok (.goto 4, 3) := by decide +kernel
theorem dX12_only_25 : decode cX12_only 25 = .ok (.iconst (-1), 1) := by decide +kernel
theorem dX12_only_26 : decode cX12_only 26 = .ok (.ireturn, 1) := by decide +kernel
theorem dX12_freed_0 : decode cX12_freed 0 = .ok (.aload_n 0, 1) := by decide +kernel
theorem dX12_freed_1 : decode cX12_freed 1 = .ok (.iload_n 1, 1) := by decide +kernel
theorem dX12_freed_2 : decode cX12_freed 2 = .ok (.invokevirtual 161, 3) := by decide +kernel
theorem dX12_freed_5 : decode cX12_freed 5 = .ok (.ifCond .eq 24, 3) := by decide +kernel
theorem dX12_freed_8 : decode cX12_freed 8 = .ok (.aload_n 0, 1) := by decide +kernel
theorem dX12_freed_9 : decode cX12_freed 9 = .ok (.iconst 0, 1) := by decide +kernel
theorem dX12_freed_10 : decode cX12_freed 10 = .ok (.iload_n 1, 1) := by decide +kernel
theorem dX12_freed_11 : decode cX12_freed 11 = .ok (.invokevirtual 164, 3) := by decide +kernel
theorem dX12_freed_14 : decode cX12_freed 14 = .ok (.iconst (-1), 1) := by decide +kernel
theorem dX12_freed_15 : decode cX12_freed 15 = .ok (.if_icmp .ne 14, 3) := by decide +kernel
theorem dX12_freed_18 : decode cX12_freed 18 = .ok (.bipush 6, 2) := by decide +kernel
theorem dX12_freed_20 : decode cX12_freed 20 = .ok (.aload_n 0, 1) := by decide +kernel
theorem dX12_freed_21 : decode cX12_freed 21 = .ok (.iload_n 1, 1) := by decide +kernel
theorem dX12_freed_22 : decode cX12_freed 22 = .ok (.invokevirtual 154, 3) := by decide +kernel
theorem dX12_freed_25 : decode cX12_freed 25 = .ok (.isub, 1) := by decide +kernel
theorem dX12_freed_26 : decode cX12_freed 26 = .ok (.goto 4, 3) := by decide +kernel
theorem dX12_freed_29 : decode cX12_freed 29 = .ok (.iconst (-1), 1) := by decide +kernel
theorem dX12_freed_30 : decode cX12_freed 30 = .ok (.ireturn, 1) := by decide +kernel
theorem dX12_useful_0 : decode cX12_useful 0 = .ok (.aload_n 0, 1) := by decide +kernel
theorem dX12_useful_1 : decode cX12_useful 1 = .ok (.iconst (-1), 1) := by decide +kernel
theorem dX12_useful_2 : decode cX12_useful 2 = .ok (.invokevirtual 154, 3) := by decide +kernel
theorem dX12_useful_5 : decode cX12_useful 5 = .ok (.istore_n 1, 1) := by decide +kernel
theorem dX12_useful_6 : decode cX12_useful 6 = .ok (.iconst 0, 1) := by decide +kernel
theorem dX12_useful_7 : decode cX12_useful 7 = .ok (.istore_n 2, 1) := by decide +kernel
theorem dX12_useful_8 : decode cX12_useful 8 = .ok (.iconst 0, 1) := by decide +kernel
theorem dX12_useful_9 : decode cX12_useful 9 = .ok (.istore_n 3, 1) := by decide +kernel
theorem dX12_useful_10 : decode cX12_useful 10 = .ok (.iload_n 3, 1) := by decide +kernel
theorem dX12_useful_11 : decode cX12_useful 11 = .ok (.aload_n 0, 1) := by decide +kernel
theorem dX12_useful_12 : decode cX12_useful 12 = .ok (.invokevirtual 66, 3) := by decide +kernel
theorem dX12_useful_15 : decode cX12_useful 15 = .ok (.if_icmp .ge 36, 3) := by decide +kernel
theorem dX12_useful_18 : decode cX12_useful 18 = .ok (.iload_n 2, 1) := by decide +kernel
theorem dX12_useful_19 : decode cX12_useful 19 = .ok (.aload_n 0, 1) := by decide +kernel
theorem dX12_useful_20 : decode cX12_useful 20 = .ok (.iconst 0, 1) := by decide +kernel
theorem dX12_useful_21 : decode cX12_useful 21 = .ok (.iload_n 3, 1) := by decide +kernel
theorem dX12_useful_22 : decode cX12_useful 22 = .ok (.invokevirtual 164, 3) := by decide +kernel
theorem dX12_useful_25 : decode cX12_useful 25 = .ok (.iconst (-1), 1) := by decide +kernel
theorem dX12_useful_26 : decode cX12_useful 26 = .ok (.if_icmp .ne 16, 3) := by decide +kernel
theorem dX12_useful_29 : decode cX12_useful 29 = .ok (.aload_n 0, 1) := by decide +kernel
theorem dX12_useful_30 : decode cX12_useful 30 = .ok (.iload_n 3, 1) := by decide +kernel
theorem dX12_useful_31 : decode cX12_useful 31 = .ok (.invokevirtual 154, 3) := by decide +kernel
theorem dX12_useful_34 : decode cX12_useful 34 = .ok (.iload_n 1, 1) := by decide +kernel
theorem dX12_useful_35 : decode cX12_useful 35 = .ok (.if_icmp .le 7, 3) := by decide +kernel
theorem dX12_useful_38 : decode cX12_useful 38 = .ok (.iconst 1, 1) := by decide +kernel
theorem dX12_useful_39 : decode cX12_useful 39 = .ok (.goto 4, 3) := by decide +kernel
theorem dX12_useful_42 : decode cX12_useful 42 = .ok (.iconst 0, 1) := by decide +kernel
theorem dX12_useful_43 : decode cX12_useful 43 = .ok (.iadd, 1) := by decide +kernel
theorem dX12_useful_44 : decode cX12_useful 44 = .ok (.istore_n 2, 1) := by decide +kernel
theorem dX12_useful_45 : decode cX12_useful 45 = .ok (.iinc 3 1, 3) := by decide +kernel
theorem dX12_useful_48 : decode cX12_useful 48 = .ok (.goto (-38), 3) := by decide +kernel
theorem dX12_useful_51 : decode cX12_useful 51 = .ok (.iload_n 2, 1) := by decide +kernel
theorem dX12_useful_52 : decode cX12_useful 52 = .ok (.ireturn, 1) := by decide +kernel
theorem dX12_feed_0 : decode cX12_feed 0 = .ok (.aload_n 0, 1) := by decide +kernel
theorem dX12_feed_1 : decode cX12_feed 1 = .ok (.getfield 173, 3) := by decide +kernel
theorem dX12_feed_4 : decode cX12_feed 4 = .ok (.bipush 20, 2) := by decide +kernel
theorem dX12_feed_6 : decode cX12_feed 6 = .ok (.iadd, 1) := by decide +kernel
theorem dX12_feed_7 : decode cX12_feed 7 = .ok (.sipush 500, 3) := by decide +kernel
theorem dX12_feed_10 : decode cX12_feed 10 = .ok (.if_icmp .le 5, 3) := by decide +kernel
theorem dX12_feed_13 : decode cX12_feed 13 = .ok (.iconst (-1), 1) := by decide +kernel
theorem dX12_feed_14 : decode cX12_feed 14 = .ok (.ireturn, 1) := by decide +kernel
theorem dX12_feed_15 : decode cX12_feed 15 = .ok (.iconst 0, 1) := by decide +kernel
theorem dX12_feed_16 : decode cX12_feed 16 = .ok (.istore 6, 2) := by decide +kernel
theorem dX12_feed_18 : decode cX12_feed 18 = .ok (.iload 6, 2) := by decide +kernel
theorem dX12_feed_20 : decode cX12_feed 20 = .ok (.bipush 20, 2) := by decide +kernel
theorem dX12_feed_22 : decode cX12_feed 22 = .ok (.if_icmp .ge 86, 3) := by decide +kernel
theorem dX12_feed_25 : decode cX12_feed 25 = .ok (.iload 6, 2) := by decide +kernel
theorem dX12_feed_27 : decode cX12_feed 27 = .ok (.iconst 4, 1) := by decide +kernel
theorem dX12_feed_28 : decode cX12_feed 28 = .ok (.if_icmp .ge 7, 3) := by decide +kernel
theorem dX12_feed_31 : decode cX12_feed 31 = .ok (.iload_n 1, 1) := by decide +kernel
theorem dX12_feed_32 : decode cX12_feed 32 = .ok (.goto 39, 3) := by decide +kernel
theorem dX12_feed_35 : decode cX12_feed 35 = .ok (.iload 6, 2) := by decide +kernel
theorem dX12_feed_37 : decode cX12_feed 37 = .ok (.bipush 8, 2) := by decide +kernel
theorem dX12_feed_39 : decode cX12_feed 39 = .ok (.if_icmp .ge 7, 3) := by decide +kernel
theorem dX12_feed_42 : decode cX12_feed 42 = .ok (.iload_n 2, 1) := by decide +kernel
theorem dX12_feed_43 : decode cX12_feed 43 = .ok (.goto 28, 3) := by decide +kernel
theorem dX12_feed_46 : decode cX12_feed 46 = .ok (.iload 6, 2) := by decide +kernel
theorem dX12_feed_48 : decode cX12_feed 48 = .ok (.bipush 12, 2) := by decide +kernel
theorem dX12_feed_50 : decode cX12_feed 50 = .ok (.if_icmp .ge 7, 3) := by decide +kernel
theorem dX12_feed_53 : decode cX12_feed 53 = .ok (.iload_n 3, 1) := by decide +kernel
theorem dX12_feed_54 : decode cX12_feed 54 = .ok (.goto 17, 3) := by decide +kernel
theorem dX12_feed_57 : decode cX12_feed 57 = .ok (.iload 6, 2) := by decide +kernel
theorem dX12_feed_59 : decode cX12_feed 59 = .ok (.bipush 16, 2) := by decide +kernel
theorem dX12_feed_61 : decode cX12_feed 61 = .ok (.if_icmp .ge 8, 3) := by decide +kernel
theorem dX12_feed_64 : decode cX12_feed 64 = .ok (.iload 4, 2) := by decide +kernel
theorem dX12_feed_66 : decode cX12_feed 66 = .ok (.goto 5, 3) := by decide +kernel
theorem dX12_feed_69 : decode cX12_feed 69 = .ok (.iload 5, 2) := by decide +kernel
theorem dX12_feed_71 : decode cX12_feed 71 = .ok (.istore 7, 2) := by decide +kernel
theorem dX12_feed_73 : decode cX12_feed 73 = .ok (.aload_n 0, 1) := by decide +kernel
theorem dX12_feed_74 : decode cX12_feed 74 = .ok (.getfield 13, 3) := by decide +kernel
theorem dX12_feed_77 : decode cX12_feed 77 = .ok (.aload_n 0, 1) := by decide +kernel
theorem dX12_feed_78 : decode cX12_feed 78 = .ok (.getfield 173, 3) := by decide +kernel
theorem dX12_feed_81 : decode cX12_feed 81 = .ok (.iload 6, 2) := by decide +kernel
theorem dX12_feed_83 : decode cX12_feed 83 = .ok (.iadd, 1) := by decide +kernel
theorem dX12_feed_84 : decode cX12_feed 84 = .ok (.iload 7, 2) := by decide +kernel
theorem dX12_feed_86 : decode cX12_feed 86 = .ok (.bipush 24, 2) := by decide +kernel
theorem dX12_feed_88 : decode cX12_feed 88 = .ok (.bipush 8, 2) := by decide +kernel
theorem dX12_feed_90 : decode cX12_feed 90 = .ok (.iload 6, 2) := by decide +kernel
theorem dX12_feed_92 : decode cX12_feed 92 = .ok (.iconst 3, 1) := by decide +kernel
theorem dX12_feed_93 : decode cX12_feed 93 = .ok (.iand, 1) := by decide +kernel
theorem dX12_feed_94 : decode cX12_feed 94 = .ok (.imul, 1) := by decide +kernel
theorem dX12_feed_95 : decode cX12_feed 95 = .ok (.isub, 1) := by decide +kernel
theorem dX12_feed_96 : decode cX12_feed 96 = .ok (.ishr, 1) := by decide +kernel
theorem dX12_feed_97 : decode cX12_feed 97 = .ok (.sipush 255, 3) := by decide +kernel
theorem dX12_feed_100 : decode cX12_feed 100 = .ok (.iand, 1) := by decide +kernel
theorem dX12_feed_101 : decode cX12_feed 101 = .ok (.iastore, 1) := by decide +kernel
theorem dX12_feed_102 : decode cX12_feed 102 = .ok (.iinc 6 1, 3) := by decide +kernel
theorem dX12_feed_105 : decode cX12_feed 105 = .ok (.goto (-87), 3) := by decide +kernel
theorem dX12_feed_108 : decode cX12_feed 108 = .ok (.aload_n 0, 1) := by decide +kernel
theorem dX12_feed_109 : decode cX12_feed 109 = .ok (.dup, 1) := by decide +kernel
theorem dX12_feed_110 : decode cX12_feed 110 = .ok (.getfield 173, 3) := by decide +kernel
theorem dX12_feed_113 : decode cX12_feed 113 = .ok (.bipush 20, 2) := by decide +kernel
theorem dX12_feed_115 : decode cX12_feed 115 = .ok (.iadd, 1) := by decide +kernel
theorem dX12_feed_116 : decode cX12_feed 116 = .ok (.putfield 173, 3) := by decide +kernel
theorem dX12_feed_119 : decode cX12_feed 119 = .ok (.aload_n 0, 1) := by decide +kernel
theorem dX12_feed_120 : decode cX12_feed 120 = .ok (.getfield 173, 3) := by decide +kernel
theorem dX12_feed_123 : decode cX12_feed 123 = .ok (.ireturn, 1) := by decide +kernel
theorem dX12_end_0 : decode cX12_end 0 = .ok (.iload_n 1, 1) := by decide +kernel
theorem dX12_end_1 : decode cX12_end 1 = .ok (.iconst 0, 1) := by decide +kernel
theorem dX12_end_2 : decode cX12_end 2 = .ok (.aload_n 0, 1) := by decide +kernel
theorem dX12_end_3 : decode cX12_end 3 = .ok (.getfield 173, 3) := by decide +kernel
theorem dX12_end_6 : decode cX12_end 6 = .ok (.invokestatic 113, 3) := by decide +kernel
theorem dX12_end_9 : decode cX12_end 9 = .ok (.ifCond .ne 5, 3) := by decide +kernel
theorem dX12_end_12 : decode cX12_end 12 = .ok (.iconst (-1), 1) := by decide +kernel
theorem dX12_end_13 : decode cX12_end 13 = .ok (.ireturn, 1) := by decide +kernel
theorem dX12_end_14 : decode cX12_end 14 = .ok (.aload_n 0, 1) := by decide +kernel
theorem dX12_end_15 : decode cX12_end 15 = .ok (.iload_n 1, 1) := by decide +kernel
theorem dX12_end_16 : decode cX12_end 16 = .ok (.putfield 173, 3) := by decide +kernel
theorem dX12_end_19 : decode cX12_end 19 = .ok (.iload_n 1, 1) := by decide +kernel
theorem dX12_end_20 : decode cX12_end 20 = .ok (.ireturn, 1) := by decide +kernel
theorem dX12_fault_0 : decode cX12_fault 0 = .ok (.iload_n 1, 1) := by decide +kernel
theorem dX12_fault_1 : decode cX12_fault 1 = .ok (.ifCond .ne 10, 3) := by decide +kernel
theorem dX12_fault_4 : decode cX12_fault 4 = .ok (.aload_n 0, 1) := by decide +kernel
theorem dX12_fault_5 : decode cX12_fault 5 = .ok (.getfield 216, 3) := by decide +kernel
theorem dX12_fault_8 : decode cX12_fault 8 = .ok (.goto 16, 3) := by decide +kernel
theorem dX12_fault_11 : decode cX12_fault 11 = .ok (.iload_n 1, 1) := by decide +kernel
theorem dX12_fault_12 : decode cX12_fault 12 = .ok (.iconst 1, 1) := by decide +kernel
theorem dX12_fault_13 : decode cX12_fault 13 = .ok (.if_icmp .ne 10, 3) := by decide +kernel
theorem dX12_fault_16 : decode cX12_fault 16 = .ok (.aload_n 0, 1) := by decide +kernel
theorem dX12_fault_17 : decode cX12_fault 17 = .ok (.getfield 20, 3) := by decide +kernel
theorem dX12_fault_20 : decode cX12_fault 20 = .ok (.goto 4, 3) := by decide +kernel
theorem dX12_fault_23 : decode cX12_fault 23 = .ok (.iconst (-1), 1) := by decide +kernel
theorem dX12_fault_24 : decode cX12_fault 24 = .ok (.ireturn, 1) := by decide +kernel
theorem dX12_byteAt_0 : decode cX12_byteAt 0 = .ok (.iload_n 1, 1) := by decide +kernel
theorem dX12_byteAt_1 : decode cX12_byteAt 1 = .ok (.aload_n 0, 1) := by decide +kernel
theorem dX12_byteAt_2 : decode cX12_byteAt 2 = .ok (.getfield 219, 3) := by decide +kernel
theorem dX12_byteAt_5 : decode cX12_byteAt 5 = .ok (.if_icmp .ge 12, 3) := by decide +kernel
theorem dX12_byteAt_8 : decode cX12_byteAt 8 = .ok (.aload_n 0, 1) := by decide +kernel
theorem dX12_byteAt_9 : decode cX12_byteAt 9 = .ok (.getfield 13, 3) := by decide +kernel
theorem dX12_byteAt_12 : decode cX12_byteAt 12 = .ok (.iload_n 1, 1) := by decide +kernel
theorem dX12_byteAt_13 : decode cX12_byteAt 13 = .ok (.iaload, 1) := by decide +kernel
theorem dX12_byteAt_14 : decode cX12_byteAt 14 = .ok (.goto 4, 3) := by decide +kernel
theorem dX12_byteAt_17 : decode cX12_byteAt 17 = .ok (.iconst (-1), 1) := by decide +kernel
theorem dX12_byteAt_18 : decode cX12_byteAt 18 = .ok (.ireturn, 1) := by decide +kernel
theorem dX12_isLetter_0 : decode cX12_isLetter 0 = .ok (.iload_n 0, 1) := by decide +kernel
theorem dX12_isLetter_1 : decode cX12_isLetter 1 = .ok (.bipush 97, 2) := by decide +kernel
theorem dX12_isLetter_3 : decode cX12_isLetter 3 = .ok (.if_icmp .lt 13, 3) := by decide +kernel
theorem dX12_isLetter_6 : decode cX12_isLetter 6 = .ok (.iload_n 0, 1) := by decide +kernel
theorem dX12_isLetter_7 : decode cX12_isLetter 7 = .ok (.bipush 122, 2) := by decide +kernel
theorem dX12_isLetter_9 : decode cX12_isLetter 9 = .ok (.if_icmp .gt 7, 3) := by decide +kernel
theorem dX12_isLetter_12 : decode cX12_isLetter 12 = .ok (.iconst 1, 1) := by decide +kernel
theorem dX12_isLetter_13 : decode cX12_isLetter 13 = .ok (.goto 4, 3) := by decide +kernel
theorem dX12_isLetter_16 : decode cX12_isLetter 16 = .ok (.iconst 0, 1) := by decide +kernel
theorem dX12_isLetter_17 : decode cX12_isLetter 17 = .ok (.ireturn, 1) := by decide +kernel
theorem dX12_isDigit_0 : decode cX12_isDigit 0 = .ok (.iload_n 0, 1) := by decide +kernel
theorem dX12_isDigit_1 : decode cX12_isDigit 1 = .ok (.bipush 48, 2) := by decide +kernel
theorem dX12_isDigit_3 : decode cX12_isDigit 3 = .ok (.if_icmp .lt 13, 3) := by decide +kernel
theorem dX12_isDigit_6 : decode cX12_isDigit 6 = .ok (.iload_n 0, 1) := by decide +kernel
theorem dX12_isDigit_7 : decode cX12_isDigit 7 = .ok (.bipush 57, 2) := by decide +kernel
theorem dX12_isDigit_9 : decode cX12_isDigit 9 = .ok (.if_icmp .gt 7, 3) := by decide +kernel
theorem dX12_isDigit_12 : decode cX12_isDigit 12 = .ok (.iconst 1, 1) := by decide +kernel
theorem dX12_isDigit_13 : decode cX12_isDigit 13 = .ok (.goto 4, 3) := by decide +kernel
theorem dX12_isDigit_16 : decode cX12_isDigit 16 = .ok (.iconst 0, 1) := by decide +kernel
theorem dX12_isDigit_17 : decode cX12_isDigit 17 = .ok (.ireturn, 1) := by decide +kernel
theorem dX12_takes_0 : decode cX12_takes 0 = .ok (.aload_n 0, 1) := by decide +kernel
theorem dX12_takes_1 : decode cX12_takes 1 = .ok (.aload_n 0, 1) := by decide +kernel
theorem dX12_takes_2 : decode cX12_takes 2 = .ok (.getfield 222, 3) := by decide +kernel
theorem dX12_takes_5 : decode cX12_takes 5 = .ok (.invokevirtual 225, 3) := by decide +kernel
theorem dX12_takes_8 : decode cX12_takes 8 = .ok (.bipush 32, 2) := by decide +kernel
theorem dX12_takes_10 : decode cX12_takes 10 = .ok (.if_icmp .eq 16, 3) := by decide +kernel
theorem dX12_takes_13 : decode cX12_takes 13 = .ok (.aload_n 0, 1) := by decide +kernel
theorem dX12_takes_14 : decode cX12_takes 14 = .ok (.aload_n 0, 1) := by decide +kernel
theorem dX12_takes_15 : decode cX12_takes 15 = .ok (.getfield 222, 3) := by decide +kernel
theorem dX12_takes_18 : decode cX12_takes 18 = .ok (.invokevirtual 225, 3) := by decide +kernel
theorem dX12_takes_21 : decode cX12_takes 21 = .ok (.bipush 10, 2) := by decide +kernel
theorem dX12_takes_23 : decode cX12_takes 23 = .ok (.if_icmp .ne 16, 3) := by decide +kernel
theorem dX12_takes_26 : decode cX12_takes 26 = .ok (.aload_n 0, 1) := by decide +kernel
theorem dX12_takes_27 : decode cX12_takes 27 = .ok (.dup, 1) := by decide +kernel
theorem dX12_takes_28 : decode cX12_takes 28 = .ok (.getfield 222, 3) := by decide +kernel
theorem dX12_takes_31 : decode cX12_takes 31 = .ok (.iconst 1, 1) := by decide +kernel
theorem dX12_takes_32 : decode cX12_takes 32 = .ok (.iadd, 1) := by decide +kernel
theorem dX12_takes_33 : decode cX12_takes 33 = .ok (.putfield 222, 3) := by decide +kernel
theorem dX12_takes_36 : decode cX12_takes 36 = .ok (.goto (-36), 3) := by decide +kernel
theorem dX12_takes_39 : decode cX12_takes 39 = .ok (.aload_n 0, 1) := by decide +kernel
theorem dX12_takes_40 : decode cX12_takes 40 = .ok (.aload_n 0, 1) := by decide +kernel
theorem dX12_takes_41 : decode cX12_takes 41 = .ok (.getfield 222, 3) := by decide +kernel
theorem dX12_takes_44 : decode cX12_takes 44 = .ok (.putfield 228, 3) := by decide +kernel
theorem dX12_takes_47 : decode cX12_takes 47 = .ok (.aload_n 0, 1) := by decide +kernel
theorem dX12_takes_48 : decode cX12_takes 48 = .ok (.aload_n 0, 1) := by decide +kernel
theorem dX12_takes_49 : decode cX12_takes 49 = .ok (.getfield 222, 3) := by decide +kernel
theorem dX12_takes_52 : decode cX12_takes 52 = .ok (.invokevirtual 225, 3) := by decide +kernel
theorem dX12_takes_55 : decode cX12_takes 55 = .ok (.istore_n 1, 1) := by decide +kernel
theorem dX12_takes_56 : decode cX12_takes 56 = .ok (.aload_n 0, 1) := by decide +kernel
theorem dX12_takes_57 : decode cX12_takes 57 = .ok (.lconst 0, 1) := by decide +kernel
theorem dX12_takes_58 : decode cX12_takes 58 = .ok (.putfield 231, 3) := by decide +kernel
theorem dX12_takes_61 : decode cX12_takes 61 = .ok (.iload_n 1, 1) := by decide +kernel
theorem dX12_takes_62 : decode cX12_takes 62 = .ok (.ifCond .ge 11, 3) := by decide +kernel
theorem dX12_takes_65 : decode cX12_takes 65 = .ok (.aload_n 0, 1) := by decide +kernel
theorem dX12_takes_66 : decode cX12_takes 66 = .ok (.iconst 0, 1) := by decide +kernel
theorem dX12_takes_67 : decode cX12_takes 67 = .ok (.putfield 235, 3) := by decide +kernel
theorem dX12_takes_70 : decode cX12_takes 70 = .ok (.goto 235, 3) := by decide +kernel
theorem dX12_takes_73 : decode cX12_takes 73 = .ok (.iload_n 1, 1) := by decide +kernel
theorem dX12_takes_74 : decode cX12_takes 74 = .ok (.invokestatic 238, 3) := by decide +kernel
theorem dX12_takes_77 : decode cX12_takes 77 = .ok (.ifCond .eq 86, 3) := by decide +kernel
theorem dX12_takes_80 : decode cX12_takes 80 = .ok (.aload_n 0, 1) := by decide +kernel
theorem dX12_takes_81 : decode cX12_takes 81 = .ok (.aload_n 0, 1) := by decide +kernel
theorem dX12_takes_82 : decode cX12_takes 82 = .ok (.getfield 222, 3) := by decide +kernel
theorem dX12_takes_85 : decode cX12_takes 85 = .ok (.invokevirtual 225, 3) := by decide +kernel
theorem dX12_takes_88 : decode cX12_takes 88 = .ok (.invokestatic 238, 3) := by decide +kernel
theorem dX12_takes_91 : decode cX12_takes 91 = .ok (.ifCond .eq 64, 3) := by decide +kernel
theorem dX12_takes_94 : decode cX12_takes 94 = .ok (.aload_n 0, 1) := by decide +kernel
theorem dX12_takes_95 : decode cX12_takes 95 = .ok (.aload_n 0, 1) := by decide +kernel
theorem dX12_takes_96 : decode cX12_takes 96 = .ok (.getfield 222, 3) := by decide +kernel
theorem dX12_takes_99 : decode cX12_takes 99 = .ok (.aload_n 0, 1) := by decide +kernel
theorem dX12_takes_100 : decode cX12_takes 100 = .ok (.getfield 228, 3) := by decide +kernel
theorem dX12_takes_103 : decode cX12_takes 103 = .ok (.isub, 1) := by decide +kernel
theorem dX12_takes_104 : decode cX12_takes 104 = .ok (.bipush 9, 2) := by decide +kernel
theorem dX12_takes_106 : decode cX12_takes 106 = .ok (.if_icmp .ge 30, 3) := by decide +kernel
theorem dX12_takes_109 : decode cX12_takes 109 = .ok (.ldc2_w 241, 3) := by decide +kernel
theorem dX12_takes_112 : decode cX12_takes 112 = .ok (.aload_n 0, 1) := by decide +kernel
theorem dX12_takes_113 : decode cX12_takes 113 = .ok (.getfield 231, 3) := by decide +kernel
theorem dX12_takes_116 : decode cX12_takes 116 = .ok (.lmul, 1) := by decide +kernel
theorem dX12_takes_117 : decode cX12_takes 117 = .ok (.aload_n 0, 1) := by decide +kernel
theorem dX12_takes_118 : decode cX12_takes 118 = .ok (.aload_n 0, 1) := by decide +kernel
theorem dX12_takes_119 : decode cX12_takes 119 = .ok (.getfield 222, 3) := by decide +kernel
theorem dX12_takes_122 : decode cX12_takes 122 = .ok (.invokevirtual 225, 3) := by decide +kernel
theorem dX12_takes_125 : decode cX12_takes 125 = .ok (.i2l, 1) := by decide +kernel
theorem dX12_takes_126 : decode cX12_takes 126 = .ok (.ladd, 1) := by decide +kernel
theorem dX12_takes_127 : decode cX12_takes 127 = .ok (.ldc2_w 243, 3) := by decide +kernel
theorem dX12_takes_130 : decode cX12_takes 130 = .ok (.lsub, 1) := by decide +kernel
theorem dX12_takes_131 : decode cX12_takes 131 = .ok (.lconst 1, 1) := by decide +kernel
theorem dX12_takes_132 : decode cX12_takes 132 = .ok (.ladd, 1) := by decide +kernel
theorem dX12_takes_133 : decode cX12_takes 133 = .ok (.goto 6, 3) := by decide +kernel
theorem dX12_takes_136 : decode cX12_takes 136 = .ok (.ldc2_w 245, 3) := by decide +kernel
theorem dX12_takes_139 : decode cX12_takes 139 = .ok (.putfield 231, 3) := by decide +kernel
theorem dX12_takes_142 : decode cX12_takes 142 = .ok (.aload_n 0, 1) := by decide +kernel
theorem dX12_takes_143 : decode cX12_takes 143 = .ok (.dup, 1) := by decide +kernel
theorem dX12_takes_144 : decode cX12_takes 144 = .ok (.getfield 222, 3) := by decide +kernel
theorem dX12_takes_147 : decode cX12_takes 147 = .ok (.iconst 1, 1) := by decide +kernel
theorem dX12_takes_148 : decode cX12_takes 148 = .ok (.iadd, 1) := by decide +kernel
theorem dX12_takes_149 : decode cX12_takes 149 = .ok (.putfield 222, 3) := by decide +kernel
theorem dX12_takes_152 : decode cX12_takes 152 = .ok (.goto (-72), 3) := by decide +kernel
theorem dX12_takes_155 : decode cX12_takes 155 = .ok (.aload_n 0, 1) := by decide +kernel
theorem dX12_takes_156 : decode cX12_takes 156 = .ok (.iconst 1, 1) := by decide +kernel
theorem dX12_takes_157 : decode cX12_takes 157 = .ok (.putfield 235, 3) := by decide +kernel
theorem dX12_takes_160 : decode cX12_takes 160 = .ok (.goto 145, 3) := by decide +kernel
theorem dX12_takes_163 : decode cX12_takes 163 = .ok (.iload_n 1, 1) := by decide +kernel
theorem dX12_takes_164 : decode cX12_takes 164 = .ok (.invokestatic 247, 3) := by decide +kernel
theorem dX12_takes_167 : decode cX12_takes 167 = .ok (.ifCond .eq 101, 3) := by decide +kernel
theorem dX12_takes_170 : decode cX12_takes 170 = .ok (.aload_n 0, 1) := by decide +kernel
theorem dX12_takes_171 : decode cX12_takes 171 = .ok (.aload_n 0, 1) := by decide +kernel
theorem dX12_takes_172 : decode cX12_takes 172 = .ok (.getfield 222, 3) := by decide +kernel
theorem dX12_takes_175 : decode cX12_takes 175 = .ok (.invokevirtual 225, 3) := by decide +kernel
theorem dX12_takes_178 : decode cX12_takes 178 = .ok (.invokestatic 247, 3) := by decide +kernel
theorem dX12_takes_181 : decode cX12_takes 181 = .ok (.ifCond .eq 62, 3) := by decide +kernel
theorem dX12_takes_184 : decode cX12_takes 184 = .ok (.aload_n 0, 1) := by decide +kernel
theorem dX12_takes_185 : decode cX12_takes 185 = .ok (.aload_n 0, 1) := by decide +kernel
theorem dX12_takes_186 : decode cX12_takes 186 = .ok (.getfield 222, 3) := by decide +kernel
theorem dX12_takes_189 : decode cX12_takes 189 = .ok (.aload_n 0, 1) := by decide +kernel
theorem dX12_takes_190 : decode cX12_takes 190 = .ok (.getfield 228, 3) := by decide +kernel
theorem dX12_takes_193 : decode cX12_takes 193 = .ok (.isub, 1) := by decide +kernel
theorem dX12_takes_194 : decode cX12_takes 194 = .ok (.iconst 3, 1) := by decide +kernel
theorem dX12_takes_195 : decode cX12_takes 195 = .ok (.if_icmp .ge 28, 3) := by decide +kernel
theorem dX12_takes_198 : decode cX12_takes 198 = .ok (.ldc2_w 250, 3) := by decide +kernel
theorem dX12_takes_201 : decode cX12_takes 201 = .ok (.aload_n 0, 1) := by decide +kernel
theorem dX12_takes_202 : decode cX12_takes 202 = .ok (.getfield 231, 3) := by decide +kernel
theorem dX12_takes_205 : decode cX12_takes 205 = .ok (.lmul, 1) := by decide +kernel
theorem dX12_takes_206 : decode cX12_takes 206 = .ok (.aload_n 0, 1) := by decide +kernel
theorem dX12_takes_207 : decode cX12_takes 207 = .ok (.aload_n 0, 1) := by decide +kernel
theorem dX12_takes_208 : decode cX12_takes 208 = .ok (.getfield 222, 3) := by decide +kernel
theorem dX12_takes_211 : decode cX12_takes 211 = .ok (.invokevirtual 225, 3) := by decide +kernel
theorem dX12_takes_214 : decode cX12_takes 214 = .ok (.i2l, 1) := by decide +kernel
theorem dX12_takes_215 : decode cX12_takes 215 = .ok (.ladd, 1) := by decide +kernel
theorem dX12_takes_216 : decode cX12_takes 216 = .ok (.ldc2_w 252, 3) := by decide +kernel
theorem dX12_takes_219 : decode cX12_takes 219 = .ok (.lsub, 1) := by decide +kernel
theorem dX12_takes_220 : decode cX12_takes 220 = .ok (.goto 7, 3) := by decide +kernel
theorem dX12_takes_223 : decode cX12_takes 223 = .ok (.aload_n 0, 1) := by decide +kernel
theorem dX12_takes_224 : decode cX12_takes 224 = .ok (.getfield 231, 3) := by decide +kernel
theorem dX12_takes_227 : decode cX12_takes 227 = .ok (.putfield 231, 3) := by decide +kernel
theorem dX12_takes_230 : decode cX12_takes 230 = .ok (.aload_n 0, 1) := by decide +kernel
theorem dX12_takes_231 : decode cX12_takes 231 = .ok (.dup, 1) := by decide +kernel
theorem dX12_takes_232 : decode cX12_takes 232 = .ok (.getfield 222, 3) := by decide +kernel
theorem dX12_takes_235 : decode cX12_takes 235 = .ok (.iconst 1, 1) := by decide +kernel
theorem dX12_takes_236 : decode cX12_takes 236 = .ok (.iadd, 1) := by decide +kernel
theorem dX12_takes_237 : decode cX12_takes 237 = .ok (.putfield 222, 3) := by decide +kernel
theorem dX12_takes_240 : decode cX12_takes 240 = .ok (.goto (-70), 3) := by decide +kernel
theorem dX12_takes_243 : decode cX12_takes 243 = .ok (.aload_n 0, 1) := by decide +kernel
theorem dX12_takes_244 : decode cX12_takes 244 = .ok (.aload_n 0, 1) := by decide +kernel
theorem dX12_takes_245 : decode cX12_takes 245 = .ok (.getfield 222, 3) := by decide +kernel
theorem dX12_takes_248 : decode cX12_takes 248 = .ok (.aload_n 0, 1) := by decide +kernel
theorem dX12_takes_249 : decode cX12_takes 249 = .ok (.getfield 228, 3) := by decide +kernel
theorem dX12_takes_252 : decode cX12_takes 252 = .ok (.isub, 1) := by decide +kernel
theorem dX12_takes_253 : decode cX12_takes 253 = .ok (.iconst 3, 1) := by decide +kernel
theorem dX12_takes_254 : decode cX12_takes 254 = .ok (.if_icmp .le 7, 3) := by decide +kernel
theorem dX12_takes_257 : decode cX12_takes 257 = .ok (.iconst 4, 1) := by decide +kernel
theorem dX12_takes_258 : decode cX12_takes 258 = .ok (.goto 4, 3) := by decide +kernel
theorem dX12_takes_261 : decode cX12_takes 261 = .ok (.iconst 2, 1) := by decide +kernel
theorem dX12_takes_262 : decode cX12_takes 262 = .ok (.putfield 235, 3) := by decide +kernel
theorem dX12_takes_265 : decode cX12_takes 265 = .ok (.goto 40, 3) := by decide +kernel
theorem dX12_takes_268 : decode cX12_takes 268 = .ok (.aload_n 0, 1) := by decide +kernel
theorem dX12_takes_269 : decode cX12_takes 269 = .ok (.dup, 1) := by decide +kernel
theorem dX12_takes_270 : decode cX12_takes 270 = .ok (.getfield 222, 3) := by decide +kernel
theorem dX12_takes_273 : decode cX12_takes 273 = .ok (.iconst 1, 1) := by decide +kernel
theorem dX12_takes_274 : decode cX12_takes 274 = .ok (.iadd, 1) := by decide +kernel
theorem dX12_takes_275 : decode cX12_takes 275 = .ok (.putfield 222, 3) := by decide +kernel
theorem dX12_takes_278 : decode cX12_takes 278 = .ok (.aload_n 0, 1) := by decide +kernel
theorem dX12_takes_279 : decode cX12_takes 279 = .ok (.iload_n 1, 1) := by decide +kernel
theorem dX12_takes_280 : decode cX12_takes 280 = .ok (.i2l, 1) := by decide +kernel
theorem dX12_takes_281 : decode cX12_takes 281 = .ok (.putfield 231, 3) := by decide +kernel
theorem dX12_takes_284 : decode cX12_takes 284 = .ok (.aload_n 0, 1) := by decide +kernel
theorem dX12_takes_285 : decode cX12_takes 285 = .ok (.iload_n 1, 1) := by decide +kernel
theorem dX12_takes_286 : decode cX12_takes 286 = .ok (.bipush 59, 2) := by decide +kernel
theorem dX12_takes_288 : decode cX12_takes 288 = .ok (.if_icmp .eq 9, 3) := by decide +kernel
theorem dX12_takes_291 : decode cX12_takes 291 = .ok (.iload_n 1, 1) := by decide +kernel
theorem dX12_takes_292 : decode cX12_takes 292 = .ok (.bipush 45, 2) := by decide +kernel
theorem dX12_takes_294 : decode cX12_takes 294 = .ok (.if_icmp .ne 7, 3) := by decide +kernel
theorem dX12_takes_297 : decode cX12_takes 297 = .ok (.iconst 3, 1) := by decide +kernel
theorem dX12_takes_298 : decode cX12_takes 298 = .ok (.goto 4, 3) := by decide +kernel
theorem dX12_takes_301 : decode cX12_takes 301 = .ok (.iconst 4, 1) := by decide +kernel
theorem dX12_takes_302 : decode cX12_takes 302 = .ok (.putfield 235, 3) := by decide +kernel
theorem dX12_takes_305 : decode cX12_takes 305 = .ok (.return_, 1) := by decide +kernel
theorem dX12_fails_0 : decode cX12_fails 0 = .ok (.aload_n 0, 1) := by decide +kernel
theorem dX12_fails_1 : decode cX12_fails 1 = .ok (.getfield 216, 3) := by decide +kernel
theorem dX12_fails_4 : decode cX12_fails 4 = .ok (.ifCond .le 4, 3) := by decide +kernel
theorem dX12_fails_7 : decode cX12_fails 7 = .ok (.return_, 1) := by decide +kernel
theorem dX12_fails_8 : decode cX12_fails 8 = .ok (.aload_n 0, 1) := by decide +kernel
theorem dX12_fails_9 : decode cX12_fails 9 = .ok (.iload_n 1, 1) := by decide +kernel
theorem dX12_fails_10 : decode cX12_fails 10 = .ok (.putfield 216, 3) := by decide +kernel
theorem dX12_fails_13 : decode cX12_fails 13 = .ok (.aload_n 0, 1) := by decide +kernel
theorem dX12_fails_14 : decode cX12_fails 14 = .ok (.iload_n 2, 1) := by decide +kernel
theorem dX12_fails_15 : decode cX12_fails 15 = .ok (.putfield 20, 3) := by decide +kernel
theorem dX12_fails_18 : decode cX12_fails 18 = .ok (.return_, 1) := by decide +kernel
theorem dX12_isGood_0 : decode cX12_isGood 0 = .ok (.aload_n 0, 1) := by decide +kernel
theorem dX12_isGood_1 : decode cX12_isGood 1 = .ok (.getfield 216, 3) := by decide +kernel
theorem dX12_isGood_4 : decode cX12_isGood 4 = .ok (.ifCond .ne 7, 3) := by decide +kernel
theorem dX12_isGood_7 : decode cX12_isGood 7 = .ok (.iconst 1, 1) := by decide +kernel
theorem dX12_isGood_8 : decode cX12_isGood 8 = .ok (.goto 4, 3) := by decide +kernel
theorem dX12_isGood_11 : decode cX12_isGood 11 = .ok (.iconst 0, 1) := by decide +kernel
theorem dX12_isGood_12 : decode cX12_isGood 12 = .ok (.ireturn, 1) := by decide +kernel
theorem dX12_hasWord_0 : decode cX12_hasWord 0 = .ok (.aload_n 0, 1) := by decide +kernel
theorem dX12_hasWord_1 : decode cX12_hasWord 1 = .ok (.invokevirtual 254, 3) := by decide +kernel
theorem dX12_hasWord_4 : decode cX12_hasWord 4 = .ok (.ifCond .eq 24, 3) := by decide +kernel
theorem dX12_hasWord_7 : decode cX12_hasWord 7 = .ok (.aload_n 0, 1) := by decide +kernel
theorem dX12_hasWord_8 : decode cX12_hasWord 8 = .ok (.getfield 235, 3) := by decide +kernel
theorem dX12_hasWord_11 : decode cX12_hasWord 11 = .ok (.iconst 1, 1) := by decide +kernel
theorem dX12_hasWord_12 : decode cX12_hasWord 12 = .ok (.if_icmp .ne 16, 3) := by decide +kernel
theorem dX12_hasWord_15 : decode cX12_hasWord 15 = .ok (.aload_n 0, 1) := by decide +kernel
theorem dX12_hasWord_16 : decode cX12_hasWord 16 = .ok (.getfield 231, 3) := by decide +kernel
theorem dX12_hasWord_19 : decode cX12_hasWord 19 = .ok (.lload_n 1, 1) := by decide +kernel
theorem dX12_hasWord_20 : decode cX12_hasWord 20 = .ok (.lcmp, 1) := by decide +kernel
theorem dX12_hasWord_21 : decode cX12_hasWord 21 = .ok (.ifCond .ne 7, 3) := by decide +kernel
theorem dX12_hasWord_24 : decode cX12_hasWord 24 = .ok (.iconst 1, 1) := by decide +kernel
theorem dX12_hasWord_25 : decode cX12_hasWord 25 = .ok (.goto 4, 3) := by decide +kernel
theorem dX12_hasWord_28 : decode cX12_hasWord 28 = .ok (.iconst 0, 1) := by decide +kernel
theorem dX12_hasWord_29 : decode cX12_hasWord 29 = .ok (.istore_n 3, 1) := by decide +kernel
theorem dX12_hasWord_30 : decode cX12_hasWord 30 = .ok (.iload_n 3, 1) := by decide +kernel
theorem dX12_hasWord_31 : decode cX12_hasWord 31 = .ok (.ifCond .eq 7, 3) := by decide +kernel
theorem dX12_hasWord_34 : decode cX12_hasWord 34 = .ok (.aload_n 0, 1) := by decide +kernel
theorem dX12_hasWord_35 : decode cX12_hasWord 35 = .ok (.invokevirtual 257, 3) := by decide +kernel
theorem dX12_hasWord_38 : decode cX12_hasWord 38 = .ok (.iload_n 3, 1) := by decide +kernel
theorem dX12_hasWord_39 : decode cX12_hasWord 39 = .ok (.ireturn, 1) := by decide +kernel
theorem dX12_hasSign_0 : decode cX12_hasSign 0 = .ok (.aload_n 0, 1) := by decide +kernel
theorem dX12_hasSign_1 : decode cX12_hasSign 1 = .ok (.invokevirtual 254, 3) := by decide +kernel
theorem dX12_hasSign_4 : decode cX12_hasSign 4 = .ok (.ifCond .eq 25, 3) := by decide +kernel
theorem dX12_hasSign_7 : decode cX12_hasSign 7 = .ok (.aload_n 0, 1) := by decide +kernel
theorem dX12_hasSign_8 : decode cX12_hasSign 8 = .ok (.getfield 235, 3) := by decide +kernel
theorem dX12_hasSign_11 : decode cX12_hasSign 11 = .ok (.iconst 3, 1) := by decide +kernel
theorem dX12_hasSign_12 : decode cX12_hasSign 12 = .ok (.if_icmp .ne 17, 3) := by decide +kernel
theorem dX12_hasSign_15 : decode cX12_hasSign 15 = .ok (.aload_n 0, 1) := by decide +kernel
theorem dX12_hasSign_16 : decode cX12_hasSign 16 = .ok (.getfield 231, 3) := by decide +kernel
theorem dX12_hasSign_19 : decode cX12_hasSign 19 = .ok (.iload_n 1, 1) := by decide +kernel
theorem dX12_hasSign_20 : decode cX12_hasSign 20 = .ok (.i2l, 1) := by decide +kernel
theorem dX12_hasSign_21 : decode cX12_hasSign 21 = .ok (.lcmp, 1) := by decide +kernel
theorem dX12_hasSign_22 : decode cX12_hasSign 22 = .ok (.ifCond .ne 7, 3) := by decide +kernel
theorem dX12_hasSign_25 : decode cX12_hasSign 25 = .ok (.iconst 1, 1) := by decide +kernel
theorem dX12_hasSign_26 : decode cX12_hasSign 26 = .ok (.goto 4, 3) := by decide +kernel
theorem dX12_hasSign_29 : decode cX12_hasSign 29 = .ok (.iconst 0, 1) := by decide +kernel
theorem dX12_hasSign_30 : decode cX12_hasSign 30 = .ok (.istore_n 2, 1) := by decide +kernel
theorem dX12_hasSign_31 : decode cX12_hasSign 31 = .ok (.iload_n 2, 1) := by decide +kernel
theorem dX12_hasSign_32 : decode cX12_hasSign 32 = .ok (.ifCond .eq 7, 3) := by decide +kernel
theorem dX12_hasSign_35 : decode cX12_hasSign 35 = .ok (.aload_n 0, 1) := by decide +kernel
theorem dX12_hasSign_36 : decode cX12_hasSign 36 = .ok (.invokevirtual 257, 3) := by decide +kernel
theorem dX12_hasSign_39 : decode cX12_hasSign 39 = .ok (.iload_n 2, 1) := by decide +kernel
theorem dX12_hasSign_40 : decode cX12_hasSign 40 = .ok (.ireturn, 1) := by decide +kernel
theorem dX12_numeral_0 : decode cX12_numeral 0 = .ok (.aload_n 0, 1) := by decide +kernel
theorem dX12_numeral_1 : decode cX12_numeral 1 = .ok (.invokevirtual 254, 3) := by decide +kernel
theorem dX12_numeral_4 : decode cX12_numeral 4 = .ok (.ifCond .eq 20, 3) := by decide +kernel
theorem dX12_numeral_7 : decode cX12_numeral 7 = .ok (.aload_n 0, 1) := by decide +kernel
theorem dX12_numeral_8 : decode cX12_numeral 8 = .ok (.getfield 235, 3) := by decide +kernel
theorem dX12_numeral_11 : decode cX12_numeral 11 = .ok (.iconst 2, 1) := by decide +kernel
theorem dX12_numeral_12 : decode cX12_numeral 12 = .ok (.if_icmp .eq 12, 3) := by decide +kernel
theorem dX12_numeral_15 : decode cX12_numeral 15 = .ok (.aload_n 0, 1) := by decide +kernel
theorem dX12_numeral_16 : decode cX12_numeral 16 = .ok (.iconst 1, 1) := by decide +kernel
theorem dX12_numeral_17 : decode cX12_numeral 17 = .ok (.aload_n 0, 1) := by decide +kernel
theorem dX12_numeral_18 : decode cX12_numeral 18 = .ok (.getfield 228, 3) := by decide +kernel
theorem dX12_numeral_21 : decode cX12_numeral 21 = .ok (.invokevirtual 260, 3) := by decide +kernel
theorem dX12_numeral_24 : decode cX12_numeral 24 = .ok (.aload_n 0, 1) := by decide +kernel
theorem dX12_numeral_25 : decode cX12_numeral 25 = .ok (.invokevirtual 254, 3) := by decide +kernel
theorem dX12_numeral_28 : decode cX12_numeral 28 = .ok (.ifCond .eq 22, 3) := by decide +kernel
theorem dX12_numeral_31 : decode cX12_numeral 31 = .ok (.aload_n 0, 1) := by decide +kernel
theorem dX12_numeral_32 : decode cX12_numeral 32 = .ok (.getfield 231, 3) := by decide +kernel
theorem dX12_numeral_35 : decode cX12_numeral 35 = .ok (.iload_n 1, 1) := by decide +kernel
theorem dX12_numeral_36 : decode cX12_numeral 36 = .ok (.i2l, 1) := by decide +kernel
theorem dX12_numeral_37 : decode cX12_numeral 37 = .ok (.lcmp, 1) := by decide +kernel
theorem dX12_numeral_38 : decode cX12_numeral 38 = .ok (.ifCond .le 12, 3) := by decide +kernel
theorem dX12_numeral_41 : decode cX12_numeral 41 = .ok (.aload_n 0, 1) := by decide +kernel
theorem dX12_numeral_42 : decode cX12_numeral 42 = .ok (.iconst 2, 1) := by decide +kernel
theorem dX12_numeral_43 : decode cX12_numeral 43 = .ok (.aload_n 0, 1) := by decide +kernel
theorem dX12_numeral_44 : decode cX12_numeral 44 = .ok (.getfield 228, 3) := by decide +kernel
theorem dX12_numeral_47 : decode cX12_numeral 47 = .ok (.invokevirtual 260, 3) := by decide +kernel
theorem dX12_numeral_50 : decode cX12_numeral 50 = .ok (.aload_n 0, 1) := by decide +kernel
theorem dX12_numeral_51 : decode cX12_numeral 51 = .ok (.invokevirtual 254, 3) := by decide +kernel
theorem dX12_numeral_54 : decode cX12_numeral 54 = .ok (.ifCond .ne 5, 3) := by decide +kernel
theorem dX12_numeral_57 : decode cX12_numeral 57 = .ok (.iconst 0, 1) := by decide +kernel
theorem dX12_numeral_58 : decode cX12_numeral 58 = .ok (.ireturn, 1) := by decide +kernel
theorem dX12_numeral_59 : decode cX12_numeral 59 = .ok (.aload_n 0, 1) := by decide +kernel
theorem dX12_numeral_60 : decode cX12_numeral 60 = .ok (.getfield 231, 3) := by decide +kernel
theorem dX12_numeral_63 : decode cX12_numeral 63 = .ok (.l2i, 1) := by decide +kernel
theorem dX12_numeral_64 : decode cX12_numeral 64 = .ok (.istore_n 2, 1) := by decide +kernel
theorem dX12_numeral_65 : decode cX12_numeral 65 = .ok (.aload_n 0, 1) := by decide +kernel
theorem dX12_numeral_66 : decode cX12_numeral 66 = .ok (.invokevirtual 257, 3) := by decide +kernel
theorem dX12_numeral_69 : decode cX12_numeral 69 = .ok (.iload_n 2, 1) := by decide +kernel
theorem dX12_numeral_70 : decode cX12_numeral 70 = .ok (.ireturn, 1) := by decide +kernel
theorem dX12_signed_0 : decode cX12_signed 0 = .ok (.aload_n 0, 1) := by decide +kernel
theorem dX12_signed_1 : decode cX12_signed 1 = .ok (.bipush 45, 2) := by decide +kernel
theorem dX12_signed_3 : decode cX12_signed 3 = .ok (.invokevirtual 263, 3) := by decide +kernel
theorem dX12_signed_6 : decode cX12_signed 6 = .ok (.istore_n 1, 1) := by decide +kernel
theorem dX12_signed_7 : decode cX12_signed 7 = .ok (.aload_n 0, 1) := by decide +kernel
theorem dX12_signed_8 : decode cX12_signed 8 = .ok (.bipush 99, 2) := by decide +kernel
theorem dX12_signed_10 : decode cX12_signed 10 = .ok (.invokevirtual 266, 3) := by decide +kernel
theorem dX12_signed_13 : decode cX12_signed 13 = .ok (.istore_n 2, 1) := by decide +kernel
theorem dX12_signed_14 : decode cX12_signed 14 = .ok (.iload_n 1, 1) := by decide +kernel
theorem dX12_signed_15 : decode cX12_signed 15 = .ok (.ifCond .eq 8, 3) := by decide +kernel
theorem dX12_signed_18 : decode cX12_signed 18 = .ok (.iload_n 2, 1) := by decide +kernel
theorem dX12_signed_19 : decode cX12_signed 19 = .ok (.ineg, 1) := by decide +kernel
theorem dX12_signed_20 : decode cX12_signed 20 = .ok (.goto 4, 3) := by decide +kernel
theorem dX12_signed_23 : decode cX12_signed 23 = .ok (.iload_n 2, 1) := by decide +kernel
theorem dX12_signed_24 : decode cX12_signed 24 = .ok (.ireturn, 1) := by decide +kernel
theorem dX12_ends_0 : decode cX12_ends 0 = .ok (.aload_n 0, 1) := by decide +kernel
theorem dX12_ends_1 : decode cX12_ends 1 = .ok (.invokevirtual 254, 3) := by decide +kernel
theorem dX12_ends_4 : decode cX12_ends 4 = .ok (.ifCond .eq 21, 3) := by decide +kernel
theorem dX12_ends_7 : decode cX12_ends 7 = .ok (.aload_n 0, 1) := by decide +kernel
theorem dX12_ends_8 : decode cX12_ends 8 = .ok (.bipush 59, 2) := by decide +kernel
theorem dX12_ends_10 : decode cX12_ends 10 = .ok (.invokevirtual 263, 3) := by decide +kernel
theorem dX12_ends_13 : decode cX12_ends 13 = .ok (.ifCond .ne 12, 3) := by decide +kernel
theorem dX12_ends_16 : decode cX12_ends 16 = .ok (.aload_n 0, 1) := by decide +kernel
theorem dX12_ends_17 : decode cX12_ends 17 = .ok (.iconst 1, 1) := by decide +kernel
theorem dX12_ends_18 : decode cX12_ends 18 = .ok (.aload_n 0, 1) := by decide +kernel
theorem dX12_ends_19 : decode cX12_ends 19 = .ok (.getfield 228, 3) := by decide +kernel
theorem dX12_ends_22 : decode cX12_ends 22 = .ok (.invokevirtual 260, 3) := by decide +kernel
theorem dX12_ends_25 : decode cX12_ends 25 = .ok (.return_, 1) := by decide +kernel
theorem dX12_readsPrime_0 : decode cX12_readsPrime 0 = .ok (.aload_n 0, 1) := by decide +kernel
theorem dX12_readsPrime_1 : decode cX12_readsPrime 1 = .ok (.invokevirtual 254, 3) := by decide +kernel
theorem dX12_readsPrime_4 : decode cX12_readsPrime 4 = .ok (.ifCond .eq 31, 3) := by decide +kernel
theorem dX12_readsPrime_7 : decode cX12_readsPrime 7 = .ok (.aload_n 0, 1) := by decide +kernel
theorem dX12_readsPrime_8 : decode cX12_readsPrime 8 = .ok (.getfield 235, 3) := by decide +kernel
theorem dX12_readsPrime_11 : decode cX12_readsPrime 11 = .ok (.iconst 2, 1) := by decide +kernel
theorem dX12_readsPrime_12 : decode cX12_readsPrime 12 = .ok (.if_icmp .ne 23, 3) := by decide +kernel
theorem dX12_readsPrime_15 : decode cX12_readsPrime 15 = .ok (.aload_n 0, 1) := by decide +kernel
theorem dX12_readsPrime_16 : decode cX12_readsPrime 16 = .ok (.getfield 231, 3) := by decide +kernel
theorem dX12_readsPrime_19 : decode cX12_readsPrime 19 = .ok (.l2i, 1) := by decide +kernel
theorem dX12_readsPrime_20 : decode cX12_readsPrime 20 = .ok (.invokestatic 133, 3) := by decide +kernel
theorem dX12_readsPrime_23 : decode cX12_readsPrime 23 = .ok (.ifCond .ne 12, 3) := by decide +kernel
theorem dX12_readsPrime_26 : decode cX12_readsPrime 26 = .ok (.aload_n 0, 1) := by decide +kernel
theorem dX12_readsPrime_27 : decode cX12_readsPrime 27 = .ok (.iconst 2, 1) := by decide +kernel
theorem dX12_readsPrime_28 : decode cX12_readsPrime 28 = .ok (.aload_n 0, 1) := by decide +kernel
theorem dX12_readsPrime_29 : decode cX12_readsPrime 29 = .ok (.getfield 228, 3) := by decide +kernel
theorem dX12_readsPrime_32 : decode cX12_readsPrime 32 = .ok (.invokevirtual 260, 3) := by decide +kernel
theorem dX12_readsPrime_35 : decode cX12_readsPrime 35 = .ok (.aload_n 0, 1) := by decide +kernel
theorem dX12_readsPrime_36 : decode cX12_readsPrime 36 = .ok (.bipush 23, 2) := by decide +kernel
theorem dX12_readsPrime_38 : decode cX12_readsPrime 38 = .ok (.invokevirtual 266, 3) := by decide +kernel
theorem dX12_readsPrime_41 : decode cX12_readsPrime 41 = .ok (.istore_n 1, 1) := by decide +kernel
theorem dX12_readsPrime_42 : decode cX12_readsPrime 42 = .ok (.aload_n 0, 1) := by decide +kernel
theorem dX12_readsPrime_43 : decode cX12_readsPrime 43 = .ok (.invokevirtual 269, 3) := by decide +kernel
theorem dX12_readsPrime_46 : decode cX12_readsPrime 46 = .ok (.aload_n 0, 1) := by decide +kernel
theorem dX12_readsPrime_47 : decode cX12_readsPrime 47 = .ok (.invokevirtual 254, 3) := by decide +kernel
theorem dX12_readsPrime_50 : decode cX12_readsPrime 50 = .ok (.ifCond .eq 14, 3) := by decide +kernel
theorem dX12_readsPrime_53 : decode cX12_readsPrime 53 = .ok (.iload_n 1, 1) := by decide +kernel
theorem dX12_readsPrime_54 : decode cX12_readsPrime 54 = .ok (.aload_n 0, 1) := by decide +kernel
theorem dX12_readsPrime_55 : decode cX12_readsPrime 55 = .ok (.getfield 7, 3) := by decide +kernel
theorem dX12_readsPrime_58 : decode cX12_readsPrime 58 = .ok (.bipush 84, 2) := by decide +kernel
theorem dX12_readsPrime_60 : decode cX12_readsPrime 60 = .ok (.iaload, 1) := by decide +kernel
theorem dX12_readsPrime_61 : decode cX12_readsPrime 61 = .ok (.if_icmp .ne 4, 3) := by decide +kernel
theorem dX12_readsPrime_64 : decode cX12_readsPrime 64 = .ok (.return_, 1) := by decide +kernel
theorem dX12_readsPrime_65 : decode cX12_readsPrime 65 = .ok (.aload_n 0, 1) := by decide +kernel
theorem dX12_readsPrime_66 : decode cX12_readsPrime 66 = .ok (.getfield 7, 3) := by decide +kernel
theorem dX12_readsPrime_69 : decode cX12_readsPrime 69 = .ok (.bipush 84, 2) := by decide +kernel
theorem dX12_readsPrime_71 : decode cX12_readsPrime 71 = .ok (.iload_n 1, 1) := by decide +kernel
theorem dX12_readsPrime_72 : decode cX12_readsPrime 72 = .ok (.iastore, 1) := by decide +kernel
theorem dX12_readsPrime_73 : decode cX12_readsPrime 73 = .ok (.aload_n 0, 1) := by decide +kernel
theorem dX12_readsPrime_74 : decode cX12_readsPrime 74 = .ok (.getfield 7, 3) := by decide +kernel
theorem dX12_readsPrime_77 : decode cX12_readsPrime 77 = .ok (.bipush 85, 2) := by decide +kernel
theorem dX12_readsPrime_79 : decode cX12_readsPrime 79 = .ok (.iconst 0, 1) := by decide +kernel
theorem dX12_readsPrime_80 : decode cX12_readsPrime 80 = .ok (.iastore, 1) := by decide +kernel
theorem dX12_readsPrime_81 : decode cX12_readsPrime 81 = .ok (.return_, 1) := by decide +kernel
theorem dX12_readsPoint_0 : decode cX12_readsPoint 0 = .ok (.aload_n 0, 1) := by decide +kernel
theorem dX12_readsPoint_1 : decode cX12_readsPoint 1 = .ok (.aload_n 0, 1) := by decide +kernel
theorem dX12_readsPoint_2 : decode cX12_readsPoint 2 = .ok (.getfield 7, 3) := by decide +kernel
theorem dX12_readsPoint_5 : decode cX12_readsPoint 5 = .ok (.bipush 84, 2) := by decide +kernel
theorem dX12_readsPoint_7 : decode cX12_readsPoint 7 = .ok (.iaload, 1) := by decide +kernel
theorem dX12_readsPoint_8 : decode cX12_readsPoint 8 = .ok (.putfield 40, 3) := by decide +kernel
theorem dX12_readsPoint_11 : decode cX12_readsPoint 11 = .ok (.aload_n 0, 1) := by decide +kernel
theorem dX12_readsPoint_12 : decode cX12_readsPoint 12 = .ok (.aload_n 0, 1) := by decide +kernel
theorem dX12_readsPoint_13 : decode cX12_readsPoint 13 = .ok (.invokevirtual 66, 3) := by decide +kernel
theorem dX12_readsPoint_16 : decode cX12_readsPoint 16 = .ok (.iconst 1, 1) := by decide +kernel
theorem dX12_readsPoint_17 : decode cX12_readsPoint 17 = .ok (.isub, 1) := by decide +kernel
theorem dX12_readsPoint_18 : decode cX12_readsPoint 18 = .ok (.invokevirtual 266, 3) := by decide +kernel
theorem dX12_readsPoint_21 : decode cX12_readsPoint 21 = .ok (.istore_n 2, 1) := by decide +kernel
theorem dX12_readsPoint_22 : decode cX12_readsPoint 22 = .ok (.aload_n 0, 1) := by decide +kernel
theorem dX12_readsPoint_23 : decode cX12_readsPoint 23 = .ok (.invokevirtual 269, 3) := by decide +kernel
theorem dX12_readsPoint_26 : decode cX12_readsPoint 26 = .ok (.aload_n 0, 1) := by decide +kernel
theorem dX12_readsPoint_27 : decode cX12_readsPoint 27 = .ok (.invokevirtual 254, 3) := by decide +kernel
theorem dX12_readsPoint_30 : decode cX12_readsPoint 30 = .ok (.ifCond .ne 4, 3) := by decide +kernel
theorem dX12_readsPoint_33 : decode cX12_readsPoint 33 = .ok (.return_, 1) := by decide +kernel
theorem dX12_readsPoint_34 : decode cX12_readsPoint 34 = .ok (.aload_n 0, 1) := by decide +kernel
theorem dX12_readsPoint_35 : decode cX12_readsPoint 35 = .ok (.bipush 48, 2) := by decide +kernel
theorem dX12_readsPoint_37 : decode cX12_readsPoint 37 = .ok (.iload_n 2, 1) := by decide +kernel
theorem dX12_readsPoint_38 : decode cX12_readsPoint 38 = .ok (.invokevirtual 164, 3) := by decide +kernel
theorem dX12_readsPoint_41 : decode cX12_readsPoint 41 = .ok (.iconst (-1), 1) := by decide +kernel
theorem dX12_readsPoint_42 : decode cX12_readsPoint 42 = .ok (.if_icmp .ne 15, 3) := by decide +kernel
theorem dX12_readsPoint_45 : decode cX12_readsPoint 45 = .ok (.aload_n 0, 1) := by decide +kernel
theorem dX12_readsPoint_46 : decode cX12_readsPoint 46 = .ok (.getfield 7, 3) := by decide +kernel
theorem dX12_readsPoint_49 : decode cX12_readsPoint 49 = .ok (.bipush 85, 2) := by decide +kernel
theorem dX12_readsPoint_51 : decode cX12_readsPoint 51 = .ok (.iaload, 1) := by decide +kernel
theorem dX12_readsPoint_52 : decode cX12_readsPoint 52 = .ok (.bipush 8, 2) := by decide +kernel
theorem dX12_readsPoint_54 : decode cX12_readsPoint 54 = .ok (.if_icmp .ne 10, 3) := by decide +kernel
theorem dX12_readsPoint_57 : decode cX12_readsPoint 57 = .ok (.aload_n 0, 1) := by decide +kernel
theorem dX12_readsPoint_58 : decode cX12_readsPoint 58 = .ok (.iconst 3, 1) := by decide +kernel
theorem dX12_readsPoint_59 : decode cX12_readsPoint 59 = .ok (.iload_n 1, 1) := by decide +kernel
theorem dX12_readsPoint_60 : decode cX12_readsPoint 60 = .ok (.invokevirtual 260, 3) := by decide +kernel
theorem dX12_readsPoint_63 : decode cX12_readsPoint 63 = .ok (.return_, 1) := by decide +kernel
theorem dX12_readsPoint_64 : decode cX12_readsPoint 64 = .ok (.aload_n 0, 1) := by decide +kernel
theorem dX12_readsPoint_65 : decode cX12_readsPoint 65 = .ok (.getfield 7, 3) := by decide +kernel
theorem dX12_readsPoint_68 : decode cX12_readsPoint 68 = .ok (.bipush 86, 2) := by decide +kernel
theorem dX12_readsPoint_70 : decode cX12_readsPoint 70 = .ok (.aload_n 0, 1) := by decide +kernel
theorem dX12_readsPoint_71 : decode cX12_readsPoint 71 = .ok (.getfield 7, 3) := by decide +kernel
theorem dX12_readsPoint_74 : decode cX12_readsPoint 74 = .ok (.bipush 85, 2) := by decide +kernel
theorem dX12_readsPoint_76 : decode cX12_readsPoint 76 = .ok (.iaload, 1) := by decide +kernel
theorem dX12_readsPoint_77 : decode cX12_readsPoint 77 = .ok (.iadd, 1) := by decide +kernel
theorem dX12_readsPoint_78 : decode cX12_readsPoint 78 = .ok (.iload_n 2, 1) := by decide +kernel
theorem dX12_readsPoint_79 : decode cX12_readsPoint 79 = .ok (.iastore, 1) := by decide +kernel
theorem dX12_readsPoint_80 : decode cX12_readsPoint 80 = .ok (.aload_n 0, 1) := by decide +kernel
theorem dX12_readsPoint_81 : decode cX12_readsPoint 81 = .ok (.getfield 7, 3) := by decide +kernel
theorem dX12_readsPoint_84 : decode cX12_readsPoint 84 = .ok (.bipush 85, 2) := by decide +kernel
theorem dX12_readsPoint_86 : decode cX12_readsPoint 86 = .ok (.dup2, 1) := by decide +kernel
theorem dX12_readsPoint_87 : decode cX12_readsPoint 87 = .ok (.iaload, 1) := by decide +kernel
theorem dX12_readsPoint_88 : decode cX12_readsPoint 88 = .ok (.iconst 1, 1) := by decide +kernel
theorem dX12_readsPoint_89 : decode cX12_readsPoint 89 = .ok (.iadd, 1) := by decide +kernel
theorem dX12_readsPoint_90 : decode cX12_readsPoint 90 = .ok (.iastore, 1) := by decide +kernel
theorem dX12_readsPoint_91 : decode cX12_readsPoint 91 = .ok (.return_, 1) := by decide +kernel
theorem dX12_readsConic_0 : decode cX12_readsConic 0 = .ok (.aload_n 0, 1) := by decide +kernel
theorem dX12_readsConic_1 : decode cX12_readsConic 1 = .ok (.iconst 5, 1) := by decide +kernel
theorem dX12_readsConic_2 : decode cX12_readsConic 2 = .ok (.invokevirtual 266, 3) := by decide +kernel
theorem dX12_readsConic_5 : decode cX12_readsConic 5 = .ok (.istore_n 3, 1) := by decide +kernel
theorem dX12_readsConic_6 : decode cX12_readsConic 6 = .ok (.iconst 0, 1) := by decide +kernel
theorem dX12_readsConic_7 : decode cX12_readsConic 7 = .ok (.istore 4, 2) := by decide +kernel
theorem dX12_readsConic_9 : decode cX12_readsConic 9 = .ok (.iload 4, 2) := by decide +kernel
theorem dX12_readsConic_11 : decode cX12_readsConic 11 = .ok (.bipush 6, 2) := by decide +kernel
theorem dX12_readsConic_13 : decode cX12_readsConic 13 = .ok (.if_icmp .ge 20, 3) := by decide +kernel
theorem dX12_readsConic_16 : decode cX12_readsConic 16 = .ok (.aload_n 0, 1) := by decide +kernel
theorem dX12_readsConic_17 : decode cX12_readsConic 17 = .ok (.getfield 33, 3) := by decide +kernel
theorem dX12_readsConic_20 : decode cX12_readsConic 20 = .ok (.iload 4, 2) := by decide +kernel
theorem dX12_readsConic_22 : decode cX12_readsConic 22 = .ok (.aload_n 0, 1) := by decide +kernel
theorem dX12_readsConic_23 : decode cX12_readsConic 23 = .ok (.invokevirtual 272, 3) := by decide +kernel
theorem dX12_readsConic_26 : decode cX12_readsConic 26 = .ok (.iastore, 1) := by decide +kernel
theorem dX12_readsConic_27 : decode cX12_readsConic 27 = .ok (.iinc 4 1, 3) := by decide +kernel
theorem dX12_readsConic_30 : decode cX12_readsConic 30 = .ok (.goto (-21), 3) := by decide +kernel
theorem dX12_readsConic_33 : decode cX12_readsConic 33 = .ok (.aload_n 0, 1) := by decide +kernel
theorem dX12_readsConic_34 : decode cX12_readsConic 34 = .ok (.invokevirtual 269, 3) := by decide +kernel
theorem dX12_readsConic_37 : decode cX12_readsConic 37 = .ok (.aload_n 0, 1) := by decide +kernel
theorem dX12_readsConic_38 : decode cX12_readsConic 38 = .ok (.invokevirtual 254, 3) := by decide +kernel
theorem dX12_readsConic_41 : decode cX12_readsConic 41 = .ok (.ifCond .ne 4, 3) := by decide +kernel
theorem dX12_readsConic_44 : decode cX12_readsConic 44 = .ok (.return_, 1) := by decide +kernel
theorem dX12_readsConic_45 : decode cX12_readsConic 45 = .ok (.iconst 0, 1) := by decide +kernel
theorem dX12_readsConic_46 : decode cX12_readsConic 46 = .ok (.istore 4, 2) := by decide +kernel
theorem dX12_readsConic_48 : decode cX12_readsConic 48 = .ok (.iload 4, 2) := by decide +kernel
theorem dX12_readsConic_50 : decode cX12_readsConic 50 = .ok (.bipush 6, 2) := by decide +kernel
theorem dX12_readsConic_52 : decode cX12_readsConic 52 = .ok (.if_icmp .ge 23, 3) := by decide +kernel
theorem dX12_readsConic_55 : decode cX12_readsConic 55 = .ok (.aload_n 0, 1) := by decide +kernel
theorem dX12_readsConic_56 : decode cX12_readsConic 56 = .ok (.getfield 30, 3) := by decide +kernel
theorem dX12_readsConic_59 : decode cX12_readsConic 59 = .ok (.iload 4, 2) := by decide +kernel
theorem dX12_readsConic_61 : decode cX12_readsConic 61 = .ok (.aload_n 0, 1) := by decide +kernel
theorem dX12_readsConic_62 : decode cX12_readsConic 62 = .ok (.getfield 33, 3) := by decide +kernel
theorem dX12_readsConic_65 : decode cX12_readsConic 65 = .ok (.iload 4, 2) := by decide +kernel
theorem dX12_readsConic_67 : decode cX12_readsConic 67 = .ok (.iaload, 1) := by decide +kernel
theorem dX12_readsConic_68 : decode cX12_readsConic 68 = .ok (.iastore, 1) := by decide +kernel
theorem dX12_readsConic_69 : decode cX12_readsConic 69 = .ok (.iinc 4 1, 3) := by decide +kernel
theorem dX12_readsConic_72 : decode cX12_readsConic 72 = .ok (.goto (-24), 3) := by decide +kernel
theorem dX12_readsConic_75 : decode cX12_readsConic 75 = .ok (.iload_n 2, 1) := by decide +kernel
theorem dX12_readsConic_76 : decode cX12_readsConic 76 = .ok (.ifCond .eq 159, 3) := by decide +kernel
theorem dX12_readsConic_79 : decode cX12_readsConic 79 = .ok (.aload_n 0, 1) := by decide +kernel
theorem dX12_readsConic_80 : decode cX12_readsConic 80 = .ok (.getfield 30, 3) := by decide +kernel
theorem dX12_readsConic_83 : decode cX12_readsConic 83 = .ok (.iconst 0, 1) := by decide +kernel
theorem dX12_readsConic_84 : decode cX12_readsConic 84 = .ok (.aload_n 0, 1) := by decide +kernel
theorem dX12_readsConic_85 : decode cX12_readsConic 85 = .ok (.getfield 33, 3) := by decide +kernel
theorem dX12_readsConic_88 : decode cX12_readsConic 88 = .ok (.iconst 0, 1) := by decide +kernel
theorem dX12_readsConic_89 : decode cX12_readsConic 89 = .ok (.iaload, 1) := by decide +kernel
theorem dX12_readsConic_90 : decode cX12_readsConic 90 = .ok (.aload_n 0, 1) := by decide +kernel
theorem dX12_readsConic_91 : decode cX12_readsConic 91 = .ok (.getfield 33, 3) := by decide +kernel
theorem dX12_readsConic_94 : decode cX12_readsConic 94 = .ok (.iconst 3, 1) := by decide +kernel
theorem dX12_readsConic_95 : decode cX12_readsConic 95 = .ok (.iaload, 1) := by decide +kernel
theorem dX12_readsConic_96 : decode cX12_readsConic 96 = .ok (.imul, 1) := by decide +kernel
theorem dX12_readsConic_97 : decode cX12_readsConic 97 = .ok (.iastore, 1) := by decide +kernel
theorem dX12_readsConic_98 : decode cX12_readsConic 98 = .ok (.aload_n 0, 1) := by decide +kernel
theorem dX12_readsConic_99 : decode cX12_readsConic 99 = .ok (.getfield 30, 3) := by decide +kernel
theorem dX12_readsConic_102 : decode cX12_readsConic 102 = .ok (.iconst 1, 1) := by decide +kernel
theorem dX12_readsConic_103 : decode cX12_readsConic 103 = .ok (.aload_n 0, 1) := by decide +kernel
theorem dX12_readsConic_104 : decode cX12_readsConic 104 = .ok (.getfield 33, 3) := by decide +kernel
theorem dX12_readsConic_107 : decode cX12_readsConic 107 = .ok (.iconst 1, 1) := by decide +kernel
theorem dX12_readsConic_108 : decode cX12_readsConic 108 = .ok (.iaload, 1) := by decide +kernel
theorem dX12_readsConic_109 : decode cX12_readsConic 109 = .ok (.aload_n 0, 1) := by decide +kernel
theorem dX12_readsConic_110 : decode cX12_readsConic 110 = .ok (.getfield 33, 3) := by decide +kernel
theorem dX12_readsConic_113 : decode cX12_readsConic 113 = .ok (.iconst 4, 1) := by decide +kernel
theorem dX12_readsConic_114 : decode cX12_readsConic 114 = .ok (.iaload, 1) := by decide +kernel
theorem dX12_readsConic_115 : decode cX12_readsConic 115 = .ok (.imul, 1) := by decide +kernel
theorem dX12_readsConic_116 : decode cX12_readsConic 116 = .ok (.iastore, 1) := by decide +kernel
theorem dX12_readsConic_117 : decode cX12_readsConic 117 = .ok (.aload_n 0, 1) := by decide +kernel
theorem dX12_readsConic_118 : decode cX12_readsConic 118 = .ok (.getfield 30, 3) := by decide +kernel
theorem dX12_readsConic_121 : decode cX12_readsConic 121 = .ok (.iconst 2, 1) := by decide +kernel
theorem dX12_readsConic_122 : decode cX12_readsConic 122 = .ok (.aload_n 0, 1) := by decide +kernel
theorem dX12_readsConic_123 : decode cX12_readsConic 123 = .ok (.getfield 33, 3) := by decide +kernel
theorem dX12_readsConic_126 : decode cX12_readsConic 126 = .ok (.iconst 2, 1) := by decide +kernel
theorem dX12_readsConic_127 : decode cX12_readsConic 127 = .ok (.iaload, 1) := by decide +kernel
theorem dX12_readsConic_128 : decode cX12_readsConic 128 = .ok (.aload_n 0, 1) := by decide +kernel
theorem dX12_readsConic_129 : decode cX12_readsConic 129 = .ok (.getfield 33, 3) := by decide +kernel
theorem dX12_readsConic_132 : decode cX12_readsConic 132 = .ok (.iconst 5, 1) := by decide +kernel
theorem dX12_readsConic_133 : decode cX12_readsConic 133 = .ok (.iaload, 1) := by decide +kernel
theorem dX12_readsConic_134 : decode cX12_readsConic 134 = .ok (.imul, 1) := by decide +kernel
theorem dX12_readsConic_135 : decode cX12_readsConic 135 = .ok (.iastore, 1) := by decide +kernel
theorem dX12_readsConic_136 : decode cX12_readsConic 136 = .ok (.aload_n 0, 1) := by decide +kernel
theorem dX12_readsConic_137 : decode cX12_readsConic 137 = .ok (.getfield 30, 3) := by decide +kernel
theorem dX12_readsConic_140 : decode cX12_readsConic 140 = .ok (.iconst 3, 1) := by decide +kernel
theorem dX12_readsConic_141 : decode cX12_readsConic 141 = .ok (.aload_n 0, 1) := by decide +kernel
theorem dX12_readsConic_142 : decode cX12_readsConic 142 = .ok (.getfield 33, 3) := by decide +kernel
theorem dX12_readsConic_145 : decode cX12_readsConic 145 = .ok (.iconst 1, 1) := by decide +kernel
theorem dX12_readsConic_146 : decode cX12_readsConic 146 = .ok (.iaload, 1) := by decide +kernel
theorem dX12_readsConic_147 : decode cX12_readsConic 147 = .ok (.aload_n 0, 1) := by decide +kernel
theorem dX12_readsConic_148 : decode cX12_readsConic 148 = .ok (.getfield 33, 3) := by decide +kernel
theorem dX12_readsConic_151 : decode cX12_readsConic 151 = .ok (.iconst 5, 1) := by decide +kernel
theorem dX12_readsConic_152 : decode cX12_readsConic 152 = .ok (.iaload, 1) := by decide +kernel
theorem dX12_readsConic_153 : decode cX12_readsConic 153 = .ok (.imul, 1) := by decide +kernel
theorem dX12_readsConic_154 : decode cX12_readsConic 154 = .ok (.aload_n 0, 1) := by decide +kernel
theorem dX12_readsConic_155 : decode cX12_readsConic 155 = .ok (.getfield 33, 3) := by decide +kernel
theorem dX12_readsConic_158 : decode cX12_readsConic 158 = .ok (.iconst 2, 1) := by decide +kernel
theorem dX12_readsConic_159 : decode cX12_readsConic 159 = .ok (.iaload, 1) := by decide +kernel
theorem dX12_readsConic_160 : decode cX12_readsConic 160 = .ok (.aload_n 0, 1) := by decide +kernel
theorem dX12_readsConic_161 : decode cX12_readsConic 161 = .ok (.getfield 33, 3) := by decide +kernel
theorem dX12_readsConic_164 : decode cX12_readsConic 164 = .ok (.iconst 4, 1) := by decide +kernel
theorem dX12_readsConic_165 : decode cX12_readsConic 165 = .ok (.iaload, 1) := by decide +kernel
theorem dX12_readsConic_166 : decode cX12_readsConic 166 = .ok (.imul, 1) := by decide +kernel
theorem dX12_readsConic_167 : decode cX12_readsConic 167 = .ok (.iadd, 1) := by decide +kernel
theorem dX12_readsConic_168 : decode cX12_readsConic 168 = .ok (.iastore, 1) := by decide +kernel
theorem dX12_readsConic_169 : decode cX12_readsConic 169 = .ok (.aload_n 0, 1) := by decide +kernel
theorem dX12_readsConic_170 : decode cX12_readsConic 170 = .ok (.getfield 30, 3) := by decide +kernel
theorem dX12_readsConic_173 : decode cX12_readsConic 173 = .ok (.iconst 4, 1) := by decide +kernel
theorem dX12_readsConic_174 : decode cX12_readsConic 174 = .ok (.aload_n 0, 1) := by decide +kernel
theorem dX12_readsConic_175 : decode cX12_readsConic 175 = .ok (.getfield 33, 3) := by decide +kernel
theorem dX12_readsConic_178 : decode cX12_readsConic 178 = .ok (.iconst 2, 1) := by decide +kernel
theorem dX12_readsConic_179 : decode cX12_readsConic 179 = .ok (.iaload, 1) := by decide +kernel
theorem dX12_readsConic_180 : decode cX12_readsConic 180 = .ok (.aload_n 0, 1) := by decide +kernel
theorem dX12_readsConic_181 : decode cX12_readsConic 181 = .ok (.getfield 33, 3) := by decide +kernel
theorem dX12_readsConic_184 : decode cX12_readsConic 184 = .ok (.iconst 3, 1) := by decide +kernel
theorem dX12_readsConic_185 : decode cX12_readsConic 185 = .ok (.iaload, 1) := by decide +kernel
theorem dX12_readsConic_186 : decode cX12_readsConic 186 = .ok (.imul, 1) := by decide +kernel
theorem dX12_readsConic_187 : decode cX12_readsConic 187 = .ok (.aload_n 0, 1) := by decide +kernel
theorem dX12_readsConic_188 : decode cX12_readsConic 188 = .ok (.getfield 33, 3) := by decide +kernel
theorem dX12_readsConic_191 : decode cX12_readsConic 191 = .ok (.iconst 0, 1) := by decide +kernel
theorem dX12_readsConic_192 : decode cX12_readsConic 192 = .ok (.iaload, 1) := by decide +kernel
theorem dX12_readsConic_193 : decode cX12_readsConic 193 = .ok (.aload_n 0, 1) := by decide +kernel
theorem dX12_readsConic_194 : decode cX12_readsConic 194 = .ok (.getfield 33, 3) := by decide +kernel
theorem dX12_readsConic_197 : decode cX12_readsConic 197 = .ok (.iconst 5, 1) := by decide +kernel
theorem dX12_readsConic_198 : decode cX12_readsConic 198 = .ok (.iaload, 1) := by decide +kernel
theorem dX12_readsConic_199 : decode cX12_readsConic 199 = .ok (.imul, 1) := by decide +kernel
theorem dX12_readsConic_200 : decode cX12_readsConic 200 = .ok (.iadd, 1) := by decide +kernel
theorem dX12_readsConic_201 : decode cX12_readsConic 201 = .ok (.iastore, 1) := by decide +kernel
theorem dX12_readsConic_202 : decode cX12_readsConic 202 = .ok (.aload_n 0, 1) := by decide +kernel
theorem dX12_readsConic_203 : decode cX12_readsConic 203 = .ok (.getfield 30, 3) := by decide +kernel
theorem dX12_readsConic_206 : decode cX12_readsConic 206 = .ok (.iconst 5, 1) := by decide +kernel
theorem dX12_readsConic_207 : decode cX12_readsConic 207 = .ok (.aload_n 0, 1) := by decide +kernel
theorem dX12_readsConic_208 : decode cX12_readsConic 208 = .ok (.getfield 33, 3) := by decide +kernel
theorem dX12_readsConic_211 : decode cX12_readsConic 211 = .ok (.iconst 0, 1) := by decide +kernel
theorem dX12_readsConic_212 : decode cX12_readsConic 212 = .ok (.iaload, 1) := by decide +kernel
theorem dX12_readsConic_213 : decode cX12_readsConic 213 = .ok (.aload_n 0, 1) := by decide +kernel
theorem dX12_readsConic_214 : decode cX12_readsConic 214 = .ok (.getfield 33, 3) := by decide +kernel
theorem dX12_readsConic_217 : decode cX12_readsConic 217 = .ok (.iconst 4, 1) := by decide +kernel
theorem dX12_readsConic_218 : decode cX12_readsConic 218 = .ok (.iaload, 1) := by decide +kernel
theorem dX12_readsConic_219 : decode cX12_readsConic 219 = .ok (.imul, 1) := by decide +kernel
theorem dX12_readsConic_220 : decode cX12_readsConic 220 = .ok (.aload_n 0, 1) := by decide +kernel
theorem dX12_readsConic_221 : decode cX12_readsConic 221 = .ok (.getfield 33, 3) := by decide +kernel
theorem dX12_readsConic_224 : decode cX12_readsConic 224 = .ok (.iconst 1, 1) := by decide +kernel
theorem dX12_readsConic_225 : decode cX12_readsConic 225 = .ok (.iaload, 1) := by decide +kernel
theorem dX12_readsConic_226 : decode cX12_readsConic 226 = .ok (.aload_n 0, 1) := by decide +kernel
theorem dX12_readsConic_227 : decode cX12_readsConic 227 = .ok (.getfield 33, 3) := by decide +kernel
theorem dX12_readsConic_230 : decode cX12_readsConic 230 = .ok (.iconst 3, 1) := by decide +kernel
theorem dX12_readsConic_231 : decode cX12_readsConic 231 = .ok (.iaload, 1) := by decide +kernel
theorem dX12_readsConic_232 : decode cX12_readsConic 232 = .ok (.imul, 1) := by decide +kernel
theorem dX12_readsConic_233 : decode cX12_readsConic 233 = .ok (.iadd, 1) := by decide +kernel
theorem dX12_readsConic_234 : decode cX12_readsConic 234 = .ok (.iastore, 1) := by decide +kernel
theorem dX12_readsConic_235 : decode cX12_readsConic 235 = .ok (.aload_n 0, 1) := by decide +kernel
theorem dX12_readsConic_236 : decode cX12_readsConic 236 = .ok (.invokevirtual 120, 3) := by decide +kernel
theorem dX12_readsConic_239 : decode cX12_readsConic 239 = .ok (.ifCond .le 12, 3) := by decide +kernel
theorem dX12_readsConic_242 : decode cX12_readsConic 242 = .ok (.aload_n 0, 1) := by decide +kernel
theorem dX12_readsConic_243 : decode cX12_readsConic 243 = .ok (.iconst 3, 1) := by decide +kernel
theorem dX12_readsConic_244 : decode cX12_readsConic 244 = .ok (.iload_n 1, 1) := by decide +kernel
theorem dX12_readsConic_245 : decode cX12_readsConic 245 = .ok (.invokevirtual 260, 3) := by decide +kernel
theorem dX12_readsConic_248 : decode cX12_readsConic 248 = .ok (.goto 10, 3) := by decide +kernel
theorem dX12_readsConic_251 : decode cX12_readsConic 251 = .ok (.aload_n 0, 1) := by decide +kernel
theorem dX12_readsConic_252 : decode cX12_readsConic 252 = .ok (.bipush 48, 2) := by decide +kernel
theorem dX12_readsConic_254 : decode cX12_readsConic 254 = .ok (.iload_n 3, 1) := by decide +kernel
theorem dX12_readsConic_255 : decode cX12_readsConic 255 = .ok (.invokevirtual 129, 3) := by decide +kernel
theorem dX12_readsConic_258 : decode cX12_readsConic 258 = .ok (.return_, 1) := by decide +kernel
theorem dX12_readsLine_0 : decode cX12_readsLine 0 = .ok (.aload_n 0, 1) := by decide +kernel
theorem dX12_readsLine_1 : decode cX12_readsLine 1 = .ok (.getfield 228, 3) := by decide +kernel
theorem dX12_readsLine_4 : decode cX12_readsLine 4 = .ok (.istore_n 1, 1) := by decide +kernel
theorem dX12_readsLine_5 : decode cX12_readsLine 5 = .ok (.aload_n 0, 1) := by decide +kernel
theorem dX12_readsLine_6 : decode cX12_readsLine 6 = .ok (.ldc2_w 275, 3) := by decide +kernel
theorem dX12_readsLine_9 : decode cX12_readsLine 9 = .ok (.invokevirtual 277, 3) := by decide +kernel
theorem dX12_readsLine_12 : decode cX12_readsLine 12 = .ok (.ifCond .eq 10, 3) := by decide +kernel
theorem dX12_readsLine_15 : decode cX12_readsLine 15 = .ok (.aload_n 0, 1) := by decide +kernel
theorem dX12_readsLine_16 : decode cX12_readsLine 16 = .ok (.invokevirtual 281, 3) := by decide +kernel
theorem dX12_readsLine_19 : decode cX12_readsLine 19 = .ok (.goto 68, 3) := by decide +kernel
theorem dX12_readsLine_22 : decode cX12_readsLine 22 = .ok (.aload_n 0, 1) := by decide +kernel
theorem dX12_readsLine_23 : decode cX12_readsLine 23 = .ok (.ldc2_w 284, 3) := by decide +kernel
theorem dX12_readsLine_26 : decode cX12_readsLine 26 = .ok (.invokevirtual 277, 3) := by decide +kernel
theorem dX12_readsLine_29 : decode cX12_readsLine 29 = .ok (.ifCond .eq 11, 3) := by decide +kernel
theorem dX12_readsLine_32 : decode cX12_readsLine 32 = .ok (.aload_n 0, 1) := by decide +kernel
theorem dX12_readsLine_33 : decode cX12_readsLine 33 = .ok (.iload_n 1, 1) := by decide +kernel
theorem dX12_readsLine_34 : decode cX12_readsLine 34 = .ok (.invokevirtual 286, 3) := by decide +kernel
theorem dX12_readsLine_37 : decode cX12_readsLine 37 = .ok (.goto 50, 3) := by decide +kernel
theorem dX12_readsLine_40 : decode cX12_readsLine 40 = .ok (.aload_n 0, 1) := by decide +kernel
theorem dX12_readsLine_41 : decode cX12_readsLine 41 = .ok (.ldc2_w 289, 3) := by decide +kernel
theorem dX12_readsLine_44 : decode cX12_readsLine 44 = .ok (.invokevirtual 277, 3) := by decide +kernel
theorem dX12_readsLine_47 : decode cX12_readsLine 47 = .ok (.ifCond .eq 12, 3) := by decide +kernel
theorem dX12_readsLine_50 : decode cX12_readsLine 50 = .ok (.aload_n 0, 1) := by decide +kernel
theorem dX12_readsLine_51 : decode cX12_readsLine 51 = .ok (.iload_n 1, 1) := by decide +kernel
theorem dX12_readsLine_52 : decode cX12_readsLine 52 = .ok (.iconst 0, 1) := by decide +kernel
theorem dX12_readsLine_53 : decode cX12_readsLine 53 = .ok (.invokevirtual 291, 3) := by decide +kernel
theorem dX12_readsLine_56 : decode cX12_readsLine 56 = .ok (.goto 31, 3) := by decide +kernel
theorem dX12_readsLine_59 : decode cX12_readsLine 59 = .ok (.aload_n 0, 1) := by decide +kernel
theorem dX12_readsLine_60 : decode cX12_readsLine 60 = .ok (.ldc2_w 295, 3) := by decide +kernel
theorem dX12_readsLine_63 : decode cX12_readsLine 63 = .ok (.invokevirtual 277, 3) := by decide +kernel
theorem dX12_readsLine_66 : decode cX12_readsLine 66 = .ok (.ifCond .eq 12, 3) := by decide +kernel
theorem dX12_readsLine_69 : decode cX12_readsLine 69 = .ok (.aload_n 0, 1) := by decide +kernel
theorem dX12_readsLine_70 : decode cX12_readsLine 70 = .ok (.iload_n 1, 1) := by decide +kernel
theorem dX12_readsLine_71 : decode cX12_readsLine 71 = .ok (.iconst 1, 1) := by decide +kernel
theorem dX12_readsLine_72 : decode cX12_readsLine 72 = .ok (.invokevirtual 291, 3) := by decide +kernel
theorem dX12_readsLine_75 : decode cX12_readsLine 75 = .ok (.goto 12, 3) := by decide +kernel
theorem dX12_readsLine_78 : decode cX12_readsLine 78 = .ok (.aload_n 0, 1) := by decide +kernel
theorem dX12_readsLine_79 : decode cX12_readsLine 79 = .ok (.iconst 1, 1) := by decide +kernel
theorem dX12_readsLine_80 : decode cX12_readsLine 80 = .ok (.aload_n 0, 1) := by decide +kernel
theorem dX12_readsLine_81 : decode cX12_readsLine 81 = .ok (.getfield 228, 3) := by decide +kernel
theorem dX12_readsLine_84 : decode cX12_readsLine 84 = .ok (.invokevirtual 260, 3) := by decide +kernel
theorem dX12_readsLine_87 : decode cX12_readsLine 87 = .ok (.return_, 1) := by decide +kernel
theorem dX12_text_0 : decode cX12_text 0 = .ok (.aload_n 0, 1) := by decide +kernel
theorem dX12_text_1 : decode cX12_text 1 = .ok (.aload_n 0, 1) := by decide +kernel
theorem dX12_text_2 : decode cX12_text 2 = .ok (.getfield 173, 3) := by decide +kernel
theorem dX12_text_5 : decode cX12_text 5 = .ok (.putfield 219, 3) := by decide +kernel
theorem dX12_text_8 : decode cX12_text 8 = .ok (.aload_n 0, 1) := by decide +kernel
theorem dX12_text_9 : decode cX12_text 9 = .ok (.iconst 0, 1) := by decide +kernel
theorem dX12_text_10 : decode cX12_text 10 = .ok (.putfield 173, 3) := by decide +kernel
theorem dX12_text_13 : decode cX12_text 13 = .ok (.aload_n 0, 1) := by decide +kernel
theorem dX12_text_14 : decode cX12_text 14 = .ok (.iconst 0, 1) := by decide +kernel
theorem dX12_text_15 : decode cX12_text 15 = .ok (.putfield 216, 3) := by decide +kernel
theorem dX12_text_18 : decode cX12_text 18 = .ok (.aload_n 0, 1) := by decide +kernel
theorem dX12_text_19 : decode cX12_text 19 = .ok (.iconst (-1), 1) := by decide +kernel
theorem dX12_text_20 : decode cX12_text 20 = .ok (.putfield 20, 3) := by decide +kernel
theorem dX12_text_23 : decode cX12_text 23 = .ok (.aload_n 0, 1) := by decide +kernel
theorem dX12_text_24 : decode cX12_text 24 = .ok (.iconst 0, 1) := by decide +kernel
theorem dX12_text_25 : decode cX12_text 25 = .ok (.putfield 222, 3) := by decide +kernel
theorem dX12_text_28 : decode cX12_text 28 = .ok (.aload_n 0, 1) := by decide +kernel
theorem dX12_text_29 : decode cX12_text 29 = .ok (.bipush 48, 2) := by decide +kernel
theorem dX12_text_31 : decode cX12_text 31 = .ok (.invokevirtual 36, 3) := by decide +kernel
theorem dX12_text_34 : decode cX12_text 34 = .ok (.aload_n 0, 1) := by decide +kernel
theorem dX12_text_35 : decode cX12_text 35 = .ok (.invokevirtual 257, 3) := by decide +kernel
theorem dX12_text_38 : decode cX12_text 38 = .ok (.iconst 0, 1) := by decide +kernel
theorem dX12_text_39 : decode cX12_text 39 = .ok (.istore_n 1, 1) := by decide +kernel
theorem dX12_text_40 : decode cX12_text 40 = .ok (.aload_n 0, 1) := by decide +kernel
theorem dX12_text_41 : decode cX12_text 41 = .ok (.invokevirtual 254, 3) := by decide +kernel
theorem dX12_text_44 : decode cX12_text 44 = .ok (.ifCond .eq 20, 3) := by decide +kernel
theorem dX12_text_47 : decode cX12_text 47 = .ok (.aload_n 0, 1) := by decide +kernel
theorem dX12_text_48 : decode cX12_text 48 = .ok (.getfield 235, 3) := by decide +kernel
theorem dX12_text_51 : decode cX12_text 51 = .ok (.ifCond .eq 13, 3) := by decide +kernel
theorem dX12_text_54 : decode cX12_text 54 = .ok (.aload_n 0, 1) := by decide +kernel
theorem dX12_text_55 : decode cX12_text 55 = .ok (.invokevirtual 297, 3) := by decide +kernel
theorem dX12_text_58 : decode cX12_text 58 = .ok (.iinc 1 1, 3) := by decide +kernel
theorem dX12_text_61 : decode cX12_text 61 = .ok (.goto (-21), 3) := by decide +kernel
theorem dX12_text_64 : decode cX12_text 64 = .ok (.aload_n 0, 1) := by decide +kernel
theorem dX12_text_65 : decode cX12_text 65 = .ok (.invokevirtual 254, 3) := by decide +kernel
theorem dX12_text_68 : decode cX12_text 68 = .ok (.ifCond .ne 5, 3) := by decide +kernel
theorem dX12_text_71 : decode cX12_text 71 = .ok (.iconst (-1), 1) := by decide +kernel
theorem dX12_text_72 : decode cX12_text 72 = .ok (.ireturn, 1) := by decide +kernel
theorem dX12_text_73 : decode cX12_text 73 = .ok (.aload_n 0, 1) := by decide +kernel
theorem dX12_text_74 : decode cX12_text 74 = .ok (.bipush 48, 2) := by decide +kernel
theorem dX12_text_76 : decode cX12_text 76 = .ok (.iconst 0, 1) := by decide +kernel
theorem dX12_text_77 : decode cX12_text 77 = .ok (.bipush 46, 2) := by decide +kernel
theorem dX12_text_79 : decode cX12_text 79 = .ok (.invokevirtual 109, 3) := by decide +kernel
theorem dX12_text_82 : decode cX12_text 82 = .ok (.aload_n 0, 1) := by decide +kernel
theorem dX12_text_83 : decode cX12_text 83 = .ok (.iconst 0, 1) := by decide +kernel
theorem dX12_text_84 : decode cX12_text 84 = .ok (.putfield 106, 3) := by decide +kernel
theorem dX12_text_87 : decode cX12_text 87 = .ok (.iload_n 1, 1) := by decide +kernel
theorem dX12_text_88 : decode cX12_text 88 = .ok (.ireturn, 1) := by decide +kernel
theorem dX12_image_0 : decode cX12_image 0 = .ok (.iload_n 1, 1) := by decide +kernel
theorem dX12_image_1 : decode cX12_image 1 = .ok (.iconst 0, 1) := by decide +kernel
theorem dX12_image_2 : decode cX12_image 2 = .ok (.iconst 2, 1) := by decide +kernel
theorem dX12_image_3 : decode cX12_image 3 = .ok (.invokestatic 113, 3) := by decide +kernel
theorem dX12_image_6 : decode cX12_image 6 = .ok (.ifCond .ne 5, 3) := by decide +kernel
theorem dX12_image_9 : decode cX12_image 9 = .ok (.iconst 0, 1) := by decide +kernel
theorem dX12_image_10 : decode cX12_image 10 = .ok (.ireturn, 1) := by decide +kernel
theorem dX12_image_11 : decode cX12_image 11 = .ok (.sipush 462, 3) := by decide +kernel
theorem dX12_image_14 : decode cX12_image 14 = .ok (.sipush 551, 3) := by decide +kernel
theorem dX12_image_17 : decode cX12_image 17 = .ok (.iload_n 1, 1) := by decide +kernel
theorem dX12_image_18 : decode cX12_image 18 = .ok (.imul, 1) := by decide +kernel
theorem dX12_image_19 : decode cX12_image 19 = .ok (.iadd, 1) := by decide +kernel
theorem dX12_image_20 : decode cX12_image 20 = .ok (.istore_n 2, 1) := by decide +kernel
theorem dX12_image_21 : decode cX12_image 21 = .ok (.aload_n 0, 1) := by decide +kernel
theorem dX12_image_22 : decode cX12_image 22 = .ok (.iconst 0, 1) := by decide +kernel
theorem dX12_image_23 : decode cX12_image 23 = .ok (.iload_n 2, 1) := by decide +kernel
theorem dX12_image_24 : decode cX12_image 24 = .ok (.bipush 48, 2) := by decide +kernel
theorem dX12_image_26 : decode cX12_image 26 = .ok (.invokevirtual 109, 3) := by decide +kernel
theorem dX12_image_29 : decode cX12_image 29 = .ok (.iconst 0, 1) := by decide +kernel
theorem dX12_image_30 : decode cX12_image 30 = .ok (.istore_n 3, 1) := by decide +kernel
theorem dX12_image_31 : decode cX12_image 31 = .ok (.iload_n 3, 1) := by decide +kernel
theorem dX12_image_32 : decode cX12_image 32 = .ok (.sipush 500, 3) := by decide +kernel
theorem dX12_image_35 : decode cX12_image 35 = .ok (.if_icmp .ge 26, 3) := by decide +kernel
theorem dX12_image_38 : decode cX12_image 38 = .ok (.aload_n 0, 1) := by decide +kernel
theorem dX12_image_39 : decode cX12_image 39 = .ok (.getfield 7, 3) := by decide +kernel
theorem dX12_image_42 : decode cX12_image 42 = .ok (.iload_n 2, 1) := by decide +kernel
theorem dX12_image_43 : decode cX12_image 43 = .ok (.bipush 48, 2) := by decide +kernel
theorem dX12_image_45 : decode cX12_image 45 = .ok (.iadd, 1) := by decide +kernel
theorem dX12_image_46 : decode cX12_image 46 = .ok (.iload_n 3, 1) := by decide +kernel
theorem dX12_image_47 : decode cX12_image 47 = .ok (.iadd, 1) := by decide +kernel
theorem dX12_image_48 : decode cX12_image 48 = .ok (.aload_n 0, 1) := by decide +kernel
theorem dX12_image_49 : decode cX12_image 49 = .ok (.getfield 13, 3) := by decide +kernel
theorem dX12_image_52 : decode cX12_image 52 = .ok (.iload_n 3, 1) := by decide +kernel
theorem dX12_image_53 : decode cX12_image 53 = .ok (.iaload, 1) := by decide +kernel
theorem dX12_image_54 : decode cX12_image 54 = .ok (.iastore, 1) := by decide +kernel
theorem dX12_image_55 : decode cX12_image 55 = .ok (.iinc 3 1, 3) := by decide +kernel
theorem dX12_image_58 : decode cX12_image 58 = .ok (.goto (-27), 3) := by decide +kernel
theorem dX12_image_61 : decode cX12_image 61 = .ok (.aload_n 0, 1) := by decide +kernel
theorem dX12_image_62 : decode cX12_image 62 = .ok (.getfield 7, 3) := by decide +kernel
theorem dX12_image_65 : decode cX12_image 65 = .ok (.iload_n 2, 1) := by decide +kernel
theorem dX12_image_66 : decode cX12_image 66 = .ok (.bipush 48, 2) := by decide +kernel
theorem dX12_image_68 : decode cX12_image 68 = .ok (.iadd, 1) := by decide +kernel
theorem dX12_image_69 : decode cX12_image 69 = .ok (.sipush 500, 3) := by decide +kernel
theorem dX12_image_72 : decode cX12_image 72 = .ok (.iadd, 1) := by decide +kernel
theorem dX12_image_73 : decode cX12_image 73 = .ok (.aload_n 0, 1) := by decide +kernel
theorem dX12_image_74 : decode cX12_image 74 = .ok (.getfield 173, 3) := by decide +kernel
theorem dX12_image_77 : decode cX12_image 77 = .ok (.iastore, 1) := by decide +kernel
theorem dX12_image_78 : decode cX12_image 78 = .ok (.aload_n 0, 1) := by decide +kernel
theorem dX12_image_79 : decode cX12_image 79 = .ok (.getfield 7, 3) := by decide +kernel
theorem dX12_image_82 : decode cX12_image 82 = .ok (.iload_n 2, 1) := by decide +kernel
theorem dX12_image_83 : decode cX12_image 83 = .ok (.bipush 48, 2) := by decide +kernel
theorem dX12_image_85 : decode cX12_image 85 = .ok (.iadd, 1) := by decide +kernel
theorem dX12_image_86 : decode cX12_image 86 = .ok (.sipush 500, 3) := by decide +kernel
theorem dX12_image_89 : decode cX12_image 89 = .ok (.iadd, 1) := by decide +kernel
theorem dX12_image_90 : decode cX12_image 90 = .ok (.iconst 1, 1) := by decide +kernel
theorem dX12_image_91 : decode cX12_image 91 = .ok (.iadd, 1) := by decide +kernel
theorem dX12_image_92 : decode cX12_image 92 = .ok (.aload_n 0, 1) := by decide +kernel
theorem dX12_image_93 : decode cX12_image 93 = .ok (.getfield 216, 3) := by decide +kernel
theorem dX12_image_96 : decode cX12_image 96 = .ok (.iastore, 1) := by decide +kernel
theorem dX12_image_97 : decode cX12_image 97 = .ok (.aload_n 0, 1) := by decide +kernel
theorem dX12_image_98 : decode cX12_image 98 = .ok (.getfield 7, 3) := by decide +kernel
theorem dX12_image_101 : decode cX12_image 101 = .ok (.iload_n 2, 1) := by decide +kernel
theorem dX12_image_102 : decode cX12_image 102 = .ok (.bipush 48, 2) := by decide +kernel
theorem dX12_image_104 : decode cX12_image 104 = .ok (.iadd, 1) := by decide +kernel
theorem dX12_image_105 : decode cX12_image 105 = .ok (.sipush 500, 3) := by decide +kernel
theorem dX12_image_108 : decode cX12_image 108 = .ok (.iadd, 1) := by decide +kernel
theorem dX12_image_109 : decode cX12_image 109 = .ok (.iconst 2, 1) := by decide +kernel
theorem dX12_image_110 : decode cX12_image 110 = .ok (.iadd, 1) := by decide +kernel
theorem dX12_image_111 : decode cX12_image 111 = .ok (.aload_n 0, 1) := by decide +kernel
theorem dX12_image_112 : decode cX12_image 112 = .ok (.getfield 20, 3) := by decide +kernel
theorem dX12_image_115 : decode cX12_image 115 = .ok (.iastore, 1) := by decide +kernel
theorem dX12_image_116 : decode cX12_image 116 = .ok (.aload_n 0, 1) := by decide +kernel
theorem dX12_image_117 : decode cX12_image 117 = .ok (.getfield 16, 3) := by decide +kernel
theorem dX12_image_120 : decode cX12_image 120 = .ok (.iload_n 1, 1) := by decide +kernel
theorem dX12_image_121 : decode cX12_image 121 = .ok (.iconst 1, 1) := by decide +kernel
theorem dX12_image_122 : decode cX12_image 122 = .ok (.bastore, 1) := by decide +kernel
theorem dX12_image_123 : decode cX12_image 123 = .ok (.iconst 1, 1) := by decide +kernel
theorem dX12_image_124 : decode cX12_image 124 = .ok (.ireturn, 1) := by decide +kernel
theorem dX12_again_0 : decode cX12_again 0 = .ok (.iload_n 1, 1) := by decide +kernel
theorem dX12_again_1 : decode cX12_again 1 = .ok (.iconst 0, 1) := by decide +kernel
theorem dX12_again_2 : decode cX12_again 2 = .ok (.iconst 2, 1) := by decide +kernel
theorem dX12_again_3 : decode cX12_again 3 = .ok (.invokestatic 113, 3) := by decide +kernel
theorem dX12_again_6 : decode cX12_again 6 = .ok (.ifCond .eq 12, 3) := by decide +kernel
theorem dX12_again_9 : decode cX12_again 9 = .ok (.aload_n 0, 1) := by decide +kernel
theorem dX12_again_10 : decode cX12_again 10 = .ok (.getfield 16, 3) := by decide +kernel
theorem dX12_again_13 : decode cX12_again 13 = .ok (.iload_n 1, 1) := by decide +kernel
theorem dX12_again_14 : decode cX12_again 14 = .ok (.baload, 1) := by decide +kernel
theorem dX12_again_15 : decode cX12_again 15 = .ok (.ifCond .ne 5, 3) := by decide +kernel
theorem dX12_again_18 : decode cX12_again 18 = .ok (.iconst 0, 1) := by decide +kernel
theorem dX12_again_19 : decode cX12_again 19 = .ok (.ireturn, 1) := by decide +kernel
theorem dX12_again_20 : decode cX12_again 20 = .ok (.sipush 462, 3) := by decide +kernel
theorem dX12_again_23 : decode cX12_again 23 = .ok (.sipush 551, 3) := by decide +kernel
theorem dX12_again_26 : decode cX12_again 26 = .ok (.iload_n 1, 1) := by decide +kernel
theorem dX12_again_27 : decode cX12_again 27 = .ok (.imul, 1) := by decide +kernel
theorem dX12_again_28 : decode cX12_again 28 = .ok (.iadd, 1) := by decide +kernel
theorem dX12_again_29 : decode cX12_again 29 = .ok (.istore_n 2, 1) := by decide +kernel
theorem dX12_again_30 : decode cX12_again 30 = .ok (.aload_n 0, 1) := by decide +kernel
theorem dX12_again_31 : decode cX12_again 31 = .ok (.iload_n 2, 1) := by decide +kernel
theorem dX12_again_32 : decode cX12_again 32 = .ok (.iconst 0, 1) := by decide +kernel
theorem dX12_again_33 : decode cX12_again 33 = .ok (.bipush 48, 2) := by decide +kernel
theorem dX12_again_35 : decode cX12_again 35 = .ok (.invokevirtual 109, 3) := by decide +kernel
theorem dX12_again_38 : decode cX12_again 38 = .ok (.iconst 0, 1) := by decide +kernel
theorem dX12_again_39 : decode cX12_again 39 = .ok (.istore_n 3, 1) := by decide +kernel
theorem dX12_again_40 : decode cX12_again 40 = .ok (.iload_n 3, 1) := by decide +kernel
theorem dX12_again_41 : decode cX12_again 41 = .ok (.sipush 500, 3) := by decide +kernel
theorem dX12_again_44 : decode cX12_again 44 = .ok (.if_icmp .ge 26, 3) := by decide +kernel
theorem dX12_again_47 : decode cX12_again 47 = .ok (.aload_n 0, 1) := by decide +kernel
theorem dX12_again_48 : decode cX12_again 48 = .ok (.getfield 13, 3) := by decide +kernel
theorem dX12_again_51 : decode cX12_again 51 = .ok (.iload_n 3, 1) := by decide +kernel
theorem dX12_again_52 : decode cX12_again 52 = .ok (.aload_n 0, 1) := by decide +kernel
theorem dX12_again_53 : decode cX12_again 53 = .ok (.getfield 7, 3) := by decide +kernel
theorem dX12_again_56 : decode cX12_again 56 = .ok (.iload_n 2, 1) := by decide +kernel
theorem dX12_again_57 : decode cX12_again 57 = .ok (.bipush 48, 2) := by decide +kernel
theorem dX12_again_59 : decode cX12_again 59 = .ok (.iadd, 1) := by decide +kernel
theorem dX12_again_60 : decode cX12_again 60 = .ok (.iload_n 3, 1) := by decide +kernel
theorem dX12_again_61 : decode cX12_again 61 = .ok (.iadd, 1) := by decide +kernel
theorem dX12_again_62 : decode cX12_again 62 = .ok (.iaload, 1) := by decide +kernel
theorem dX12_again_63 : decode cX12_again 63 = .ok (.iastore, 1) := by decide +kernel
theorem dX12_again_64 : decode cX12_again 64 = .ok (.iinc 3 1, 3) := by decide +kernel
theorem dX12_again_67 : decode cX12_again 67 = .ok (.goto (-27), 3) := by decide +kernel
theorem dX12_again_70 : decode cX12_again 70 = .ok (.aload_n 0, 1) := by decide +kernel
theorem dX12_again_71 : decode cX12_again 71 = .ok (.aload_n 0, 1) := by decide +kernel
theorem dX12_again_72 : decode cX12_again 72 = .ok (.getfield 7, 3) := by decide +kernel
theorem dX12_again_75 : decode cX12_again 75 = .ok (.iload_n 2, 1) := by decide +kernel
theorem dX12_again_76 : decode cX12_again 76 = .ok (.bipush 48, 2) := by decide +kernel
theorem dX12_again_78 : decode cX12_again 78 = .ok (.iadd, 1) := by decide +kernel
theorem dX12_again_79 : decode cX12_again 79 = .ok (.sipush 500, 3) := by decide +kernel
theorem dX12_again_82 : decode cX12_again 82 = .ok (.iadd, 1) := by decide +kernel
theorem dX12_again_83 : decode cX12_again 83 = .ok (.iaload, 1) := by decide +kernel
theorem dX12_again_84 : decode cX12_again 84 = .ok (.putfield 173, 3) := by decide +kernel
theorem dX12_again_87 : decode cX12_again 87 = .ok (.aload_n 0, 1) := by decide +kernel
theorem dX12_again_88 : decode cX12_again 88 = .ok (.aload_n 0, 1) := by decide +kernel
theorem dX12_again_89 : decode cX12_again 89 = .ok (.getfield 7, 3) := by decide +kernel
theorem dX12_again_92 : decode cX12_again 92 = .ok (.iload_n 2, 1) := by decide +kernel
theorem dX12_again_93 : decode cX12_again 93 = .ok (.bipush 48, 2) := by decide +kernel
theorem dX12_again_95 : decode cX12_again 95 = .ok (.iadd, 1) := by decide +kernel
theorem dX12_again_96 : decode cX12_again 96 = .ok (.sipush 500, 3) := by decide +kernel
theorem dX12_again_99 : decode cX12_again 99 = .ok (.iadd, 1) := by decide +kernel
theorem dX12_again_100 : decode cX12_again 100 = .ok (.iconst 1, 1) := by decide +kernel
theorem dX12_again_101 : decode cX12_again 101 = .ok (.iadd, 1) := by decide +kernel
theorem dX12_again_102 : decode cX12_again 102 = .ok (.iaload, 1) := by decide +kernel
theorem dX12_again_103 : decode cX12_again 103 = .ok (.putfield 216, 3) := by decide +kernel
theorem dX12_again_106 : decode cX12_again 106 = .ok (.aload_n 0, 1) := by decide +kernel
theorem dX12_again_107 : decode cX12_again 107 = .ok (.aload_n 0, 1) := by decide +kernel
theorem dX12_again_108 : decode cX12_again 108 = .ok (.getfield 7, 3) := by decide +kernel
theorem dX12_again_111 : decode cX12_again 111 = .ok (.iload_n 2, 1) := by decide +kernel
theorem dX12_again_112 : decode cX12_again 112 = .ok (.bipush 48, 2) := by decide +kernel
theorem dX12_again_114 : decode cX12_again 114 = .ok (.iadd, 1) := by decide +kernel
theorem dX12_again_115 : decode cX12_again 115 = .ok (.sipush 500, 3) := by decide +kernel
theorem dX12_again_118 : decode cX12_again 118 = .ok (.iadd, 1) := by decide +kernel
theorem dX12_again_119 : decode cX12_again 119 = .ok (.iconst 2, 1) := by decide +kernel
theorem dX12_again_120 : decode cX12_again 120 = .ok (.iadd, 1) := by decide +kernel
theorem dX12_again_121 : decode cX12_again 121 = .ok (.iaload, 1) := by decide +kernel
theorem dX12_again_122 : decode cX12_again 122 = .ok (.putfield 20, 3) := by decide +kernel
theorem dX12_again_125 : decode cX12_again 125 = .ok (.aload_n 0, 1) := by decide +kernel
theorem dX12_again_126 : decode cX12_again 126 = .ok (.iconst 0, 1) := by decide +kernel
theorem dX12_again_127 : decode cX12_again 127 = .ok (.putfield 106, 3) := by decide +kernel
theorem dX12_again_130 : decode cX12_again 130 = .ok (.iconst 1, 1) := by decide +kernel
theorem dX12_again_131 : decode cX12_again 131 = .ok (.ireturn, 1) := by decide +kernel
