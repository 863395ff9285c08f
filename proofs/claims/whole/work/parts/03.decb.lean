theorem dX11_init_0 : decode cX11_init 0 = .ok (.aload_n 0, 1) := by decide +kernel
theorem dX11_init_1 : decode cX11_init 1 = .ok (.invokespecial 1, 3) := by decide +kernel
theorem dX11_init_4 : decode cX11_init 4 = .ok (.aload_n 0, 1) := by decide +kernel
theorem dX11_init_5 : decode cX11_init 5 = .ok (.new 7, 3) := by decide +kernel
theorem dX11_init_8 : decode cX11_init 8 = .ok (.dup, 1) := by decide +kernel
theorem dX11_init_9 : decode cX11_init 9 = .ok (.invokespecial 9, 3) := by decide +kernel
theorem dX11_init_12 : decode cX11_init 12 = .ok (.putfield 10, 3) := by decide +kernel
theorem dX11_init_15 : decode cX11_init 15 = .ok (.aload_n 0, 1) := by decide +kernel
theorem dX11_init_16 : decode cX11_init 16 = .ok (.new 16, 3) := by decide +kernel
theorem dX11_init_19 : decode cX11_init 19 = .ok (.dup, 1) := by decide +kernel
theorem dX11_init_20 : decode cX11_init 20 = .ok (.invokespecial 18, 3) := by decide +kernel
theorem dX11_init_23 : decode cX11_init 23 = .ok (.putfield 19, 3) := by decide +kernel
theorem dX11_init_26 : decode cX11_init 26 = .ok (.aload_n 0, 1) := by decide +kernel
theorem dX11_init_27 : decode cX11_init 27 = .ok (.iconst 3, 1) := by decide +kernel
theorem dX11_init_28 : decode cX11_init 28 = .ok (.anewarray 7, 3) := by decide +kernel
theorem dX11_init_31 : decode cX11_init 31 = .ok (.putfield 23, 3) := by decide +kernel
theorem dX11_init_34 : decode cX11_init 34 = .ok (.iconst 0, 1) := by decide +kernel
theorem dX11_init_35 : decode cX11_init 35 = .ok (.istore_n 1, 1) := by decide +kernel
theorem dX11_init_36 : decode cX11_init 36 = .ok (.iload_n 1, 1) := by decide +kernel
theorem dX11_init_37 : decode cX11_init 37 = .ok (.iconst 3, 1) := by decide +kernel
theorem dX11_init_38 : decode cX11_init 38 = .ok (.if_icmp .ge 22, 3) := by decide +kernel
theorem dX11_init_41 : decode cX11_init 41 = .ok (.aload_n 0, 1) := by decide +kernel
theorem dX11_init_42 : decode cX11_init 42 = .ok (.getfield 23, 3) := by decide +kernel
theorem dX11_init_45 : decode cX11_init 45 = .ok (.iload_n 1, 1) := by decide +kernel
theorem dX11_init_46 : decode cX11_init 46 = .ok (.new 7, 3) := by decide +kernel
theorem dX11_init_49 : decode cX11_init 49 = .ok (.dup, 1) := by decide +kernel
theorem dX11_init_50 : decode cX11_init 50 = .ok (.invokespecial 9, 3) := by decide +kernel
theorem dX11_init_53 : decode cX11_init 53 = .ok (.aastore, 1) := by decide +kernel
theorem dX11_init_54 : decode cX11_init 54 = .ok (.iinc 1 1, 3) := by decide +kernel
theorem dX11_init_57 : decode cX11_init 57 = .ok (.goto (-21), 3) := by decide +kernel
theorem dX11_init_60 : decode cX11_init 60 = .ok (.aload_n 0, 1) := by decide +kernel
theorem dX11_init_61 : decode cX11_init 61 = .ok (.iconst 3, 1) := by decide +kernel
theorem dX11_init_62 : decode cX11_init 62 = .ok (.newarray .boolean, 2) := by decide +kernel
theorem dX11_init_64 : decode cX11_init 64 = .ok (.putfield 27, 3) := by decide +kernel
theorem dX11_init_67 : decode cX11_init 67 = .ok (.aload_n 0, 1) := by decide +kernel
theorem dX11_init_68 : decode cX11_init 68 = .ok (.new 31, 3) := by decide +kernel
theorem dX11_init_71 : decode cX11_init 71 = .ok (.dup, 1) := by decide +kernel
theorem dX11_init_72 : decode cX11_init 72 = .ok (.invokespecial 33, 3) := by decide +kernel
theorem dX11_init_75 : decode cX11_init 75 = .ok (.putfield 34, 3) := by decide +kernel
theorem dX11_init_78 : decode cX11_init 78 = .ok (.aload_n 0, 1) := by decide +kernel
theorem dX11_init_79 : decode cX11_init 79 = .ok (.new 38, 3) := by decide +kernel
theorem dX11_init_82 : decode cX11_init 82 = .ok (.dup, 1) := by decide +kernel
theorem dX11_init_83 : decode cX11_init 83 = .ok (.invokespecial 40, 3) := by decide +kernel
theorem dX11_init_86 : decode cX11_init 86 = .ok (.putfield 41, 3) := by decide +kernel
theorem dX11_init_89 : decode cX11_init 89 = .ok (.aload_n 0, 1) := by decide +kernel
theorem dX11_init_90 : decode cX11_init 90 = .ok (.new 45, 3) := by decide +kernel
theorem dX11_init_93 : decode cX11_init 93 = .ok (.dup, 1) := by decide +kernel
theorem dX11_init_94 : decode cX11_init 94 = .ok (.invokespecial 47, 3) := by decide +kernel
theorem dX11_init_97 : decode cX11_init 97 = .ok (.putfield 48, 3) := by decide +kernel
theorem dX11_init_100 : decode cX11_init 100 = .ok (.aload_n 0, 1) := by decide +kernel
theorem dX11_init_101 : decode cX11_init 101 = .ok (.new 52, 3) := by decide +kernel
theorem dX11_init_104 : decode cX11_init 104 = .ok (.dup, 1) := by decide +kernel
theorem dX11_init_105 : decode cX11_init 105 = .ok (.invokespecial 54, 3) := by decide +kernel
theorem dX11_init_108 : decode cX11_init 108 = .ok (.putfield 55, 3) := by decide +kernel
theorem dX11_init_111 : decode cX11_init 111 = .ok (.aload_n 0, 1) := by decide +kernel
theorem dX11_init_112 : decode cX11_init 112 = .ok (.new 52, 3) := by decide +kernel
theorem dX11_init_115 : decode cX11_init 115 = .ok (.dup, 1) := by decide +kernel
theorem dX11_init_116 : decode cX11_init 116 = .ok (.invokespecial 54, 3) := by decide +kernel
theorem dX11_init_119 : decode cX11_init 119 = .ok (.putfield 59, 3) := by decide +kernel
theorem dX11_init_122 : decode cX11_init 122 = .ok (.aload_n 0, 1) := by decide +kernel
theorem dX11_init_123 : decode cX11_init 123 = .ok (.new 62, 3) := by decide +kernel
theorem dX11_init_126 : decode cX11_init 126 = .ok (.dup, 1) := by decide +kernel
theorem dX11_init_127 : decode cX11_init 127 = .ok (.invokespecial 64, 3) := by decide +kernel
theorem dX11_init_130 : decode cX11_init 130 = .ok (.putfield 65, 3) := by decide +kernel
theorem dX11_init_133 : decode cX11_init 133 = .ok (.aload_n 0, 1) := by decide +kernel
theorem dX11_init_134 : decode cX11_init 134 = .ok (.new 62, 3) := by decide +kernel
theorem dX11_init_137 : decode cX11_init 137 = .ok (.dup, 1) := by decide +kernel
theorem dX11_init_138 : decode cX11_init 138 = .ok (.invokespecial 64, 3) := by decide +kernel
theorem dX11_init_141 : decode cX11_init 141 = .ok (.putfield 69, 3) := by decide +kernel
theorem dX11_init_144 : decode cX11_init 144 = .ok (.aload_n 0, 1) := by decide +kernel
theorem dX11_init_145 : decode cX11_init 145 = .ok (.new 72, 3) := by decide +kernel
theorem dX11_init_148 : decode cX11_init 148 = .ok (.dup, 1) := by decide +kernel
theorem dX11_init_149 : decode cX11_init 149 = .ok (.invokespecial 74, 3) := by decide +kernel
theorem dX11_init_152 : decode cX11_init 152 = .ok (.putfield 75, 3) := by decide +kernel
theorem dX11_init_155 : decode cX11_init 155 = .ok (.aload_n 0, 1) := by decide +kernel
theorem dX11_init_156 : decode cX11_init 156 = .ok (.new 72, 3) := by decide +kernel
theorem dX11_init_159 : decode cX11_init 159 = .ok (.dup, 1) := by decide +kernel
theorem dX11_init_160 : decode cX11_init 160 = .ok (.invokespecial 74, 3) := by decide +kernel
theorem dX11_init_163 : decode cX11_init 163 = .ok (.putfield 79, 3) := by decide +kernel
theorem dX11_init_166 : decode cX11_init 166 = .ok (.aload_n 0, 1) := by decide +kernel
theorem dX11_init_167 : decode cX11_init 167 = .ok (.new 72, 3) := by decide +kernel
theorem dX11_init_170 : decode cX11_init 170 = .ok (.dup, 1) := by decide +kernel
theorem dX11_init_171 : decode cX11_init 171 = .ok (.invokespecial 74, 3) := by decide +kernel
theorem dX11_init_174 : decode cX11_init 174 = .ok (.putfield 82, 3) := by decide +kernel
theorem dX11_init_177 : decode cX11_init 177 = .ok (.return_, 1) := by decide +kernel
theorem dX11_feed_0 : decode cX11_feed 0 = .ok (.aload_n 0, 1) := by decide +kernel
theorem dX11_feed_1 : decode cX11_feed 1 = .ok (.getfield 10, 3) := by decide +kernel
theorem dX11_feed_4 : decode cX11_feed 4 = .ok (.getfield 85, 3) := by decide +kernel
theorem dX11_feed_7 : decode cX11_feed 7 = .ok (.getfield 89, 3) := by decide +kernel
theorem dX11_feed_10 : decode cX11_feed 10 = .ok (.sipush 480, 3) := by decide +kernel
theorem dX11_feed_13 : decode cX11_feed 13 = .ok (.if_icmp .le 5, 3) := by decide +kernel
theorem dX11_feed_16 : decode cX11_feed 16 = .ok (.iconst (-1), 1) := by decide +kernel
theorem dX11_feed_17 : decode cX11_feed 17 = .ok (.ireturn, 1) := by decide +kernel
theorem dX11_feed_18 : decode cX11_feed 18 = .ok (.aload_n 0, 1) := by decide +kernel
theorem dX11_feed_19 : decode cX11_feed 19 = .ok (.getfield 10, 3) := by decide +kernel
theorem dX11_feed_22 : decode cX11_feed 22 = .ok (.getfield 85, 3) := by decide +kernel
theorem dX11_feed_25 : decode cX11_feed 25 = .ok (.iload_n 1, 1) := by decide +kernel
theorem dX11_feed_26 : decode cX11_feed 26 = .ok (.invokevirtual 95, 3) := by decide +kernel
theorem dX11_feed_29 : decode cX11_feed 29 = .ok (.aload_n 0, 1) := by decide +kernel
theorem dX11_feed_30 : decode cX11_feed 30 = .ok (.getfield 10, 3) := by decide +kernel
theorem dX11_feed_33 : decode cX11_feed 33 = .ok (.getfield 85, 3) := by decide +kernel
theorem dX11_feed_36 : decode cX11_feed 36 = .ok (.iload_n 2, 1) := by decide +kernel
theorem dX11_feed_37 : decode cX11_feed 37 = .ok (.invokevirtual 95, 3) := by decide +kernel
theorem dX11_feed_40 : decode cX11_feed 40 = .ok (.aload_n 0, 1) := by decide +kernel
theorem dX11_feed_41 : decode cX11_feed 41 = .ok (.getfield 10, 3) := by decide +kernel
theorem dX11_feed_44 : decode cX11_feed 44 = .ok (.getfield 85, 3) := by decide +kernel
theorem dX11_feed_47 : decode cX11_feed 47 = .ok (.iload_n 3, 1) := by decide +kernel
theorem dX11_feed_48 : decode cX11_feed 48 = .ok (.invokevirtual 95, 3) := by decide +kernel
theorem dX11_feed_51 : decode cX11_feed 51 = .ok (.aload_n 0, 1) := by decide +kernel
theorem dX11_feed_52 : decode cX11_feed 52 = .ok (.getfield 10, 3) := by decide +kernel
theorem dX11_feed_55 : decode cX11_feed 55 = .ok (.getfield 85, 3) := by decide +kernel
theorem dX11_feed_58 : decode cX11_feed 58 = .ok (.iload 4, 2) := by decide +kernel
theorem dX11_feed_60 : decode cX11_feed 60 = .ok (.invokevirtual 95, 3) := by decide +kernel
theorem dX11_feed_63 : decode cX11_feed 63 = .ok (.aload_n 0, 1) := by decide +kernel
theorem dX11_feed_64 : decode cX11_feed 64 = .ok (.getfield 10, 3) := by decide +kernel
theorem dX11_feed_67 : decode cX11_feed 67 = .ok (.getfield 85, 3) := by decide +kernel
theorem dX11_feed_70 : decode cX11_feed 70 = .ok (.iload 5, 2) := by decide +kernel
theorem dX11_feed_72 : decode cX11_feed 72 = .ok (.invokevirtual 95, 3) := by decide +kernel
theorem dX11_feed_75 : decode cX11_feed 75 = .ok (.aload_n 0, 1) := by decide +kernel
theorem dX11_feed_76 : decode cX11_feed 76 = .ok (.getfield 10, 3) := by decide +kernel
theorem dX11_feed_79 : decode cX11_feed 79 = .ok (.getfield 85, 3) := by decide +kernel
theorem dX11_feed_82 : decode cX11_feed 82 = .ok (.getfield 89, 3) := by decide +kernel
theorem dX11_feed_85 : decode cX11_feed 85 = .ok (.ireturn, 1) := by decide +kernel
theorem dX11_end_0 : decode cX11_end 0 = .ok (.iload_n 1, 1) := by decide +kernel
theorem dX11_end_1 : decode cX11_end 1 = .ok (.ifCond .lt 17, 3) := by decide +kernel
theorem dX11_end_4 : decode cX11_end 4 = .ok (.iload_n 1, 1) := by decide +kernel
theorem dX11_end_5 : decode cX11_end 5 = .ok (.aload_n 0, 1) := by decide +kernel
theorem dX11_end_6 : decode cX11_end 6 = .ok (.getfield 10, 3) := by decide +kernel
theorem dX11_end_9 : decode cX11_end 9 = .ok (.getfield 85, 3) := by decide +kernel
theorem dX11_end_12 : decode cX11_end 12 = .ok (.getfield 89, 3) := by decide +kernel
theorem dX11_end_15 : decode cX11_end 15 = .ok (.if_icmp .le 5, 3) := by decide +kernel
theorem dX11_end_18 : decode cX11_end 18 = .ok (.iconst (-1), 1) := by decide +kernel
theorem dX11_end_19 : decode cX11_end 19 = .ok (.ireturn, 1) := by decide +kernel
theorem dX11_end_20 : decode cX11_end 20 = .ok (.aload_n 0, 1) := by decide +kernel
theorem dX11_end_21 : decode cX11_end 21 = .ok (.getfield 10, 3) := by decide +kernel
theorem dX11_end_24 : decode cX11_end 24 = .ok (.getfield 85, 3) := by decide +kernel
theorem dX11_end_27 : decode cX11_end 27 = .ok (.iload_n 1, 1) := by decide +kernel
theorem dX11_end_28 : decode cX11_end 28 = .ok (.putfield 89, 3) := by decide +kernel
theorem dX11_end_31 : decode cX11_end 31 = .ok (.iload_n 1, 1) := by decide +kernel
theorem dX11_end_32 : decode cX11_end 32 = .ok (.ireturn, 1) := by decide +kernel
theorem dX11_text_0 : decode cX11_text 0 = .ok (.aload_n 0, 1) := by decide +kernel
theorem dX11_text_1 : decode cX11_text 1 = .ok (.getfield 34, 3) := by decide +kernel
theorem dX11_text_4 : decode cX11_text 4 = .ok (.aload_n 0, 1) := by decide +kernel
theorem dX11_text_5 : decode cX11_text 5 = .ok (.getfield 10, 3) := by decide +kernel
theorem dX11_text_8 : decode cX11_text 8 = .ok (.getfield 85, 3) := by decide +kernel
theorem dX11_text_11 : decode cX11_text 11 = .ok (.invokevirtual 99, 3) := by decide +kernel
theorem dX11_text_14 : decode cX11_text 14 = .ok (.istore_n 1, 1) := by decide +kernel
theorem dX11_text_15 : decode cX11_text 15 = .ok (.aload_n 0, 1) := by decide +kernel
theorem dX11_text_16 : decode cX11_text 16 = .ok (.getfield 10, 3) := by decide +kernel
theorem dX11_text_19 : decode cX11_text 19 = .ok (.getfield 85, 3) := by decide +kernel
theorem dX11_text_22 : decode cX11_text 22 = .ok (.iconst 0, 1) := by decide +kernel
theorem dX11_text_23 : decode cX11_text 23 = .ok (.putfield 89, 3) := by decide +kernel
theorem dX11_text_26 : decode cX11_text 26 = .ok (.aload_n 0, 1) := by decide +kernel
theorem dX11_text_27 : decode cX11_text 27 = .ok (.getfield 10, 3) := by decide +kernel
theorem dX11_text_30 : decode cX11_text 30 = .ok (.aload_n 0, 1) := by decide +kernel
theorem dX11_text_31 : decode cX11_text 31 = .ok (.getfield 34, 3) := by decide +kernel
theorem dX11_text_34 : decode cX11_text 34 = .ok (.getfield 103, 3) := by decide +kernel
theorem dX11_text_37 : decode cX11_text 37 = .ok (.putfield 106, 3) := by decide +kernel
theorem dX11_text_40 : decode cX11_text 40 = .ok (.aload_n 0, 1) := by decide +kernel
theorem dX11_text_41 : decode cX11_text 41 = .ok (.getfield 10, 3) := by decide +kernel
theorem dX11_text_44 : decode cX11_text 44 = .ok (.aload_n 0, 1) := by decide +kernel
theorem dX11_text_45 : decode cX11_text 45 = .ok (.getfield 34, 3) := by decide +kernel
theorem dX11_text_48 : decode cX11_text 48 = .ok (.getfield 107, 3) := by decide +kernel
theorem dX11_text_51 : decode cX11_text 51 = .ok (.putfield 110, 3) := by decide +kernel
theorem dX11_text_54 : decode cX11_text 54 = .ok (.iload_n 1, 1) := by decide +kernel
theorem dX11_text_55 : decode cX11_text 55 = .ok (.iconst (-1), 1) := by decide +kernel
theorem dX11_text_56 : decode cX11_text 56 = .ok (.if_icmp .eq 27, 3) := by decide +kernel
theorem dX11_text_59 : decode cX11_text 59 = .ok (.aload_n 0, 1) := by decide +kernel
theorem dX11_text_60 : decode cX11_text 60 = .ok (.getfield 10, 3) := by decide +kernel
theorem dX11_text_63 : decode cX11_text 63 = .ok (.getfield 111, 3) := by decide +kernel
theorem dX11_text_66 : decode cX11_text 66 = .ok (.aload_n 0, 1) := by decide +kernel
theorem dX11_text_67 : decode cX11_text 67 = .ok (.getfield 34, 3) := by decide +kernel
theorem dX11_text_70 : decode cX11_text 70 = .ok (.getfield 115, 3) := by decide +kernel
theorem dX11_text_73 : decode cX11_text 73 = .ok (.invokevirtual 118, 3) := by decide +kernel
theorem dX11_text_76 : decode cX11_text 76 = .ok (.aload_n 0, 1) := by decide +kernel
theorem dX11_text_77 : decode cX11_text 77 = .ok (.getfield 19, 3) := by decide +kernel
theorem dX11_text_80 : decode cX11_text 80 = .ok (.invokevirtual 124, 3) := by decide +kernel
theorem dX11_text_83 : decode cX11_text 83 = .ok (.iload_n 1, 1) := by decide +kernel
theorem dX11_text_84 : decode cX11_text 84 = .ok (.ireturn, 1) := by decide +kernel
theorem dX11_fault_0 : decode cX11_fault 0 = .ok (.iload_n 1, 1) := by decide +kernel
theorem dX11_fault_1 : decode cX11_fault 1 = .ok (.ifCond .ne 11, 3) := by decide +kernel
theorem dX11_fault_4 : decode cX11_fault 4 = .ok (.aload_n 0, 1) := by decide +kernel
theorem dX11_fault_5 : decode cX11_fault 5 = .ok (.getfield 10, 3) := by decide +kernel
theorem dX11_fault_8 : decode cX11_fault 8 = .ok (.getfield 106, 3) := by decide +kernel
theorem dX11_fault_11 : decode cX11_fault 11 = .ok (.ireturn, 1) := by decide +kernel
theorem dX11_fault_12 : decode cX11_fault 12 = .ok (.iload_n 1, 1) := by decide +kernel
theorem dX11_fault_13 : decode cX11_fault 13 = .ok (.iconst 1, 1) := by decide +kernel
theorem dX11_fault_14 : decode cX11_fault 14 = .ok (.if_icmp .ne 13, 3) := by decide +kernel
theorem dX11_fault_17 : decode cX11_fault 17 = .ok (.aload_n 0, 1) := by decide +kernel
theorem dX11_fault_18 : decode cX11_fault 18 = .ok (.getfield 10, 3) := by decide +kernel
theorem dX11_fault_21 : decode cX11_fault 21 = .ok (.getfield 110, 3) := by decide +kernel
theorem dX11_fault_24 : decode cX11_fault 24 = .ok (.goto 4, 3) := by decide +kernel
theorem dX11_fault_27 : decode cX11_fault 27 = .ok (.iconst (-1), 1) := by decide +kernel
theorem dX11_fault_28 : decode cX11_fault 28 = .ok (.ireturn, 1) := by decide +kernel
theorem dX11_prime_0 : decode cX11_prime 0 = .ok (.iload_n 1, 1) := by decide +kernel
theorem dX11_prime_1 : decode cX11_prime 1 = .ok (.invokestatic 127, 3) := by decide +kernel
theorem dX11_prime_4 : decode cX11_prime 4 = .ok (.ifCond .ne 10, 3) := by decide +kernel
theorem dX11_prime_7 : decode cX11_prime 7 = .ok (.aload_n 0, 1) := by decide +kernel
theorem dX11_prime_8 : decode cX11_prime 8 = .ok (.iconst 1, 1) := by decide +kernel
theorem dX11_prime_9 : decode cX11_prime 9 = .ok (.iconst 0, 1) := by decide +kernel
theorem dX11_prime_10 : decode cX11_prime 10 = .ok (.invokevirtual 131, 3) := by decide +kernel
theorem dX11_prime_13 : decode cX11_prime 13 = .ok (.ireturn, 1) := by decide +kernel
theorem dX11_prime_14 : decode cX11_prime 14 = .ok (.aload_n 0, 1) := by decide +kernel
theorem dX11_prime_15 : decode cX11_prime 15 = .ok (.getfield 10, 3) := by decide +kernel
theorem dX11_prime_18 : decode cX11_prime 18 = .ok (.getfield 111, 3) := by decide +kernel
theorem dX11_prime_21 : decode cX11_prime 21 = .ok (.getfield 135, 3) := by decide +kernel
theorem dX11_prime_24 : decode cX11_prime 24 = .ok (.iload_n 1, 1) := by decide +kernel
theorem dX11_prime_25 : decode cX11_prime 25 = .ok (.if_icmp .ne 10, 3) := by decide +kernel
theorem dX11_prime_28 : decode cX11_prime 28 = .ok (.aload_n 0, 1) := by decide +kernel
theorem dX11_prime_29 : decode cX11_prime 29 = .ok (.iconst 2, 1) := by decide +kernel
theorem dX11_prime_30 : decode cX11_prime 30 = .ok (.iconst 0, 1) := by decide +kernel
theorem dX11_prime_31 : decode cX11_prime 31 = .ok (.invokevirtual 131, 3) := by decide +kernel
theorem dX11_prime_34 : decode cX11_prime 34 = .ok (.ireturn, 1) := by decide +kernel
theorem dX11_prime_35 : decode cX11_prime 35 = .ok (.aload_n 0, 1) := by decide +kernel
theorem dX11_prime_36 : decode cX11_prime 36 = .ok (.getfield 19, 3) := by decide +kernel
theorem dX11_prime_39 : decode cX11_prime 39 = .ok (.aload_n 0, 1) := by decide +kernel
theorem dX11_prime_40 : decode cX11_prime 40 = .ok (.getfield 10, 3) := by decide +kernel
theorem dX11_prime_43 : decode cX11_prime 43 = .ok (.getfield 111, 3) := by decide +kernel
theorem dX11_prime_46 : decode cX11_prime 46 = .ok (.invokevirtual 138, 3) := by decide +kernel
theorem dX11_prime_49 : decode cX11_prime 49 = .ok (.aload_n 0, 1) := by decide +kernel
theorem dX11_prime_50 : decode cX11_prime 50 = .ok (.getfield 10, 3) := by decide +kernel
theorem dX11_prime_53 : decode cX11_prime 53 = .ok (.getfield 111, 3) := by decide +kernel
theorem dX11_prime_56 : decode cX11_prime 56 = .ok (.iload_n 1, 1) := by decide +kernel
theorem dX11_prime_57 : decode cX11_prime 57 = .ok (.invokevirtual 141, 3) := by decide +kernel
theorem dX11_prime_60 : decode cX11_prime 60 = .ok (.aload_n 0, 1) := by decide +kernel
theorem dX11_prime_61 : decode cX11_prime 61 = .ok (.invokevirtual 144, 3) := by decide +kernel
theorem dX11_prime_64 : decode cX11_prime 64 = .ok (.ireturn, 1) := by decide +kernel
theorem dX11_set_0 : decode cX11_set 0 = .ok (.iload_n 1, 1) := by decide +kernel
theorem dX11_set_1 : decode cX11_set 1 = .ok (.invokestatic 148, 3) := by decide +kernel
theorem dX11_set_4 : decode cX11_set 4 = .ok (.ifCond .eq 17, 3) := by decide +kernel
theorem dX11_set_7 : decode cX11_set 7 = .ok (.iload_n 2, 1) := by decide +kernel
theorem dX11_set_8 : decode cX11_set 8 = .ok (.invokestatic 151, 3) := by decide +kernel
theorem dX11_set_11 : decode cX11_set 11 = .ok (.ifCond .eq 10, 3) := by decide +kernel
theorem dX11_set_14 : decode cX11_set 14 = .ok (.iload_n 3, 1) := by decide +kernel
theorem dX11_set_15 : decode cX11_set 15 = .ok (.invokestatic 154, 3) := by decide +kernel
theorem dX11_set_18 : decode cX11_set 18 = .ok (.ifCond .eq 10, 3) := by decide +kernel
theorem dX11_set_21 : decode cX11_set 21 = .ok (.aload_n 0, 1) := by decide +kernel
theorem dX11_set_22 : decode cX11_set 22 = .ok (.iconst 1, 1) := by decide +kernel
theorem dX11_set_23 : decode cX11_set 23 = .ok (.iconst 0, 1) := by decide +kernel
theorem dX11_set_24 : decode cX11_set 24 = .ok (.invokevirtual 131, 3) := by decide +kernel
theorem dX11_set_27 : decode cX11_set 27 = .ok (.ireturn, 1) := by decide +kernel
theorem dX11_set_28 : decode cX11_set 28 = .ok (.aload_n 0, 1) := by decide +kernel
theorem dX11_set_29 : decode cX11_set 29 = .ok (.getfield 10, 3) := by decide +kernel
theorem dX11_set_32 : decode cX11_set 32 = .ok (.getfield 111, 3) := by decide +kernel
theorem dX11_set_35 : decode cX11_set 35 = .ok (.iload_n 1, 1) := by decide +kernel
theorem dX11_set_36 : decode cX11_set 36 = .ok (.aload_n 0, 1) := by decide +kernel
theorem dX11_set_37 : decode cX11_set 37 = .ok (.getfield 65, 3) := by decide +kernel
theorem dX11_set_40 : decode cX11_set 40 = .ok (.invokevirtual 157, 3) := by decide +kernel
theorem dX11_set_43 : decode cX11_set 43 = .ok (.aload_n 0, 1) := by decide +kernel
theorem dX11_set_44 : decode cX11_set 44 = .ok (.getfield 65, 3) := by decide +kernel
theorem dX11_set_47 : decode cX11_set 47 = .ok (.iload_n 2, 1) := by decide +kernel
theorem dX11_set_48 : decode cX11_set 48 = .ok (.invokevirtual 160, 3) := by decide +kernel
theorem dX11_set_51 : decode cX11_set 51 = .ok (.iload_n 3, 1) := by decide +kernel
theorem dX11_set_52 : decode cX11_set 52 = .ok (.if_icmp .ne 10, 3) := by decide +kernel
theorem dX11_set_55 : decode cX11_set 55 = .ok (.aload_n 0, 1) := by decide +kernel
theorem dX11_set_56 : decode cX11_set 56 = .ok (.iconst 2, 1) := by decide +kernel
theorem dX11_set_57 : decode cX11_set 57 = .ok (.iconst 0, 1) := by decide +kernel
theorem dX11_set_58 : decode cX11_set 58 = .ok (.invokevirtual 131, 3) := by decide +kernel
theorem dX11_set_61 : decode cX11_set 61 = .ok (.ireturn, 1) := by decide +kernel
theorem dX11_set_62 : decode cX11_set 62 = .ok (.aload_n 0, 1) := by decide +kernel
theorem dX11_set_63 : decode cX11_set 63 = .ok (.getfield 65, 3) := by decide +kernel
theorem dX11_set_66 : decode cX11_set 66 = .ok (.iload_n 2, 1) := by decide +kernel
theorem dX11_set_67 : decode cX11_set 67 = .ok (.iload_n 3, 1) := by decide +kernel
theorem dX11_set_68 : decode cX11_set 68 = .ok (.invokevirtual 164, 3) := by decide +kernel
theorem dX11_set_71 : decode cX11_set 71 = .ok (.aload_n 0, 1) := by decide +kernel
theorem dX11_set_72 : decode cX11_set 72 = .ok (.iload_n 1, 1) := by decide +kernel
theorem dX11_set_73 : decode cX11_set 73 = .ok (.aload_n 0, 1) := by decide +kernel
theorem dX11_set_74 : decode cX11_set 74 = .ok (.getfield 65, 3) := by decide +kernel
theorem dX11_set_77 : decode cX11_set 77 = .ok (.invokevirtual 168, 3) := by decide +kernel
theorem dX11_set_80 : decode cX11_set 80 = .ok (.ireturn, 1) := by decide +kernel
theorem dX11_sum_0 : decode cX11_sum 0 = .ok (.iload_n 1, 1) := by decide +kernel
theorem dX11_sum_1 : decode cX11_sum 1 = .ok (.invokestatic 148, 3) := by decide +kernel
theorem dX11_sum_4 : decode cX11_sum 4 = .ok (.ifCond .eq 33, 3) := by decide +kernel
theorem dX11_sum_7 : decode cX11_sum 7 = .ok (.iload_n 2, 1) := by decide +kernel
theorem dX11_sum_8 : decode cX11_sum 8 = .ok (.invokestatic 148, 3) := by decide +kernel
theorem dX11_sum_11 : decode cX11_sum 11 = .ok (.ifCond .eq 26, 3) := by decide +kernel
theorem dX11_sum_14 : decode cX11_sum 14 = .ok (.iload 4, 2) := by decide +kernel
theorem dX11_sum_16 : decode cX11_sum 16 = .ok (.invokestatic 148, 3) := by decide +kernel
theorem dX11_sum_19 : decode cX11_sum 19 = .ok (.ifCond .eq 18, 3) := by decide +kernel
theorem dX11_sum_22 : decode cX11_sum 22 = .ok (.iload_n 3, 1) := by decide +kernel
theorem dX11_sum_23 : decode cX11_sum 23 = .ok (.invokestatic 154, 3) := by decide +kernel
theorem dX11_sum_26 : decode cX11_sum 26 = .ok (.ifCond .ne 11, 3) := by decide +kernel
theorem dX11_sum_29 : decode cX11_sum 29 = .ok (.iload 5, 2) := by decide +kernel
theorem dX11_sum_31 : decode cX11_sum 31 = .ok (.invokestatic 154, 3) := by decide +kernel
theorem dX11_sum_34 : decode cX11_sum 34 = .ok (.ifCond .eq 10, 3) := by decide +kernel
theorem dX11_sum_37 : decode cX11_sum 37 = .ok (.aload_n 0, 1) := by decide +kernel
theorem dX11_sum_38 : decode cX11_sum 38 = .ok (.iconst 1, 1) := by decide +kernel
theorem dX11_sum_39 : decode cX11_sum 39 = .ok (.iconst 0, 1) := by decide +kernel
theorem dX11_sum_40 : decode cX11_sum 40 = .ok (.invokevirtual 131, 3) := by decide +kernel
theorem dX11_sum_43 : decode cX11_sum 43 = .ok (.ireturn, 1) := by decide +kernel
theorem dX11_sum_44 : decode cX11_sum 44 = .ok (.aload_n 0, 1) := by decide +kernel
theorem dX11_sum_45 : decode cX11_sum 45 = .ok (.getfield 10, 3) := by decide +kernel
theorem dX11_sum_48 : decode cX11_sum 48 = .ok (.getfield 111, 3) := by decide +kernel
theorem dX11_sum_51 : decode cX11_sum 51 = .ok (.iload_n 2, 1) := by decide +kernel
theorem dX11_sum_52 : decode cX11_sum 52 = .ok (.aload_n 0, 1) := by decide +kernel
theorem dX11_sum_53 : decode cX11_sum 53 = .ok (.getfield 65, 3) := by decide +kernel
theorem dX11_sum_56 : decode cX11_sum 56 = .ok (.invokevirtual 157, 3) := by decide +kernel
theorem dX11_sum_59 : decode cX11_sum 59 = .ok (.aload_n 0, 1) := by decide +kernel
theorem dX11_sum_60 : decode cX11_sum 60 = .ok (.getfield 10, 3) := by decide +kernel
theorem dX11_sum_63 : decode cX11_sum 63 = .ok (.getfield 111, 3) := by decide +kernel
theorem dX11_sum_66 : decode cX11_sum 66 = .ok (.iload 4, 2) := by decide +kernel
theorem dX11_sum_68 : decode cX11_sum 68 = .ok (.aload_n 0, 1) := by decide +kernel
theorem dX11_sum_69 : decode cX11_sum 69 = .ok (.getfield 69, 3) := by decide +kernel
theorem dX11_sum_72 : decode cX11_sum 72 = .ok (.invokevirtual 157, 3) := by decide +kernel
theorem dX11_sum_75 : decode cX11_sum 75 = .ok (.aload_n 0, 1) := by decide +kernel
theorem dX11_sum_76 : decode cX11_sum 76 = .ok (.getfield 65, 3) := by decide +kernel
theorem dX11_sum_79 : decode cX11_sum 79 = .ok (.iload_n 3, 1) := by decide +kernel
theorem dX11_sum_80 : decode cX11_sum 80 = .ok (.iload 5, 2) := by decide +kernel
theorem dX11_sum_82 : decode cX11_sum 82 = .ok (.aload_n 0, 1) := by decide +kernel
theorem dX11_sum_83 : decode cX11_sum 83 = .ok (.getfield 69, 3) := by decide +kernel
theorem dX11_sum_86 : decode cX11_sum 86 = .ok (.invokevirtual 172, 3) := by decide +kernel
theorem dX11_sum_89 : decode cX11_sum 89 = .ok (.aload_n 0, 1) := by decide +kernel
theorem dX11_sum_90 : decode cX11_sum 90 = .ok (.iload_n 1, 1) := by decide +kernel
theorem dX11_sum_91 : decode cX11_sum 91 = .ok (.aload_n 0, 1) := by decide +kernel
theorem dX11_sum_92 : decode cX11_sum 92 = .ok (.getfield 65, 3) := by decide +kernel
theorem dX11_sum_95 : decode cX11_sum 95 = .ok (.invokevirtual 168, 3) := by decide +kernel
theorem dX11_sum_98 : decode cX11_sum 98 = .ok (.ireturn, 1) := by decide +kernel
theorem dX11_turn_0 : decode cX11_turn 0 = .ok (.iload_n 1, 1) := by decide +kernel
theorem dX11_turn_1 : decode cX11_turn 1 = .ok (.invokestatic 148, 3) := by decide +kernel
theorem dX11_turn_4 : decode cX11_turn 4 = .ok (.ifCond .eq 10, 3) := by decide +kernel
theorem dX11_turn_7 : decode cX11_turn 7 = .ok (.iload_n 2, 1) := by decide +kernel
theorem dX11_turn_8 : decode cX11_turn 8 = .ok (.invokestatic 148, 3) := by decide +kernel
theorem dX11_turn_11 : decode cX11_turn 11 = .ok (.ifCond .ne 10, 3) := by decide +kernel
theorem dX11_turn_14 : decode cX11_turn 14 = .ok (.aload_n 0, 1) := by decide +kernel
theorem dX11_turn_15 : decode cX11_turn 15 = .ok (.iconst 1, 1) := by decide +kernel
theorem dX11_turn_16 : decode cX11_turn 16 = .ok (.iconst 0, 1) := by decide +kernel
theorem dX11_turn_17 : decode cX11_turn 17 = .ok (.invokevirtual 131, 3) := by decide +kernel
theorem dX11_turn_20 : decode cX11_turn 20 = .ok (.ireturn, 1) := by decide +kernel
theorem dX11_turn_21 : decode cX11_turn 21 = .ok (.aload_n 0, 1) := by decide +kernel
theorem dX11_turn_22 : decode cX11_turn 22 = .ok (.getfield 55, 3) := by decide +kernel
theorem dX11_turn_25 : decode cX11_turn 25 = .ok (.aload_n 0, 1) := by decide +kernel
theorem dX11_turn_26 : decode cX11_turn 26 = .ok (.getfield 10, 3) := by decide +kernel
theorem dX11_turn_29 : decode cX11_turn 29 = .ok (.getfield 111, 3) := by decide +kernel
theorem dX11_turn_32 : decode cX11_turn 32 = .ok (.iload_n 2, 1) := by decide +kernel
theorem dX11_turn_33 : decode cX11_turn 33 = .ok (.invokevirtual 176, 3) := by decide +kernel
theorem dX11_turn_36 : decode cX11_turn 36 = .ok (.aload_n 0, 1) := by decide +kernel
theorem dX11_turn_37 : decode cX11_turn 37 = .ok (.getfield 55, 3) := by decide +kernel
theorem dX11_turn_40 : decode cX11_turn 40 = .ok (.invokevirtual 180, 3) := by decide +kernel
theorem dX11_turn_43 : decode cX11_turn 43 = .ok (.istore_n 3, 1) := by decide +kernel
theorem dX11_turn_44 : decode cX11_turn 44 = .ok (.iload_n 3, 1) := by decide +kernel
theorem dX11_turn_45 : decode cX11_turn 45 = .ok (.iconst 4, 1) := by decide +kernel
theorem dX11_turn_46 : decode cX11_turn 46 = .ok (.if_icmp .eq 13, 3) := by decide +kernel
theorem dX11_turn_49 : decode cX11_turn 49 = .ok (.aload_n 0, 1) := by decide +kernel
theorem dX11_turn_50 : decode cX11_turn 50 = .ok (.iconst 5, 1) := by decide +kernel
theorem dX11_turn_51 : decode cX11_turn 51 = .ok (.bipush 6, 2) := by decide +kernel
theorem dX11_turn_53 : decode cX11_turn 53 = .ok (.iload_n 3, 1) := by decide +kernel
theorem dX11_turn_54 : decode cX11_turn 54 = .ok (.iadd, 1) := by decide +kernel
theorem dX11_turn_55 : decode cX11_turn 55 = .ok (.invokevirtual 131, 3) := by decide +kernel
theorem dX11_turn_58 : decode cX11_turn 58 = .ok (.ireturn, 1) := by decide +kernel
theorem dX11_turn_59 : decode cX11_turn 59 = .ok (.aload_n 0, 1) := by decide +kernel
theorem dX11_turn_60 : decode cX11_turn 60 = .ok (.getfield 59, 3) := by decide +kernel
theorem dX11_turn_63 : decode cX11_turn 63 = .ok (.aload_n 0, 1) := by decide +kernel
theorem dX11_turn_64 : decode cX11_turn 64 = .ok (.getfield 55, 3) := by decide +kernel
theorem dX11_turn_67 : decode cX11_turn 67 = .ok (.invokevirtual 183, 3) := by decide +kernel
theorem dX11_turn_70 : decode cX11_turn 70 = .ok (.aload_n 0, 1) := by decide +kernel
theorem dX11_turn_71 : decode cX11_turn 71 = .ok (.iload_n 1, 1) := by decide +kernel
theorem dX11_turn_72 : decode cX11_turn 72 = .ok (.aload_n 0, 1) := by decide +kernel
theorem dX11_turn_73 : decode cX11_turn 73 = .ok (.getfield 59, 3) := by decide +kernel
theorem dX11_turn_76 : decode cX11_turn 76 = .ok (.getfield 187, 3) := by decide +kernel
theorem dX11_turn_79 : decode cX11_turn 79 = .ok (.invokevirtual 168, 3) := by decide +kernel
theorem dX11_turn_82 : decode cX11_turn 82 = .ok (.ireturn, 1) := by decide +kernel
theorem dX11_twist_0 : decode cX11_twist 0 = .ok (.iload_n 1, 1) := by decide +kernel
theorem dX11_twist_1 : decode cX11_twist 1 = .ok (.invokestatic 148, 3) := by decide +kernel
theorem dX11_twist_4 : decode cX11_twist 4 = .ok (.ifCond .eq 12, 3) := by decide +kernel
theorem dX11_twist_7 : decode cX11_twist 7 = .ok (.iload_n 2, 1) := by decide +kernel
theorem dX11_twist_8 : decode cX11_twist 8 = .ok (.ifCond .lt 8, 3) := by decide +kernel
theorem dX11_twist_11 : decode cX11_twist 11 = .ok (.iload_n 2, 1) := by decide +kernel
theorem dX11_twist_12 : decode cX11_twist 12 = .ok (.iconst 2, 1) := by decide +kernel
theorem dX11_twist_13 : decode cX11_twist 13 = .ok (.if_icmp .le 10, 3) := by decide +kernel
theorem dX11_twist_16 : decode cX11_twist 16 = .ok (.aload_n 0, 1) := by decide +kernel
theorem dX11_twist_17 : decode cX11_twist 17 = .ok (.iconst 1, 1) := by decide +kernel
theorem dX11_twist_18 : decode cX11_twist 18 = .ok (.iconst 0, 1) := by decide +kernel
theorem dX11_twist_19 : decode cX11_twist 19 = .ok (.invokevirtual 131, 3) := by decide +kernel
theorem dX11_twist_22 : decode cX11_twist 22 = .ok (.ireturn, 1) := by decide +kernel
theorem dX11_twist_23 : decode cX11_twist 23 = .ok (.aload_n 0, 1) := by decide +kernel
theorem dX11_twist_24 : decode cX11_twist 24 = .ok (.getfield 10, 3) := by decide +kernel
theorem dX11_twist_27 : decode cX11_twist 27 = .ok (.getfield 111, 3) := by decide +kernel
theorem dX11_twist_30 : decode cX11_twist 30 = .ok (.iload_n 1, 1) := by decide +kernel
theorem dX11_twist_31 : decode cX11_twist 31 = .ok (.aload_n 0, 1) := by decide +kernel
theorem dX11_twist_32 : decode cX11_twist 32 = .ok (.getfield 65, 3) := by decide +kernel
theorem dX11_twist_35 : decode cX11_twist 35 = .ok (.invokevirtual 157, 3) := by decide +kernel
theorem dX11_twist_38 : decode cX11_twist 38 = .ok (.aload_n 0, 1) := by decide +kernel
theorem dX11_twist_39 : decode cX11_twist 39 = .ok (.getfield 69, 3) := by decide +kernel
theorem dX11_twist_42 : decode cX11_twist 42 = .ok (.aload_n 0, 1) := by decide +kernel
theorem dX11_twist_43 : decode cX11_twist 43 = .ok (.getfield 65, 3) := by decide +kernel
theorem dX11_twist_46 : decode cX11_twist 46 = .ok (.invokevirtual 188, 3) := by decide +kernel
theorem dX11_twist_49 : decode cX11_twist 49 = .ok (.aload_n 0, 1) := by decide +kernel
theorem dX11_twist_50 : decode cX11_twist 50 = .ok (.getfield 65, 3) := by decide +kernel
theorem dX11_twist_53 : decode cX11_twist 53 = .ok (.iload_n 2, 1) := by decide +kernel
theorem dX11_twist_54 : decode cX11_twist 54 = .ok (.invokevirtual 191, 3) := by decide +kernel
theorem dX11_twist_57 : decode cX11_twist 57 = .ok (.aload_n 0, 1) := by decide +kernel
theorem dX11_twist_58 : decode cX11_twist 58 = .ok (.getfield 65, 3) := by decide +kernel
theorem dX11_twist_61 : decode cX11_twist 61 = .ok (.aload_n 0, 1) := by decide +kernel
theorem dX11_twist_62 : decode cX11_twist 62 = .ok (.getfield 69, 3) := by decide +kernel
theorem dX11_twist_65 : decode cX11_twist 65 = .ok (.invokevirtual 194, 3) := by decide +kernel
theorem dX11_twist_68 : decode cX11_twist 68 = .ok (.ifCond .eq 10, 3) := by decide +kernel
theorem dX11_twist_71 : decode cX11_twist 71 = .ok (.aload_n 0, 1) := by decide +kernel
theorem dX11_twist_72 : decode cX11_twist 72 = .ok (.iconst 2, 1) := by decide +kernel
theorem dX11_twist_73 : decode cX11_twist 73 = .ok (.iconst 0, 1) := by decide +kernel
theorem dX11_twist_74 : decode cX11_twist 74 = .ok (.invokevirtual 131, 3) := by decide +kernel
theorem dX11_twist_77 : decode cX11_twist 77 = .ok (.ireturn, 1) := by decide +kernel
theorem dX11_twist_78 : decode cX11_twist 78 = .ok (.aload_n 0, 1) := by decide +kernel
theorem dX11_twist_79 : decode cX11_twist 79 = .ok (.iload_n 1, 1) := by decide +kernel
theorem dX11_twist_80 : decode cX11_twist 80 = .ok (.aload_n 0, 1) := by decide +kernel
theorem dX11_twist_81 : decode cX11_twist 81 = .ok (.getfield 65, 3) := by decide +kernel
theorem dX11_twist_84 : decode cX11_twist 84 = .ok (.invokevirtual 168, 3) := by decide +kernel
theorem dX11_twist_87 : decode cX11_twist 87 = .ok (.ireturn, 1) := by decide +kernel
theorem dX11_through_0 : decode cX11_through 0 = .ok (.iload_n 1, 1) := by decide +kernel
theorem dX11_through_1 : decode cX11_through 1 = .ok (.invokestatic 148, 3) := by decide +kernel
theorem dX11_through_4 : decode cX11_through 4 = .ok (.ifCond .ne 10, 3) := by decide +kernel
theorem dX11_through_7 : decode cX11_through 7 = .ok (.aload_n 0, 1) := by decide +kernel
theorem dX11_through_8 : decode cX11_through 8 = .ok (.iconst 1, 1) := by decide +kernel
theorem dX11_through_9 : decode cX11_through 9 = .ok (.iconst 0, 1) := by decide +kernel
theorem dX11_through_10 : decode cX11_through 10 = .ok (.invokevirtual 131, 3) := by decide +kernel
theorem dX11_through_13 : decode cX11_through 13 = .ok (.ireturn, 1) := by decide +kernel
theorem dX11_through_14 : decode cX11_through 14 = .ok (.aload_n 0, 1) := by decide +kernel
theorem dX11_through_15 : decode cX11_through 15 = .ok (.getfield 48, 3) := by decide +kernel
theorem dX11_through_18 : decode cX11_through 18 = .ok (.aload_n 0, 1) := by decide +kernel
theorem dX11_through_19 : decode cX11_through 19 = .ok (.getfield 10, 3) := by decide +kernel
theorem dX11_through_22 : decode cX11_through 22 = .ok (.getfield 111, 3) := by decide +kernel
theorem dX11_through_25 : decode cX11_through 25 = .ok (.invokevirtual 198, 3) := by decide +kernel
theorem dX11_through_28 : decode cX11_through 28 = .ok (.aload_n 0, 1) := by decide +kernel
theorem dX11_through_29 : decode cX11_through 29 = .ok (.getfield 48, 3) := by decide +kernel
theorem dX11_through_32 : decode cX11_through 32 = .ok (.getfield 201, 3) := by decide +kernel
theorem dX11_through_35 : decode cX11_through 35 = .ok (.iconst 1, 1) := by decide +kernel
theorem dX11_through_36 : decode cX11_through 36 = .ok (.if_icmp .eq 28, 3) := by decide +kernel
theorem dX11_through_39 : decode cX11_through 39 = .ok (.aload_n 0, 1) := by decide +kernel
theorem dX11_through_40 : decode cX11_through 40 = .ok (.bipush 10, 2) := by decide +kernel
theorem dX11_through_42 : decode cX11_through 42 = .ok (.aload_n 0, 1) := by decide +kernel
theorem dX11_through_43 : decode cX11_through 43 = .ok (.getfield 48, 3) := by decide +kernel
theorem dX11_through_46 : decode cX11_through 46 = .ok (.getfield 201, 3) := by decide +kernel
theorem dX11_through_49 : decode cX11_through 49 = .ok (.iconst 1, 1) := by decide +kernel
theorem dX11_through_50 : decode cX11_through 50 = .ok (.if_icmp .le 8, 3) := by decide +kernel
theorem dX11_through_53 : decode cX11_through 53 = .ok (.bipush 11, 2) := by decide +kernel
theorem dX11_through_55 : decode cX11_through 55 = .ok (.goto 5, 3) := by decide +kernel
theorem dX11_through_58 : decode cX11_through 58 = .ok (.bipush 12, 2) := by decide +kernel
theorem dX11_through_60 : decode cX11_through 60 = .ok (.invokevirtual 131, 3) := by decide +kernel
theorem dX11_through_63 : decode cX11_through 63 = .ok (.ireturn, 1) := by decide +kernel
theorem dX11_through_64 : decode cX11_through 64 = .ok (.aload_n 0, 1) := by decide +kernel
theorem dX11_through_65 : decode cX11_through 65 = .ok (.getfield 48, 3) := by decide +kernel
theorem dX11_through_68 : decode cX11_through 68 = .ok (.aload_n 0, 1) := by decide +kernel
theorem dX11_through_69 : decode cX11_through 69 = .ok (.getfield 65, 3) := by decide +kernel
theorem dX11_through_72 : decode cX11_through 72 = .ok (.invokevirtual 204, 3) := by decide +kernel
theorem dX11_through_75 : decode cX11_through 75 = .ok (.aload_n 0, 1) := by decide +kernel
theorem dX11_through_76 : decode cX11_through 76 = .ok (.iload_n 1, 1) := by decide +kernel
theorem dX11_through_77 : decode cX11_through 77 = .ok (.aload_n 0, 1) := by decide +kernel
theorem dX11_through_78 : decode cX11_through 78 = .ok (.getfield 65, 3) := by decide +kernel
theorem dX11_through_81 : decode cX11_through 81 = .ok (.invokevirtual 168, 3) := by decide +kernel
theorem dX11_through_84 : decode cX11_through 84 = .ok (.ireturn, 1) := by decide +kernel
theorem dX11_mark_0 : decode cX11_mark 0 = .ok (.aload_n 0, 1) := by decide +kernel
theorem dX11_mark_1 : decode cX11_mark 1 = .ok (.getfield 75, 3) := by decide +kernel
theorem dX11_mark_4 : decode cX11_mark 4 = .ok (.iload_n 1, 1) := by decide +kernel
theorem dX11_mark_5 : decode cX11_mark 5 = .ok (.aload_n 0, 1) := by decide +kernel
theorem dX11_mark_6 : decode cX11_mark 6 = .ok (.getfield 10, 3) := by decide +kernel
theorem dX11_mark_9 : decode cX11_mark 9 = .ok (.getfield 111, 3) := by decide +kernel
theorem dX11_mark_12 : decode cX11_mark 12 = .ok (.getfield 135, 3) := by decide +kernel
theorem dX11_mark_15 : decode cX11_mark 15 = .ok (.invokevirtual 207, 3) := by decide +kernel
theorem dX11_mark_18 : decode cX11_mark 18 = .ok (.ifCond .ne 10, 3) := by decide +kernel
theorem dX11_mark_21 : decode cX11_mark 21 = .ok (.aload_n 0, 1) := by decide +kernel
theorem dX11_mark_22 : decode cX11_mark 22 = .ok (.iconst 1, 1) := by decide +kernel
theorem dX11_mark_23 : decode cX11_mark 23 = .ok (.iconst 0, 1) := by decide +kernel
theorem dX11_mark_24 : decode cX11_mark 24 = .ok (.invokevirtual 131, 3) := by decide +kernel
theorem dX11_mark_27 : decode cX11_mark 27 = .ok (.ireturn, 1) := by decide +kernel
theorem dX11_mark_28 : decode cX11_mark 28 = .ok (.aload_n 0, 1) := by decide +kernel
theorem dX11_mark_29 : decode cX11_mark 29 = .ok (.getfield 10, 3) := by decide +kernel
theorem dX11_mark_32 : decode cX11_mark 32 = .ok (.getfield 111, 3) := by decide +kernel
theorem dX11_mark_35 : decode cX11_mark 35 = .ok (.iload_n 1, 1) := by decide +kernel
theorem dX11_mark_36 : decode cX11_mark 36 = .ok (.invokevirtual 210, 3) := by decide +kernel
theorem dX11_mark_39 : decode cX11_mark 39 = .ok (.iload_n 2, 1) := by decide +kernel
theorem dX11_mark_40 : decode cX11_mark 40 = .ok (.if_icmp .eq 10, 3) := by decide +kernel
theorem dX11_mark_43 : decode cX11_mark 43 = .ok (.aload_n 0, 1) := by decide +kernel
theorem dX11_mark_44 : decode cX11_mark 44 = .ok (.iconst 2, 1) := by decide +kernel
theorem dX11_mark_45 : decode cX11_mark 45 = .ok (.iconst 0, 1) := by decide +kernel
theorem dX11_mark_46 : decode cX11_mark 46 = .ok (.invokevirtual 131, 3) := by decide +kernel
theorem dX11_mark_49 : decode cX11_mark 49 = .ok (.ireturn, 1) := by decide +kernel
theorem dX11_mark_50 : decode cX11_mark 50 = .ok (.iload_n 2, 1) := by decide +kernel
theorem dX11_mark_51 : decode cX11_mark 51 = .ok (.ifCond .ne 25, 3) := by decide +kernel
theorem dX11_mark_54 : decode cX11_mark 54 = .ok (.aload_n 0, 1) := by decide +kernel
theorem dX11_mark_55 : decode cX11_mark 55 = .ok (.getfield 10, 3) := by decide +kernel
theorem dX11_mark_58 : decode cX11_mark 58 = .ok (.getfield 111, 3) := by decide +kernel
theorem dX11_mark_61 : decode cX11_mark 61 = .ok (.getfield 213, 3) := by decide +kernel
theorem dX11_mark_64 : decode cX11_mark 64 = .ok (.bipush 8, 2) := by decide +kernel
theorem dX11_mark_66 : decode cX11_mark 66 = .ok (.if_icmp .lt 10, 3) := by decide +kernel
theorem dX11_mark_69 : decode cX11_mark 69 = .ok (.aload_n 0, 1) := by decide +kernel
theorem dX11_mark_70 : decode cX11_mark 70 = .ok (.iconst 3, 1) := by decide +kernel
theorem dX11_mark_71 : decode cX11_mark 71 = .ok (.iconst 0, 1) := by decide +kernel
theorem dX11_mark_72 : decode cX11_mark 72 = .ok (.invokevirtual 131, 3) := by decide +kernel
theorem dX11_mark_75 : decode cX11_mark 75 = .ok (.ireturn, 1) := by decide +kernel
theorem dX11_mark_76 : decode cX11_mark 76 = .ok (.aload_n 0, 1) := by decide +kernel
theorem dX11_mark_77 : decode cX11_mark 77 = .ok (.getfield 19, 3) := by decide +kernel
theorem dX11_mark_80 : decode cX11_mark 80 = .ok (.aload_n 0, 1) := by decide +kernel
theorem dX11_mark_81 : decode cX11_mark 81 = .ok (.getfield 10, 3) := by decide +kernel
theorem dX11_mark_84 : decode cX11_mark 84 = .ok (.getfield 111, 3) := by decide +kernel
theorem dX11_mark_87 : decode cX11_mark 87 = .ok (.invokevirtual 138, 3) := by decide +kernel
theorem dX11_mark_90 : decode cX11_mark 90 = .ok (.iload_n 2, 1) := by decide +kernel
theorem dX11_mark_91 : decode cX11_mark 91 = .ok (.ifCond .eq 17, 3) := by decide +kernel
theorem dX11_mark_94 : decode cX11_mark 94 = .ok (.aload_n 0, 1) := by decide +kernel
theorem dX11_mark_95 : decode cX11_mark 95 = .ok (.getfield 10, 3) := by decide +kernel
theorem dX11_mark_98 : decode cX11_mark 98 = .ok (.getfield 111, 3) := by decide +kernel
theorem dX11_mark_101 : decode cX11_mark 101 = .ok (.iload_n 1, 1) := by decide +kernel
theorem dX11_mark_102 : decode cX11_mark 102 = .ok (.invokevirtual 216, 3) := by decide +kernel
theorem dX11_mark_105 : decode cX11_mark 105 = .ok (.goto 14, 3) := by decide +kernel
theorem dX11_mark_108 : decode cX11_mark 108 = .ok (.aload_n 0, 1) := by decide +kernel
theorem dX11_mark_109 : decode cX11_mark 109 = .ok (.getfield 10, 3) := by decide +kernel
theorem dX11_mark_112 : decode cX11_mark 112 = .ok (.getfield 111, 3) := by decide +kernel
theorem dX11_mark_115 : decode cX11_mark 115 = .ok (.iload_n 1, 1) := by decide +kernel
theorem dX11_mark_116 : decode cX11_mark 116 = .ok (.invokevirtual 219, 3) := by decide +kernel
theorem dX11_mark_119 : decode cX11_mark 119 = .ok (.aload_n 0, 1) := by decide +kernel
theorem dX11_mark_120 : decode cX11_mark 120 = .ok (.invokevirtual 144, 3) := by decide +kernel
theorem dX11_mark_123 : decode cX11_mark 123 = .ok (.ireturn, 1) := by decide +kernel
theorem dX11_why_0 : decode cX11_why 0 = .ok (.iload_n 1, 1) := by decide +kernel
theorem dX11_why_1 : decode cX11_why 1 = .ok (.ifCond .ne 11, 3) := by decide +kernel
theorem dX11_why_4 : decode cX11_why 4 = .ok (.aload_n 0, 1) := by decide +kernel
theorem dX11_why_5 : decode cX11_why 5 = .ok (.getfield 10, 3) := by decide +kernel
theorem dX11_why_8 : decode cX11_why 8 = .ok (.getfield 222, 3) := by decide +kernel
theorem dX11_why_11 : decode cX11_why 11 = .ok (.ireturn, 1) := by decide +kernel
theorem dX11_why_12 : decode cX11_why 12 = .ok (.iload_n 1, 1) := by decide +kernel
theorem dX11_why_13 : decode cX11_why 13 = .ok (.iconst 1, 1) := by decide +kernel
theorem dX11_why_14 : decode cX11_why 14 = .ok (.if_icmp .ne 13, 3) := by decide +kernel
theorem dX11_why_17 : decode cX11_why 17 = .ok (.aload_n 0, 1) := by decide +kernel
theorem dX11_why_18 : decode cX11_why 18 = .ok (.getfield 10, 3) := by decide +kernel
theorem dX11_why_21 : decode cX11_why 21 = .ok (.getfield 225, 3) := by decide +kernel
theorem dX11_why_24 : decode cX11_why 24 = .ok (.goto 4, 3) := by decide +kernel
theorem dX11_why_27 : decode cX11_why 27 = .ok (.iconst (-1), 1) := by decide +kernel
theorem dX11_why_28 : decode cX11_why 28 = .ok (.ireturn, 1) := by decide +kernel
theorem dX11_undo_0 : decode cX11_undo 0 = .ok (.aload_n 0, 1) := by decide +kernel
theorem dX11_undo_1 : decode cX11_undo 1 = .ok (.getfield 19, 3) := by decide +kernel
theorem dX11_undo_4 : decode cX11_undo 4 = .ok (.aload_n 0, 1) := by decide +kernel
theorem dX11_undo_5 : decode cX11_undo 5 = .ok (.getfield 10, 3) := by decide +kernel
theorem dX11_undo_8 : decode cX11_undo 8 = .ok (.getfield 111, 3) := by decide +kernel
theorem dX11_undo_11 : decode cX11_undo 11 = .ok (.invokevirtual 228, 3) := by decide +kernel
theorem dX11_undo_14 : decode cX11_undo 14 = .ok (.ifCond .eq 13, 3) := by decide +kernel
theorem dX11_undo_17 : decode cX11_undo 17 = .ok (.aload_n 0, 1) := by decide +kernel
theorem dX11_undo_18 : decode cX11_undo 18 = .ok (.getfield 19, 3) := by decide +kernel
theorem dX11_undo_21 : decode cX11_undo 21 = .ok (.getfield 232, 3) := by decide +kernel
theorem dX11_undo_24 : decode cX11_undo 24 = .ok (.goto 4, 3) := by decide +kernel
theorem dX11_undo_27 : decode cX11_undo 27 = .ok (.iconst (-1), 1) := by decide +kernel
theorem dX11_undo_28 : decode cX11_undo 28 = .ok (.ireturn, 1) := by decide +kernel
theorem dX11_count_0 : decode cX11_count 0 = .ok (.iload_n 1, 1) := by decide +kernel
theorem dX11_count_1 : decode cX11_count 1 = .ok (.tableswitch 134 0 7 #[47, 58, 72, 83, 105, 113, 124, 129], 47) := by decide +kernel
theorem dX11_count_48 : decode cX11_count 48 = .ok (.aload_n 0, 1) := by decide +kernel
theorem dX11_count_49 : decode cX11_count 49 = .ok (.getfield 10, 3) := by decide +kernel
theorem dX11_count_52 : decode cX11_count 52 = .ok (.getfield 111, 3) := by decide +kernel
theorem dX11_count_55 : decode cX11_count 55 = .ok (.getfield 135, 3) := by decide +kernel
theorem dX11_count_58 : decode cX11_count 58 = .ok (.ireturn, 1) := by decide +kernel
theorem dX11_count_59 : decode cX11_count 59 = .ok (.aload_n 0, 1) := by decide +kernel
theorem dX11_count_60 : decode cX11_count 60 = .ok (.getfield 10, 3) := by decide +kernel
theorem dX11_count_63 : decode cX11_count 63 = .ok (.getfield 111, 3) := by decide +kernel
theorem dX11_count_66 : decode cX11_count 66 = .ok (.getfield 135, 3) := by decide +kernel
theorem dX11_count_69 : decode cX11_count 69 = .ok (.invokestatic 235, 3) := by decide +kernel
theorem dX11_count_72 : decode cX11_count 72 = .ok (.ireturn, 1) := by decide +kernel
theorem dX11_count_73 : decode cX11_count 73 = .ok (.aload_n 0, 1) := by decide +kernel
theorem dX11_count_74 : decode cX11_count 74 = .ok (.getfield 10, 3) := by decide +kernel
theorem dX11_count_77 : decode cX11_count 77 = .ok (.getfield 111, 3) := by decide +kernel
theorem dX11_count_80 : decode cX11_count 80 = .ok (.getfield 213, 3) := by decide +kernel
theorem dX11_count_83 : decode cX11_count 83 = .ok (.ireturn, 1) := by decide +kernel
theorem dX11_count_84 : decode cX11_count 84 = .ok (.aload_n 0, 1) := by decide +kernel
theorem dX11_count_85 : decode cX11_count 85 = .ok (.getfield 48, 3) := by decide +kernel
theorem dX11_count_88 : decode cX11_count 88 = .ok (.aload_n 0, 1) := by decide +kernel
theorem dX11_count_89 : decode cX11_count 89 = .ok (.getfield 10, 3) := by decide +kernel
theorem dX11_count_92 : decode cX11_count 92 = .ok (.getfield 111, 3) := by decide +kernel
theorem dX11_count_95 : decode cX11_count 95 = .ok (.invokevirtual 198, 3) := by decide +kernel
theorem dX11_count_98 : decode cX11_count 98 = .ok (.aload_n 0, 1) := by decide +kernel
theorem dX11_count_99 : decode cX11_count 99 = .ok (.getfield 48, 3) := by decide +kernel
theorem dX11_count_102 : decode cX11_count 102 = .ok (.getfield 201, 3) := by decide +kernel
theorem dX11_count_105 : decode cX11_count 105 = .ok (.ireturn, 1) := by decide +kernel
theorem dX11_count_106 : decode cX11_count 106 = .ok (.aload_n 0, 1) := by decide +kernel
theorem dX11_count_107 : decode cX11_count 107 = .ok (.getfield 19, 3) := by decide +kernel
theorem dX11_count_110 : decode cX11_count 110 = .ok (.getfield 232, 3) := by decide +kernel
theorem dX11_count_113 : decode cX11_count 113 = .ok (.ireturn, 1) := by decide +kernel
theorem dX11_count_114 : decode cX11_count 114 = .ok (.aload_n 0, 1) := by decide +kernel
theorem dX11_count_115 : decode cX11_count 115 = .ok (.getfield 10, 3) := by decide +kernel
theorem dX11_count_118 : decode cX11_count 118 = .ok (.getfield 85, 3) := by decide +kernel
theorem dX11_count_121 : decode cX11_count 121 = .ok (.getfield 89, 3) := by decide +kernel
theorem dX11_count_124 : decode cX11_count 124 = .ok (.ireturn, 1) := by decide +kernel
theorem dX11_count_125 : decode cX11_count 125 = .ok (.aload_n 0, 1) := by decide +kernel
theorem dX11_count_126 : decode cX11_count 126 = .ok (.invokevirtual 240, 3) := by decide +kernel
theorem dX11_count_129 : decode cX11_count 129 = .ok (.ireturn, 1) := by decide +kernel
theorem dX11_count_130 : decode cX11_count 130 = .ok (.aload_n 0, 1) := by decide +kernel
theorem dX11_count_131 : decode cX11_count 131 = .ok (.invokevirtual 243, 3) := by decide +kernel
theorem dX11_count_134 : decode cX11_count 134 = .ok (.ireturn, 1) := by decide +kernel
theorem dX11_count_135 : decode cX11_count 135 = .ok (.iconst (-1), 1) := by decide +kernel
theorem dX11_count_136 : decode cX11_count 136 = .ok (.ireturn, 1) := by decide +kernel
theorem dX11_conic_0 : decode cX11_conic 0 = .ok (.iload_n 1, 1) := by decide +kernel
theorem dX11_conic_1 : decode cX11_conic 1 = .ok (.invokestatic 148, 3) := by decide +kernel
theorem dX11_conic_4 : decode cX11_conic 4 = .ok (.ifCond .ne 6, 3) := by decide +kernel
theorem dX11_conic_7 : decode cX11_conic 7 = .ok (.ldc 246, 2) := by decide +kernel
theorem dX11_conic_9 : decode cX11_conic 9 = .ok (.ireturn, 1) := by decide +kernel
theorem dX11_conic_10 : decode cX11_conic 10 = .ok (.aload_n 0, 1) := by decide +kernel
theorem dX11_conic_11 : decode cX11_conic 11 = .ok (.getfield 10, 3) := by decide +kernel
theorem dX11_conic_14 : decode cX11_conic 14 = .ok (.getfield 111, 3) := by decide +kernel
theorem dX11_conic_17 : decode cX11_conic 17 = .ok (.iload_n 1, 1) := by decide +kernel
theorem dX11_conic_18 : decode cX11_conic 18 = .ok (.aload_n 0, 1) := by decide +kernel
theorem dX11_conic_19 : decode cX11_conic 19 = .ok (.getfield 65, 3) := by decide +kernel
theorem dX11_conic_22 : decode cX11_conic 22 = .ok (.invokevirtual 157, 3) := by decide +kernel
theorem dX11_conic_25 : decode cX11_conic 25 = .ok (.aload_n 0, 1) := by decide +kernel
theorem dX11_conic_26 : decode cX11_conic 26 = .ok (.getfield 55, 3) := by decide +kernel
theorem dX11_conic_29 : decode cX11_conic 29 = .ok (.aload_n 0, 1) := by decide +kernel
theorem dX11_conic_30 : decode cX11_conic 30 = .ok (.getfield 10, 3) := by decide +kernel
theorem dX11_conic_33 : decode cX11_conic 33 = .ok (.getfield 111, 3) := by decide +kernel
theorem dX11_conic_36 : decode cX11_conic 36 = .ok (.iload_n 1, 1) := by decide +kernel
theorem dX11_conic_37 : decode cX11_conic 37 = .ok (.invokevirtual 176, 3) := by decide +kernel
theorem dX11_conic_40 : decode cX11_conic 40 = .ok (.iload_n 2, 1) := by decide +kernel
theorem dX11_conic_41 : decode cX11_conic 41 = .ok (.bipush 10, 2) := by decide +kernel
theorem dX11_conic_43 : decode cX11_conic 43 = .ok (.if_icmp .lt 25, 3) := by decide +kernel
theorem dX11_conic_46 : decode cX11_conic 46 = .ok (.iload_n 2, 1) := by decide +kernel
theorem dX11_conic_47 : decode cX11_conic 47 = .ok (.bipush 10, 2) := by decide +kernel
theorem dX11_conic_49 : decode cX11_conic 49 = .ok (.isub, 1) := by decide +kernel
theorem dX11_conic_50 : decode cX11_conic 50 = .ok (.invokestatic 151, 3) := by decide +kernel
theorem dX11_conic_53 : decode cX11_conic 53 = .ok (.ifCond .eq 15, 3) := by decide +kernel
theorem dX11_conic_56 : decode cX11_conic 56 = .ok (.aload_n 0, 1) := by decide +kernel
theorem dX11_conic_57 : decode cX11_conic 57 = .ok (.getfield 65, 3) := by decide +kernel
theorem dX11_conic_60 : decode cX11_conic 60 = .ok (.iload_n 2, 1) := by decide +kernel
theorem dX11_conic_61 : decode cX11_conic 61 = .ok (.bipush 10, 2) := by decide +kernel
theorem dX11_conic_63 : decode cX11_conic 63 = .ok (.isub, 1) := by decide +kernel
theorem dX11_conic_64 : decode cX11_conic 64 = .ok (.invokevirtual 160, 3) := by decide +kernel
theorem dX11_conic_67 : decode cX11_conic 67 = .ok (.ireturn, 1) := by decide +kernel
theorem dX11_conic_68 : decode cX11_conic 68 = .ok (.iload_n 2, 1) := by decide +kernel
theorem dX11_conic_69 : decode cX11_conic 69 = .ok (.bipush 20, 2) := by decide +kernel
theorem dX11_conic_71 : decode cX11_conic 71 = .ok (.if_icmp .lt 28, 3) := by decide +kernel
theorem dX11_conic_74 : decode cX11_conic 74 = .ok (.iload_n 2, 1) := by decide +kernel
theorem dX11_conic_75 : decode cX11_conic 75 = .ok (.bipush 20, 2) := by decide +kernel
theorem dX11_conic_77 : decode cX11_conic 77 = .ok (.isub, 1) := by decide +kernel
theorem dX11_conic_78 : decode cX11_conic 78 = .ok (.invokestatic 151, 3) := by decide +kernel
theorem dX11_conic_81 : decode cX11_conic 81 = .ok (.ifCond .eq 18, 3) := by decide +kernel
theorem dX11_conic_84 : decode cX11_conic 84 = .ok (.aload_n 0, 1) := by decide +kernel
theorem dX11_conic_85 : decode cX11_conic 85 = .ok (.getfield 55, 3) := by decide +kernel
theorem dX11_conic_88 : decode cX11_conic 88 = .ok (.getfield 187, 3) := by decide +kernel
theorem dX11_conic_91 : decode cX11_conic 91 = .ok (.iload_n 2, 1) := by decide +kernel
theorem dX11_conic_92 : decode cX11_conic 92 = .ok (.bipush 20, 2) := by decide +kernel
theorem dX11_conic_94 : decode cX11_conic 94 = .ok (.isub, 1) := by decide +kernel
theorem dX11_conic_95 : decode cX11_conic 95 = .ok (.invokevirtual 160, 3) := by decide +kernel
theorem dX11_conic_98 : decode cX11_conic 98 = .ok (.ireturn, 1) := by decide +kernel
theorem dX11_conic_99 : decode cX11_conic 99 = .ok (.iload_n 2, 1) := by decide +kernel
theorem dX11_conic_100 : decode cX11_conic 100 = .ok (.bipush 6, 2) := by decide +kernel
theorem dX11_conic_102 : decode cX11_conic 102 = .ok (.if_icmp .ge 11, 3) := by decide +kernel
theorem dX11_conic_105 : decode cX11_conic 105 = .ok (.aload_n 0, 1) := by decide +kernel
theorem dX11_conic_106 : decode cX11_conic 106 = .ok (.iload_n 2, 1) := by decide +kernel
theorem dX11_conic_107 : decode cX11_conic 107 = .ok (.invokevirtual 247, 3) := by decide +kernel
theorem dX11_conic_110 : decode cX11_conic 110 = .ok (.goto 8, 3) := by decide +kernel
theorem dX11_conic_113 : decode cX11_conic 113 = .ok (.aload_n 0, 1) := by decide +kernel
theorem dX11_conic_114 : decode cX11_conic 114 = .ok (.iload_n 2, 1) := by decide +kernel
theorem dX11_conic_115 : decode cX11_conic 115 = .ok (.invokevirtual 250, 3) := by decide +kernel
theorem dX11_conic_118 : decode cX11_conic 118 = .ok (.ireturn, 1) := by decide +kernel
theorem dX11_place_0 : decode cX11_place 0 = .ok (.iload_n 2, 1) := by decide +kernel
theorem dX11_place_1 : decode cX11_place 1 = .ok (.ifCond .lt 29, 3) := by decide +kernel
theorem dX11_place_4 : decode cX11_place 4 = .ok (.iload_n 2, 1) := by decide +kernel
theorem dX11_place_5 : decode cX11_place 5 = .ok (.iconst 2, 1) := by decide +kernel
theorem dX11_place_6 : decode cX11_place 6 = .ok (.if_icmp .gt 24, 3) := by decide +kernel
theorem dX11_place_9 : decode cX11_place 9 = .ok (.aload_n 0, 1) := by decide +kernel
theorem dX11_place_10 : decode cX11_place 10 = .ok (.getfield 75, 3) := by decide +kernel
theorem dX11_place_13 : decode cX11_place 13 = .ok (.iload_n 1, 1) := by decide +kernel
theorem dX11_place_14 : decode cX11_place 14 = .ok (.aload_n 0, 1) := by decide +kernel
theorem dX11_place_15 : decode cX11_place 15 = .ok (.getfield 10, 3) := by decide +kernel
theorem dX11_place_18 : decode cX11_place 18 = .ok (.getfield 111, 3) := by decide +kernel
theorem dX11_place_21 : decode cX11_place 21 = .ok (.getfield 135, 3) := by decide +kernel
theorem dX11_place_24 : decode cX11_place 24 = .ok (.invokevirtual 207, 3) := by decide +kernel
theorem dX11_place_27 : decode cX11_place 27 = .ok (.ifCond .ne 5, 3) := by decide +kernel
theorem dX11_place_30 : decode cX11_place 30 = .ok (.iconst (-1), 1) := by decide +kernel
theorem dX11_place_31 : decode cX11_place 31 = .ok (.ireturn, 1) := by decide +kernel
theorem dX11_place_32 : decode cX11_place 32 = .ok (.aload_n 0, 1) := by decide +kernel
theorem dX11_place_33 : decode cX11_place 33 = .ok (.getfield 75, 3) := by decide +kernel
theorem dX11_place_36 : decode cX11_place 36 = .ok (.iload_n 2, 1) := by decide +kernel
theorem dX11_place_37 : decode cX11_place 37 = .ok (.invokevirtual 253, 3) := by decide +kernel
theorem dX11_place_40 : decode cX11_place 40 = .ok (.ireturn, 1) := by decide +kernel
theorem dX11_number_0 : decode cX11_number 0 = .ok (.aload_n 0, 1) := by decide +kernel
theorem dX11_number_1 : decode cX11_number 1 = .ok (.getfield 75, 3) := by decide +kernel
theorem dX11_number_4 : decode cX11_number 4 = .ok (.iload_n 1, 1) := by decide +kernel
theorem dX11_number_5 : decode cX11_number 5 = .ok (.iload_n 2, 1) := by decide +kernel
theorem dX11_number_6 : decode cX11_number 6 = .ok (.iload_n 3, 1) := by decide +kernel
theorem dX11_number_7 : decode cX11_number 7 = .ok (.invokevirtual 254, 3) := by decide +kernel
theorem dX11_number_10 : decode cX11_number 10 = .ok (.aload_n 0, 1) := by decide +kernel
theorem dX11_number_11 : decode cX11_number 11 = .ok (.getfield 75, 3) := by decide +kernel
theorem dX11_number_14 : decode cX11_number 14 = .ok (.aload_n 0, 1) := by decide +kernel
theorem dX11_number_15 : decode cX11_number 15 = .ok (.getfield 10, 3) := by decide +kernel
theorem dX11_number_18 : decode cX11_number 18 = .ok (.getfield 111, 3) := by decide +kernel
theorem dX11_number_21 : decode cX11_number 21 = .ok (.getfield 135, 3) := by decide +kernel
theorem dX11_number_24 : decode cX11_number 24 = .ok (.invokevirtual 258, 3) := by decide +kernel
theorem dX11_number_27 : decode cX11_number 27 = .ok (.ireturn, 1) := by decide +kernel
theorem dX11_joined_0 : decode cX11_joined 0 = .ok (.aload_n 0, 1) := by decide +kernel
theorem dX11_joined_1 : decode cX11_joined 1 = .ok (.getfield 10, 3) := by decide +kernel
theorem dX11_joined_4 : decode cX11_joined 4 = .ok (.getfield 111, 3) := by decide +kernel
theorem dX11_joined_7 : decode cX11_joined 7 = .ok (.getfield 135, 3) := by decide +kernel
theorem dX11_joined_10 : decode cX11_joined 10 = .ok (.istore_n 3, 1) := by decide +kernel
theorem dX11_joined_11 : decode cX11_joined 11 = .ok (.aload_n 0, 1) := by decide +kernel
theorem dX11_joined_12 : decode cX11_joined 12 = .ok (.getfield 75, 3) := by decide +kernel
theorem dX11_joined_15 : decode cX11_joined 15 = .ok (.iload_n 1, 1) := by decide +kernel
theorem dX11_joined_16 : decode cX11_joined 16 = .ok (.iload_n 3, 1) := by decide +kernel
theorem dX11_joined_17 : decode cX11_joined 17 = .ok (.invokevirtual 207, 3) := by decide +kernel
theorem dX11_joined_20 : decode cX11_joined 20 = .ok (.ifCond .eq 15, 3) := by decide +kernel
theorem dX11_joined_23 : decode cX11_joined 23 = .ok (.aload_n 0, 1) := by decide +kernel
theorem dX11_joined_24 : decode cX11_joined 24 = .ok (.getfield 79, 3) := by decide +kernel
theorem dX11_joined_27 : decode cX11_joined 27 = .ok (.iload_n 2, 1) := by decide +kernel
theorem dX11_joined_28 : decode cX11_joined 28 = .ok (.iload_n 3, 1) := by decide +kernel
theorem dX11_joined_29 : decode cX11_joined 29 = .ok (.invokevirtual 207, 3) := by decide +kernel
theorem dX11_joined_32 : decode cX11_joined 32 = .ok (.ifCond .ne 5, 3) := by decide +kernel
theorem dX11_joined_35 : decode cX11_joined 35 = .ok (.iconst (-1), 1) := by decide +kernel
theorem dX11_joined_36 : decode cX11_joined 36 = .ok (.ireturn, 1) := by decide +kernel
theorem dX11_joined_37 : decode cX11_joined 37 = .ok (.aload_n 0, 1) := by decide +kernel
theorem dX11_joined_38 : decode cX11_joined 38 = .ok (.getfield 82, 3) := by decide +kernel
theorem dX11_joined_41 : decode cX11_joined 41 = .ok (.aload_n 0, 1) := by decide +kernel
theorem dX11_joined_42 : decode cX11_joined 42 = .ok (.getfield 75, 3) := by decide +kernel
theorem dX11_joined_45 : decode cX11_joined 45 = .ok (.aload_n 0, 1) := by decide +kernel
theorem dX11_joined_46 : decode cX11_joined 46 = .ok (.getfield 79, 3) := by decide +kernel
theorem dX11_joined_49 : decode cX11_joined 49 = .ok (.invokevirtual 261, 3) := by decide +kernel
theorem dX11_joined_52 : decode cX11_joined 52 = .ok (.aload_n 0, 1) := by decide +kernel
theorem dX11_joined_53 : decode cX11_joined 53 = .ok (.getfield 82, 3) := by decide +kernel
theorem dX11_joined_56 : decode cX11_joined 56 = .ok (.iload_n 3, 1) := by decide +kernel
theorem dX11_joined_57 : decode cX11_joined 57 = .ok (.invokevirtual 258, 3) := by decide +kernel
theorem dX11_joined_60 : decode cX11_joined 60 = .ok (.ireturn, 1) := by decide +kernel
theorem dX11_marked_0 : decode cX11_marked 0 = .ok (.aload_n 0, 1) := by decide +kernel
theorem dX11_marked_1 : decode cX11_marked 1 = .ok (.getfield 10, 3) := by decide +kernel
theorem dX11_marked_4 : decode cX11_marked 4 = .ok (.getfield 111, 3) := by decide +kernel
theorem dX11_marked_7 : decode cX11_marked 7 = .ok (.iload_n 1, 1) := by decide +kernel
theorem dX11_marked_8 : decode cX11_marked 8 = .ok (.invokevirtual 265, 3) := by decide +kernel
theorem dX11_marked_11 : decode cX11_marked 11 = .ok (.ireturn, 1) := by decide +kernel
theorem dX11_lies_0 : decode cX11_lies 0 = .ok (.aload_n 0, 1) := by decide +kernel
theorem dX11_lies_1 : decode cX11_lies 1 = .ok (.iload_n 1, 1) := by decide +kernel
theorem dX11_lies_2 : decode cX11_lies 2 = .ok (.iload_n 2, 1) := by decide +kernel
theorem dX11_lies_3 : decode cX11_lies 3 = .ok (.invokevirtual 268, 3) := by decide +kernel
theorem dX11_lies_6 : decode cX11_lies 6 = .ok (.ifCond .ne 5, 3) := by decide +kernel
theorem dX11_lies_9 : decode cX11_lies 9 = .ok (.iconst (-1), 1) := by decide +kernel
theorem dX11_lies_10 : decode cX11_lies 10 = .ok (.ireturn, 1) := by decide +kernel
theorem dX11_lies_11 : decode cX11_lies 11 = .ok (.aload_n 0, 1) := by decide +kernel
theorem dX11_lies_12 : decode cX11_lies 12 = .ok (.getfield 55, 3) := by decide +kernel
theorem dX11_lies_15 : decode cX11_lies 15 = .ok (.aload_n 0, 1) := by decide +kernel
theorem dX11_lies_16 : decode cX11_lies 16 = .ok (.getfield 75, 3) := by decide +kernel
theorem dX11_lies_19 : decode cX11_lies 19 = .ok (.invokevirtual 271, 3) := by decide +kernel
theorem dX11_lies_22 : decode cX11_lies 22 = .ok (.ifCond .ne 5, 3) := by decide +kernel
theorem dX11_lies_25 : decode cX11_lies 25 = .ok (.iconst 0, 1) := by decide +kernel
theorem dX11_lies_26 : decode cX11_lies 26 = .ok (.ireturn, 1) := by decide +kernel
theorem dX11_lies_27 : decode cX11_lies 27 = .ok (.aload_n 0, 1) := by decide +kernel
theorem dX11_lies_28 : decode cX11_lies 28 = .ok (.getfield 55, 3) := by decide +kernel
theorem dX11_lies_31 : decode cX11_lies 31 = .ok (.invokevirtual 180, 3) := by decide +kernel
theorem dX11_lies_34 : decode cX11_lies 34 = .ok (.iconst 4, 1) := by decide +kernel
theorem dX11_lies_35 : decode cX11_lies 35 = .ok (.if_icmp .eq 5, 3) := by decide +kernel
theorem dX11_lies_38 : decode cX11_lies 38 = .ok (.iconst 3, 1) := by decide +kernel
theorem dX11_lies_39 : decode cX11_lies 39 = .ok (.ireturn, 1) := by decide +kernel
theorem dX11_lies_40 : decode cX11_lies 40 = .ok (.aload_n 0, 1) := by decide +kernel
theorem dX11_lies_41 : decode cX11_lies 41 = .ok (.invokevirtual 275, 3) := by decide +kernel
theorem dX11_lies_44 : decode cX11_lies 44 = .ok (.ifCond .le 7, 3) := by decide +kernel
theorem dX11_lies_47 : decode cX11_lies 47 = .ok (.iconst 1, 1) := by decide +kernel
theorem dX11_lies_48 : decode cX11_lies 48 = .ok (.goto 4, 3) := by decide +kernel
theorem dX11_lies_51 : decode cX11_lies 51 = .ok (.iconst 2, 1) := by decide +kernel
theorem dX11_lies_52 : decode cX11_lies 52 = .ok (.ireturn, 1) := by decide +kernel
theorem dX11_on_0 : decode cX11_on 0 = .ok (.iload_n 1, 1) := by decide +kernel
theorem dX11_on_1 : decode cX11_on 1 = .ok (.invokestatic 148, 3) := by decide +kernel
theorem dX11_on_4 : decode cX11_on 4 = .ok (.ifCond .eq 7, 3) := by decide +kernel
theorem dX11_on_7 : decode cX11_on 7 = .ok (.iload_n 2, 1) := by decide +kernel
theorem dX11_on_8 : decode cX11_on 8 = .ok (.ifCond .ge 5, 3) := by decide +kernel
theorem dX11_on_11 : decode cX11_on 11 = .ok (.iconst (-1), 1) := by decide +kernel
theorem dX11_on_12 : decode cX11_on 12 = .ok (.ireturn, 1) := by decide +kernel
theorem dX11_on_13 : decode cX11_on 13 = .ok (.aload_n 0, 1) := by decide +kernel
theorem dX11_on_14 : decode cX11_on 14 = .ok (.getfield 55, 3) := by decide +kernel
theorem dX11_on_17 : decode cX11_on 17 = .ok (.aload_n 0, 1) := by decide +kernel
theorem dX11_on_18 : decode cX11_on 18 = .ok (.getfield 10, 3) := by decide +kernel
theorem dX11_on_21 : decode cX11_on 21 = .ok (.getfield 111, 3) := by decide +kernel
theorem dX11_on_24 : decode cX11_on 24 = .ok (.iload_n 1, 1) := by decide +kernel
theorem dX11_on_25 : decode cX11_on 25 = .ok (.invokevirtual 176, 3) := by decide +kernel
theorem dX11_on_28 : decode cX11_on 28 = .ok (.iload_n 3, 1) := by decide +kernel
theorem dX11_on_29 : decode cX11_on 29 = .ok (.ifCond .eq 11, 3) := by decide +kernel
theorem dX11_on_32 : decode cX11_on 32 = .ok (.aload_n 0, 1) := by decide +kernel
theorem dX11_on_33 : decode cX11_on 33 = .ok (.iload_n 2, 1) := by decide +kernel
theorem dX11_on_34 : decode cX11_on 34 = .ok (.invokevirtual 278, 3) := by decide +kernel
theorem dX11_on_37 : decode cX11_on 37 = .ok (.goto 8, 3) := by decide +kernel
theorem dX11_on_40 : decode cX11_on 40 = .ok (.aload_n 0, 1) := by decide +kernel
theorem dX11_on_41 : decode cX11_on 41 = .ok (.iload_n 2, 1) := by decide +kernel
theorem dX11_on_42 : decode cX11_on 42 = .ok (.invokevirtual 281, 3) := by decide +kernel
theorem dX11_on_45 : decode cX11_on 45 = .ok (.ireturn, 1) := by decide +kernel
theorem dX11_polar_0 : decode cX11_polar 0 = .ok (.aload_n 0, 1) := by decide +kernel
theorem dX11_polar_1 : decode cX11_polar 1 = .ok (.iload_n 1, 1) := by decide +kernel
theorem dX11_polar_2 : decode cX11_polar 2 = .ok (.iload_n 2, 1) := by decide +kernel
theorem dX11_polar_3 : decode cX11_polar 3 = .ok (.invokevirtual 268, 3) := by decide +kernel
theorem dX11_polar_6 : decode cX11_polar 6 = .ok (.ifCond .ne 5, 3) := by decide +kernel
theorem dX11_polar_9 : decode cX11_polar 9 = .ok (.iconst (-1), 1) := by decide +kernel
theorem dX11_polar_10 : decode cX11_polar 10 = .ok (.ireturn, 1) := by decide +kernel
theorem dX11_polar_11 : decode cX11_polar 11 = .ok (.aload_n 0, 1) := by decide +kernel
theorem dX11_polar_12 : decode cX11_polar 12 = .ok (.getfield 55, 3) := by decide +kernel
theorem dX11_polar_15 : decode cX11_polar 15 = .ok (.aload_n 0, 1) := by decide +kernel
theorem dX11_polar_16 : decode cX11_polar 16 = .ok (.getfield 75, 3) := by decide +kernel
theorem dX11_polar_19 : decode cX11_polar 19 = .ok (.aload_n 0, 1) := by decide +kernel
theorem dX11_polar_20 : decode cX11_polar 20 = .ok (.getfield 82, 3) := by decide +kernel
theorem dX11_polar_23 : decode cX11_polar 23 = .ok (.invokevirtual 284, 3) := by decide +kernel
theorem dX11_polar_26 : decode cX11_polar 26 = .ok (.aload_n 0, 1) := by decide +kernel
theorem dX11_polar_27 : decode cX11_polar 27 = .ok (.getfield 82, 3) := by decide +kernel
theorem dX11_polar_30 : decode cX11_polar 30 = .ok (.aload_n 0, 1) := by decide +kernel
theorem dX11_polar_31 : decode cX11_polar 31 = .ok (.getfield 10, 3) := by decide +kernel
theorem dX11_polar_34 : decode cX11_polar 34 = .ok (.getfield 111, 3) := by decide +kernel
theorem dX11_polar_37 : decode cX11_polar 37 = .ok (.getfield 135, 3) := by decide +kernel
theorem dX11_polar_40 : decode cX11_polar 40 = .ok (.invokevirtual 258, 3) := by decide +kernel
theorem dX11_polar_43 : decode cX11_polar 43 = .ok (.ireturn, 1) := by decide +kernel
theorem dX11_pole_0 : decode cX11_pole 0 = .ok (.aload_n 0, 1) := by decide +kernel
theorem dX11_pole_1 : decode cX11_pole 1 = .ok (.iload_n 1, 1) := by decide +kernel
theorem dX11_pole_2 : decode cX11_pole 2 = .ok (.iload_n 2, 1) := by decide +kernel
theorem dX11_pole_3 : decode cX11_pole 3 = .ok (.invokevirtual 268, 3) := by decide +kernel
theorem dX11_pole_6 : decode cX11_pole 6 = .ok (.ifCond .eq 14, 3) := by decide +kernel
theorem dX11_pole_9 : decode cX11_pole 9 = .ok (.aload_n 0, 1) := by decide +kernel
theorem dX11_pole_10 : decode cX11_pole 10 = .ok (.getfield 55, 3) := by decide +kernel
theorem dX11_pole_13 : decode cX11_pole 13 = .ok (.invokevirtual 180, 3) := by decide +kernel
theorem dX11_pole_16 : decode cX11_pole 16 = .ok (.iconst 4, 1) := by decide +kernel
theorem dX11_pole_17 : decode cX11_pole 17 = .ok (.if_icmp .eq 5, 3) := by decide +kernel
theorem dX11_pole_20 : decode cX11_pole 20 = .ok (.iconst (-1), 1) := by decide +kernel
theorem dX11_pole_21 : decode cX11_pole 21 = .ok (.ireturn, 1) := by decide +kernel
theorem dX11_pole_22 : decode cX11_pole 22 = .ok (.aload_n 0, 1) := by decide +kernel
theorem dX11_pole_23 : decode cX11_pole 23 = .ok (.getfield 59, 3) := by decide +kernel
theorem dX11_pole_26 : decode cX11_pole 26 = .ok (.aload_n 0, 1) := by decide +kernel
theorem dX11_pole_27 : decode cX11_pole 27 = .ok (.getfield 55, 3) := by decide +kernel
theorem dX11_pole_30 : decode cX11_pole 30 = .ok (.invokevirtual 183, 3) := by decide +kernel
theorem dX11_pole_33 : decode cX11_pole 33 = .ok (.aload_n 0, 1) := by decide +kernel
theorem dX11_pole_34 : decode cX11_pole 34 = .ok (.getfield 59, 3) := by decide +kernel
theorem dX11_pole_37 : decode cX11_pole 37 = .ok (.aload_n 0, 1) := by decide +kernel
theorem dX11_pole_38 : decode cX11_pole 38 = .ok (.getfield 75, 3) := by decide +kernel
theorem dX11_pole_41 : decode cX11_pole 41 = .ok (.aload_n 0, 1) := by decide +kernel
theorem dX11_pole_42 : decode cX11_pole 42 = .ok (.getfield 79, 3) := by decide +kernel
theorem dX11_pole_45 : decode cX11_pole 45 = .ok (.invokevirtual 284, 3) := by decide +kernel
theorem dX11_pole_48 : decode cX11_pole 48 = .ok (.aload_n 0, 1) := by decide +kernel
theorem dX11_pole_49 : decode cX11_pole 49 = .ok (.getfield 79, 3) := by decide +kernel
theorem dX11_pole_52 : decode cX11_pole 52 = .ok (.aload_n 0, 1) := by decide +kernel
theorem dX11_pole_53 : decode cX11_pole 53 = .ok (.getfield 10, 3) := by decide +kernel
theorem dX11_pole_56 : decode cX11_pole 56 = .ok (.getfield 111, 3) := by decide +kernel
theorem dX11_pole_59 : decode cX11_pole 59 = .ok (.getfield 135, 3) := by decide +kernel
theorem dX11_pole_62 : decode cX11_pole 62 = .ok (.invokevirtual 258, 3) := by decide +kernel
theorem dX11_pole_65 : decode cX11_pole 65 = .ok (.ireturn, 1) := by decide +kernel
theorem dX11_meets_0 : decode cX11_meets 0 = .ok (.aload_n 0, 1) := by decide +kernel
theorem dX11_meets_1 : decode cX11_meets 1 = .ok (.iload_n 1, 1) := by decide +kernel
theorem dX11_meets_2 : decode cX11_meets 2 = .ok (.iload_n 2, 1) := by decide +kernel
theorem dX11_meets_3 : decode cX11_meets 3 = .ok (.invokevirtual 268, 3) := by decide +kernel
theorem dX11_meets_6 : decode cX11_meets 6 = .ok (.ifCond .ne 5, 3) := by decide +kernel
theorem dX11_meets_9 : decode cX11_meets 9 = .ok (.iconst (-1), 1) := by decide +kernel
theorem dX11_meets_10 : decode cX11_meets 10 = .ok (.ireturn, 1) := by decide +kernel
theorem dX11_meets_11 : decode cX11_meets 11 = .ok (.aload_n 0, 1) := by decide +kernel
theorem dX11_meets_12 : decode cX11_meets 12 = .ok (.getfield 55, 3) := by decide +kernel
theorem dX11_meets_15 : decode cX11_meets 15 = .ok (.aload_n 0, 1) := by decide +kernel
theorem dX11_meets_16 : decode cX11_meets 16 = .ok (.getfield 75, 3) := by decide +kernel
theorem dX11_meets_19 : decode cX11_meets 19 = .ok (.invokevirtual 287, 3) := by decide +kernel
theorem dX11_meets_22 : decode cX11_meets 22 = .ok (.ireturn, 1) := by decide +kernel
theorem dX11_tangent_0 : decode cX11_tangent 0 = .ok (.iload_n 3, 1) := by decide +kernel
theorem dX11_tangent_1 : decode cX11_tangent 1 = .ok (.iconst (-1), 1) := by decide +kernel
theorem dX11_tangent_2 : decode cX11_tangent 2 = .ok (.if_icmp .lt 23, 3) := by decide +kernel
theorem dX11_tangent_5 : decode cX11_tangent 5 = .ok (.aload_n 0, 1) := by decide +kernel
theorem dX11_tangent_6 : decode cX11_tangent 6 = .ok (.iload_n 1, 1) := by decide +kernel
theorem dX11_tangent_7 : decode cX11_tangent 7 = .ok (.iload_n 2, 1) := by decide +kernel
theorem dX11_tangent_8 : decode cX11_tangent 8 = .ok (.invokevirtual 268, 3) := by decide +kernel
theorem dX11_tangent_11 : decode cX11_tangent 11 = .ok (.ifCond .eq 14, 3) := by decide +kernel
theorem dX11_tangent_14 : decode cX11_tangent 14 = .ok (.aload_n 0, 1) := by decide +kernel
theorem dX11_tangent_15 : decode cX11_tangent 15 = .ok (.getfield 55, 3) := by decide +kernel
theorem dX11_tangent_18 : decode cX11_tangent 18 = .ok (.invokevirtual 180, 3) := by decide +kernel
theorem dX11_tangent_21 : decode cX11_tangent 21 = .ok (.iconst 4, 1) := by decide +kernel
theorem dX11_tangent_22 : decode cX11_tangent 22 = .ok (.if_icmp .eq 5, 3) := by decide +kernel
theorem dX11_tangent_25 : decode cX11_tangent 25 = .ok (.iconst (-1), 1) := by decide +kernel
theorem dX11_tangent_26 : decode cX11_tangent 26 = .ok (.ireturn, 1) := by decide +kernel
theorem dX11_tangent_27 : decode cX11_tangent 27 = .ok (.iload_n 3, 1) := by decide +kernel
theorem dX11_tangent_28 : decode cX11_tangent 28 = .ok (.iconst (-1), 1) := by decide +kernel
theorem dX11_tangent_29 : decode cX11_tangent 29 = .ok (.if_icmp .ne 10, 3) := by decide +kernel
theorem dX11_tangent_32 : decode cX11_tangent 32 = .ok (.aload_n 0, 1) := by decide +kernel
theorem dX11_tangent_33 : decode cX11_tangent 33 = .ok (.invokevirtual 275, 3) := by decide +kernel
theorem dX11_tangent_36 : decode cX11_tangent 36 = .ok (.goto 8, 3) := by decide +kernel
theorem dX11_tangent_39 : decode cX11_tangent 39 = .ok (.aload_n 0, 1) := by decide +kernel
theorem dX11_tangent_40 : decode cX11_tangent 40 = .ok (.iload_n 3, 1) := by decide +kernel
theorem dX11_tangent_41 : decode cX11_tangent 41 = .ok (.invokevirtual 290, 3) := by decide +kernel
theorem dX11_tangent_44 : decode cX11_tangent 44 = .ok (.ireturn, 1) := by decide +kernel
theorem dX11_pencil_0 : decode cX11_pencil 0 = .ok (.aload_n 0, 1) := by decide +kernel
theorem dX11_pencil_1 : decode cX11_pencil 1 = .ok (.iload_n 1, 1) := by decide +kernel
theorem dX11_pencil_2 : decode cX11_pencil 2 = .ok (.iload_n 2, 1) := by decide +kernel
theorem dX11_pencil_3 : decode cX11_pencil 3 = .ok (.invokevirtual 293, 3) := by decide +kernel
theorem dX11_pencil_6 : decode cX11_pencil 6 = .ok (.ifCond .ne 5, 3) := by decide +kernel
theorem dX11_pencil_9 : decode cX11_pencil 9 = .ok (.iconst (-1), 1) := by decide +kernel
theorem dX11_pencil_10 : decode cX11_pencil 10 = .ok (.ireturn, 1) := by decide +kernel
theorem dX11_pencil_11 : decode cX11_pencil 11 = .ok (.iload_n 3, 1) := by decide +kernel
theorem dX11_pencil_12 : decode cX11_pencil 12 = .ok (.sipush 3000, 3) := by decide +kernel
theorem dX11_pencil_15 : decode cX11_pencil 15 = .ok (.if_icmp .lt 33, 3) := by decide +kernel
theorem dX11_pencil_18 : decode cX11_pencil 18 = .ok (.aload_n 0, 1) := by decide +kernel
theorem dX11_pencil_19 : decode cX11_pencil 19 = .ok (.getfield 41, 3) := by decide +kernel
theorem dX11_pencil_22 : decode cX11_pencil 22 = .ok (.iload_n 3, 1) := by decide +kernel
theorem dX11_pencil_23 : decode cX11_pencil 23 = .ok (.sipush 3000, 3) := by decide +kernel
theorem dX11_pencil_26 : decode cX11_pencil 26 = .ok (.isub, 1) := by decide +kernel
theorem dX11_pencil_27 : decode cX11_pencil 27 = .ok (.invokevirtual 296, 3) := by decide +kernel
theorem dX11_pencil_30 : decode cX11_pencil 30 = .ok (.ifCond .eq 16, 3) := by decide +kernel
theorem dX11_pencil_33 : decode cX11_pencil 33 = .ok (.aload_n 0, 1) := by decide +kernel
theorem dX11_pencil_34 : decode cX11_pencil 34 = .ok (.getfield 41, 3) := by decide +kernel
theorem dX11_pencil_37 : decode cX11_pencil 37 = .ok (.getfield 299, 3) := by decide +kernel
theorem dX11_pencil_40 : decode cX11_pencil 40 = .ok (.invokevirtual 302, 3) := by decide +kernel
theorem dX11_pencil_43 : decode cX11_pencil 43 = .ok (.goto 4, 3) := by decide +kernel
theorem dX11_pencil_46 : decode cX11_pencil 46 = .ok (.iconst (-1), 1) := by decide +kernel
theorem dX11_pencil_47 : decode cX11_pencil 47 = .ok (.ireturn, 1) := by decide +kernel
theorem dX11_pencil_48 : decode cX11_pencil 48 = .ok (.iload_n 3, 1) := by decide +kernel
theorem dX11_pencil_49 : decode cX11_pencil 49 = .ok (.sipush 2000, 3) := by decide +kernel
theorem dX11_pencil_52 : decode cX11_pencil 52 = .ok (.if_icmp .lt 33, 3) := by decide +kernel
theorem dX11_pencil_55 : decode cX11_pencil 55 = .ok (.aload_n 0, 1) := by decide +kernel
theorem dX11_pencil_56 : decode cX11_pencil 56 = .ok (.getfield 41, 3) := by decide +kernel
theorem dX11_pencil_59 : decode cX11_pencil 59 = .ok (.iload_n 3, 1) := by decide +kernel
theorem dX11_pencil_60 : decode cX11_pencil 60 = .ok (.sipush 2000, 3) := by decide +kernel
theorem dX11_pencil_63 : decode cX11_pencil 63 = .ok (.isub, 1) := by decide +kernel
theorem dX11_pencil_64 : decode cX11_pencil 64 = .ok (.invokevirtual 296, 3) := by decide +kernel
theorem dX11_pencil_67 : decode cX11_pencil 67 = .ok (.ifCond .eq 16, 3) := by decide +kernel
theorem dX11_pencil_70 : decode cX11_pencil 70 = .ok (.aload_n 0, 1) := by decide +kernel
theorem dX11_pencil_71 : decode cX11_pencil 71 = .ok (.getfield 41, 3) := by decide +kernel
theorem dX11_pencil_74 : decode cX11_pencil 74 = .ok (.getfield 299, 3) := by decide +kernel
theorem dX11_pencil_77 : decode cX11_pencil 77 = .ok (.invokevirtual 305, 3) := by decide +kernel
theorem dX11_pencil_80 : decode cX11_pencil 80 = .ok (.goto 4, 3) := by decide +kernel
theorem dX11_pencil_83 : decode cX11_pencil 83 = .ok (.iconst (-1), 1) := by decide +kernel
theorem dX11_pencil_84 : decode cX11_pencil 84 = .ok (.ireturn, 1) := by decide +kernel
theorem dX11_pencil_85 : decode cX11_pencil 85 = .ok (.iload_n 3, 1) := by decide +kernel
theorem dX11_pencil_86 : decode cX11_pencil 86 = .ok (.sipush 1000, 3) := by decide +kernel
theorem dX11_pencil_89 : decode cX11_pencil 89 = .ok (.if_icmp .lt 33, 3) := by decide +kernel
theorem dX11_pencil_92 : decode cX11_pencil 92 = .ok (.aload_n 0, 1) := by decide +kernel
theorem dX11_pencil_93 : decode cX11_pencil 93 = .ok (.getfield 41, 3) := by decide +kernel
theorem dX11_pencil_96 : decode cX11_pencil 96 = .ok (.iload_n 3, 1) := by decide +kernel
theorem dX11_pencil_97 : decode cX11_pencil 97 = .ok (.sipush 1000, 3) := by decide +kernel
theorem dX11_pencil_100 : decode cX11_pencil 100 = .ok (.isub, 1) := by decide +kernel
theorem dX11_pencil_101 : decode cX11_pencil 101 = .ok (.invokevirtual 296, 3) := by decide +kernel
theorem dX11_pencil_104 : decode cX11_pencil 104 = .ok (.ifCond .eq 16, 3) := by decide +kernel
theorem dX11_pencil_107 : decode cX11_pencil 107 = .ok (.aload_n 0, 1) := by decide +kernel
theorem dX11_pencil_108 : decode cX11_pencil 108 = .ok (.getfield 41, 3) := by decide +kernel
theorem dX11_pencil_111 : decode cX11_pencil 111 = .ok (.getfield 299, 3) := by decide +kernel
theorem dX11_pencil_114 : decode cX11_pencil 114 = .ok (.invokevirtual 180, 3) := by decide +kernel
theorem dX11_pencil_117 : decode cX11_pencil 117 = .ok (.goto 4, 3) := by decide +kernel
theorem dX11_pencil_120 : decode cX11_pencil 120 = .ok (.iconst (-1), 1) := by decide +kernel
theorem dX11_pencil_121 : decode cX11_pencil 121 = .ok (.ireturn, 1) := by decide +kernel
theorem dX11_pencil_122 : decode cX11_pencil 122 = .ok (.iload_n 3, 1) := by decide +kernel
theorem dX11_pencil_123 : decode cX11_pencil 123 = .ok (.bipush 100, 2) := by decide +kernel
theorem dX11_pencil_125 : decode cX11_pencil 125 = .ok (.if_icmp .lt 15, 3) := by decide +kernel
theorem dX11_pencil_128 : decode cX11_pencil 128 = .ok (.aload_n 0, 1) := by decide +kernel
theorem dX11_pencil_129 : decode cX11_pencil 129 = .ok (.getfield 41, 3) := by decide +kernel
theorem dX11_pencil_132 : decode cX11_pencil 132 = .ok (.iload_n 3, 1) := by decide +kernel
theorem dX11_pencil_133 : decode cX11_pencil 133 = .ok (.bipush 100, 2) := by decide +kernel
theorem dX11_pencil_135 : decode cX11_pencil 135 = .ok (.isub, 1) := by decide +kernel
theorem dX11_pencil_136 : decode cX11_pencil 136 = .ok (.invokevirtual 307, 3) := by decide +kernel
theorem dX11_pencil_139 : decode cX11_pencil 139 = .ok (.ireturn, 1) := by decide +kernel
theorem dX11_pencil_140 : decode cX11_pencil 140 = .ok (.iload_n 3, 1) := by decide +kernel
theorem dX11_pencil_141 : decode cX11_pencil 141 = .ok (.tableswitch 51 0 2 #[27, 35, 43], 27) := by decide +kernel
theorem dX11_pencil_168 : decode cX11_pencil 168 = .ok (.aload_n 0, 1) := by decide +kernel
theorem dX11_pencil_169 : decode cX11_pencil 169 = .ok (.getfield 41, 3) := by decide +kernel
theorem dX11_pencil_172 : decode cX11_pencil 172 = .ok (.invokevirtual 310, 3) := by decide +kernel
theorem dX11_pencil_175 : decode cX11_pencil 175 = .ok (.ireturn, 1) := by decide +kernel
theorem dX11_pencil_176 : decode cX11_pencil 176 = .ok (.aload_n 0, 1) := by decide +kernel
theorem dX11_pencil_177 : decode cX11_pencil 177 = .ok (.getfield 41, 3) := by decide +kernel
theorem dX11_pencil_180 : decode cX11_pencil 180 = .ok (.invokevirtual 313, 3) := by decide +kernel
theorem dX11_pencil_183 : decode cX11_pencil 183 = .ok (.ireturn, 1) := by decide +kernel
theorem dX11_pencil_184 : decode cX11_pencil 184 = .ok (.aload_n 0, 1) := by decide +kernel
theorem dX11_pencil_185 : decode cX11_pencil 185 = .ok (.getfield 41, 3) := by decide +kernel
theorem dX11_pencil_188 : decode cX11_pencil 188 = .ok (.invokevirtual 316, 3) := by decide +kernel
theorem dX11_pencil_191 : decode cX11_pencil 191 = .ok (.ireturn, 1) := by decide +kernel
theorem dX11_pencil_192 : decode cX11_pencil 192 = .ok (.iconst (-1), 1) := by decide +kernel
theorem dX11_pencil_193 : decode cX11_pencil 193 = .ok (.ireturn, 1) := by decide +kernel
theorem dX11_member_0 : decode cX11_member 0 = .ok (.iload 4, 2) := by decide +kernel
theorem dX11_member_2 : decode cX11_member 2 = .ok (.invokestatic 151, 3) := by decide +kernel
theorem dX11_member_5 : decode cX11_member 5 = .ok (.ifCond .eq 23, 3) := by decide +kernel
theorem dX11_member_8 : decode cX11_member 8 = .ok (.aload_n 0, 1) := by decide +kernel
theorem dX11_member_9 : decode cX11_member 9 = .ok (.iload_n 1, 1) := by decide +kernel
theorem dX11_member_10 : decode cX11_member 10 = .ok (.iload_n 2, 1) := by decide +kernel
theorem dX11_member_11 : decode cX11_member 11 = .ok (.invokevirtual 293, 3) := by decide +kernel
theorem dX11_member_14 : decode cX11_member 14 = .ok (.ifCond .eq 14, 3) := by decide +kernel
theorem dX11_member_17 : decode cX11_member 17 = .ok (.aload_n 0, 1) := by decide +kernel
theorem dX11_member_18 : decode cX11_member 18 = .ok (.getfield 41, 3) := by decide +kernel
theorem dX11_member_21 : decode cX11_member 21 = .ok (.iload_n 3, 1) := by decide +kernel
theorem dX11_member_22 : decode cX11_member 22 = .ok (.invokevirtual 296, 3) := by decide +kernel
theorem dX11_member_25 : decode cX11_member 25 = .ok (.ifCond .ne 5, 3) := by decide +kernel
theorem dX11_member_28 : decode cX11_member 28 = .ok (.iconst (-1), 1) := by decide +kernel
theorem dX11_member_29 : decode cX11_member 29 = .ok (.ireturn, 1) := by decide +kernel
theorem dX11_member_30 : decode cX11_member 30 = .ok (.aload_n 0, 1) := by decide +kernel
theorem dX11_member_31 : decode cX11_member 31 = .ok (.getfield 41, 3) := by decide +kernel
theorem dX11_member_34 : decode cX11_member 34 = .ok (.getfield 299, 3) := by decide +kernel
theorem dX11_member_37 : decode cX11_member 37 = .ok (.getfield 187, 3) := by decide +kernel
theorem dX11_member_40 : decode cX11_member 40 = .ok (.iload 4, 2) := by decide +kernel
theorem dX11_member_42 : decode cX11_member 42 = .ok (.invokevirtual 160, 3) := by decide +kernel
theorem dX11_member_45 : decode cX11_member 45 = .ok (.ireturn, 1) := by decide +kernel
theorem dX11_passing_0 : decode cX11_passing 0 = .ok (.aload_n 0, 1) := by decide +kernel
theorem dX11_passing_1 : decode cX11_passing 1 = .ok (.iload_n 1, 1) := by decide +kernel
theorem dX11_passing_2 : decode cX11_passing 2 = .ok (.iload_n 2, 1) := by decide +kernel
theorem dX11_passing_3 : decode cX11_passing 3 = .ok (.invokevirtual 293, 3) := by decide +kernel
theorem dX11_passing_6 : decode cX11_passing 6 = .ok (.ifCond .eq 24, 3) := by decide +kernel
theorem dX11_passing_9 : decode cX11_passing 9 = .ok (.aload_n 0, 1) := by decide +kernel
theorem dX11_passing_10 : decode cX11_passing 10 = .ok (.getfield 75, 3) := by decide +kernel
theorem dX11_passing_13 : decode cX11_passing 13 = .ok (.iload_n 3, 1) := by decide +kernel
theorem dX11_passing_14 : decode cX11_passing 14 = .ok (.aload_n 0, 1) := by decide +kernel
theorem dX11_passing_15 : decode cX11_passing 15 = .ok (.getfield 10, 3) := by decide +kernel
theorem dX11_passing_18 : decode cX11_passing 18 = .ok (.getfield 111, 3) := by decide +kernel
theorem dX11_passing_21 : decode cX11_passing 21 = .ok (.getfield 135, 3) := by decide +kernel
theorem dX11_passing_24 : decode cX11_passing 24 = .ok (.invokevirtual 207, 3) := by decide +kernel
theorem dX11_passing_27 : decode cX11_passing 27 = .ok (.ifCond .ne 5, 3) := by decide +kernel
theorem dX11_passing_30 : decode cX11_passing 30 = .ok (.iconst (-1), 1) := by decide +kernel
theorem dX11_passing_31 : decode cX11_passing 31 = .ok (.ireturn, 1) := by decide +kernel
theorem dX11_passing_32 : decode cX11_passing 32 = .ok (.aload_n 0, 1) := by decide +kernel
theorem dX11_passing_33 : decode cX11_passing 33 = .ok (.getfield 41, 3) := by decide +kernel
theorem dX11_passing_36 : decode cX11_passing 36 = .ok (.aload_n 0, 1) := by decide +kernel
theorem dX11_passing_37 : decode cX11_passing 37 = .ok (.getfield 75, 3) := by decide +kernel
theorem dX11_passing_40 : decode cX11_passing 40 = .ok (.invokevirtual 319, 3) := by decide +kernel
theorem dX11_passing_43 : decode cX11_passing 43 = .ok (.ireturn, 1) := by decide +kernel
theorem dX11_only_0 : decode cX11_only 0 = .ok (.aload_n 0, 1) := by decide +kernel
theorem dX11_only_1 : decode cX11_only 1 = .ok (.getfield 48, 3) := by decide +kernel
theorem dX11_only_4 : decode cX11_only 4 = .ok (.aload_n 0, 1) := by decide +kernel
theorem dX11_only_5 : decode cX11_only 5 = .ok (.getfield 10, 3) := by decide +kernel
theorem dX11_only_8 : decode cX11_only 8 = .ok (.getfield 111, 3) := by decide +kernel
theorem dX11_only_11 : decode cX11_only 11 = .ok (.invokevirtual 198, 3) := by decide +kernel
theorem dX11_only_14 : decode cX11_only 14 = .ok (.aload_n 0, 1) := by decide +kernel
theorem dX11_only_15 : decode cX11_only 15 = .ok (.getfield 48, 3) := by decide +kernel
theorem dX11_only_18 : decode cX11_only 18 = .ok (.getfield 201, 3) := by decide +kernel
theorem dX11_only_21 : decode cX11_only 21 = .ok (.iconst 1, 1) := by decide +kernel
theorem dX11_only_22 : decode cX11_only 22 = .ok (.if_icmp .ne 10, 3) := by decide +kernel
theorem dX11_only_25 : decode cX11_only 25 = .ok (.iload_n 1, 1) := by decide +kernel
theorem dX11_only_26 : decode cX11_only 26 = .ok (.invokestatic 151, 3) := by decide +kernel
theorem dX11_only_29 : decode cX11_only 29 = .ok (.ifCond .ne 5, 3) := by decide +kernel
theorem dX11_only_32 : decode cX11_only 32 = .ok (.iconst (-1), 1) := by decide +kernel
theorem dX11_only_33 : decode cX11_only 33 = .ok (.ireturn, 1) := by decide +kernel
theorem dX11_only_34 : decode cX11_only 34 = .ok (.aload_n 0, 1) := by decide +kernel
theorem dX11_only_35 : decode cX11_only 35 = .ok (.getfield 48, 3) := by decide +kernel
theorem dX11_only_38 : decode cX11_only 38 = .ok (.aload_n 0, 1) := by decide +kernel
theorem dX11_only_39 : decode cX11_only 39 = .ok (.getfield 65, 3) := by decide +kernel
theorem dX11_only_42 : decode cX11_only 42 = .ok (.invokevirtual 204, 3) := by decide +kernel
theorem dX11_only_45 : decode cX11_only 45 = .ok (.aload_n 0, 1) := by decide +kernel
theorem dX11_only_46 : decode cX11_only 46 = .ok (.getfield 65, 3) := by decide +kernel
theorem dX11_only_49 : decode cX11_only 49 = .ok (.iload_n 1, 1) := by decide +kernel
theorem dX11_only_50 : decode cX11_only 50 = .ok (.invokevirtual 160, 3) := by decide +kernel
theorem dX11_only_53 : decode cX11_only 53 = .ok (.ireturn, 1) := by decide +kernel
theorem dX11_freed_0 : decode cX11_freed 0 = .ok (.aload_n 0, 1) := by decide +kernel
theorem dX11_freed_1 : decode cX11_freed 1 = .ok (.getfield 75, 3) := by decide +kernel
theorem dX11_freed_4 : decode cX11_freed 4 = .ok (.iload_n 1, 1) := by decide +kernel
theorem dX11_freed_5 : decode cX11_freed 5 = .ok (.aload_n 0, 1) := by decide +kernel
theorem dX11_freed_6 : decode cX11_freed 6 = .ok (.getfield 10, 3) := by decide +kernel
theorem dX11_freed_9 : decode cX11_freed 9 = .ok (.getfield 111, 3) := by decide +kernel
theorem dX11_freed_12 : decode cX11_freed 12 = .ok (.getfield 135, 3) := by decide +kernel
theorem dX11_freed_15 : decode cX11_freed 15 = .ok (.invokevirtual 207, 3) := by decide +kernel
theorem dX11_freed_18 : decode cX11_freed 18 = .ok (.ifCond .eq 17, 3) := by decide +kernel
theorem dX11_freed_21 : decode cX11_freed 21 = .ok (.aload_n 0, 1) := by decide +kernel
theorem dX11_freed_22 : decode cX11_freed 22 = .ok (.getfield 10, 3) := by decide +kernel
theorem dX11_freed_25 : decode cX11_freed 25 = .ok (.getfield 111, 3) := by decide +kernel
theorem dX11_freed_28 : decode cX11_freed 28 = .ok (.iload_n 1, 1) := by decide +kernel
theorem dX11_freed_29 : decode cX11_freed 29 = .ok (.invokevirtual 210, 3) := by decide +kernel
theorem dX11_freed_32 : decode cX11_freed 32 = .ok (.ifCond .eq 5, 3) := by decide +kernel
theorem dX11_freed_35 : decode cX11_freed 35 = .ok (.iconst (-1), 1) := by decide +kernel
theorem dX11_freed_36 : decode cX11_freed 36 = .ok (.ireturn, 1) := by decide +kernel
theorem dX11_freed_37 : decode cX11_freed 37 = .ok (.aload_n 0, 1) := by decide +kernel
theorem dX11_freed_38 : decode cX11_freed 38 = .ok (.getfield 48, 3) := by decide +kernel
theorem dX11_freed_41 : decode cX11_freed 41 = .ok (.aload_n 0, 1) := by decide +kernel
theorem dX11_freed_42 : decode cX11_freed 42 = .ok (.getfield 10, 3) := by decide +kernel
theorem dX11_freed_45 : decode cX11_freed 45 = .ok (.getfield 111, 3) := by decide +kernel
theorem dX11_freed_48 : decode cX11_freed 48 = .ok (.invokevirtual 198, 3) := by decide +kernel
theorem dX11_freed_51 : decode cX11_freed 51 = .ok (.aload_n 0, 1) := by decide +kernel
theorem dX11_freed_52 : decode cX11_freed 52 = .ok (.getfield 48, 3) := by decide +kernel
theorem dX11_freed_55 : decode cX11_freed 55 = .ok (.aload_n 0, 1) := by decide +kernel
theorem dX11_freed_56 : decode cX11_freed 56 = .ok (.getfield 75, 3) := by decide +kernel
theorem dX11_freed_59 : decode cX11_freed 59 = .ok (.invokevirtual 322, 3) := by decide +kernel
theorem dX11_freed_62 : decode cX11_freed 62 = .ok (.ifCond .eq 15, 3) := by decide +kernel
theorem dX11_freed_65 : decode cX11_freed 65 = .ok (.aload_n 0, 1) := by decide +kernel
theorem dX11_freed_66 : decode cX11_freed 66 = .ok (.getfield 48, 3) := by decide +kernel
theorem dX11_freed_69 : decode cX11_freed 69 = .ok (.getfield 201, 3) := by decide +kernel
theorem dX11_freed_72 : decode cX11_freed 72 = .ok (.iconst 1, 1) := by decide +kernel
theorem dX11_freed_73 : decode cX11_freed 73 = .ok (.isub, 1) := by decide +kernel
theorem dX11_freed_74 : decode cX11_freed 74 = .ok (.goto 10, 3) := by decide +kernel
theorem dX11_freed_77 : decode cX11_freed 77 = .ok (.aload_n 0, 1) := by decide +kernel
theorem dX11_freed_78 : decode cX11_freed 78 = .ok (.getfield 48, 3) := by decide +kernel
theorem dX11_freed_81 : decode cX11_freed 81 = .ok (.getfield 201, 3) := by decide +kernel
theorem dX11_freed_84 : decode cX11_freed 84 = .ok (.ireturn, 1) := by decide +kernel
theorem dX11_useful_0 : decode cX11_useful 0 = .ok (.aload_n 0, 1) := by decide +kernel
theorem dX11_useful_1 : decode cX11_useful 1 = .ok (.getfield 48, 3) := by decide +kernel
theorem dX11_useful_4 : decode cX11_useful 4 = .ok (.aload_n 0, 1) := by decide +kernel
theorem dX11_useful_5 : decode cX11_useful 5 = .ok (.getfield 10, 3) := by decide +kernel
theorem dX11_useful_8 : decode cX11_useful 8 = .ok (.getfield 111, 3) := by decide +kernel
theorem dX11_useful_11 : decode cX11_useful 11 = .ok (.invokevirtual 198, 3) := by decide +kernel
theorem dX11_useful_14 : decode cX11_useful 14 = .ok (.aload_n 0, 1) := by decide +kernel
theorem dX11_useful_15 : decode cX11_useful 15 = .ok (.getfield 10, 3) := by decide +kernel
theorem dX11_useful_18 : decode cX11_useful 18 = .ok (.getfield 111, 3) := by decide +kernel
theorem dX11_useful_21 : decode cX11_useful 21 = .ok (.getfield 135, 3) := by decide +kernel
theorem dX11_useful_24 : decode cX11_useful 24 = .ok (.istore_n 1, 1) := by decide +kernel
theorem dX11_useful_25 : decode cX11_useful 25 = .ok (.iconst 0, 1) := by decide +kernel
theorem dX11_useful_26 : decode cX11_useful 26 = .ok (.istore_n 2, 1) := by decide +kernel
theorem dX11_useful_27 : decode cX11_useful 27 = .ok (.iconst 0, 1) := by decide +kernel
theorem dX11_useful_28 : decode cX11_useful 28 = .ok (.istore_n 3, 1) := by decide +kernel
theorem dX11_useful_29 : decode cX11_useful 29 = .ok (.iload_n 3, 1) := by decide +kernel
theorem dX11_useful_30 : decode cX11_useful 30 = .ok (.iload_n 1, 1) := by decide +kernel
theorem dX11_useful_31 : decode cX11_useful 31 = .ok (.invokestatic 235, 3) := by decide +kernel
theorem dX11_useful_34 : decode cX11_useful 34 = .ok (.if_icmp .ge 38, 3) := by decide +kernel
theorem dX11_useful_37 : decode cX11_useful 37 = .ok (.aload_n 0, 1) := by decide +kernel
theorem dX11_useful_38 : decode cX11_useful 38 = .ok (.getfield 75, 3) := by decide +kernel
theorem dX11_useful_41 : decode cX11_useful 41 = .ok (.iload_n 3, 1) := by decide +kernel
theorem dX11_useful_42 : decode cX11_useful 42 = .ok (.iload_n 1, 1) := by decide +kernel
theorem dX11_useful_43 : decode cX11_useful 43 = .ok (.invokevirtual 207, 3) := by decide +kernel
theorem dX11_useful_46 : decode cX11_useful 46 = .ok (.ifCond .eq 20, 3) := by decide +kernel
theorem dX11_useful_49 : decode cX11_useful 49 = .ok (.aload_n 0, 1) := by decide +kernel
theorem dX11_useful_50 : decode cX11_useful 50 = .ok (.getfield 48, 3) := by decide +kernel
theorem dX11_useful_53 : decode cX11_useful 53 = .ok (.aload_n 0, 1) := by decide +kernel
theorem dX11_useful_54 : decode cX11_useful 54 = .ok (.getfield 75, 3) := by decide +kernel
theorem dX11_useful_57 : decode cX11_useful 57 = .ok (.invokevirtual 322, 3) := by decide +kernel
theorem dX11_useful_60 : decode cX11_useful 60 = .ok (.ifCond .eq 6, 3) := by decide +kernel
theorem dX11_useful_63 : decode cX11_useful 63 = .ok (.iinc 2 1, 3) := by decide +kernel
theorem dX11_useful_66 : decode cX11_useful 66 = .ok (.iinc 3 1, 3) := by decide +kernel
theorem dX11_useful_69 : decode cX11_useful 69 = .ok (.goto (-40), 3) := by decide +kernel
theorem dX11_useful_72 : decode cX11_useful 72 = .ok (.iload_n 2, 1) := by decide +kernel
theorem dX11_useful_73 : decode cX11_useful 73 = .ok (.ireturn, 1) := by decide +kernel
theorem dX11_image_0 : decode cX11_image 0 = .ok (.iload_n 1, 1) := by decide +kernel
theorem dX11_image_1 : decode cX11_image 1 = .ok (.ifCond .lt 8, 3) := by decide +kernel
theorem dX11_image_4 : decode cX11_image 4 = .ok (.iload_n 1, 1) := by decide +kernel
theorem dX11_image_5 : decode cX11_image 5 = .ok (.iconst 3, 1) := by decide +kernel
theorem dX11_image_6 : decode cX11_image 6 = .ok (.if_icmp .lt 5, 3) := by decide +kernel
theorem dX11_image_9 : decode cX11_image 9 = .ok (.iconst 0, 1) := by decide +kernel
theorem dX11_image_10 : decode cX11_image 10 = .ok (.ireturn, 1) := by decide +kernel
theorem dX11_image_11 : decode cX11_image 11 = .ok (.aload_n 0, 1) := by decide +kernel
theorem dX11_image_12 : decode cX11_image 12 = .ok (.getfield 23, 3) := by decide +kernel
theorem dX11_image_15 : decode cX11_image 15 = .ok (.iload_n 1, 1) := by decide +kernel
theorem dX11_image_16 : decode cX11_image 16 = .ok (.aaload, 1) := by decide +kernel
theorem dX11_image_17 : decode cX11_image 17 = .ok (.aload_n 0, 1) := by decide +kernel
theorem dX11_image_18 : decode cX11_image 18 = .ok (.getfield 10, 3) := by decide +kernel
theorem dX11_image_21 : decode cX11_image 21 = .ok (.invokevirtual 326, 3) := by decide +kernel
theorem dX11_image_24 : decode cX11_image 24 = .ok (.aload_n 0, 1) := by decide +kernel
theorem dX11_image_25 : decode cX11_image 25 = .ok (.getfield 27, 3) := by decide +kernel
theorem dX11_image_28 : decode cX11_image 28 = .ok (.iload_n 1, 1) := by decide +kernel
theorem dX11_image_29 : decode cX11_image 29 = .ok (.iconst 1, 1) := by decide +kernel
theorem dX11_image_30 : decode cX11_image 30 = .ok (.bastore, 1) := by decide +kernel
theorem dX11_image_31 : decode cX11_image 31 = .ok (.iconst 1, 1) := by decide +kernel
theorem dX11_image_32 : decode cX11_image 32 = .ok (.ireturn, 1) := by decide +kernel
theorem dX11_again_0 : decode cX11_again 0 = .ok (.iload_n 1, 1) := by decide +kernel
theorem dX11_again_1 : decode cX11_again 1 = .ok (.ifCond .lt 17, 3) := by decide +kernel
theorem dX11_again_4 : decode cX11_again 4 = .ok (.iload_n 1, 1) := by decide +kernel
theorem dX11_again_5 : decode cX11_again 5 = .ok (.iconst 3, 1) := by decide +kernel
theorem dX11_again_6 : decode cX11_again 6 = .ok (.if_icmp .ge 12, 3) := by decide +kernel
theorem dX11_again_9 : decode cX11_again 9 = .ok (.aload_n 0, 1) := by decide +kernel
theorem dX11_again_10 : decode cX11_again 10 = .ok (.getfield 27, 3) := by decide +kernel
theorem dX11_again_13 : decode cX11_again 13 = .ok (.iload_n 1, 1) := by decide +kernel
theorem dX11_again_14 : decode cX11_again 14 = .ok (.baload, 1) := by decide +kernel
theorem dX11_again_15 : decode cX11_again 15 = .ok (.ifCond .ne 5, 3) := by decide +kernel
theorem dX11_again_18 : decode cX11_again 18 = .ok (.iconst 0, 1) := by decide +kernel
theorem dX11_again_19 : decode cX11_again 19 = .ok (.ireturn, 1) := by decide +kernel
theorem dX11_again_20 : decode cX11_again 20 = .ok (.aload_n 0, 1) := by decide +kernel
theorem dX11_again_21 : decode cX11_again 21 = .ok (.getfield 10, 3) := by decide +kernel
theorem dX11_again_24 : decode cX11_again 24 = .ok (.aload_n 0, 1) := by decide +kernel
theorem dX11_again_25 : decode cX11_again 25 = .ok (.getfield 23, 3) := by decide +kernel
theorem dX11_again_28 : decode cX11_again 28 = .ok (.iload_n 1, 1) := by decide +kernel
theorem dX11_again_29 : decode cX11_again 29 = .ok (.aaload, 1) := by decide +kernel
theorem dX11_again_30 : decode cX11_again 30 = .ok (.invokevirtual 326, 3) := by decide +kernel
theorem dX11_again_33 : decode cX11_again 33 = .ok (.aload_n 0, 1) := by decide +kernel
theorem dX11_again_34 : decode cX11_again 34 = .ok (.getfield 19, 3) := by decide +kernel
theorem dX11_again_37 : decode cX11_again 37 = .ok (.invokevirtual 124, 3) := by decide +kernel
theorem dX11_again_40 : decode cX11_again 40 = .ok (.iconst 1, 1) := by decide +kernel
theorem dX11_again_41 : decode cX11_again 41 = .ok (.ireturn, 1) := by decide +kernel
theorem dX11_refuse_0 : decode cX11_refuse 0 = .ok (.aload_n 0, 1) := by decide +kernel
theorem dX11_refuse_1 : decode cX11_refuse 1 = .ok (.getfield 10, 3) := by decide +kernel
theorem dX11_refuse_4 : decode cX11_refuse 4 = .ok (.iload_n 1, 1) := by decide +kernel
theorem dX11_refuse_5 : decode cX11_refuse 5 = .ok (.putfield 222, 3) := by decide +kernel
theorem dX11_refuse_8 : decode cX11_refuse 8 = .ok (.aload_n 0, 1) := by decide +kernel
theorem dX11_refuse_9 : decode cX11_refuse 9 = .ok (.getfield 10, 3) := by decide +kernel
theorem dX11_refuse_12 : decode cX11_refuse 12 = .ok (.iload_n 2, 1) := by decide +kernel
theorem dX11_refuse_13 : decode cX11_refuse 13 = .ok (.putfield 225, 3) := by decide +kernel
theorem dX11_refuse_16 : decode cX11_refuse 16 = .ok (.iload_n 1, 1) := by decide +kernel
theorem dX11_refuse_17 : decode cX11_refuse 17 = .ok (.ireturn, 1) := by decide +kernel
theorem dX11_accept_0 : decode cX11_accept 0 = .ok (.aload_n 0, 1) := by decide +kernel
theorem dX11_accept_1 : decode cX11_accept 1 = .ok (.getfield 10, 3) := by decide +kernel
theorem dX11_accept_4 : decode cX11_accept 4 = .ok (.iconst 0, 1) := by decide +kernel
theorem dX11_accept_5 : decode cX11_accept 5 = .ok (.putfield 222, 3) := by decide +kernel
theorem dX11_accept_8 : decode cX11_accept 8 = .ok (.aload_n 0, 1) := by decide +kernel
theorem dX11_accept_9 : decode cX11_accept 9 = .ok (.getfield 10, 3) := by decide +kernel
theorem dX11_accept_12 : decode cX11_accept 12 = .ok (.iconst 0, 1) := by decide +kernel
theorem dX11_accept_13 : decode cX11_accept 13 = .ok (.putfield 225, 3) := by decide +kernel
theorem dX11_accept_16 : decode cX11_accept 16 = .ok (.iconst 0, 1) := by decide +kernel
theorem dX11_accept_17 : decode cX11_accept 17 = .ok (.ireturn, 1) := by decide +kernel
theorem dX11_become_0 : decode cX11_become 0 = .ok (.aload_n 2, 1) := by decide +kernel
theorem dX11_become_1 : decode cX11_become 1 = .ok (.invokevirtual 329, 3) := by decide +kernel
theorem dX11_become_4 : decode cX11_become 4 = .ok (.ifCond .eq 10, 3) := by decide +kernel
theorem dX11_become_7 : decode cX11_become 7 = .ok (.aload_n 0, 1) := by decide +kernel
theorem dX11_become_8 : decode cX11_become 8 = .ok (.iconst 3, 1) := by decide +kernel
theorem dX11_become_9 : decode cX11_become 9 = .ok (.iconst 0, 1) := by decide +kernel
theorem dX11_become_10 : decode cX11_become 10 = .ok (.invokevirtual 131, 3) := by decide +kernel
theorem dX11_become_13 : decode cX11_become 13 = .ok (.ireturn, 1) := by decide +kernel
theorem dX11_become_14 : decode cX11_become 14 = .ok (.aload_n 2, 1) := by decide +kernel
theorem dX11_become_15 : decode cX11_become 15 = .ok (.invokevirtual 333, 3) := by decide +kernel
theorem dX11_become_18 : decode cX11_become 18 = .ok (.ifCond .ne 10, 3) := by decide +kernel
theorem dX11_become_21 : decode cX11_become 21 = .ok (.aload_n 0, 1) := by decide +kernel
theorem dX11_become_22 : decode cX11_become 22 = .ok (.iconst 4, 1) := by decide +kernel
theorem dX11_become_23 : decode cX11_become 23 = .ok (.iconst 0, 1) := by decide +kernel
theorem dX11_become_24 : decode cX11_become 24 = .ok (.invokevirtual 131, 3) := by decide +kernel
theorem dX11_become_27 : decode cX11_become 27 = .ok (.ireturn, 1) := by decide +kernel
theorem dX11_become_28 : decode cX11_become 28 = .ok (.aload_n 0, 1) := by decide +kernel
theorem dX11_become_29 : decode cX11_become 29 = .ok (.getfield 19, 3) := by decide +kernel
theorem dX11_become_32 : decode cX11_become 32 = .ok (.aload_n 0, 1) := by decide +kernel
theorem dX11_become_33 : decode cX11_become 33 = .ok (.getfield 10, 3) := by decide +kernel
theorem dX11_become_36 : decode cX11_become 36 = .ok (.getfield 111, 3) := by decide +kernel
theorem dX11_become_39 : decode cX11_become 39 = .ok (.invokevirtual 138, 3) := by decide +kernel
theorem dX11_become_42 : decode cX11_become 42 = .ok (.aload_n 0, 1) := by decide +kernel
theorem dX11_become_43 : decode cX11_become 43 = .ok (.getfield 10, 3) := by decide +kernel
theorem dX11_become_46 : decode cX11_become 46 = .ok (.getfield 111, 3) := by decide +kernel
theorem dX11_become_49 : decode cX11_become 49 = .ok (.iload_n 1, 1) := by decide +kernel
theorem dX11_become_50 : decode cX11_become 50 = .ok (.aload_n 2, 1) := by decide +kernel
theorem dX11_become_51 : decode cX11_become 51 = .ok (.invokevirtual 336, 3) := by decide +kernel
theorem dX11_become_54 : decode cX11_become 54 = .ok (.aload_n 0, 1) := by decide +kernel
theorem dX11_become_55 : decode cX11_become 55 = .ok (.invokevirtual 144, 3) := by decide +kernel
theorem dX11_become_58 : decode cX11_become 58 = .ok (.ireturn, 1) := by decide +kernel
theorem dX11_isPrime_0 : decode cX11_isPrime 0 = .ok (.iconst 0, 1) := by decide +kernel
theorem dX11_isPrime_1 : decode cX11_isPrime 1 = .ok (.istore_n 1, 1) := by decide +kernel
theorem dX11_isPrime_2 : decode cX11_isPrime 2 = .ok (.iload_n 1, 1) := by decide +kernel
theorem dX11_isPrime_3 : decode cX11_isPrime 3 = .ok (.getstatic 339, 3) := by decide +kernel
theorem dX11_isPrime_6 : decode cX11_isPrime 6 = .ok (.arraylength, 1) := by decide +kernel
theorem dX11_isPrime_7 : decode cX11_isPrime 7 = .ok (.if_icmp .ge 20, 3) := by decide +kernel
theorem dX11_isPrime_10 : decode cX11_isPrime 10 = .ok (.getstatic 339, 3) := by decide +kernel
theorem dX11_isPrime_13 : decode cX11_isPrime 13 = .ok (.iload_n 1, 1) := by decide +kernel
theorem dX11_isPrime_14 : decode cX11_isPrime 14 = .ok (.iaload, 1) := by decide +kernel
theorem dX11_isPrime_15 : decode cX11_isPrime 15 = .ok (.iload_n 0, 1) := by decide +kernel
theorem dX11_isPrime_16 : decode cX11_isPrime 16 = .ok (.if_icmp .ne 5, 3) := by decide +kernel
theorem dX11_isPrime_19 : decode cX11_isPrime 19 = .ok (.iconst 1, 1) := by decide +kernel
theorem dX11_isPrime_20 : decode cX11_isPrime 20 = .ok (.ireturn, 1) := by decide +kernel
theorem dX11_isPrime_21 : decode cX11_isPrime 21 = .ok (.iinc 1 1, 3) := by decide +kernel
theorem dX11_isPrime_24 : decode cX11_isPrime 24 = .ok (.goto (-22), 3) := by decide +kernel
theorem dX11_isPrime_27 : decode cX11_isPrime 27 = .ok (.iconst 0, 1) := by decide +kernel
theorem dX11_isPrime_28 : decode cX11_isPrime 28 = .ok (.ireturn, 1) := by decide +kernel
theorem dX11_isConic_0 : decode cX11_isConic 0 = .ok (.iload_n 0, 1) := by decide +kernel
theorem dX11_isConic_1 : decode cX11_isConic 1 = .ok (.ifCond .lt 13, 3) := by decide +kernel
theorem dX11_isConic_4 : decode cX11_isConic 4 = .ok (.iload_n 0, 1) := by decide +kernel
theorem dX11_isConic_5 : decode cX11_isConic 5 = .ok (.bipush 6, 2) := by decide +kernel
theorem dX11_isConic_7 : decode cX11_isConic 7 = .ok (.if_icmp .ge 7, 3) := by decide +kernel
theorem dX11_isConic_10 : decode cX11_isConic 10 = .ok (.iconst 1, 1) := by decide +kernel
theorem dX11_isConic_11 : decode cX11_isConic 11 = .ok (.goto 4, 3) := by decide +kernel
theorem dX11_isConic_14 : decode cX11_isConic 14 = .ok (.iconst 0, 1) := by decide +kernel
theorem dX11_isConic_15 : decode cX11_isConic 15 = .ok (.ireturn, 1) := by decide +kernel
theorem dX11_isNumber_0 : decode cX11_isNumber 0 = .ok (.iload_n 0, 1) := by decide +kernel
theorem dX11_isNumber_1 : decode cX11_isNumber 1 = .ok (.ifCond .lt 13, 3) := by decide +kernel
theorem dX11_isNumber_4 : decode cX11_isNumber 4 = .ok (.iload_n 0, 1) := by decide +kernel
theorem dX11_isNumber_5 : decode cX11_isNumber 5 = .ok (.bipush 6, 2) := by decide +kernel
theorem dX11_isNumber_7 : decode cX11_isNumber 7 = .ok (.if_icmp .ge 7, 3) := by decide +kernel
theorem dX11_isNumber_10 : decode cX11_isNumber 10 = .ok (.iconst 1, 1) := by decide +kernel
theorem dX11_isNumber_11 : decode cX11_isNumber 11 = .ok (.goto 4, 3) := by decide +kernel
theorem dX11_isNumber_14 : decode cX11_isNumber 14 = .ok (.iconst 0, 1) := by decide +kernel
theorem dX11_isNumber_15 : decode cX11_isNumber 15 = .ok (.ireturn, 1) := by decide +kernel
theorem dX11_isBeyond_0 : decode cX11_isBeyond 0 = .ok (.iload_n 0, 1) := by decide +kernel
theorem dX11_isBeyond_1 : decode cX11_isBeyond 1 = .ok (.bipush (-99), 2) := by decide +kernel
theorem dX11_isBeyond_3 : decode cX11_isBeyond 3 = .ok (.if_icmp .lt 9, 3) := by decide +kernel
theorem dX11_isBeyond_6 : decode cX11_isBeyond 6 = .ok (.iload_n 0, 1) := by decide +kernel
theorem dX11_isBeyond_7 : decode cX11_isBeyond 7 = .ok (.bipush 99, 2) := by decide +kernel
theorem dX11_isBeyond_9 : decode cX11_isBeyond 9 = .ok (.if_icmp .le 7, 3) := by decide +kernel
theorem dX11_isBeyond_12 : decode cX11_isBeyond 12 = .ok (.iconst 1, 1) := by decide +kernel
theorem dX11_isBeyond_13 : decode cX11_isBeyond 13 = .ok (.goto 4, 3) := by decide +kernel
theorem dX11_isBeyond_16 : decode cX11_isBeyond 16 = .ok (.iconst 0, 1) := by decide +kernel
theorem dX11_isBeyond_17 : decode cX11_isBeyond 17 = .ok (.ireturn, 1) := by decide +kernel
theorem dX11_takeBoth_0 : decode cX11_takeBoth 0 = .ok (.iload_n 1, 1) := by decide +kernel
theorem dX11_takeBoth_1 : decode cX11_takeBoth 1 = .ok (.invokestatic 148, 3) := by decide +kernel
theorem dX11_takeBoth_4 : decode cX11_takeBoth 4 = .ok (.ifCond .eq 24, 3) := by decide +kernel
theorem dX11_takeBoth_7 : decode cX11_takeBoth 7 = .ok (.aload_n 0, 1) := by decide +kernel
theorem dX11_takeBoth_8 : decode cX11_takeBoth 8 = .ok (.getfield 75, 3) := by decide +kernel
theorem dX11_takeBoth_11 : decode cX11_takeBoth 11 = .ok (.iload_n 2, 1) := by decide +kernel
theorem dX11_takeBoth_12 : decode cX11_takeBoth 12 = .ok (.aload_n 0, 1) := by decide +kernel
theorem dX11_takeBoth_13 : decode cX11_takeBoth 13 = .ok (.getfield 10, 3) := by decide +kernel
theorem dX11_takeBoth_16 : decode cX11_takeBoth 16 = .ok (.getfield 111, 3) := by decide +kernel
theorem dX11_takeBoth_19 : decode cX11_takeBoth 19 = .ok (.getfield 135, 3) := by decide +kernel
theorem dX11_takeBoth_22 : decode cX11_takeBoth 22 = .ok (.invokevirtual 207, 3) := by decide +kernel
theorem dX11_takeBoth_25 : decode cX11_takeBoth 25 = .ok (.ifCond .ne 5, 3) := by decide +kernel
theorem dX11_takeBoth_28 : decode cX11_takeBoth 28 = .ok (.iconst 0, 1) := by decide +kernel
theorem dX11_takeBoth_29 : decode cX11_takeBoth 29 = .ok (.ireturn, 1) := by decide +kernel
theorem dX11_takeBoth_30 : decode cX11_takeBoth 30 = .ok (.aload_n 0, 1) := by decide +kernel
theorem dX11_takeBoth_31 : decode cX11_takeBoth 31 = .ok (.getfield 55, 3) := by decide +kernel
theorem dX11_takeBoth_34 : decode cX11_takeBoth 34 = .ok (.aload_n 0, 1) := by decide +kernel
theorem dX11_takeBoth_35 : decode cX11_takeBoth 35 = .ok (.getfield 10, 3) := by decide +kernel
theorem dX11_takeBoth_38 : decode cX11_takeBoth 38 = .ok (.getfield 111, 3) := by decide +kernel
theorem dX11_takeBoth_41 : decode cX11_takeBoth 41 = .ok (.iload_n 1, 1) := by decide +kernel
theorem dX11_takeBoth_42 : decode cX11_takeBoth 42 = .ok (.invokevirtual 176, 3) := by decide +kernel
theorem dX11_takeBoth_45 : decode cX11_takeBoth 45 = .ok (.iconst 1, 1) := by decide +kernel
theorem dX11_takeBoth_46 : decode cX11_takeBoth 46 = .ok (.ireturn, 1) := by decide +kernel
theorem dX11_takePencil_0 : decode cX11_takePencil 0 = .ok (.iload_n 1, 1) := by decide +kernel
theorem dX11_takePencil_1 : decode cX11_takePencil 1 = .ok (.invokestatic 148, 3) := by decide +kernel
theorem dX11_takePencil_4 : decode cX11_takePencil 4 = .ok (.ifCond .eq 33, 3) := by decide +kernel
theorem dX11_takePencil_7 : decode cX11_takePencil 7 = .ok (.iload_n 2, 1) := by decide +kernel
theorem dX11_takePencil_8 : decode cX11_takePencil 8 = .ok (.invokestatic 148, 3) := by decide +kernel
theorem dX11_takePencil_11 : decode cX11_takePencil 11 = .ok (.ifCond .eq 26, 3) := by decide +kernel
theorem dX11_takePencil_14 : decode cX11_takePencil 14 = .ok (.aload_n 0, 1) := by decide +kernel
theorem dX11_takePencil_15 : decode cX11_takePencil 15 = .ok (.getfield 41, 3) := by decide +kernel
theorem dX11_takePencil_18 : decode cX11_takePencil 18 = .ok (.aload_n 0, 1) := by decide +kernel
theorem dX11_takePencil_19 : decode cX11_takePencil 19 = .ok (.getfield 10, 3) := by decide +kernel
theorem dX11_takePencil_22 : decode cX11_takePencil 22 = .ok (.getfield 111, 3) := by decide +kernel
theorem dX11_takePencil_25 : decode cX11_takePencil 25 = .ok (.iload_n 1, 1) := by decide +kernel
theorem dX11_takePencil_26 : decode cX11_takePencil 26 = .ok (.iload_n 2, 1) := by decide +kernel
theorem dX11_takePencil_27 : decode cX11_takePencil 27 = .ok (.invokevirtual 343, 3) := by decide +kernel
theorem dX11_takePencil_30 : decode cX11_takePencil 30 = .ok (.ifCond .eq 7, 3) := by decide +kernel
theorem dX11_takePencil_33 : decode cX11_takePencil 33 = .ok (.iconst 1, 1) := by decide +kernel
theorem dX11_takePencil_34 : decode cX11_takePencil 34 = .ok (.goto 4, 3) := by decide +kernel
theorem dX11_takePencil_37 : decode cX11_takePencil 37 = .ok (.iconst 0, 1) := by decide +kernel
theorem dX11_takePencil_38 : decode cX11_takePencil 38 = .ok (.ireturn, 1) := by decide +kernel
theorem dX11_overFractionsOrKind_0 : decode cX11_overFractionsOrKind 0 = .ok (.iload_n 1, 1) := by decide +kernel
theorem dX11_overFractionsOrKind_1 : decode cX11_overFractionsOrKind 1 = .ok (.tableswitch 87 0 5 #[39, 47, 55, 63, 71, 79], 39) := by decide +kernel
theorem dX11_overFractionsOrKind_40 : decode cX11_overFractionsOrKind 40 = .ok (.aload_n 0, 1) := by decide +kernel
theorem dX11_overFractionsOrKind_41 : decode cX11_overFractionsOrKind 41 = .ok (.getfield 65, 3) := by decide +kernel
theorem dX11_overFractionsOrKind_44 : decode cX11_overFractionsOrKind 44 = .ok (.invokevirtual 346, 3) := by decide +kernel
theorem dX11_overFractionsOrKind_47 : decode cX11_overFractionsOrKind 47 = .ok (.ireturn, 1) := by decide +kernel
theorem dX11_overFractionsOrKind_48 : decode cX11_overFractionsOrKind 48 = .ok (.aload_n 0, 1) := by decide +kernel
theorem dX11_overFractionsOrKind_49 : decode cX11_overFractionsOrKind 49 = .ok (.getfield 55, 3) := by decide +kernel
theorem dX11_overFractionsOrKind_52 : decode cX11_overFractionsOrKind 52 = .ok (.invokevirtual 180, 3) := by decide +kernel
theorem dX11_overFractionsOrKind_55 : decode cX11_overFractionsOrKind 55 = .ok (.ireturn, 1) := by decide +kernel
theorem dX11_overFractionsOrKind_56 : decode cX11_overFractionsOrKind 56 = .ok (.aload_n 0, 1) := by decide +kernel
theorem dX11_overFractionsOrKind_57 : decode cX11_overFractionsOrKind 57 = .ok (.getfield 55, 3) := by decide +kernel
theorem dX11_overFractionsOrKind_60 : decode cX11_overFractionsOrKind 60 = .ok (.invokevirtual 349, 3) := by decide +kernel
theorem dX11_overFractionsOrKind_63 : decode cX11_overFractionsOrKind 63 = .ok (.ireturn, 1) := by decide +kernel
theorem dX11_overFractionsOrKind_64 : decode cX11_overFractionsOrKind 64 = .ok (.aload_n 0, 1) := by decide +kernel
theorem dX11_overFractionsOrKind_65 : decode cX11_overFractionsOrKind 65 = .ok (.getfield 65, 3) := by decide +kernel
theorem dX11_overFractionsOrKind_68 : decode cX11_overFractionsOrKind 68 = .ok (.invokevirtual 352, 3) := by decide +kernel
theorem dX11_overFractionsOrKind_71 : decode cX11_overFractionsOrKind 71 = .ok (.ireturn, 1) := by decide +kernel
theorem dX11_overFractionsOrKind_72 : decode cX11_overFractionsOrKind 72 = .ok (.aload_n 0, 1) := by decide +kernel
theorem dX11_overFractionsOrKind_73 : decode cX11_overFractionsOrKind 73 = .ok (.getfield 65, 3) := by decide +kernel
theorem dX11_overFractionsOrKind_76 : decode cX11_overFractionsOrKind 76 = .ok (.invokevirtual 355, 3) := by decide +kernel
theorem dX11_overFractionsOrKind_79 : decode cX11_overFractionsOrKind 79 = .ok (.ireturn, 1) := by decide +kernel
theorem dX11_overFractionsOrKind_80 : decode cX11_overFractionsOrKind 80 = .ok (.aload_n 0, 1) := by decide +kernel
theorem dX11_overFractionsOrKind_81 : decode cX11_overFractionsOrKind 81 = .ok (.getfield 65, 3) := by decide +kernel
theorem dX11_overFractionsOrKind_84 : decode cX11_overFractionsOrKind 84 = .ok (.invokevirtual 358, 3) := by decide +kernel
theorem dX11_overFractionsOrKind_87 : decode cX11_overFractionsOrKind 87 = .ok (.ireturn, 1) := by decide +kernel
theorem dX11_overFractionsOrKind_88 : decode cX11_overFractionsOrKind 88 = .ok (.ldc 246, 2) := by decide +kernel
theorem dX11_overFractionsOrKind_90 : decode cX11_overFractionsOrKind 90 = .ok (.ireturn, 1) := by decide +kernel
theorem dX11_overField_0 : decode cX11_overField 0 = .ok (.aload_n 0, 1) := by decide +kernel
theorem dX11_overField_1 : decode cX11_overField 1 = .ok (.getfield 10, 3) := by decide +kernel
theorem dX11_overField_4 : decode cX11_overField 4 = .ok (.getfield 111, 3) := by decide +kernel
theorem dX11_overField_7 : decode cX11_overField 7 = .ok (.getfield 135, 3) := by decide +kernel
theorem dX11_overField_10 : decode cX11_overField 10 = .ok (.istore_n 2, 1) := by decide +kernel
theorem dX11_overField_11 : decode cX11_overField 11 = .ok (.aload_n 0, 1) := by decide +kernel
theorem dX11_overField_12 : decode cX11_overField 12 = .ok (.getfield 55, 3) := by decide +kernel
theorem dX11_overField_15 : decode cX11_overField 15 = .ok (.invokevirtual 180, 3) := by decide +kernel
theorem dX11_overField_18 : decode cX11_overField 18 = .ok (.iconst 4, 1) := by decide +kernel
theorem dX11_overField_19 : decode cX11_overField 19 = .ok (.if_icmp .ne 7, 3) := by decide +kernel
theorem dX11_overField_22 : decode cX11_overField 22 = .ok (.iconst 1, 1) := by decide +kernel
theorem dX11_overField_23 : decode cX11_overField 23 = .ok (.goto 4, 3) := by decide +kernel
theorem dX11_overField_26 : decode cX11_overField 26 = .ok (.iconst 0, 1) := by decide +kernel
theorem dX11_overField_27 : decode cX11_overField 27 = .ok (.istore_n 3, 1) := by decide +kernel
theorem dX11_overField_28 : decode cX11_overField 28 = .ok (.iload_n 1, 1) := by decide +kernel
theorem dX11_overField_29 : decode cX11_overField 29 = .ok (.tableswitch 79 6 9 #[31, 39, 47, 63], 31) := by decide +kernel
theorem dX11_overField_60 : decode cX11_overField 60 = .ok (.aload_n 0, 1) := by decide +kernel
theorem dX11_overField_61 : decode cX11_overField 61 = .ok (.getfield 55, 3) := by decide +kernel
theorem dX11_overField_64 : decode cX11_overField 64 = .ok (.invokevirtual 305, 3) := by decide +kernel
theorem dX11_overField_67 : decode cX11_overField 67 = .ok (.ireturn, 1) := by decide +kernel
theorem dX11_overField_68 : decode cX11_overField 68 = .ok (.aload_n 0, 1) := by decide +kernel
theorem dX11_overField_69 : decode cX11_overField 69 = .ok (.getfield 55, 3) := by decide +kernel
theorem dX11_overField_72 : decode cX11_overField 72 = .ok (.invokevirtual 302, 3) := by decide +kernel
theorem dX11_overField_75 : decode cX11_overField 75 = .ok (.ireturn, 1) := by decide +kernel
theorem dX11_overField_76 : decode cX11_overField 76 = .ok (.iload_n 3, 1) := by decide +kernel
theorem dX11_overField_77 : decode cX11_overField 77 = .ok (.ifCond .eq 13, 3) := by decide +kernel
theorem dX11_overField_80 : decode cX11_overField 80 = .ok (.iload_n 2, 1) := by decide +kernel
theorem dX11_overField_81 : decode cX11_overField 81 = .ok (.iload_n 2, 1) := by decide +kernel
theorem dX11_overField_82 : decode cX11_overField 82 = .ok (.iconst 1, 1) := by decide +kernel
theorem dX11_overField_83 : decode cX11_overField 83 = .ok (.iadd, 1) := by decide +kernel
theorem dX11_overField_84 : decode cX11_overField 84 = .ok (.imul, 1) := by decide +kernel
theorem dX11_overField_85 : decode cX11_overField 85 = .ok (.iconst 2, 1) := by decide +kernel
theorem dX11_overField_86 : decode cX11_overField 86 = .ok (.idiv, 1) := by decide +kernel
theorem dX11_overField_87 : decode cX11_overField 87 = .ok (.goto 4, 3) := by decide +kernel
theorem dX11_overField_90 : decode cX11_overField 90 = .ok (.iconst (-1), 1) := by decide +kernel
theorem dX11_overField_91 : decode cX11_overField 91 = .ok (.ireturn, 1) := by decide +kernel
theorem dX11_overField_92 : decode cX11_overField 92 = .ok (.iload_n 3, 1) := by decide +kernel
theorem dX11_overField_93 : decode cX11_overField 93 = .ok (.ifCond .eq 13, 3) := by decide +kernel
theorem dX11_overField_96 : decode cX11_overField 96 = .ok (.iload_n 2, 1) := by decide +kernel
theorem dX11_overField_97 : decode cX11_overField 97 = .ok (.iload_n 2, 1) := by decide +kernel
theorem dX11_overField_98 : decode cX11_overField 98 = .ok (.iconst 1, 1) := by decide +kernel
theorem dX11_overField_99 : decode cX11_overField 99 = .ok (.isub, 1) := by decide +kernel
theorem dX11_overField_100 : decode cX11_overField 100 = .ok (.imul, 1) := by decide +kernel
theorem dX11_overField_101 : decode cX11_overField 101 = .ok (.iconst 2, 1) := by decide +kernel
theorem dX11_overField_102 : decode cX11_overField 102 = .ok (.idiv, 1) := by decide +kernel
theorem dX11_overField_103 : decode cX11_overField 103 = .ok (.goto 4, 3) := by decide +kernel
theorem dX11_overField_106 : decode cX11_overField 106 = .ok (.iconst (-1), 1) := by decide +kernel
theorem dX11_overField_107 : decode cX11_overField 107 = .ok (.ireturn, 1) := by decide +kernel
theorem dX11_overField_108 : decode cX11_overField 108 = .ok (.ldc 246, 2) := by decide +kernel
theorem dX11_overField_110 : decode cX11_overField 110 = .ok (.ireturn, 1) := by decide +kernel
theorem dX11_properConics_0 : decode cX11_properConics 0 = .ok (.iconst 0, 1) := by decide +kernel
theorem dX11_properConics_1 : decode cX11_properConics 1 = .ok (.istore_n 1, 1) := by decide +kernel
theorem dX11_properConics_2 : decode cX11_properConics 2 = .ok (.iconst 0, 1) := by decide +kernel
theorem dX11_properConics_3 : decode cX11_properConics 3 = .ok (.istore_n 2, 1) := by decide +kernel
theorem dX11_properConics_4 : decode cX11_properConics 4 = .ok (.iload_n 2, 1) := by decide +kernel
theorem dX11_properConics_5 : decode cX11_properConics 5 = .ok (.bipush 6, 2) := by decide +kernel
theorem dX11_properConics_7 : decode cX11_properConics 7 = .ok (.if_icmp .ge 38, 3) := by decide +kernel
theorem dX11_properConics_10 : decode cX11_properConics 10 = .ok (.aload_n 0, 1) := by decide +kernel
theorem dX11_properConics_11 : decode cX11_properConics 11 = .ok (.getfield 55, 3) := by decide +kernel
theorem dX11_properConics_14 : decode cX11_properConics 14 = .ok (.aload_n 0, 1) := by decide +kernel
theorem dX11_properConics_15 : decode cX11_properConics 15 = .ok (.getfield 10, 3) := by decide +kernel
theorem dX11_properConics_18 : decode cX11_properConics 18 = .ok (.getfield 111, 3) := by decide +kernel
theorem dX11_properConics_21 : decode cX11_properConics 21 = .ok (.iload_n 2, 1) := by decide +kernel
theorem dX11_properConics_22 : decode cX11_properConics 22 = .ok (.invokevirtual 176, 3) := by decide +kernel
theorem dX11_properConics_25 : decode cX11_properConics 25 = .ok (.aload_n 0, 1) := by decide +kernel
theorem dX11_properConics_26 : decode cX11_properConics 26 = .ok (.getfield 55, 3) := by decide +kernel
theorem dX11_properConics_29 : decode cX11_properConics 29 = .ok (.invokevirtual 180, 3) := by decide +kernel
theorem dX11_properConics_32 : decode cX11_properConics 32 = .ok (.iconst 4, 1) := by decide +kernel
theorem dX11_properConics_33 : decode cX11_properConics 33 = .ok (.if_icmp .ne 6, 3) := by decide +kernel
theorem dX11_properConics_36 : decode cX11_properConics 36 = .ok (.iinc 1 1, 3) := by decide +kernel
theorem dX11_properConics_39 : decode cX11_properConics 39 = .ok (.iinc 2 1, 3) := by decide +kernel
theorem dX11_properConics_42 : decode cX11_properConics 42 = .ok (.goto (-38), 3) := by decide +kernel
theorem dX11_properConics_45 : decode cX11_properConics 45 = .ok (.iload_n 1, 1) := by decide +kernel
theorem dX11_properConics_46 : decode cX11_properConics 46 = .ok (.ireturn, 1) := by decide +kernel
theorem dX11_marksInLine_0 : decode cX11_marksInLine 0 = .ok (.iconst 0, 1) := by decide +kernel
theorem dX11_marksInLine_1 : decode cX11_marksInLine 1 = .ok (.istore_n 1, 1) := by decide +kernel
theorem dX11_marksInLine_2 : decode cX11_marksInLine 2 = .ok (.iconst 0, 1) := by decide +kernel
theorem dX11_marksInLine_3 : decode cX11_marksInLine 3 = .ok (.istore_n 2, 1) := by decide +kernel
theorem dX11_marksInLine_4 : decode cX11_marksInLine 4 = .ok (.iload_n 2, 1) := by decide +kernel
theorem dX11_marksInLine_5 : decode cX11_marksInLine 5 = .ok (.aload_n 0, 1) := by decide +kernel
theorem dX11_marksInLine_6 : decode cX11_marksInLine 6 = .ok (.getfield 10, 3) := by decide +kernel
theorem dX11_marksInLine_9 : decode cX11_marksInLine 9 = .ok (.getfield 111, 3) := by decide +kernel
theorem dX11_marksInLine_12 : decode cX11_marksInLine 12 = .ok (.getfield 213, 3) := by decide +kernel
theorem dX11_marksInLine_15 : decode cX11_marksInLine 15 = .ok (.if_icmp .ge 20, 3) := by decide +kernel
theorem dX11_marksInLine_18 : decode cX11_marksInLine 18 = .ok (.aload_n 0, 1) := by decide +kernel
theorem dX11_marksInLine_19 : decode cX11_marksInLine 19 = .ok (.iload_n 2, 1) := by decide +kernel
theorem dX11_marksInLine_20 : decode cX11_marksInLine 20 = .ok (.invokevirtual 361, 3) := by decide +kernel
theorem dX11_marksInLine_23 : decode cX11_marksInLine 23 = .ok (.ifCond .eq 6, 3) := by decide +kernel
theorem dX11_marksInLine_26 : decode cX11_marksInLine 26 = .ok (.iinc 1 1, 3) := by decide +kernel
theorem dX11_marksInLine_29 : decode cX11_marksInLine 29 = .ok (.iinc 2 1, 3) := by decide +kernel
theorem dX11_marksInLine_32 : decode cX11_marksInLine 32 = .ok (.goto (-28), 3) := by decide +kernel
theorem dX11_marksInLine_35 : decode cX11_marksInLine 35 = .ok (.iload_n 1, 1) := by decide +kernel
theorem dX11_marksInLine_36 : decode cX11_marksInLine 36 = .ok (.ireturn, 1) := by decide +kernel
theorem dX11_isInLine_0 : decode cX11_isInLine 0 = .ok (.aload_n 0, 1) := by decide +kernel
theorem dX11_isInLine_1 : decode cX11_isInLine 1 = .ok (.getfield 10, 3) := by decide +kernel
theorem dX11_isInLine_4 : decode cX11_isInLine 4 = .ok (.getfield 111, 3) := by decide +kernel
theorem dX11_isInLine_7 : decode cX11_isInLine 7 = .ok (.getfield 135, 3) := by decide +kernel
theorem dX11_isInLine_10 : decode cX11_isInLine 10 = .ok (.istore_n 2, 1) := by decide +kernel
theorem dX11_isInLine_11 : decode cX11_isInLine 11 = .ok (.iconst 0, 1) := by decide +kernel
theorem dX11_isInLine_12 : decode cX11_isInLine 12 = .ok (.istore_n 3, 1) := by decide +kernel
theorem dX11_isInLine_13 : decode cX11_isInLine 13 = .ok (.iload_n 3, 1) := by decide +kernel
theorem dX11_isInLine_14 : decode cX11_isInLine 14 = .ok (.aload_n 0, 1) := by decide +kernel
theorem dX11_isInLine_15 : decode cX11_isInLine 15 = .ok (.getfield 10, 3) := by decide +kernel
theorem dX11_isInLine_18 : decode cX11_isInLine 18 = .ok (.getfield 111, 3) := by decide +kernel
theorem dX11_isInLine_21 : decode cX11_isInLine 21 = .ok (.getfield 213, 3) := by decide +kernel
theorem dX11_isInLine_24 : decode cX11_isInLine 24 = .ok (.if_icmp .ge 148, 3) := by decide +kernel
theorem dX11_isInLine_27 : decode cX11_isInLine 27 = .ok (.iload_n 3, 1) := by decide +kernel
theorem dX11_isInLine_28 : decode cX11_isInLine 28 = .ok (.iload_n 1, 1) := by decide +kernel
theorem dX11_isInLine_29 : decode cX11_isInLine 29 = .ok (.if_icmp .eq 137, 3) := by decide +kernel
theorem dX11_isInLine_32 : decode cX11_isInLine 32 = .ok (.aload_n 0, 1) := by decide +kernel
theorem dX11_isInLine_33 : decode cX11_isInLine 33 = .ok (.getfield 75, 3) := by decide +kernel
theorem dX11_isInLine_36 : decode cX11_isInLine 36 = .ok (.aload_n 0, 1) := by decide +kernel
theorem dX11_isInLine_37 : decode cX11_isInLine 37 = .ok (.getfield 10, 3) := by decide +kernel
theorem dX11_isInLine_40 : decode cX11_isInLine 40 = .ok (.getfield 111, 3) := by decide +kernel
theorem dX11_isInLine_43 : decode cX11_isInLine 43 = .ok (.iload_n 1, 1) := by decide +kernel
theorem dX11_isInLine_44 : decode cX11_isInLine 44 = .ok (.invokevirtual 265, 3) := by decide +kernel
theorem dX11_isInLine_47 : decode cX11_isInLine 47 = .ok (.iload_n 2, 1) := by decide +kernel
theorem dX11_isInLine_48 : decode cX11_isInLine 48 = .ok (.invokevirtual 207, 3) := by decide +kernel
theorem dX11_isInLine_51 : decode cX11_isInLine 51 = .ok (.ifCond .eq 115, 3) := by decide +kernel
theorem dX11_isInLine_54 : decode cX11_isInLine 54 = .ok (.aload_n 0, 1) := by decide +kernel
theorem dX11_isInLine_55 : decode cX11_isInLine 55 = .ok (.getfield 79, 3) := by decide +kernel
theorem dX11_isInLine_58 : decode cX11_isInLine 58 = .ok (.aload_n 0, 1) := by decide +kernel
theorem dX11_isInLine_59 : decode cX11_isInLine 59 = .ok (.getfield 10, 3) := by decide +kernel
theorem dX11_isInLine_62 : decode cX11_isInLine 62 = .ok (.getfield 111, 3) := by decide +kernel
theorem dX11_isInLine_65 : decode cX11_isInLine 65 = .ok (.iload_n 3, 1) := by decide +kernel
theorem dX11_isInLine_66 : decode cX11_isInLine 66 = .ok (.invokevirtual 265, 3) := by decide +kernel
theorem dX11_isInLine_69 : decode cX11_isInLine 69 = .ok (.iload_n 2, 1) := by decide +kernel
theorem dX11_isInLine_70 : decode cX11_isInLine 70 = .ok (.invokevirtual 207, 3) := by decide +kernel
theorem dX11_isInLine_73 : decode cX11_isInLine 73 = .ok (.ifCond .ne 6, 3) := by decide +kernel
theorem dX11_isInLine_76 : decode cX11_isInLine 76 = .ok (.goto 90, 3) := by decide +kernel
theorem dX11_isInLine_79 : decode cX11_isInLine 79 = .ok (.aload_n 0, 1) := by decide +kernel
theorem dX11_isInLine_80 : decode cX11_isInLine 80 = .ok (.getfield 82, 3) := by decide +kernel
theorem dX11_isInLine_83 : decode cX11_isInLine 83 = .ok (.aload_n 0, 1) := by decide +kernel
theorem dX11_isInLine_84 : decode cX11_isInLine 84 = .ok (.getfield 75, 3) := by decide +kernel
theorem dX11_isInLine_87 : decode cX11_isInLine 87 = .ok (.aload_n 0, 1) := by decide +kernel
theorem dX11_isInLine_88 : decode cX11_isInLine 88 = .ok (.getfield 79, 3) := by decide +kernel
theorem dX11_isInLine_91 : decode cX11_isInLine 91 = .ok (.invokevirtual 261, 3) := by decide +kernel
theorem dX11_isInLine_94 : decode cX11_isInLine 94 = .ok (.iload_n 3, 1) := by decide +kernel
theorem dX11_isInLine_95 : decode cX11_isInLine 95 = .ok (.iconst 1, 1) := by decide +kernel
theorem dX11_isInLine_96 : decode cX11_isInLine 96 = .ok (.iadd, 1) := by decide +kernel
theorem dX11_isInLine_97 : decode cX11_isInLine 97 = .ok (.istore 4, 2) := by decide +kernel
theorem dX11_isInLine_99 : decode cX11_isInLine 99 = .ok (.iload 4, 2) := by decide +kernel
theorem dX11_isInLine_101 : decode cX11_isInLine 101 = .ok (.aload_n 0, 1) := by decide +kernel
theorem dX11_isInLine_102 : decode cX11_isInLine 102 = .ok (.getfield 10, 3) := by decide +kernel
theorem dX11_isInLine_105 : decode cX11_isInLine 105 = .ok (.getfield 111, 3) := by decide +kernel
theorem dX11_isInLine_108 : decode cX11_isInLine 108 = .ok (.getfield 213, 3) := by decide +kernel
theorem dX11_isInLine_111 : decode cX11_isInLine 111 = .ok (.if_icmp .ge 55, 3) := by decide +kernel
theorem dX11_isInLine_114 : decode cX11_isInLine 114 = .ok (.iload 4, 2) := by decide +kernel
theorem dX11_isInLine_116 : decode cX11_isInLine 116 = .ok (.iload_n 1, 1) := by decide +kernel
theorem dX11_isInLine_117 : decode cX11_isInLine 117 = .ok (.if_icmp .eq 43, 3) := by decide +kernel
theorem dX11_isInLine_120 : decode cX11_isInLine 120 = .ok (.aload_n 0, 1) := by decide +kernel
theorem dX11_isInLine_121 : decode cX11_isInLine 121 = .ok (.getfield 79, 3) := by decide +kernel
theorem dX11_isInLine_124 : decode cX11_isInLine 124 = .ok (.aload_n 0, 1) := by decide +kernel
theorem dX11_isInLine_125 : decode cX11_isInLine 125 = .ok (.getfield 10, 3) := by decide +kernel
theorem dX11_isInLine_128 : decode cX11_isInLine 128 = .ok (.getfield 111, 3) := by decide +kernel
theorem dX11_isInLine_131 : decode cX11_isInLine 131 = .ok (.iload 4, 2) := by decide +kernel
theorem dX11_isInLine_133 : decode cX11_isInLine 133 = .ok (.invokevirtual 265, 3) := by decide +kernel
theorem dX11_isInLine_136 : decode cX11_isInLine 136 = .ok (.iload_n 2, 1) := by decide +kernel
theorem dX11_isInLine_137 : decode cX11_isInLine 137 = .ok (.invokevirtual 207, 3) := by decide +kernel
theorem dX11_isInLine_140 : decode cX11_isInLine 140 = .ok (.ifCond .eq 20, 3) := by decide +kernel
theorem dX11_isInLine_143 : decode cX11_isInLine 143 = .ok (.aload_n 0, 1) := by decide +kernel
theorem dX11_isInLine_144 : decode cX11_isInLine 144 = .ok (.getfield 82, 3) := by decide +kernel
theorem dX11_isInLine_147 : decode cX11_isInLine 147 = .ok (.aload_n 0, 1) := by decide +kernel
theorem dX11_isInLine_148 : decode cX11_isInLine 148 = .ok (.getfield 79, 3) := by decide +kernel
theorem dX11_isInLine_151 : decode cX11_isInLine 151 = .ok (.iload_n 2, 1) := by decide +kernel
theorem dX11_isInLine_152 : decode cX11_isInLine 152 = .ok (.invokevirtual 364, 3) := by decide +kernel
theorem dX11_isInLine_155 : decode cX11_isInLine 155 = .ok (.ifCond .eq 5, 3) := by decide +kernel
theorem dX11_isInLine_158 : decode cX11_isInLine 158 = .ok (.iconst 1, 1) := by decide +kernel
theorem dX11_isInLine_159 : decode cX11_isInLine 159 = .ok (.ireturn, 1) := by decide +kernel
theorem dX11_isInLine_160 : decode cX11_isInLine 160 = .ok (.iinc 4 1, 3) := by decide +kernel
theorem dX11_isInLine_163 : decode cX11_isInLine 163 = .ok (.goto (-64), 3) := by decide +kernel
theorem dX11_isInLine_166 : decode cX11_isInLine 166 = .ok (.iinc 3 1, 3) := by decide +kernel
theorem dX11_isInLine_169 : decode cX11_isInLine 169 = .ok (.goto (-156), 3) := by decide +kernel
theorem dX11_isInLine_172 : decode cX11_isInLine 172 = .ok (.iconst 0, 1) := by decide +kernel
theorem dX11_isInLine_173 : decode cX11_isInLine 173 = .ok (.ireturn, 1) := by decide +kernel
theorem dX11_tangentsThroughSpot_0 : decode cX11_tangentsThroughSpot 0 = .ok (.aload_n 0, 1) := by decide +kernel
theorem dX11_tangentsThroughSpot_1 : decode cX11_tangentsThroughSpot 1 = .ok (.getfield 10, 3) := by decide +kernel
theorem dX11_tangentsThroughSpot_4 : decode cX11_tangentsThroughSpot 4 = .ok (.getfield 111, 3) := by decide +kernel
theorem dX11_tangentsThroughSpot_7 : decode cX11_tangentsThroughSpot 7 = .ok (.getfield 135, 3) := by decide +kernel
theorem dX11_tangentsThroughSpot_10 : decode cX11_tangentsThroughSpot 10 = .ok (.istore_n 1, 1) := by decide +kernel
theorem dX11_tangentsThroughSpot_11 : decode cX11_tangentsThroughSpot 11 = .ok (.aload_n 0, 1) := by decide +kernel
theorem dX11_tangentsThroughSpot_12 : decode cX11_tangentsThroughSpot 12 = .ok (.getfield 55, 3) := by decide +kernel
theorem dX11_tangentsThroughSpot_15 : decode cX11_tangentsThroughSpot 15 = .ok (.aload_n 0, 1) := by decide +kernel
theorem dX11_tangentsThroughSpot_16 : decode cX11_tangentsThroughSpot 16 = .ok (.getfield 75, 3) := by decide +kernel
theorem dX11_tangentsThroughSpot_19 : decode cX11_tangentsThroughSpot 19 = .ok (.aload_n 0, 1) := by decide +kernel
theorem dX11_tangentsThroughSpot_20 : decode cX11_tangentsThroughSpot 20 = .ok (.getfield 82, 3) := by decide +kernel
theorem dX11_tangentsThroughSpot_23 : decode cX11_tangentsThroughSpot 23 = .ok (.invokevirtual 284, 3) := by decide +kernel
theorem dX11_tangentsThroughSpot_26 : decode cX11_tangentsThroughSpot 26 = .ok (.aload_n 0, 1) := by decide +kernel
theorem dX11_tangentsThroughSpot_27 : decode cX11_tangentsThroughSpot 27 = .ok (.getfield 82, 3) := by decide +kernel
theorem dX11_tangentsThroughSpot_30 : decode cX11_tangentsThroughSpot 30 = .ok (.aload_n 0, 1) := by decide +kernel
theorem dX11_tangentsThroughSpot_31 : decode cX11_tangentsThroughSpot 31 = .ok (.getfield 82, 3) := by decide +kernel
theorem dX11_tangentsThroughSpot_34 : decode cX11_tangentsThroughSpot 34 = .ok (.iload_n 1, 1) := by decide +kernel
theorem dX11_tangentsThroughSpot_35 : decode cX11_tangentsThroughSpot 35 = .ok (.invokevirtual 258, 3) := by decide +kernel
theorem dX11_tangentsThroughSpot_38 : decode cX11_tangentsThroughSpot 38 = .ok (.iload_n 1, 1) := by decide +kernel
theorem dX11_tangentsThroughSpot_39 : decode cX11_tangentsThroughSpot 39 = .ok (.invokevirtual 207, 3) := by decide +kernel
theorem dX11_tangentsThroughSpot_42 : decode cX11_tangentsThroughSpot 42 = .ok (.ifCond .eq 17, 3) := by decide +kernel
theorem dX11_tangentsThroughSpot_45 : decode cX11_tangentsThroughSpot 45 = .ok (.aload_n 0, 1) := by decide +kernel
theorem dX11_tangentsThroughSpot_46 : decode cX11_tangentsThroughSpot 46 = .ok (.getfield 55, 3) := by decide +kernel
theorem dX11_tangentsThroughSpot_49 : decode cX11_tangentsThroughSpot 49 = .ok (.aload_n 0, 1) := by decide +kernel
theorem dX11_tangentsThroughSpot_50 : decode cX11_tangentsThroughSpot 50 = .ok (.getfield 82, 3) := by decide +kernel
theorem dX11_tangentsThroughSpot_53 : decode cX11_tangentsThroughSpot 53 = .ok (.invokevirtual 287, 3) := by decide +kernel
theorem dX11_tangentsThroughSpot_56 : decode cX11_tangentsThroughSpot 56 = .ok (.goto 4, 3) := by decide +kernel
theorem dX11_tangentsThroughSpot_59 : decode cX11_tangentsThroughSpot 59 = .ok (.iconst 0, 1) := by decide +kernel
theorem dX11_tangentsThroughSpot_60 : decode cX11_tangentsThroughSpot 60 = .ok (.ireturn, 1) := by decide +kernel
theorem dX11_nthTangentThroughSpot_0 : decode cX11_nthTangentThroughSpot 0 = .ok (.aload_n 0, 1) := by decide +kernel
theorem dX11_nthTangentThroughSpot_1 : decode cX11_nthTangentThroughSpot 1 = .ok (.getfield 10, 3) := by decide +kernel
theorem dX11_nthTangentThroughSpot_4 : decode cX11_nthTangentThroughSpot 4 = .ok (.getfield 111, 3) := by decide +kernel
theorem dX11_nthTangentThroughSpot_7 : decode cX11_nthTangentThroughSpot 7 = .ok (.getfield 135, 3) := by decide +kernel
theorem dX11_nthTangentThroughSpot_10 : decode cX11_nthTangentThroughSpot 10 = .ok (.istore_n 2, 1) := by decide +kernel
theorem dX11_nthTangentThroughSpot_11 : decode cX11_nthTangentThroughSpot 11 = .ok (.iload_n 1, 1) := by decide +kernel
theorem dX11_nthTangentThroughSpot_12 : decode cX11_nthTangentThroughSpot 12 = .ok (.istore_n 3, 1) := by decide +kernel
theorem dX11_nthTangentThroughSpot_13 : decode cX11_nthTangentThroughSpot 13 = .ok (.aload_n 0, 1) := by decide +kernel
theorem dX11_nthTangentThroughSpot_14 : decode cX11_nthTangentThroughSpot 14 = .ok (.getfield 59, 3) := by decide +kernel
theorem dX11_nthTangentThroughSpot_17 : decode cX11_nthTangentThroughSpot 17 = .ok (.aload_n 0, 1) := by decide +kernel
theorem dX11_nthTangentThroughSpot_18 : decode cX11_nthTangentThroughSpot 18 = .ok (.getfield 55, 3) := by decide +kernel
theorem dX11_nthTangentThroughSpot_21 : decode cX11_nthTangentThroughSpot 21 = .ok (.invokevirtual 183, 3) := by decide +kernel
theorem dX11_nthTangentThroughSpot_24 : decode cX11_nthTangentThroughSpot 24 = .ok (.iconst 0, 1) := by decide +kernel
theorem dX11_nthTangentThroughSpot_25 : decode cX11_nthTangentThroughSpot 25 = .ok (.istore 4, 2) := by decide +kernel
theorem dX11_nthTangentThroughSpot_27 : decode cX11_nthTangentThroughSpot 27 = .ok (.iload 4, 2) := by decide +kernel
theorem dX11_nthTangentThroughSpot_29 : decode cX11_nthTangentThroughSpot 29 = .ok (.iload_n 2, 1) := by decide +kernel
theorem dX11_nthTangentThroughSpot_30 : decode cX11_nthTangentThroughSpot 30 = .ok (.invokestatic 235, 3) := by decide +kernel
theorem dX11_nthTangentThroughSpot_33 : decode cX11_nthTangentThroughSpot 33 = .ok (.if_icmp .ge 61, 3) := by decide +kernel
theorem dX11_nthTangentThroughSpot_36 : decode cX11_nthTangentThroughSpot 36 = .ok (.aload_n 0, 1) := by decide +kernel
theorem dX11_nthTangentThroughSpot_37 : decode cX11_nthTangentThroughSpot 37 = .ok (.getfield 82, 3) := by decide +kernel
theorem dX11_nthTangentThroughSpot_40 : decode cX11_nthTangentThroughSpot 40 = .ok (.iload 4, 2) := by decide +kernel
theorem dX11_nthTangentThroughSpot_42 : decode cX11_nthTangentThroughSpot 42 = .ok (.iload_n 2, 1) := by decide +kernel
theorem dX11_nthTangentThroughSpot_43 : decode cX11_nthTangentThroughSpot 43 = .ok (.invokevirtual 207, 3) := by decide +kernel
theorem dX11_nthTangentThroughSpot_46 : decode cX11_nthTangentThroughSpot 46 = .ok (.ifCond .eq 42, 3) := by decide +kernel
theorem dX11_nthTangentThroughSpot_49 : decode cX11_nthTangentThroughSpot 49 = .ok (.aload_n 0, 1) := by decide +kernel
theorem dX11_nthTangentThroughSpot_50 : decode cX11_nthTangentThroughSpot 50 = .ok (.getfield 82, 3) := by decide +kernel
theorem dX11_nthTangentThroughSpot_53 : decode cX11_nthTangentThroughSpot 53 = .ok (.aload_n 0, 1) := by decide +kernel
theorem dX11_nthTangentThroughSpot_54 : decode cX11_nthTangentThroughSpot 54 = .ok (.getfield 75, 3) := by decide +kernel
theorem dX11_nthTangentThroughSpot_57 : decode cX11_nthTangentThroughSpot 57 = .ok (.iload_n 2, 1) := by decide +kernel
theorem dX11_nthTangentThroughSpot_58 : decode cX11_nthTangentThroughSpot 58 = .ok (.invokevirtual 364, 3) := by decide +kernel
theorem dX11_nthTangentThroughSpot_61 : decode cX11_nthTangentThroughSpot 61 = .ok (.ifCond .eq 27, 3) := by decide +kernel
theorem dX11_nthTangentThroughSpot_64 : decode cX11_nthTangentThroughSpot 64 = .ok (.aload_n 0, 1) := by decide +kernel
theorem dX11_nthTangentThroughSpot_65 : decode cX11_nthTangentThroughSpot 65 = .ok (.getfield 59, 3) := by decide +kernel
theorem dX11_nthTangentThroughSpot_68 : decode cX11_nthTangentThroughSpot 68 = .ok (.aload_n 0, 1) := by decide +kernel
theorem dX11_nthTangentThroughSpot_69 : decode cX11_nthTangentThroughSpot 69 = .ok (.getfield 82, 3) := by decide +kernel
theorem dX11_nthTangentThroughSpot_72 : decode cX11_nthTangentThroughSpot 72 = .ok (.invokevirtual 271, 3) := by decide +kernel
theorem dX11_nthTangentThroughSpot_75 : decode cX11_nthTangentThroughSpot 75 = .ok (.ifCond .ne 13, 3) := by decide +kernel
theorem dX11_nthTangentThroughSpot_78 : decode cX11_nthTangentThroughSpot 78 = .ok (.iload_n 3, 1) := by decide +kernel
theorem dX11_nthTangentThroughSpot_79 : decode cX11_nthTangentThroughSpot 79 = .ok (.ifCond .ne 6, 3) := by decide +kernel
theorem dX11_nthTangentThroughSpot_82 : decode cX11_nthTangentThroughSpot 82 = .ok (.iload 4, 2) := by decide +kernel
theorem dX11_nthTangentThroughSpot_84 : decode cX11_nthTangentThroughSpot 84 = .ok (.ireturn, 1) := by decide +kernel
theorem dX11_nthTangentThroughSpot_85 : decode cX11_nthTangentThroughSpot 85 = .ok (.iinc 3 (-1), 3) := by decide +kernel
theorem dX11_nthTangentThroughSpot_88 : decode cX11_nthTangentThroughSpot 88 = .ok (.iinc 4 1, 3) := by decide +kernel
theorem dX11_nthTangentThroughSpot_91 : decode cX11_nthTangentThroughSpot 91 = .ok (.goto (-64), 3) := by decide +kernel
theorem dX11_nthTangentThroughSpot_94 : decode cX11_nthTangentThroughSpot 94 = .ok (.iconst (-1), 1) := by decide +kernel
theorem dX11_nthTangentThroughSpot_95 : decode cX11_nthTangentThroughSpot 95 = .ok (.ireturn, 1) := by decide +kernel
theorem dX11_nthPointOn_0 : decode cX11_nthPointOn 0 = .ok (.aload_n 0, 1) := by decide +kernel
theorem dX11_nthPointOn_1 : decode cX11_nthPointOn 1 = .ok (.getfield 10, 3) := by decide +kernel
theorem dX11_nthPointOn_4 : decode cX11_nthPointOn 4 = .ok (.getfield 111, 3) := by decide +kernel
theorem dX11_nthPointOn_7 : decode cX11_nthPointOn 7 = .ok (.getfield 135, 3) := by decide +kernel
theorem dX11_nthPointOn_10 : decode cX11_nthPointOn 10 = .ok (.istore_n 2, 1) := by decide +kernel
theorem dX11_nthPointOn_11 : decode cX11_nthPointOn 11 = .ok (.iload_n 1, 1) := by decide +kernel
theorem dX11_nthPointOn_12 : decode cX11_nthPointOn 12 = .ok (.istore_n 3, 1) := by decide +kernel
theorem dX11_nthPointOn_13 : decode cX11_nthPointOn 13 = .ok (.iconst 0, 1) := by decide +kernel
theorem dX11_nthPointOn_14 : decode cX11_nthPointOn 14 = .ok (.istore 4, 2) := by decide +kernel
theorem dX11_nthPointOn_16 : decode cX11_nthPointOn 16 = .ok (.iload 4, 2) := by decide +kernel
theorem dX11_nthPointOn_18 : decode cX11_nthPointOn 18 = .ok (.iload_n 2, 1) := by decide +kernel
theorem dX11_nthPointOn_19 : decode cX11_nthPointOn 19 = .ok (.invokestatic 235, 3) := by decide +kernel
theorem dX11_nthPointOn_22 : decode cX11_nthPointOn 22 = .ok (.if_icmp .ge 46, 3) := by decide +kernel
theorem dX11_nthPointOn_25 : decode cX11_nthPointOn 25 = .ok (.aload_n 0, 1) := by decide +kernel
theorem dX11_nthPointOn_26 : decode cX11_nthPointOn 26 = .ok (.getfield 75, 3) := by decide +kernel
theorem dX11_nthPointOn_29 : decode cX11_nthPointOn 29 = .ok (.iload 4, 2) := by decide +kernel
theorem dX11_nthPointOn_31 : decode cX11_nthPointOn 31 = .ok (.iload_n 2, 1) := by decide +kernel
theorem dX11_nthPointOn_32 : decode cX11_nthPointOn 32 = .ok (.invokevirtual 207, 3) := by decide +kernel
theorem dX11_nthPointOn_35 : decode cX11_nthPointOn 35 = .ok (.ifCond .eq 27, 3) := by decide +kernel
theorem dX11_nthPointOn_38 : decode cX11_nthPointOn 38 = .ok (.aload_n 0, 1) := by decide +kernel
theorem dX11_nthPointOn_39 : decode cX11_nthPointOn 39 = .ok (.getfield 55, 3) := by decide +kernel
theorem dX11_nthPointOn_42 : decode cX11_nthPointOn 42 = .ok (.aload_n 0, 1) := by decide +kernel
theorem dX11_nthPointOn_43 : decode cX11_nthPointOn 43 = .ok (.getfield 75, 3) := by decide +kernel
theorem dX11_nthPointOn_46 : decode cX11_nthPointOn 46 = .ok (.invokevirtual 271, 3) := by decide +kernel
theorem dX11_nthPointOn_49 : decode cX11_nthPointOn 49 = .ok (.ifCond .ne 13, 3) := by decide +kernel
theorem dX11_nthPointOn_52 : decode cX11_nthPointOn 52 = .ok (.iload_n 3, 1) := by decide +kernel
theorem dX11_nthPointOn_53 : decode cX11_nthPointOn 53 = .ok (.ifCond .ne 6, 3) := by decide +kernel
theorem dX11_nthPointOn_56 : decode cX11_nthPointOn 56 = .ok (.iload 4, 2) := by decide +kernel
theorem dX11_nthPointOn_58 : decode cX11_nthPointOn 58 = .ok (.ireturn, 1) := by decide +kernel
theorem dX11_nthPointOn_59 : decode cX11_nthPointOn 59 = .ok (.iinc 3 (-1), 3) := by decide +kernel
theorem dX11_nthPointOn_62 : decode cX11_nthPointOn 62 = .ok (.iinc 4 1, 3) := by decide +kernel
theorem dX11_nthPointOn_65 : decode cX11_nthPointOn 65 = .ok (.goto (-49), 3) := by decide +kernel
theorem dX11_nthPointOn_68 : decode cX11_nthPointOn 68 = .ok (.iconst (-1), 1) := by decide +kernel
theorem dX11_nthPointOn_69 : decode cX11_nthPointOn 69 = .ok (.ireturn, 1) := by decide +kernel
theorem dX11_nthLineOn_0 : decode cX11_nthLineOn 0 = .ok (.aload_n 0, 1) := by decide +kernel
theorem dX11_nthLineOn_1 : decode cX11_nthLineOn 1 = .ok (.getfield 10, 3) := by decide +kernel
theorem dX11_nthLineOn_4 : decode cX11_nthLineOn 4 = .ok (.getfield 111, 3) := by decide +kernel
theorem dX11_nthLineOn_7 : decode cX11_nthLineOn 7 = .ok (.getfield 135, 3) := by decide +kernel
theorem dX11_nthLineOn_10 : decode cX11_nthLineOn 10 = .ok (.istore_n 2, 1) := by decide +kernel
theorem dX11_nthLineOn_11 : decode cX11_nthLineOn 11 = .ok (.iload_n 1, 1) := by decide +kernel
theorem dX11_nthLineOn_12 : decode cX11_nthLineOn 12 = .ok (.istore_n 3, 1) := by decide +kernel
theorem dX11_nthLineOn_13 : decode cX11_nthLineOn 13 = .ok (.iload_n 1, 1) := by decide +kernel
theorem dX11_nthLineOn_14 : decode cX11_nthLineOn 14 = .ok (.aload_n 0, 1) := by decide +kernel
theorem dX11_nthLineOn_15 : decode cX11_nthLineOn 15 = .ok (.getfield 55, 3) := by decide +kernel
theorem dX11_nthLineOn_18 : decode cX11_nthLineOn 18 = .ok (.invokevirtual 302, 3) := by decide +kernel
theorem dX11_nthLineOn_21 : decode cX11_nthLineOn 21 = .ok (.if_icmp .lt 5, 3) := by decide +kernel
theorem dX11_nthLineOn_24 : decode cX11_nthLineOn 24 = .ok (.iconst (-1), 1) := by decide +kernel
theorem dX11_nthLineOn_25 : decode cX11_nthLineOn 25 = .ok (.ireturn, 1) := by decide +kernel
theorem dX11_nthLineOn_26 : decode cX11_nthLineOn 26 = .ok (.iconst 0, 1) := by decide +kernel
theorem dX11_nthLineOn_27 : decode cX11_nthLineOn 27 = .ok (.istore 4, 2) := by decide +kernel
theorem dX11_nthLineOn_29 : decode cX11_nthLineOn 29 = .ok (.iload 4, 2) := by decide +kernel
theorem dX11_nthLineOn_31 : decode cX11_nthLineOn 31 = .ok (.iload_n 2, 1) := by decide +kernel
theorem dX11_nthLineOn_32 : decode cX11_nthLineOn 32 = .ok (.invokestatic 235, 3) := by decide +kernel
theorem dX11_nthLineOn_35 : decode cX11_nthLineOn 35 = .ok (.if_icmp .ge 47, 3) := by decide +kernel
theorem dX11_nthLineOn_38 : decode cX11_nthLineOn 38 = .ok (.aload_n 0, 1) := by decide +kernel
theorem dX11_nthLineOn_39 : decode cX11_nthLineOn 39 = .ok (.getfield 75, 3) := by decide +kernel
theorem dX11_nthLineOn_42 : decode cX11_nthLineOn 42 = .ok (.iload 4, 2) := by decide +kernel
theorem dX11_nthLineOn_44 : decode cX11_nthLineOn 44 = .ok (.iload_n 2, 1) := by decide +kernel
theorem dX11_nthLineOn_45 : decode cX11_nthLineOn 45 = .ok (.invokevirtual 207, 3) := by decide +kernel
theorem dX11_nthLineOn_48 : decode cX11_nthLineOn 48 = .ok (.ifCond .eq 28, 3) := by decide +kernel
theorem dX11_nthLineOn_51 : decode cX11_nthLineOn 51 = .ok (.aload_n 0, 1) := by decide +kernel
theorem dX11_nthLineOn_52 : decode cX11_nthLineOn 52 = .ok (.getfield 55, 3) := by decide +kernel
theorem dX11_nthLineOn_55 : decode cX11_nthLineOn 55 = .ok (.aload_n 0, 1) := by decide +kernel
theorem dX11_nthLineOn_56 : decode cX11_nthLineOn 56 = .ok (.getfield 75, 3) := by decide +kernel
theorem dX11_nthLineOn_59 : decode cX11_nthLineOn 59 = .ok (.invokevirtual 287, 3) := by decide +kernel
theorem dX11_nthLineOn_62 : decode cX11_nthLineOn 62 = .ok (.iconst 2, 1) := by decide +kernel
theorem dX11_nthLineOn_63 : decode cX11_nthLineOn 63 = .ok (.if_icmp .le 13, 3) := by decide +kernel
theorem dX11_nthLineOn_66 : decode cX11_nthLineOn 66 = .ok (.iload_n 3, 1) := by decide +kernel
theorem dX11_nthLineOn_67 : decode cX11_nthLineOn 67 = .ok (.ifCond .ne 6, 3) := by decide +kernel
theorem dX11_nthLineOn_70 : decode cX11_nthLineOn 70 = .ok (.iload 4, 2) := by decide +kernel
theorem dX11_nthLineOn_72 : decode cX11_nthLineOn 72 = .ok (.ireturn, 1) := by decide +kernel
theorem dX11_nthLineOn_73 : decode cX11_nthLineOn 73 = .ok (.iinc 3 (-1), 3) := by decide +kernel
theorem dX11_nthLineOn_76 : decode cX11_nthLineOn 76 = .ok (.iinc 4 1, 3) := by decide +kernel
theorem dX11_nthLineOn_79 : decode cX11_nthLineOn 79 = .ok (.goto (-50), 3) := by decide +kernel
theorem dX11_nthLineOn_82 : decode cX11_nthLineOn 82 = .ok (.iconst (-1), 1) := by decide +kernel
theorem dX11_nthLineOn_83 : decode cX11_nthLineOn 83 = .ok (.ireturn, 1) := by decide +kernel
