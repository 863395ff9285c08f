theorem dX12_init_0 : decode cX12_init 0 = .ok (.aload_n 0, 1) := by decide +kernel
theorem dX12_init_1 : decode cX12_init 1 = .ok (.invokespecial 1, 3) := by decide +kernel
theorem dX12_init_4 : decode cX12_init 4 = .ok (.aload_n 0, 1) := by decide +kernel
theorem dX12_init_5 : decode cX12_init 5 = .ok (.sipush 2115, 3) := by decide +kernel
theorem dX12_init_8 : decode cX12_init 8 = .ok (.newarray .int, 2) := by decide +kernel
theorem dX12_init_10 : decode cX12_init 10 = .ok (.putfield 7, 3) := by decide +kernel
theorem dX12_init_13 : decode cX12_init 13 = .ok (.aload_n 0, 1) := by decide +kernel
theorem dX12_init_14 : decode cX12_init 14 = .ok (.sipush 500, 3) := by decide +kernel
theorem dX12_init_17 : decode cX12_init 17 = .ok (.newarray .int, 2) := by decide +kernel
theorem dX12_init_19 : decode cX12_init 19 = .ok (.putfield 13, 3) := by decide +kernel
theorem dX12_init_22 : decode cX12_init 22 = .ok (.aload_n 0, 1) := by decide +kernel
theorem dX12_init_23 : decode cX12_init 23 = .ok (.iconst 3, 1) := by decide +kernel
theorem dX12_init_24 : decode cX12_init 24 = .ok (.newarray .boolean, 2) := by decide +kernel
theorem dX12_init_26 : decode cX12_init 26 = .ok (.putfield 16, 3) := by decide +kernel
theorem dX12_init_29 : decode cX12_init 29 = .ok (.aload_n 0, 1) := by decide +kernel
theorem dX12_init_30 : decode cX12_init 30 = .ok (.iconst (-1), 1) := by decide +kernel
theorem dX12_init_31 : decode cX12_init 31 = .ok (.putfield 20, 3) := by decide +kernel
theorem dX12_init_34 : decode cX12_init 34 = .ok (.aload_n 0, 1) := by decide +kernel
theorem dX12_init_35 : decode cX12_init 35 = .ok (.bipush 6, 2) := by decide +kernel
theorem dX12_init_37 : decode cX12_init 37 = .ok (.newarray .int, 2) := by decide +kernel
theorem dX12_init_39 : decode cX12_init 39 = .ok (.putfield 24, 3) := by decide +kernel
theorem dX12_init_42 : decode cX12_init 42 = .ok (.aload_n 0, 1) := by decide +kernel
theorem dX12_init_43 : decode cX12_init 43 = .ok (.bipush 48, 2) := by decide +kernel
theorem dX12_init_45 : decode cX12_init 45 = .ok (.newarray .int, 2) := by decide +kernel
theorem dX12_init_47 : decode cX12_init 47 = .ok (.putfield 27, 3) := by decide +kernel
theorem dX12_init_50 : decode cX12_init 50 = .ok (.aload_n 0, 1) := by decide +kernel
theorem dX12_init_51 : decode cX12_init 51 = .ok (.bipush 6, 2) := by decide +kernel
theorem dX12_init_53 : decode cX12_init 53 = .ok (.newarray .int, 2) := by decide +kernel
theorem dX12_init_55 : decode cX12_init 55 = .ok (.putfield 30, 3) := by decide +kernel
theorem dX12_init_58 : decode cX12_init 58 = .ok (.aload_n 0, 1) := by decide +kernel
theorem dX12_init_59 : decode cX12_init 59 = .ok (.bipush 6, 2) := by decide +kernel
theorem dX12_init_61 : decode cX12_init 61 = .ok (.newarray .int, 2) := by decide +kernel
theorem dX12_init_63 : decode cX12_init 63 = .ok (.putfield 33, 3) := by decide +kernel
theorem dX12_init_66 : decode cX12_init 66 = .ok (.aload_n 0, 1) := by decide +kernel
theorem dX12_init_67 : decode cX12_init 67 = .ok (.iconst 0, 1) := by decide +kernel
theorem dX12_init_68 : decode cX12_init 68 = .ok (.invokevirtual 36, 3) := by decide +kernel
theorem dX12_init_71 : decode cX12_init 71 = .ok (.return_, 1) := by decide +kernel
theorem dX12_firsts_0 : decode cX12_firsts 0 = .ok (.iconst 0, 1) := by decide +kernel
theorem dX12_firsts_1 : decode cX12_firsts 1 = .ok (.istore_n 2, 1) := by decide +kernel
theorem dX12_firsts_2 : decode cX12_firsts 2 = .ok (.iload_n 2, 1) := by decide +kernel
theorem dX12_firsts_3 : decode cX12_firsts 3 = .ok (.bipush 46, 2) := by decide +kernel
theorem dX12_firsts_5 : decode cX12_firsts 5 = .ok (.if_icmp .ge 18, 3) := by decide +kernel
theorem dX12_firsts_8 : decode cX12_firsts 8 = .ok (.aload_n 0, 1) := by decide +kernel
theorem dX12_firsts_9 : decode cX12_firsts 9 = .ok (.getfield 7, 3) := by decide +kernel
theorem dX12_firsts_12 : decode cX12_firsts 12 = .ok (.iload_n 1, 1) := by decide +kernel
theorem dX12_firsts_13 : decode cX12_firsts 13 = .ok (.iload_n 2, 1) := by decide +kernel
theorem dX12_firsts_14 : decode cX12_firsts 14 = .ok (.iadd, 1) := by decide +kernel
theorem dX12_firsts_15 : decode cX12_firsts 15 = .ok (.iconst 0, 1) := by decide +kernel
theorem dX12_firsts_16 : decode cX12_firsts 16 = .ok (.iastore, 1) := by decide +kernel
theorem dX12_firsts_17 : decode cX12_firsts 17 = .ok (.iinc 2 1, 3) := by decide +kernel
theorem dX12_firsts_20 : decode cX12_firsts 20 = .ok (.goto (-18), 3) := by decide +kernel
theorem dX12_firsts_23 : decode cX12_firsts 23 = .ok (.iconst 0, 1) := by decide +kernel
theorem dX12_firsts_24 : decode cX12_firsts 24 = .ok (.istore_n 2, 1) := by decide +kernel
theorem dX12_firsts_25 : decode cX12_firsts 25 = .ok (.iload_n 2, 1) := by decide +kernel
theorem dX12_firsts_26 : decode cX12_firsts 26 = .ok (.bipush 6, 2) := by decide +kernel
theorem dX12_firsts_28 : decode cX12_firsts 28 = .ok (.if_icmp .ge 21, 3) := by decide +kernel
theorem dX12_firsts_31 : decode cX12_firsts 31 = .ok (.aload_n 0, 1) := by decide +kernel
theorem dX12_firsts_32 : decode cX12_firsts 32 = .ok (.getfield 7, 3) := by decide +kernel
theorem dX12_firsts_35 : decode cX12_firsts 35 = .ok (.iload_n 1, 1) := by decide +kernel
theorem dX12_firsts_36 : decode cX12_firsts 36 = .ok (.bipush 6, 2) := by decide +kernel
theorem dX12_firsts_38 : decode cX12_firsts 38 = .ok (.iload_n 2, 1) := by decide +kernel
theorem dX12_firsts_39 : decode cX12_firsts 39 = .ok (.imul, 1) := by decide +kernel
theorem dX12_firsts_40 : decode cX12_firsts 40 = .ok (.iadd, 1) := by decide +kernel
theorem dX12_firsts_41 : decode cX12_firsts 41 = .ok (.iconst 1, 1) := by decide +kernel
theorem dX12_firsts_42 : decode cX12_firsts 42 = .ok (.iastore, 1) := by decide +kernel
theorem dX12_firsts_43 : decode cX12_firsts 43 = .ok (.iinc 2 1, 3) := by decide +kernel
theorem dX12_firsts_46 : decode cX12_firsts 46 = .ok (.goto (-21), 3) := by decide +kernel
theorem dX12_firsts_49 : decode cX12_firsts 49 = .ok (.aload_n 0, 1) := by decide +kernel
theorem dX12_firsts_50 : decode cX12_firsts 50 = .ok (.getfield 7, 3) := by decide +kernel
theorem dX12_firsts_53 : decode cX12_firsts 53 = .ok (.iload_n 1, 1) := by decide +kernel
theorem dX12_firsts_54 : decode cX12_firsts 54 = .ok (.bipush 36, 2) := by decide +kernel
theorem dX12_firsts_56 : decode cX12_firsts 56 = .ok (.iadd, 1) := by decide +kernel
theorem dX12_firsts_57 : decode cX12_firsts 57 = .ok (.bipush 7, 2) := by decide +kernel
theorem dX12_firsts_59 : decode cX12_firsts 59 = .ok (.iastore, 1) := by decide +kernel
theorem dX12_firsts_60 : decode cX12_firsts 60 = .ok (.return_, 1) := by decide +kernel
theorem dX12_isIn_0 : decode cX12_isIn 0 = .ok (.iload_n 0, 1) := by decide +kernel
theorem dX12_isIn_1 : decode cX12_isIn 1 = .ok (.iload_n 1, 1) := by decide +kernel
theorem dX12_isIn_2 : decode cX12_isIn 2 = .ok (.if_icmp .lt 12, 3) := by decide +kernel
theorem dX12_isIn_5 : decode cX12_isIn 5 = .ok (.iload_n 0, 1) := by decide +kernel
theorem dX12_isIn_6 : decode cX12_isIn 6 = .ok (.iload_n 2, 1) := by decide +kernel
theorem dX12_isIn_7 : decode cX12_isIn 7 = .ok (.if_icmp .gt 7, 3) := by decide +kernel
theorem dX12_isIn_10 : decode cX12_isIn 10 = .ok (.iconst 1, 1) := by decide +kernel
theorem dX12_isIn_11 : decode cX12_isIn 11 = .ok (.goto 4, 3) := by decide +kernel
theorem dX12_isIn_14 : decode cX12_isIn 14 = .ok (.iconst 0, 1) := by decide +kernel
theorem dX12_isIn_15 : decode cX12_isIn 15 = .ok (.ireturn, 1) := by decide +kernel
theorem dX12_copies_0 : decode cX12_copies 0 = .ok (.iconst 0, 1) := by decide +kernel
theorem dX12_copies_1 : decode cX12_copies 1 = .ok (.istore 4, 2) := by decide +kernel
theorem dX12_copies_3 : decode cX12_copies 3 = .ok (.iload 4, 2) := by decide +kernel
theorem dX12_copies_5 : decode cX12_copies 5 = .ok (.iload_n 3, 1) := by decide +kernel
theorem dX12_copies_6 : decode cX12_copies 6 = .ok (.if_icmp .ge 27, 3) := by decide +kernel
theorem dX12_copies_9 : decode cX12_copies 9 = .ok (.aload_n 0, 1) := by decide +kernel
theorem dX12_copies_10 : decode cX12_copies 10 = .ok (.getfield 7, 3) := by decide +kernel
theorem dX12_copies_13 : decode cX12_copies 13 = .ok (.iload_n 2, 1) := by decide +kernel
theorem dX12_copies_14 : decode cX12_copies 14 = .ok (.iload 4, 2) := by decide +kernel
theorem dX12_copies_16 : decode cX12_copies 16 = .ok (.iadd, 1) := by decide +kernel
theorem dX12_copies_17 : decode cX12_copies 17 = .ok (.aload_n 0, 1) := by decide +kernel
theorem dX12_copies_18 : decode cX12_copies 18 = .ok (.getfield 7, 3) := by decide +kernel
theorem dX12_copies_21 : decode cX12_copies 21 = .ok (.iload_n 1, 1) := by decide +kernel
theorem dX12_copies_22 : decode cX12_copies 22 = .ok (.iload 4, 2) := by decide +kernel
theorem dX12_copies_24 : decode cX12_copies 24 = .ok (.iadd, 1) := by decide +kernel
theorem dX12_copies_25 : decode cX12_copies 25 = .ok (.iaload, 1) := by decide +kernel
theorem dX12_copies_26 : decode cX12_copies 26 = .ok (.iastore, 1) := by decide +kernel
theorem dX12_copies_27 : decode cX12_copies 27 = .ok (.iinc 4 1, 3) := by decide +kernel
theorem dX12_copies_30 : decode cX12_copies 30 = .ok (.goto (-27), 3) := by decide +kernel
theorem dX12_copies_33 : decode cX12_copies 33 = .ok (.return_, 1) := by decide +kernel
theorem dX12_isPrime_0 : decode cX12_isPrime 0 = .ok (.iload_n 0, 1) := by decide +kernel
theorem dX12_isPrime_1 : decode cX12_isPrime 1 = .ok (.iconst 3, 1) := by decide +kernel
theorem dX12_isPrime_2 : decode cX12_isPrime 2 = .ok (.if_icmp .eq 44, 3) := by decide +kernel
theorem dX12_isPrime_5 : decode cX12_isPrime 5 = .ok (.iload_n 0, 1) := by decide +kernel
theorem dX12_isPrime_6 : decode cX12_isPrime 6 = .ok (.iconst 5, 1) := by decide +kernel
theorem dX12_isPrime_7 : decode cX12_isPrime 7 = .ok (.if_icmp .eq 39, 3) := by decide +kernel
theorem dX12_isPrime_10 : decode cX12_isPrime 10 = .ok (.iload_n 0, 1) := by decide +kernel
theorem dX12_isPrime_11 : decode cX12_isPrime 11 = .ok (.bipush 7, 2) := by decide +kernel
theorem dX12_isPrime_13 : decode cX12_isPrime 13 = .ok (.if_icmp .eq 33, 3) := by decide +kernel
theorem dX12_isPrime_16 : decode cX12_isPrime 16 = .ok (.iload_n 0, 1) := by decide +kernel
theorem dX12_isPrime_17 : decode cX12_isPrime 17 = .ok (.bipush 11, 2) := by decide +kernel
theorem dX12_isPrime_19 : decode cX12_isPrime 19 = .ok (.if_icmp .eq 27, 3) := by decide +kernel
theorem dX12_isPrime_22 : decode cX12_isPrime 22 = .ok (.iload_n 0, 1) := by decide +kernel
theorem dX12_isPrime_23 : decode cX12_isPrime 23 = .ok (.bipush 13, 2) := by decide +kernel
theorem dX12_isPrime_25 : decode cX12_isPrime 25 = .ok (.if_icmp .eq 21, 3) := by decide +kernel
theorem dX12_isPrime_28 : decode cX12_isPrime 28 = .ok (.iload_n 0, 1) := by decide +kernel
theorem dX12_isPrime_29 : decode cX12_isPrime 29 = .ok (.bipush 17, 2) := by decide +kernel
theorem dX12_isPrime_31 : decode cX12_isPrime 31 = .ok (.if_icmp .eq 15, 3) := by decide +kernel
theorem dX12_isPrime_34 : decode cX12_isPrime 34 = .ok (.iload_n 0, 1) := by decide +kernel
theorem dX12_isPrime_35 : decode cX12_isPrime 35 = .ok (.bipush 19, 2) := by decide +kernel
theorem dX12_isPrime_37 : decode cX12_isPrime 37 = .ok (.if_icmp .eq 9, 3) := by decide +kernel
theorem dX12_isPrime_40 : decode cX12_isPrime 40 = .ok (.iload_n 0, 1) := by decide +kernel
theorem dX12_isPrime_41 : decode cX12_isPrime 41 = .ok (.bipush 23, 2) := by decide +kernel
theorem dX12_isPrime_43 : decode cX12_isPrime 43 = .ok (.if_icmp .ne 7, 3) := by decide +kernel
theorem dX12_isPrime_46 : decode cX12_isPrime 46 = .ok (.iconst 1, 1) := by decide +kernel
theorem dX12_isPrime_47 : decode cX12_isPrime 47 = .ok (.goto 4, 3) := by decide +kernel
theorem dX12_isPrime_50 : decode cX12_isPrime 50 = .ok (.iconst 0, 1) := by decide +kernel
theorem dX12_isPrime_51 : decode cX12_isPrime 51 = .ok (.ireturn, 1) := by decide +kernel
theorem dX12_rest_0 : decode cX12_rest 0 = .ok (.iload_n 1, 1) := by decide +kernel
theorem dX12_rest_1 : decode cX12_rest 1 = .ok (.aload_n 0, 1) := by decide +kernel
theorem dX12_rest_2 : decode cX12_rest 2 = .ok (.getfield 40, 3) := by decide +kernel
theorem dX12_rest_5 : decode cX12_rest 5 = .ok (.irem, 1) := by decide +kernel
theorem dX12_rest_6 : decode cX12_rest 6 = .ok (.aload_n 0, 1) := by decide +kernel
theorem dX12_rest_7 : decode cX12_rest 7 = .ok (.getfield 40, 3) := by decide +kernel
theorem dX12_rest_10 : decode cX12_rest 10 = .ok (.iadd, 1) := by decide +kernel
theorem dX12_rest_11 : decode cX12_rest 11 = .ok (.aload_n 0, 1) := by decide +kernel
theorem dX12_rest_12 : decode cX12_rest 12 = .ok (.getfield 40, 3) := by decide +kernel
theorem dX12_rest_15 : decode cX12_rest 15 = .ok (.irem, 1) := by decide +kernel
theorem dX12_rest_16 : decode cX12_rest 16 = .ok (.ireturn, 1) := by decide +kernel
theorem dX12_inverse_0 : decode cX12_inverse 0 = .ok (.iconst 1, 1) := by decide +kernel
theorem dX12_inverse_1 : decode cX12_inverse 1 = .ok (.istore_n 2, 1) := by decide +kernel
theorem dX12_inverse_2 : decode cX12_inverse 2 = .ok (.iload_n 1, 1) := by decide +kernel
theorem dX12_inverse_3 : decode cX12_inverse 3 = .ok (.iload_n 2, 1) := by decide +kernel
theorem dX12_inverse_4 : decode cX12_inverse 4 = .ok (.imul, 1) := by decide +kernel
theorem dX12_inverse_5 : decode cX12_inverse 5 = .ok (.aload_n 0, 1) := by decide +kernel
theorem dX12_inverse_6 : decode cX12_inverse 6 = .ok (.getfield 40, 3) := by decide +kernel
theorem dX12_inverse_9 : decode cX12_inverse 9 = .ok (.irem, 1) := by decide +kernel
theorem dX12_inverse_10 : decode cX12_inverse 10 = .ok (.iconst 1, 1) := by decide +kernel
theorem dX12_inverse_11 : decode cX12_inverse 11 = .ok (.if_icmp .eq 9, 3) := by decide +kernel
theorem dX12_inverse_14 : decode cX12_inverse 14 = .ok (.iinc 2 1, 3) := by decide +kernel
theorem dX12_inverse_17 : decode cX12_inverse 17 = .ok (.goto (-15), 3) := by decide +kernel
theorem dX12_inverse_20 : decode cX12_inverse 20 = .ok (.iload_n 2, 1) := by decide +kernel
theorem dX12_inverse_21 : decode cX12_inverse 21 = .ok (.ireturn, 1) := by decide +kernel
theorem dX12_places_0 : decode cX12_places 0 = .ok (.aload_n 0, 1) := by decide +kernel
theorem dX12_places_1 : decode cX12_places 1 = .ok (.getfield 40, 3) := by decide +kernel
theorem dX12_places_4 : decode cX12_places 4 = .ok (.aload_n 0, 1) := by decide +kernel
theorem dX12_places_5 : decode cX12_places 5 = .ok (.getfield 40, 3) := by decide +kernel
theorem dX12_places_8 : decode cX12_places 8 = .ok (.imul, 1) := by decide +kernel
theorem dX12_places_9 : decode cX12_places 9 = .ok (.aload_n 0, 1) := by decide +kernel
theorem dX12_places_10 : decode cX12_places 10 = .ok (.getfield 40, 3) := by decide +kernel
theorem dX12_places_13 : decode cX12_places 13 = .ok (.iadd, 1) := by decide +kernel
theorem dX12_places_14 : decode cX12_places 14 = .ok (.iconst 1, 1) := by decide +kernel
theorem dX12_places_15 : decode cX12_places 15 = .ok (.iadd, 1) := by decide +kernel
theorem dX12_places_16 : decode cX12_places 16 = .ok (.ireturn, 1) := by decide +kernel
theorem dX12_laysPlace_0 : decode cX12_laysPlace 0 = .ok (.aload_n 0, 1) := by decide +kernel
theorem dX12_laysPlace_1 : decode cX12_laysPlace 1 = .ok (.iload_n 1, 1) := by decide +kernel
theorem dX12_laysPlace_2 : decode cX12_laysPlace 2 = .ok (.aload_n 0, 1) := by decide +kernel
theorem dX12_laysPlace_3 : decode cX12_laysPlace 3 = .ok (.getfield 40, 3) := by decide +kernel
theorem dX12_laysPlace_6 : decode cX12_laysPlace 6 = .ok (.aload_n 0, 1) := by decide +kernel
theorem dX12_laysPlace_7 : decode cX12_laysPlace 7 = .ok (.getfield 40, 3) := by decide +kernel
theorem dX12_laysPlace_10 : decode cX12_laysPlace 10 = .ok (.imul, 1) := by decide +kernel
theorem dX12_laysPlace_11 : decode cX12_laysPlace 11 = .ok (.if_icmp .ge 7, 3) := by decide +kernel
theorem dX12_laysPlace_14 : decode cX12_laysPlace 14 = .ok (.iconst 1, 1) := by decide +kernel
theorem dX12_laysPlace_15 : decode cX12_laysPlace 15 = .ok (.goto 4, 3) := by decide +kernel
theorem dX12_laysPlace_18 : decode cX12_laysPlace 18 = .ok (.iconst 0, 1) := by decide +kernel
theorem dX12_laysPlace_19 : decode cX12_laysPlace 19 = .ok (.putfield 43, 3) := by decide +kernel
theorem dX12_laysPlace_22 : decode cX12_laysPlace 22 = .ok (.aload_n 0, 1) := by decide +kernel
theorem dX12_laysPlace_23 : decode cX12_laysPlace 23 = .ok (.iload_n 1, 1) := by decide +kernel
theorem dX12_laysPlace_24 : decode cX12_laysPlace 24 = .ok (.aload_n 0, 1) := by decide +kernel
theorem dX12_laysPlace_25 : decode cX12_laysPlace 25 = .ok (.getfield 40, 3) := by decide +kernel
theorem dX12_laysPlace_28 : decode cX12_laysPlace 28 = .ok (.aload_n 0, 1) := by decide +kernel
theorem dX12_laysPlace_29 : decode cX12_laysPlace 29 = .ok (.getfield 40, 3) := by decide +kernel
theorem dX12_laysPlace_32 : decode cX12_laysPlace 32 = .ok (.imul, 1) := by decide +kernel
theorem dX12_laysPlace_33 : decode cX12_laysPlace 33 = .ok (.if_icmp .ge 12, 3) := by decide +kernel
theorem dX12_laysPlace_36 : decode cX12_laysPlace 36 = .ok (.iload_n 1, 1) := by decide +kernel
theorem dX12_laysPlace_37 : decode cX12_laysPlace 37 = .ok (.aload_n 0, 1) := by decide +kernel
theorem dX12_laysPlace_38 : decode cX12_laysPlace 38 = .ok (.getfield 40, 3) := by decide +kernel
theorem dX12_laysPlace_41 : decode cX12_laysPlace 41 = .ok (.idiv, 1) := by decide +kernel
theorem dX12_laysPlace_42 : decode cX12_laysPlace 42 = .ok (.goto 26, 3) := by decide +kernel
theorem dX12_laysPlace_45 : decode cX12_laysPlace 45 = .ok (.iload_n 1, 1) := by decide +kernel
theorem dX12_laysPlace_46 : decode cX12_laysPlace 46 = .ok (.aload_n 0, 1) := by decide +kernel
theorem dX12_laysPlace_47 : decode cX12_laysPlace 47 = .ok (.getfield 40, 3) := by decide +kernel
theorem dX12_laysPlace_50 : decode cX12_laysPlace 50 = .ok (.aload_n 0, 1) := by decide +kernel
theorem dX12_laysPlace_51 : decode cX12_laysPlace 51 = .ok (.getfield 40, 3) := by decide +kernel
theorem dX12_laysPlace_54 : decode cX12_laysPlace 54 = .ok (.imul, 1) := by decide +kernel
theorem dX12_laysPlace_55 : decode cX12_laysPlace 55 = .ok (.aload_n 0, 1) := by decide +kernel
theorem dX12_laysPlace_56 : decode cX12_laysPlace 56 = .ok (.getfield 40, 3) := by decide +kernel
theorem dX12_laysPlace_59 : decode cX12_laysPlace 59 = .ok (.iadd, 1) := by decide +kernel
theorem dX12_laysPlace_60 : decode cX12_laysPlace 60 = .ok (.if_icmp .ge 7, 3) := by decide +kernel
theorem dX12_laysPlace_63 : decode cX12_laysPlace 63 = .ok (.iconst 1, 1) := by decide +kernel
theorem dX12_laysPlace_64 : decode cX12_laysPlace 64 = .ok (.goto 4, 3) := by decide +kernel
theorem dX12_laysPlace_67 : decode cX12_laysPlace 67 = .ok (.iconst 0, 1) := by decide +kernel
theorem dX12_laysPlace_68 : decode cX12_laysPlace 68 = .ok (.putfield 46, 3) := by decide +kernel
theorem dX12_laysPlace_71 : decode cX12_laysPlace 71 = .ok (.aload_n 0, 1) := by decide +kernel
theorem dX12_laysPlace_72 : decode cX12_laysPlace 72 = .ok (.iload_n 1, 1) := by decide +kernel
theorem dX12_laysPlace_73 : decode cX12_laysPlace 73 = .ok (.aload_n 0, 1) := by decide +kernel
theorem dX12_laysPlace_74 : decode cX12_laysPlace 74 = .ok (.getfield 40, 3) := by decide +kernel
theorem dX12_laysPlace_77 : decode cX12_laysPlace 77 = .ok (.aload_n 0, 1) := by decide +kernel
theorem dX12_laysPlace_78 : decode cX12_laysPlace 78 = .ok (.getfield 40, 3) := by decide +kernel
theorem dX12_laysPlace_81 : decode cX12_laysPlace 81 = .ok (.imul, 1) := by decide +kernel
theorem dX12_laysPlace_82 : decode cX12_laysPlace 82 = .ok (.if_icmp .ge 12, 3) := by decide +kernel
theorem dX12_laysPlace_85 : decode cX12_laysPlace 85 = .ok (.iload_n 1, 1) := by decide +kernel
theorem dX12_laysPlace_86 : decode cX12_laysPlace 86 = .ok (.aload_n 0, 1) := by decide +kernel
theorem dX12_laysPlace_87 : decode cX12_laysPlace 87 = .ok (.getfield 40, 3) := by decide +kernel
theorem dX12_laysPlace_90 : decode cX12_laysPlace 90 = .ok (.irem, 1) := by decide +kernel
theorem dX12_laysPlace_91 : decode cX12_laysPlace 91 = .ok (.goto 36, 3) := by decide +kernel
theorem dX12_laysPlace_94 : decode cX12_laysPlace 94 = .ok (.iload_n 1, 1) := by decide +kernel
theorem dX12_laysPlace_95 : decode cX12_laysPlace 95 = .ok (.aload_n 0, 1) := by decide +kernel
theorem dX12_laysPlace_96 : decode cX12_laysPlace 96 = .ok (.getfield 40, 3) := by decide +kernel
theorem dX12_laysPlace_99 : decode cX12_laysPlace 99 = .ok (.aload_n 0, 1) := by decide +kernel
theorem dX12_laysPlace_100 : decode cX12_laysPlace 100 = .ok (.getfield 40, 3) := by decide +kernel
theorem dX12_laysPlace_103 : decode cX12_laysPlace 103 = .ok (.imul, 1) := by decide +kernel
theorem dX12_laysPlace_104 : decode cX12_laysPlace 104 = .ok (.aload_n 0, 1) := by decide +kernel
theorem dX12_laysPlace_105 : decode cX12_laysPlace 105 = .ok (.getfield 40, 3) := by decide +kernel
theorem dX12_laysPlace_108 : decode cX12_laysPlace 108 = .ok (.iadd, 1) := by decide +kernel
theorem dX12_laysPlace_109 : decode cX12_laysPlace 109 = .ok (.if_icmp .ge 17, 3) := by decide +kernel
theorem dX12_laysPlace_112 : decode cX12_laysPlace 112 = .ok (.iload_n 1, 1) := by decide +kernel
theorem dX12_laysPlace_113 : decode cX12_laysPlace 113 = .ok (.aload_n 0, 1) := by decide +kernel
theorem dX12_laysPlace_114 : decode cX12_laysPlace 114 = .ok (.getfield 40, 3) := by decide +kernel
theorem dX12_laysPlace_117 : decode cX12_laysPlace 117 = .ok (.aload_n 0, 1) := by decide +kernel
theorem dX12_laysPlace_118 : decode cX12_laysPlace 118 = .ok (.getfield 40, 3) := by decide +kernel
theorem dX12_laysPlace_121 : decode cX12_laysPlace 121 = .ok (.imul, 1) := by decide +kernel
theorem dX12_laysPlace_122 : decode cX12_laysPlace 122 = .ok (.isub, 1) := by decide +kernel
theorem dX12_laysPlace_123 : decode cX12_laysPlace 123 = .ok (.goto 4, 3) := by decide +kernel
theorem dX12_laysPlace_126 : decode cX12_laysPlace 126 = .ok (.iconst 1, 1) := by decide +kernel
theorem dX12_laysPlace_127 : decode cX12_laysPlace 127 = .ok (.putfield 49, 3) := by decide +kernel
theorem dX12_laysPlace_130 : decode cX12_laysPlace 130 = .ok (.return_, 1) := by decide +kernel
theorem dX12_numberOf_0 : decode cX12_numberOf 0 = .ok (.aload_n 0, 1) := by decide +kernel
theorem dX12_numberOf_1 : decode cX12_numberOf 1 = .ok (.iload_n 1, 1) := by decide +kernel
theorem dX12_numberOf_2 : decode cX12_numberOf 2 = .ok (.invokevirtual 52, 3) := by decide +kernel
theorem dX12_numberOf_5 : decode cX12_numberOf 5 = .ok (.istore 4, 2) := by decide +kernel
theorem dX12_numberOf_7 : decode cX12_numberOf 7 = .ok (.aload_n 0, 1) := by decide +kernel
theorem dX12_numberOf_8 : decode cX12_numberOf 8 = .ok (.iload_n 2, 1) := by decide +kernel
theorem dX12_numberOf_9 : decode cX12_numberOf 9 = .ok (.invokevirtual 52, 3) := by decide +kernel
theorem dX12_numberOf_12 : decode cX12_numberOf 12 = .ok (.istore 5, 2) := by decide +kernel
theorem dX12_numberOf_14 : decode cX12_numberOf 14 = .ok (.aload_n 0, 1) := by decide +kernel
theorem dX12_numberOf_15 : decode cX12_numberOf 15 = .ok (.iload_n 3, 1) := by decide +kernel
theorem dX12_numberOf_16 : decode cX12_numberOf 16 = .ok (.invokevirtual 52, 3) := by decide +kernel
theorem dX12_numberOf_19 : decode cX12_numberOf 19 = .ok (.istore 6, 2) := by decide +kernel
theorem dX12_numberOf_21 : decode cX12_numberOf 21 = .ok (.iload 4, 2) := by decide +kernel
theorem dX12_numberOf_23 : decode cX12_numberOf 23 = .ok (.ifCond .eq 38, 3) := by decide +kernel
theorem dX12_numberOf_26 : decode cX12_numberOf 26 = .ok (.aload_n 0, 1) := by decide +kernel
theorem dX12_numberOf_27 : decode cX12_numberOf 27 = .ok (.getfield 40, 3) := by decide +kernel
theorem dX12_numberOf_30 : decode cX12_numberOf 30 = .ok (.iload 5, 2) := by decide +kernel
theorem dX12_numberOf_32 : decode cX12_numberOf 32 = .ok (.aload_n 0, 1) := by decide +kernel
theorem dX12_numberOf_33 : decode cX12_numberOf 33 = .ok (.iload 4, 2) := by decide +kernel
theorem dX12_numberOf_35 : decode cX12_numberOf 35 = .ok (.invokevirtual 56, 3) := by decide +kernel
theorem dX12_numberOf_38 : decode cX12_numberOf 38 = .ok (.imul, 1) := by decide +kernel
theorem dX12_numberOf_39 : decode cX12_numberOf 39 = .ok (.aload_n 0, 1) := by decide +kernel
theorem dX12_numberOf_40 : decode cX12_numberOf 40 = .ok (.getfield 40, 3) := by decide +kernel
theorem dX12_numberOf_43 : decode cX12_numberOf 43 = .ok (.irem, 1) := by decide +kernel
theorem dX12_numberOf_44 : decode cX12_numberOf 44 = .ok (.imul, 1) := by decide +kernel
theorem dX12_numberOf_45 : decode cX12_numberOf 45 = .ok (.iload 6, 2) := by decide +kernel
theorem dX12_numberOf_47 : decode cX12_numberOf 47 = .ok (.aload_n 0, 1) := by decide +kernel
theorem dX12_numberOf_48 : decode cX12_numberOf 48 = .ok (.iload 4, 2) := by decide +kernel
theorem dX12_numberOf_50 : decode cX12_numberOf 50 = .ok (.invokevirtual 56, 3) := by decide +kernel
theorem dX12_numberOf_53 : decode cX12_numberOf 53 = .ok (.imul, 1) := by decide +kernel
theorem dX12_numberOf_54 : decode cX12_numberOf 54 = .ok (.aload_n 0, 1) := by decide +kernel
theorem dX12_numberOf_55 : decode cX12_numberOf 55 = .ok (.getfield 40, 3) := by decide +kernel
theorem dX12_numberOf_58 : decode cX12_numberOf 58 = .ok (.irem, 1) := by decide +kernel
theorem dX12_numberOf_59 : decode cX12_numberOf 59 = .ok (.iadd, 1) := by decide +kernel
theorem dX12_numberOf_60 : decode cX12_numberOf 60 = .ok (.ireturn, 1) := by decide +kernel
theorem dX12_numberOf_61 : decode cX12_numberOf 61 = .ok (.iload 5, 2) := by decide +kernel
theorem dX12_numberOf_63 : decode cX12_numberOf 63 = .ok (.ifCond .eq 28, 3) := by decide +kernel
theorem dX12_numberOf_66 : decode cX12_numberOf 66 = .ok (.aload_n 0, 1) := by decide +kernel
theorem dX12_numberOf_67 : decode cX12_numberOf 67 = .ok (.getfield 40, 3) := by decide +kernel
theorem dX12_numberOf_70 : decode cX12_numberOf 70 = .ok (.aload_n 0, 1) := by decide +kernel
theorem dX12_numberOf_71 : decode cX12_numberOf 71 = .ok (.getfield 40, 3) := by decide +kernel
theorem dX12_numberOf_74 : decode cX12_numberOf 74 = .ok (.imul, 1) := by decide +kernel
theorem dX12_numberOf_75 : decode cX12_numberOf 75 = .ok (.iload 6, 2) := by decide +kernel
theorem dX12_numberOf_77 : decode cX12_numberOf 77 = .ok (.aload_n 0, 1) := by decide +kernel
theorem dX12_numberOf_78 : decode cX12_numberOf 78 = .ok (.iload 5, 2) := by decide +kernel
theorem dX12_numberOf_80 : decode cX12_numberOf 80 = .ok (.invokevirtual 56, 3) := by decide +kernel
theorem dX12_numberOf_83 : decode cX12_numberOf 83 = .ok (.imul, 1) := by decide +kernel
theorem dX12_numberOf_84 : decode cX12_numberOf 84 = .ok (.aload_n 0, 1) := by decide +kernel
theorem dX12_numberOf_85 : decode cX12_numberOf 85 = .ok (.getfield 40, 3) := by decide +kernel
theorem dX12_numberOf_88 : decode cX12_numberOf 88 = .ok (.irem, 1) := by decide +kernel
theorem dX12_numberOf_89 : decode cX12_numberOf 89 = .ok (.iadd, 1) := by decide +kernel
theorem dX12_numberOf_90 : decode cX12_numberOf 90 = .ok (.ireturn, 1) := by decide +kernel
theorem dX12_numberOf_91 : decode cX12_numberOf 91 = .ok (.iload 6, 2) := by decide +kernel
theorem dX12_numberOf_93 : decode cX12_numberOf 93 = .ok (.ifCond .eq 20, 3) := by decide +kernel
theorem dX12_numberOf_96 : decode cX12_numberOf 96 = .ok (.aload_n 0, 1) := by decide +kernel
theorem dX12_numberOf_97 : decode cX12_numberOf 97 = .ok (.getfield 40, 3) := by decide +kernel
theorem dX12_numberOf_100 : decode cX12_numberOf 100 = .ok (.aload_n 0, 1) := by decide +kernel
theorem dX12_numberOf_101 : decode cX12_numberOf 101 = .ok (.getfield 40, 3) := by decide +kernel
theorem dX12_numberOf_104 : decode cX12_numberOf 104 = .ok (.imul, 1) := by decide +kernel
theorem dX12_numberOf_105 : decode cX12_numberOf 105 = .ok (.aload_n 0, 1) := by decide +kernel
theorem dX12_numberOf_106 : decode cX12_numberOf 106 = .ok (.getfield 40, 3) := by decide +kernel
theorem dX12_numberOf_109 : decode cX12_numberOf 109 = .ok (.iadd, 1) := by decide +kernel
theorem dX12_numberOf_110 : decode cX12_numberOf 110 = .ok (.goto 4, 3) := by decide +kernel
theorem dX12_numberOf_113 : decode cX12_numberOf 113 = .ok (.iconst (-1), 1) := by decide +kernel
theorem dX12_numberOf_114 : decode cX12_numberOf 114 = .ok (.ireturn, 1) := by decide +kernel
theorem dX12_isOnLine_0 : decode cX12_isOnLine 0 = .ok (.aload_n 0, 1) := by decide +kernel
theorem dX12_isOnLine_1 : decode cX12_isOnLine 1 = .ok (.iload_n 2, 1) := by decide +kernel
theorem dX12_isOnLine_2 : decode cX12_isOnLine 2 = .ok (.invokevirtual 59, 3) := by decide +kernel
theorem dX12_isOnLine_5 : decode cX12_isOnLine 5 = .ok (.aload_n 0, 1) := by decide +kernel
theorem dX12_isOnLine_6 : decode cX12_isOnLine 6 = .ok (.getfield 43, 3) := by decide +kernel
theorem dX12_isOnLine_9 : decode cX12_isOnLine 9 = .ok (.istore_n 3, 1) := by decide +kernel
theorem dX12_isOnLine_10 : decode cX12_isOnLine 10 = .ok (.aload_n 0, 1) := by decide +kernel
theorem dX12_isOnLine_11 : decode cX12_isOnLine 11 = .ok (.getfield 46, 3) := by decide +kernel
theorem dX12_isOnLine_14 : decode cX12_isOnLine 14 = .ok (.istore 4, 2) := by decide +kernel
theorem dX12_isOnLine_16 : decode cX12_isOnLine 16 = .ok (.aload_n 0, 1) := by decide +kernel
theorem dX12_isOnLine_17 : decode cX12_isOnLine 17 = .ok (.getfield 49, 3) := by decide +kernel
theorem dX12_isOnLine_20 : decode cX12_isOnLine 20 = .ok (.istore 5, 2) := by decide +kernel
theorem dX12_isOnLine_22 : decode cX12_isOnLine 22 = .ok (.aload_n 0, 1) := by decide +kernel
theorem dX12_isOnLine_23 : decode cX12_isOnLine 23 = .ok (.iload_n 1, 1) := by decide +kernel
theorem dX12_isOnLine_24 : decode cX12_isOnLine 24 = .ok (.invokevirtual 59, 3) := by decide +kernel
theorem dX12_isOnLine_27 : decode cX12_isOnLine 27 = .ok (.iload_n 3, 1) := by decide +kernel
theorem dX12_isOnLine_28 : decode cX12_isOnLine 28 = .ok (.aload_n 0, 1) := by decide +kernel
theorem dX12_isOnLine_29 : decode cX12_isOnLine 29 = .ok (.getfield 43, 3) := by decide +kernel
theorem dX12_isOnLine_32 : decode cX12_isOnLine 32 = .ok (.imul, 1) := by decide +kernel
theorem dX12_isOnLine_33 : decode cX12_isOnLine 33 = .ok (.iload 4, 2) := by decide +kernel
theorem dX12_isOnLine_35 : decode cX12_isOnLine 35 = .ok (.aload_n 0, 1) := by decide +kernel
theorem dX12_isOnLine_36 : decode cX12_isOnLine 36 = .ok (.getfield 46, 3) := by decide +kernel
theorem dX12_isOnLine_39 : decode cX12_isOnLine 39 = .ok (.imul, 1) := by decide +kernel
theorem dX12_isOnLine_40 : decode cX12_isOnLine 40 = .ok (.iadd, 1) := by decide +kernel
theorem dX12_isOnLine_41 : decode cX12_isOnLine 41 = .ok (.iload 5, 2) := by decide +kernel
theorem dX12_isOnLine_43 : decode cX12_isOnLine 43 = .ok (.aload_n 0, 1) := by decide +kernel
theorem dX12_isOnLine_44 : decode cX12_isOnLine 44 = .ok (.getfield 49, 3) := by decide +kernel
theorem dX12_isOnLine_47 : decode cX12_isOnLine 47 = .ok (.imul, 1) := by decide +kernel
theorem dX12_isOnLine_48 : decode cX12_isOnLine 48 = .ok (.iadd, 1) := by decide +kernel
theorem dX12_isOnLine_49 : decode cX12_isOnLine 49 = .ok (.aload_n 0, 1) := by decide +kernel
theorem dX12_isOnLine_50 : decode cX12_isOnLine 50 = .ok (.getfield 40, 3) := by decide +kernel
theorem dX12_isOnLine_53 : decode cX12_isOnLine 53 = .ok (.irem, 1) := by decide +kernel
theorem dX12_isOnLine_54 : decode cX12_isOnLine 54 = .ok (.ifCond .ne 7, 3) := by decide +kernel
theorem dX12_isOnLine_57 : decode cX12_isOnLine 57 = .ok (.iconst 1, 1) := by decide +kernel
theorem dX12_isOnLine_58 : decode cX12_isOnLine 58 = .ok (.goto 4, 3) := by decide +kernel
theorem dX12_isOnLine_61 : decode cX12_isOnLine 61 = .ok (.iconst 0, 1) := by decide +kernel
theorem dX12_isOnLine_62 : decode cX12_isOnLine 62 = .ok (.ireturn, 1) := by decide +kernel
theorem dX12_laysConic_0 : decode cX12_laysConic 0 = .ok (.aload_n 0, 1) := by decide +kernel
theorem dX12_laysConic_1 : decode cX12_laysConic 1 = .ok (.aload_n 0, 1) := by decide +kernel
theorem dX12_laysConic_2 : decode cX12_laysConic 2 = .ok (.getfield 7, 3) := by decide +kernel
theorem dX12_laysConic_5 : decode cX12_laysConic 5 = .ok (.iload_n 1, 1) := by decide +kernel
theorem dX12_laysConic_6 : decode cX12_laysConic 6 = .ok (.bipush 36, 2) := by decide +kernel
theorem dX12_laysConic_8 : decode cX12_laysConic 8 = .ok (.iadd, 1) := by decide +kernel
theorem dX12_laysConic_9 : decode cX12_laysConic 9 = .ok (.iaload, 1) := by decide +kernel
theorem dX12_laysConic_10 : decode cX12_laysConic 10 = .ok (.putfield 40, 3) := by decide +kernel
theorem dX12_laysConic_13 : decode cX12_laysConic 13 = .ok (.iconst 0, 1) := by decide +kernel
theorem dX12_laysConic_14 : decode cX12_laysConic 14 = .ok (.istore_n 3, 1) := by decide +kernel
theorem dX12_laysConic_15 : decode cX12_laysConic 15 = .ok (.iload_n 3, 1) := by decide +kernel
theorem dX12_laysConic_16 : decode cX12_laysConic 16 = .ok (.bipush 6, 2) := by decide +kernel
theorem dX12_laysConic_18 : decode cX12_laysConic 18 = .ok (.if_icmp .ge 32, 3) := by decide +kernel
theorem dX12_laysConic_21 : decode cX12_laysConic 21 = .ok (.aload_n 0, 1) := by decide +kernel
theorem dX12_laysConic_22 : decode cX12_laysConic 22 = .ok (.getfield 24, 3) := by decide +kernel
theorem dX12_laysConic_25 : decode cX12_laysConic 25 = .ok (.iload_n 3, 1) := by decide +kernel
theorem dX12_laysConic_26 : decode cX12_laysConic 26 = .ok (.aload_n 0, 1) := by decide +kernel
theorem dX12_laysConic_27 : decode cX12_laysConic 27 = .ok (.aload_n 0, 1) := by decide +kernel
theorem dX12_laysConic_28 : decode cX12_laysConic 28 = .ok (.getfield 7, 3) := by decide +kernel
theorem dX12_laysConic_31 : decode cX12_laysConic 31 = .ok (.iload_n 1, 1) := by decide +kernel
theorem dX12_laysConic_32 : decode cX12_laysConic 32 = .ok (.bipush 6, 2) := by decide +kernel
theorem dX12_laysConic_34 : decode cX12_laysConic 34 = .ok (.iload_n 2, 1) := by decide +kernel
theorem dX12_laysConic_35 : decode cX12_laysConic 35 = .ok (.imul, 1) := by decide +kernel
theorem dX12_laysConic_36 : decode cX12_laysConic 36 = .ok (.iadd, 1) := by decide +kernel
theorem dX12_laysConic_37 : decode cX12_laysConic 37 = .ok (.iload_n 3, 1) := by decide +kernel
theorem dX12_laysConic_38 : decode cX12_laysConic 38 = .ok (.iadd, 1) := by decide +kernel
theorem dX12_laysConic_39 : decode cX12_laysConic 39 = .ok (.iaload, 1) := by decide +kernel
theorem dX12_laysConic_40 : decode cX12_laysConic 40 = .ok (.invokevirtual 52, 3) := by decide +kernel
theorem dX12_laysConic_43 : decode cX12_laysConic 43 = .ok (.iastore, 1) := by decide +kernel
theorem dX12_laysConic_44 : decode cX12_laysConic 44 = .ok (.iinc 3 1, 3) := by decide +kernel
theorem dX12_laysConic_47 : decode cX12_laysConic 47 = .ok (.goto (-32), 3) := by decide +kernel
theorem dX12_laysConic_50 : decode cX12_laysConic 50 = .ok (.return_, 1) := by decide +kernel
theorem dX12_isVoid_0 : decode cX12_isVoid 0 = .ok (.iconst 0, 1) := by decide +kernel
theorem dX12_isVoid_1 : decode cX12_isVoid 1 = .ok (.istore_n 1, 1) := by decide +kernel
theorem dX12_isVoid_2 : decode cX12_isVoid 2 = .ok (.iconst 0, 1) := by decide +kernel
theorem dX12_isVoid_3 : decode cX12_isVoid 3 = .ok (.istore_n 2, 1) := by decide +kernel
theorem dX12_isVoid_4 : decode cX12_isVoid 4 = .ok (.iload_n 2, 1) := by decide +kernel
theorem dX12_isVoid_5 : decode cX12_isVoid 5 = .ok (.bipush 6, 2) := by decide +kernel
theorem dX12_isVoid_7 : decode cX12_isVoid 7 = .ok (.if_icmp .ge 18, 3) := by decide +kernel
theorem dX12_isVoid_10 : decode cX12_isVoid 10 = .ok (.iload_n 1, 1) := by decide +kernel
theorem dX12_isVoid_11 : decode cX12_isVoid 11 = .ok (.aload_n 0, 1) := by decide +kernel
theorem dX12_isVoid_12 : decode cX12_isVoid 12 = .ok (.getfield 24, 3) := by decide +kernel
theorem dX12_isVoid_15 : decode cX12_isVoid 15 = .ok (.iload_n 2, 1) := by decide +kernel
theorem dX12_isVoid_16 : decode cX12_isVoid 16 = .ok (.iaload, 1) := by decide +kernel
theorem dX12_isVoid_17 : decode cX12_isVoid 17 = .ok (.iadd, 1) := by decide +kernel
theorem dX12_isVoid_18 : decode cX12_isVoid 18 = .ok (.istore_n 1, 1) := by decide +kernel
theorem dX12_isVoid_19 : decode cX12_isVoid 19 = .ok (.iinc 2 1, 3) := by decide +kernel
theorem dX12_isVoid_22 : decode cX12_isVoid 22 = .ok (.goto (-18), 3) := by decide +kernel
theorem dX12_isVoid_25 : decode cX12_isVoid 25 = .ok (.iload_n 1, 1) := by decide +kernel
theorem dX12_isVoid_26 : decode cX12_isVoid 26 = .ok (.ifCond .ne 7, 3) := by decide +kernel
theorem dX12_isVoid_29 : decode cX12_isVoid 29 = .ok (.iconst 1, 1) := by decide +kernel
theorem dX12_isVoid_30 : decode cX12_isVoid 30 = .ok (.goto 4, 3) := by decide +kernel
theorem dX12_isVoid_33 : decode cX12_isVoid 33 = .ok (.iconst 0, 1) := by decide +kernel
theorem dX12_isVoid_34 : decode cX12_isVoid 34 = .ok (.ireturn, 1) := by decide +kernel
theorem dX12_isOn_0 : decode cX12_isOn 0 = .ok (.aload_n 0, 1) := by decide +kernel
theorem dX12_isOn_1 : decode cX12_isOn 1 = .ok (.iload_n 1, 1) := by decide +kernel
theorem dX12_isOn_2 : decode cX12_isOn 2 = .ok (.invokevirtual 59, 3) := by decide +kernel
theorem dX12_isOn_5 : decode cX12_isOn 5 = .ok (.aload_n 0, 1) := by decide +kernel
theorem dX12_isOn_6 : decode cX12_isOn 6 = .ok (.getfield 24, 3) := by decide +kernel
theorem dX12_isOn_9 : decode cX12_isOn 9 = .ok (.iconst 0, 1) := by decide +kernel
theorem dX12_isOn_10 : decode cX12_isOn 10 = .ok (.iaload, 1) := by decide +kernel
theorem dX12_isOn_11 : decode cX12_isOn 11 = .ok (.aload_n 0, 1) := by decide +kernel
theorem dX12_isOn_12 : decode cX12_isOn 12 = .ok (.getfield 43, 3) := by decide +kernel
theorem dX12_isOn_15 : decode cX12_isOn 15 = .ok (.imul, 1) := by decide +kernel
theorem dX12_isOn_16 : decode cX12_isOn 16 = .ok (.aload_n 0, 1) := by decide +kernel
theorem dX12_isOn_17 : decode cX12_isOn 17 = .ok (.getfield 43, 3) := by decide +kernel
theorem dX12_isOn_20 : decode cX12_isOn 20 = .ok (.imul, 1) := by decide +kernel
theorem dX12_isOn_21 : decode cX12_isOn 21 = .ok (.aload_n 0, 1) := by decide +kernel
theorem dX12_isOn_22 : decode cX12_isOn 22 = .ok (.getfield 24, 3) := by decide +kernel
theorem dX12_isOn_25 : decode cX12_isOn 25 = .ok (.iconst 1, 1) := by decide +kernel
theorem dX12_isOn_26 : decode cX12_isOn 26 = .ok (.iaload, 1) := by decide +kernel
theorem dX12_isOn_27 : decode cX12_isOn 27 = .ok (.aload_n 0, 1) := by decide +kernel
theorem dX12_isOn_28 : decode cX12_isOn 28 = .ok (.getfield 46, 3) := by decide +kernel
theorem dX12_isOn_31 : decode cX12_isOn 31 = .ok (.imul, 1) := by decide +kernel
theorem dX12_isOn_32 : decode cX12_isOn 32 = .ok (.aload_n 0, 1) := by decide +kernel
theorem dX12_isOn_33 : decode cX12_isOn 33 = .ok (.getfield 46, 3) := by decide +kernel
theorem dX12_isOn_36 : decode cX12_isOn 36 = .ok (.imul, 1) := by decide +kernel
theorem dX12_isOn_37 : decode cX12_isOn 37 = .ok (.iadd, 1) := by decide +kernel
theorem dX12_isOn_38 : decode cX12_isOn 38 = .ok (.aload_n 0, 1) := by decide +kernel
theorem dX12_isOn_39 : decode cX12_isOn 39 = .ok (.getfield 24, 3) := by decide +kernel
theorem dX12_isOn_42 : decode cX12_isOn 42 = .ok (.iconst 2, 1) := by decide +kernel
theorem dX12_isOn_43 : decode cX12_isOn 43 = .ok (.iaload, 1) := by decide +kernel
theorem dX12_isOn_44 : decode cX12_isOn 44 = .ok (.aload_n 0, 1) := by decide +kernel
theorem dX12_isOn_45 : decode cX12_isOn 45 = .ok (.getfield 49, 3) := by decide +kernel
theorem dX12_isOn_48 : decode cX12_isOn 48 = .ok (.imul, 1) := by decide +kernel
theorem dX12_isOn_49 : decode cX12_isOn 49 = .ok (.aload_n 0, 1) := by decide +kernel
theorem dX12_isOn_50 : decode cX12_isOn 50 = .ok (.getfield 49, 3) := by decide +kernel
theorem dX12_isOn_53 : decode cX12_isOn 53 = .ok (.imul, 1) := by decide +kernel
theorem dX12_isOn_54 : decode cX12_isOn 54 = .ok (.iadd, 1) := by decide +kernel
theorem dX12_isOn_55 : decode cX12_isOn 55 = .ok (.aload_n 0, 1) := by decide +kernel
theorem dX12_isOn_56 : decode cX12_isOn 56 = .ok (.getfield 24, 3) := by decide +kernel
theorem dX12_isOn_59 : decode cX12_isOn 59 = .ok (.iconst 3, 1) := by decide +kernel
theorem dX12_isOn_60 : decode cX12_isOn 60 = .ok (.iaload, 1) := by decide +kernel
theorem dX12_isOn_61 : decode cX12_isOn 61 = .ok (.aload_n 0, 1) := by decide +kernel
theorem dX12_isOn_62 : decode cX12_isOn 62 = .ok (.getfield 46, 3) := by decide +kernel
theorem dX12_isOn_65 : decode cX12_isOn 65 = .ok (.imul, 1) := by decide +kernel
theorem dX12_isOn_66 : decode cX12_isOn 66 = .ok (.aload_n 0, 1) := by decide +kernel
theorem dX12_isOn_67 : decode cX12_isOn 67 = .ok (.getfield 49, 3) := by decide +kernel
theorem dX12_isOn_70 : decode cX12_isOn 70 = .ok (.imul, 1) := by decide +kernel
theorem dX12_isOn_71 : decode cX12_isOn 71 = .ok (.iadd, 1) := by decide +kernel
theorem dX12_isOn_72 : decode cX12_isOn 72 = .ok (.aload_n 0, 1) := by decide +kernel
theorem dX12_isOn_73 : decode cX12_isOn 73 = .ok (.getfield 24, 3) := by decide +kernel
theorem dX12_isOn_76 : decode cX12_isOn 76 = .ok (.iconst 4, 1) := by decide +kernel
theorem dX12_isOn_77 : decode cX12_isOn 77 = .ok (.iaload, 1) := by decide +kernel
theorem dX12_isOn_78 : decode cX12_isOn 78 = .ok (.aload_n 0, 1) := by decide +kernel
theorem dX12_isOn_79 : decode cX12_isOn 79 = .ok (.getfield 49, 3) := by decide +kernel
theorem dX12_isOn_82 : decode cX12_isOn 82 = .ok (.imul, 1) := by decide +kernel
theorem dX12_isOn_83 : decode cX12_isOn 83 = .ok (.aload_n 0, 1) := by decide +kernel
theorem dX12_isOn_84 : decode cX12_isOn 84 = .ok (.getfield 43, 3) := by decide +kernel
theorem dX12_isOn_87 : decode cX12_isOn 87 = .ok (.imul, 1) := by decide +kernel
theorem dX12_isOn_88 : decode cX12_isOn 88 = .ok (.iadd, 1) := by decide +kernel
theorem dX12_isOn_89 : decode cX12_isOn 89 = .ok (.aload_n 0, 1) := by decide +kernel
theorem dX12_isOn_90 : decode cX12_isOn 90 = .ok (.getfield 24, 3) := by decide +kernel
theorem dX12_isOn_93 : decode cX12_isOn 93 = .ok (.iconst 5, 1) := by decide +kernel
theorem dX12_isOn_94 : decode cX12_isOn 94 = .ok (.iaload, 1) := by decide +kernel
theorem dX12_isOn_95 : decode cX12_isOn 95 = .ok (.aload_n 0, 1) := by decide +kernel
theorem dX12_isOn_96 : decode cX12_isOn 96 = .ok (.getfield 43, 3) := by decide +kernel
theorem dX12_isOn_99 : decode cX12_isOn 99 = .ok (.imul, 1) := by decide +kernel
theorem dX12_isOn_100 : decode cX12_isOn 100 = .ok (.aload_n 0, 1) := by decide +kernel
theorem dX12_isOn_101 : decode cX12_isOn 101 = .ok (.getfield 46, 3) := by decide +kernel
theorem dX12_isOn_104 : decode cX12_isOn 104 = .ok (.imul, 1) := by decide +kernel
theorem dX12_isOn_105 : decode cX12_isOn 105 = .ok (.iadd, 1) := by decide +kernel
theorem dX12_isOn_106 : decode cX12_isOn 106 = .ok (.aload_n 0, 1) := by decide +kernel
theorem dX12_isOn_107 : decode cX12_isOn 107 = .ok (.getfield 40, 3) := by decide +kernel
theorem dX12_isOn_110 : decode cX12_isOn 110 = .ok (.irem, 1) := by decide +kernel
theorem dX12_isOn_111 : decode cX12_isOn 111 = .ok (.ifCond .ne 7, 3) := by decide +kernel
theorem dX12_isOn_114 : decode cX12_isOn 114 = .ok (.iconst 1, 1) := by decide +kernel
theorem dX12_isOn_115 : decode cX12_isOn 115 = .ok (.goto 4, 3) := by decide +kernel
theorem dX12_isOn_118 : decode cX12_isOn 118 = .ok (.iconst 0, 1) := by decide +kernel
theorem dX12_isOn_119 : decode cX12_isOn 119 = .ok (.ireturn, 1) := by decide +kernel
theorem dX12_polarOf_0 : decode cX12_polarOf 0 = .ok (.aload_n 0, 1) := by decide +kernel
theorem dX12_polarOf_1 : decode cX12_polarOf 1 = .ok (.iload_n 1, 1) := by decide +kernel
theorem dX12_polarOf_2 : decode cX12_polarOf 2 = .ok (.invokevirtual 59, 3) := by decide +kernel
theorem dX12_polarOf_5 : decode cX12_polarOf 5 = .ok (.iconst 2, 1) := by decide +kernel
theorem dX12_polarOf_6 : decode cX12_polarOf 6 = .ok (.aload_n 0, 1) := by decide +kernel
theorem dX12_polarOf_7 : decode cX12_polarOf 7 = .ok (.getfield 24, 3) := by decide +kernel
theorem dX12_polarOf_10 : decode cX12_polarOf 10 = .ok (.iconst 0, 1) := by decide +kernel
theorem dX12_polarOf_11 : decode cX12_polarOf 11 = .ok (.iaload, 1) := by decide +kernel
theorem dX12_polarOf_12 : decode cX12_polarOf 12 = .ok (.imul, 1) := by decide +kernel
theorem dX12_polarOf_13 : decode cX12_polarOf 13 = .ok (.aload_n 0, 1) := by decide +kernel
theorem dX12_polarOf_14 : decode cX12_polarOf 14 = .ok (.getfield 43, 3) := by decide +kernel
theorem dX12_polarOf_17 : decode cX12_polarOf 17 = .ok (.imul, 1) := by decide +kernel
theorem dX12_polarOf_18 : decode cX12_polarOf 18 = .ok (.aload_n 0, 1) := by decide +kernel
theorem dX12_polarOf_19 : decode cX12_polarOf 19 = .ok (.getfield 24, 3) := by decide +kernel
theorem dX12_polarOf_22 : decode cX12_polarOf 22 = .ok (.iconst 5, 1) := by decide +kernel
theorem dX12_polarOf_23 : decode cX12_polarOf 23 = .ok (.iaload, 1) := by decide +kernel
theorem dX12_polarOf_24 : decode cX12_polarOf 24 = .ok (.aload_n 0, 1) := by decide +kernel
theorem dX12_polarOf_25 : decode cX12_polarOf 25 = .ok (.getfield 46, 3) := by decide +kernel
theorem dX12_polarOf_28 : decode cX12_polarOf 28 = .ok (.imul, 1) := by decide +kernel
theorem dX12_polarOf_29 : decode cX12_polarOf 29 = .ok (.iadd, 1) := by decide +kernel
theorem dX12_polarOf_30 : decode cX12_polarOf 30 = .ok (.aload_n 0, 1) := by decide +kernel
theorem dX12_polarOf_31 : decode cX12_polarOf 31 = .ok (.getfield 24, 3) := by decide +kernel
theorem dX12_polarOf_34 : decode cX12_polarOf 34 = .ok (.iconst 4, 1) := by decide +kernel
theorem dX12_polarOf_35 : decode cX12_polarOf 35 = .ok (.iaload, 1) := by decide +kernel
theorem dX12_polarOf_36 : decode cX12_polarOf 36 = .ok (.aload_n 0, 1) := by decide +kernel
theorem dX12_polarOf_37 : decode cX12_polarOf 37 = .ok (.getfield 49, 3) := by decide +kernel
theorem dX12_polarOf_40 : decode cX12_polarOf 40 = .ok (.imul, 1) := by decide +kernel
theorem dX12_polarOf_41 : decode cX12_polarOf 41 = .ok (.iadd, 1) := by decide +kernel
theorem dX12_polarOf_42 : decode cX12_polarOf 42 = .ok (.istore_n 2, 1) := by decide +kernel
theorem dX12_polarOf_43 : decode cX12_polarOf 43 = .ok (.aload_n 0, 1) := by decide +kernel
theorem dX12_polarOf_44 : decode cX12_polarOf 44 = .ok (.getfield 24, 3) := by decide +kernel
theorem dX12_polarOf_47 : decode cX12_polarOf 47 = .ok (.iconst 5, 1) := by decide +kernel
theorem dX12_polarOf_48 : decode cX12_polarOf 48 = .ok (.iaload, 1) := by decide +kernel
theorem dX12_polarOf_49 : decode cX12_polarOf 49 = .ok (.aload_n 0, 1) := by decide +kernel
theorem dX12_polarOf_50 : decode cX12_polarOf 50 = .ok (.getfield 43, 3) := by decide +kernel
theorem dX12_polarOf_53 : decode cX12_polarOf 53 = .ok (.imul, 1) := by decide +kernel
theorem dX12_polarOf_54 : decode cX12_polarOf 54 = .ok (.iconst 2, 1) := by decide +kernel
theorem dX12_polarOf_55 : decode cX12_polarOf 55 = .ok (.aload_n 0, 1) := by decide +kernel
theorem dX12_polarOf_56 : decode cX12_polarOf 56 = .ok (.getfield 24, 3) := by decide +kernel
theorem dX12_polarOf_59 : decode cX12_polarOf 59 = .ok (.iconst 1, 1) := by decide +kernel
theorem dX12_polarOf_60 : decode cX12_polarOf 60 = .ok (.iaload, 1) := by decide +kernel
theorem dX12_polarOf_61 : decode cX12_polarOf 61 = .ok (.imul, 1) := by decide +kernel
theorem dX12_polarOf_62 : decode cX12_polarOf 62 = .ok (.aload_n 0, 1) := by decide +kernel
theorem dX12_polarOf_63 : decode cX12_polarOf 63 = .ok (.getfield 46, 3) := by decide +kernel
theorem dX12_polarOf_66 : decode cX12_polarOf 66 = .ok (.imul, 1) := by decide +kernel
theorem dX12_polarOf_67 : decode cX12_polarOf 67 = .ok (.iadd, 1) := by decide +kernel
theorem dX12_polarOf_68 : decode cX12_polarOf 68 = .ok (.aload_n 0, 1) := by decide +kernel
theorem dX12_polarOf_69 : decode cX12_polarOf 69 = .ok (.getfield 24, 3) := by decide +kernel
theorem dX12_polarOf_72 : decode cX12_polarOf 72 = .ok (.iconst 3, 1) := by decide +kernel
theorem dX12_polarOf_73 : decode cX12_polarOf 73 = .ok (.iaload, 1) := by decide +kernel
theorem dX12_polarOf_74 : decode cX12_polarOf 74 = .ok (.aload_n 0, 1) := by decide +kernel
theorem dX12_polarOf_75 : decode cX12_polarOf 75 = .ok (.getfield 49, 3) := by decide +kernel
theorem dX12_polarOf_78 : decode cX12_polarOf 78 = .ok (.imul, 1) := by decide +kernel
theorem dX12_polarOf_79 : decode cX12_polarOf 79 = .ok (.iadd, 1) := by decide +kernel
theorem dX12_polarOf_80 : decode cX12_polarOf 80 = .ok (.istore_n 3, 1) := by decide +kernel
theorem dX12_polarOf_81 : decode cX12_polarOf 81 = .ok (.aload_n 0, 1) := by decide +kernel
theorem dX12_polarOf_82 : decode cX12_polarOf 82 = .ok (.getfield 24, 3) := by decide +kernel
theorem dX12_polarOf_85 : decode cX12_polarOf 85 = .ok (.iconst 4, 1) := by decide +kernel
theorem dX12_polarOf_86 : decode cX12_polarOf 86 = .ok (.iaload, 1) := by decide +kernel
theorem dX12_polarOf_87 : decode cX12_polarOf 87 = .ok (.aload_n 0, 1) := by decide +kernel
theorem dX12_polarOf_88 : decode cX12_polarOf 88 = .ok (.getfield 43, 3) := by decide +kernel
theorem dX12_polarOf_91 : decode cX12_polarOf 91 = .ok (.imul, 1) := by decide +kernel
theorem dX12_polarOf_92 : decode cX12_polarOf 92 = .ok (.aload_n 0, 1) := by decide +kernel
theorem dX12_polarOf_93 : decode cX12_polarOf 93 = .ok (.getfield 24, 3) := by decide +kernel
theorem dX12_polarOf_96 : decode cX12_polarOf 96 = .ok (.iconst 3, 1) := by decide +kernel
theorem dX12_polarOf_97 : decode cX12_polarOf 97 = .ok (.iaload, 1) := by decide +kernel
theorem dX12_polarOf_98 : decode cX12_polarOf 98 = .ok (.aload_n 0, 1) := by decide +kernel
theorem dX12_polarOf_99 : decode cX12_polarOf 99 = .ok (.getfield 46, 3) := by decide +kernel
theorem dX12_polarOf_102 : decode cX12_polarOf 102 = .ok (.imul, 1) := by decide +kernel
theorem dX12_polarOf_103 : decode cX12_polarOf 103 = .ok (.iadd, 1) := by decide +kernel
theorem dX12_polarOf_104 : decode cX12_polarOf 104 = .ok (.iconst 2, 1) := by decide +kernel
theorem dX12_polarOf_105 : decode cX12_polarOf 105 = .ok (.aload_n 0, 1) := by decide +kernel
theorem dX12_polarOf_106 : decode cX12_polarOf 106 = .ok (.getfield 24, 3) := by decide +kernel
theorem dX12_polarOf_109 : decode cX12_polarOf 109 = .ok (.iconst 2, 1) := by decide +kernel
theorem dX12_polarOf_110 : decode cX12_polarOf 110 = .ok (.iaload, 1) := by decide +kernel
theorem dX12_polarOf_111 : decode cX12_polarOf 111 = .ok (.imul, 1) := by decide +kernel
theorem dX12_polarOf_112 : decode cX12_polarOf 112 = .ok (.aload_n 0, 1) := by decide +kernel
theorem dX12_polarOf_113 : decode cX12_polarOf 113 = .ok (.getfield 49, 3) := by decide +kernel
theorem dX12_polarOf_116 : decode cX12_polarOf 116 = .ok (.imul, 1) := by decide +kernel
theorem dX12_polarOf_117 : decode cX12_polarOf 117 = .ok (.iadd, 1) := by decide +kernel
theorem dX12_polarOf_118 : decode cX12_polarOf 118 = .ok (.istore 4, 2) := by decide +kernel
theorem dX12_polarOf_120 : decode cX12_polarOf 120 = .ok (.aload_n 0, 1) := by decide +kernel
theorem dX12_polarOf_121 : decode cX12_polarOf 121 = .ok (.iload_n 2, 1) := by decide +kernel
theorem dX12_polarOf_122 : decode cX12_polarOf 122 = .ok (.iload_n 3, 1) := by decide +kernel
theorem dX12_polarOf_123 : decode cX12_polarOf 123 = .ok (.iload 4, 2) := by decide +kernel
theorem dX12_polarOf_125 : decode cX12_polarOf 125 = .ok (.invokevirtual 62, 3) := by decide +kernel
theorem dX12_polarOf_128 : decode cX12_polarOf 128 = .ok (.ireturn, 1) := by decide +kernel
theorem dX12_pointsOn_0 : decode cX12_pointsOn 0 = .ok (.iconst 0, 1) := by decide +kernel
theorem dX12_pointsOn_1 : decode cX12_pointsOn 1 = .ok (.istore_n 1, 1) := by decide +kernel
theorem dX12_pointsOn_2 : decode cX12_pointsOn 2 = .ok (.iconst 0, 1) := by decide +kernel
theorem dX12_pointsOn_3 : decode cX12_pointsOn 3 = .ok (.istore_n 2, 1) := by decide +kernel
theorem dX12_pointsOn_4 : decode cX12_pointsOn 4 = .ok (.iload_n 2, 1) := by decide +kernel
theorem dX12_pointsOn_5 : decode cX12_pointsOn 5 = .ok (.aload_n 0, 1) := by decide +kernel
theorem dX12_pointsOn_6 : decode cX12_pointsOn 6 = .ok (.invokevirtual 66, 3) := by decide +kernel
theorem dX12_pointsOn_9 : decode cX12_pointsOn 9 = .ok (.if_icmp .ge 25, 3) := by decide +kernel
theorem dX12_pointsOn_12 : decode cX12_pointsOn 12 = .ok (.iload_n 1, 1) := by decide +kernel
theorem dX12_pointsOn_13 : decode cX12_pointsOn 13 = .ok (.aload_n 0, 1) := by decide +kernel
theorem dX12_pointsOn_14 : decode cX12_pointsOn 14 = .ok (.iload_n 2, 1) := by decide +kernel
theorem dX12_pointsOn_15 : decode cX12_pointsOn 15 = .ok (.invokevirtual 70, 3) := by decide +kernel
theorem dX12_pointsOn_18 : decode cX12_pointsOn 18 = .ok (.ifCond .eq 7, 3) := by decide +kernel
theorem dX12_pointsOn_21 : decode cX12_pointsOn 21 = .ok (.iconst 1, 1) := by decide +kernel
theorem dX12_pointsOn_22 : decode cX12_pointsOn 22 = .ok (.goto 4, 3) := by decide +kernel
theorem dX12_pointsOn_25 : decode cX12_pointsOn 25 = .ok (.iconst 0, 1) := by decide +kernel
theorem dX12_pointsOn_26 : decode cX12_pointsOn 26 = .ok (.iadd, 1) := by decide +kernel
theorem dX12_pointsOn_27 : decode cX12_pointsOn 27 = .ok (.istore_n 1, 1) := by decide +kernel
theorem dX12_pointsOn_28 : decode cX12_pointsOn 28 = .ok (.iinc 2 1, 3) := by decide +kernel
theorem dX12_pointsOn_31 : decode cX12_pointsOn 31 = .ok (.goto (-27), 3) := by decide +kernel
theorem dX12_pointsOn_34 : decode cX12_pointsOn 34 = .ok (.iload_n 1, 1) := by decide +kernel
theorem dX12_pointsOn_35 : decode cX12_pointsOn 35 = .ok (.ireturn, 1) := by decide +kernel
theorem dX12_isOfAll_0 : decode cX12_isOfAll 0 = .ok (.iconst 0, 1) := by decide +kernel
theorem dX12_isOfAll_1 : decode cX12_isOfAll 1 = .ok (.istore_n 2, 1) := by decide +kernel
theorem dX12_isOfAll_2 : decode cX12_isOfAll 2 = .ok (.iload_n 2, 1) := by decide +kernel
theorem dX12_isOfAll_3 : decode cX12_isOfAll 3 = .ok (.aload_n 0, 1) := by decide +kernel
theorem dX12_isOfAll_4 : decode cX12_isOfAll 4 = .ok (.invokevirtual 66, 3) := by decide +kernel
theorem dX12_isOfAll_7 : decode cX12_isOfAll 7 = .ok (.if_icmp .ge 28, 3) := by decide +kernel
theorem dX12_isOfAll_10 : decode cX12_isOfAll 10 = .ok (.aload_n 0, 1) := by decide +kernel
theorem dX12_isOfAll_11 : decode cX12_isOfAll 11 = .ok (.iload_n 2, 1) := by decide +kernel
theorem dX12_isOfAll_12 : decode cX12_isOfAll 12 = .ok (.iload_n 1, 1) := by decide +kernel
theorem dX12_isOfAll_13 : decode cX12_isOfAll 13 = .ok (.invokevirtual 74, 3) := by decide +kernel
theorem dX12_isOfAll_16 : decode cX12_isOfAll 16 = .ok (.ifCond .eq 13, 3) := by decide +kernel
theorem dX12_isOfAll_19 : decode cX12_isOfAll 19 = .ok (.aload_n 0, 1) := by decide +kernel
theorem dX12_isOfAll_20 : decode cX12_isOfAll 20 = .ok (.iload_n 2, 1) := by decide +kernel
theorem dX12_isOfAll_21 : decode cX12_isOfAll 21 = .ok (.invokevirtual 70, 3) := by decide +kernel
theorem dX12_isOfAll_24 : decode cX12_isOfAll 24 = .ok (.ifCond .ne 5, 3) := by decide +kernel
theorem dX12_isOfAll_27 : decode cX12_isOfAll 27 = .ok (.iconst 0, 1) := by decide +kernel
theorem dX12_isOfAll_28 : decode cX12_isOfAll 28 = .ok (.ireturn, 1) := by decide +kernel
theorem dX12_isOfAll_29 : decode cX12_isOfAll 29 = .ok (.iinc 2 1, 3) := by decide +kernel
theorem dX12_isOfAll_32 : decode cX12_isOfAll 32 = .ok (.goto (-30), 3) := by decide +kernel
theorem dX12_isOfAll_35 : decode cX12_isOfAll 35 = .ok (.iconst 1, 1) := by decide +kernel
theorem dX12_isOfAll_36 : decode cX12_isOfAll 36 = .ok (.ireturn, 1) := by decide +kernel
theorem dX12_linesOn_0 : decode cX12_linesOn 0 = .ok (.iconst 0, 1) := by decide +kernel
theorem dX12_linesOn_1 : decode cX12_linesOn 1 = .ok (.istore_n 1, 1) := by decide +kernel
theorem dX12_linesOn_2 : decode cX12_linesOn 2 = .ok (.iconst 0, 1) := by decide +kernel
theorem dX12_linesOn_3 : decode cX12_linesOn 3 = .ok (.istore_n 2, 1) := by decide +kernel
theorem dX12_linesOn_4 : decode cX12_linesOn 4 = .ok (.iload_n 2, 1) := by decide +kernel
theorem dX12_linesOn_5 : decode cX12_linesOn 5 = .ok (.aload_n 0, 1) := by decide +kernel
theorem dX12_linesOn_6 : decode cX12_linesOn 6 = .ok (.invokevirtual 66, 3) := by decide +kernel
theorem dX12_linesOn_9 : decode cX12_linesOn 9 = .ok (.if_icmp .ge 25, 3) := by decide +kernel
theorem dX12_linesOn_12 : decode cX12_linesOn 12 = .ok (.iload_n 1, 1) := by decide +kernel
theorem dX12_linesOn_13 : decode cX12_linesOn 13 = .ok (.aload_n 0, 1) := by decide +kernel
theorem dX12_linesOn_14 : decode cX12_linesOn 14 = .ok (.iload_n 2, 1) := by decide +kernel
theorem dX12_linesOn_15 : decode cX12_linesOn 15 = .ok (.invokevirtual 78, 3) := by decide +kernel
theorem dX12_linesOn_18 : decode cX12_linesOn 18 = .ok (.ifCond .eq 7, 3) := by decide +kernel
theorem dX12_linesOn_21 : decode cX12_linesOn 21 = .ok (.iconst 1, 1) := by decide +kernel
theorem dX12_linesOn_22 : decode cX12_linesOn 22 = .ok (.goto 4, 3) := by decide +kernel
theorem dX12_linesOn_25 : decode cX12_linesOn 25 = .ok (.iconst 0, 1) := by decide +kernel
theorem dX12_linesOn_26 : decode cX12_linesOn 26 = .ok (.iadd, 1) := by decide +kernel
theorem dX12_linesOn_27 : decode cX12_linesOn 27 = .ok (.istore_n 1, 1) := by decide +kernel
theorem dX12_linesOn_28 : decode cX12_linesOn 28 = .ok (.iinc 2 1, 3) := by decide +kernel
theorem dX12_linesOn_31 : decode cX12_linesOn 31 = .ok (.goto (-27), 3) := by decide +kernel
theorem dX12_linesOn_34 : decode cX12_linesOn 34 = .ok (.iload_n 1, 1) := by decide +kernel
theorem dX12_linesOn_35 : decode cX12_linesOn 35 = .ok (.ireturn, 1) := by decide +kernel
theorem dX12_rank_0 : decode cX12_rank 0 = .ok (.iconst 0, 1) := by decide +kernel
theorem dX12_rank_1 : decode cX12_rank 1 = .ok (.istore_n 3, 1) := by decide +kernel
theorem dX12_rank_2 : decode cX12_rank 2 = .ok (.iconst 0, 1) := by decide +kernel
theorem dX12_rank_3 : decode cX12_rank 3 = .ok (.istore 4, 2) := by decide +kernel
theorem dX12_rank_5 : decode cX12_rank 5 = .ok (.iload 4, 2) := by decide +kernel
theorem dX12_rank_7 : decode cX12_rank 7 = .ok (.iload_n 2, 1) := by decide +kernel
theorem dX12_rank_8 : decode cX12_rank 8 = .ok (.if_icmp .ge 291, 3) := by decide +kernel
theorem dX12_rank_11 : decode cX12_rank 11 = .ok (.iload_n 3, 1) := by decide +kernel
theorem dX12_rank_12 : decode cX12_rank 12 = .ok (.istore 5, 2) := by decide +kernel
theorem dX12_rank_14 : decode cX12_rank 14 = .ok (.iload 5, 2) := by decide +kernel
theorem dX12_rank_16 : decode cX12_rank 16 = .ok (.iload_n 1, 1) := by decide +kernel
theorem dX12_rank_17 : decode cX12_rank 17 = .ok (.if_icmp .ge 25, 3) := by decide +kernel
theorem dX12_rank_20 : decode cX12_rank 20 = .ok (.aload_n 0, 1) := by decide +kernel
theorem dX12_rank_21 : decode cX12_rank 21 = .ok (.getfield 27, 3) := by decide +kernel
theorem dX12_rank_24 : decode cX12_rank 24 = .ok (.bipush 6, 2) := by decide +kernel
theorem dX12_rank_26 : decode cX12_rank 26 = .ok (.iload 5, 2) := by decide +kernel
theorem dX12_rank_28 : decode cX12_rank 28 = .ok (.imul, 1) := by decide +kernel
theorem dX12_rank_29 : decode cX12_rank 29 = .ok (.iload 4, 2) := by decide +kernel
theorem dX12_rank_31 : decode cX12_rank 31 = .ok (.iadd, 1) := by decide +kernel
theorem dX12_rank_32 : decode cX12_rank 32 = .ok (.iaload, 1) := by decide +kernel
theorem dX12_rank_33 : decode cX12_rank 33 = .ok (.ifCond .ne 9, 3) := by decide +kernel
theorem dX12_rank_36 : decode cX12_rank 36 = .ok (.iinc 5 1, 3) := by decide +kernel
theorem dX12_rank_39 : decode cX12_rank 39 = .ok (.goto (-25), 3) := by decide +kernel
theorem dX12_rank_42 : decode cX12_rank 42 = .ok (.iload 5, 2) := by decide +kernel
theorem dX12_rank_44 : decode cX12_rank 44 = .ok (.iload_n 1, 1) := by decide +kernel
theorem dX12_rank_45 : decode cX12_rank 45 = .ok (.if_icmp .ne 6, 3) := by decide +kernel
theorem dX12_rank_48 : decode cX12_rank 48 = .ok (.goto 245, 3) := by decide +kernel
theorem dX12_rank_51 : decode cX12_rank 51 = .ok (.iconst 0, 1) := by decide +kernel
theorem dX12_rank_52 : decode cX12_rank 52 = .ok (.istore 6, 2) := by decide +kernel
theorem dX12_rank_54 : decode cX12_rank 54 = .ok (.iload 6, 2) := by decide +kernel
theorem dX12_rank_56 : decode cX12_rank 56 = .ok (.iload_n 2, 1) := by decide +kernel
theorem dX12_rank_57 : decode cX12_rank 57 = .ok (.if_icmp .ge 63, 3) := by decide +kernel
theorem dX12_rank_60 : decode cX12_rank 60 = .ok (.aload_n 0, 1) := by decide +kernel
theorem dX12_rank_61 : decode cX12_rank 61 = .ok (.getfield 27, 3) := by decide +kernel
theorem dX12_rank_64 : decode cX12_rank 64 = .ok (.bipush 6, 2) := by decide +kernel
theorem dX12_rank_66 : decode cX12_rank 66 = .ok (.iload 5, 2) := by decide +kernel
theorem dX12_rank_68 : decode cX12_rank 68 = .ok (.imul, 1) := by decide +kernel
theorem dX12_rank_69 : decode cX12_rank 69 = .ok (.iload 6, 2) := by decide +kernel
theorem dX12_rank_71 : decode cX12_rank 71 = .ok (.iadd, 1) := by decide +kernel
theorem dX12_rank_72 : decode cX12_rank 72 = .ok (.iaload, 1) := by decide +kernel
theorem dX12_rank_73 : decode cX12_rank 73 = .ok (.istore 7, 2) := by decide +kernel
theorem dX12_rank_75 : decode cX12_rank 75 = .ok (.aload_n 0, 1) := by decide +kernel
theorem dX12_rank_76 : decode cX12_rank 76 = .ok (.getfield 27, 3) := by decide +kernel
theorem dX12_rank_79 : decode cX12_rank 79 = .ok (.bipush 6, 2) := by decide +kernel
theorem dX12_rank_81 : decode cX12_rank 81 = .ok (.iload 5, 2) := by decide +kernel
theorem dX12_rank_83 : decode cX12_rank 83 = .ok (.imul, 1) := by decide +kernel
theorem dX12_rank_84 : decode cX12_rank 84 = .ok (.iload 6, 2) := by decide +kernel
theorem dX12_rank_86 : decode cX12_rank 86 = .ok (.iadd, 1) := by decide +kernel
theorem dX12_rank_87 : decode cX12_rank 87 = .ok (.aload_n 0, 1) := by decide +kernel
theorem dX12_rank_88 : decode cX12_rank 88 = .ok (.getfield 27, 3) := by decide +kernel
theorem dX12_rank_91 : decode cX12_rank 91 = .ok (.bipush 6, 2) := by decide +kernel
theorem dX12_rank_93 : decode cX12_rank 93 = .ok (.iload_n 3, 1) := by decide +kernel
theorem dX12_rank_94 : decode cX12_rank 94 = .ok (.imul, 1) := by decide +kernel
theorem dX12_rank_95 : decode cX12_rank 95 = .ok (.iload 6, 2) := by decide +kernel
theorem dX12_rank_97 : decode cX12_rank 97 = .ok (.iadd, 1) := by decide +kernel
theorem dX12_rank_98 : decode cX12_rank 98 = .ok (.iaload, 1) := by decide +kernel
theorem dX12_rank_99 : decode cX12_rank 99 = .ok (.iastore, 1) := by decide +kernel
theorem dX12_rank_100 : decode cX12_rank 100 = .ok (.aload_n 0, 1) := by decide +kernel
theorem dX12_rank_101 : decode cX12_rank 101 = .ok (.getfield 27, 3) := by decide +kernel
theorem dX12_rank_104 : decode cX12_rank 104 = .ok (.bipush 6, 2) := by decide +kernel
theorem dX12_rank_106 : decode cX12_rank 106 = .ok (.iload_n 3, 1) := by decide +kernel
theorem dX12_rank_107 : decode cX12_rank 107 = .ok (.imul, 1) := by decide +kernel
theorem dX12_rank_108 : decode cX12_rank 108 = .ok (.iload 6, 2) := by decide +kernel
theorem dX12_rank_110 : decode cX12_rank 110 = .ok (.iadd, 1) := by decide +kernel
theorem dX12_rank_111 : decode cX12_rank 111 = .ok (.iload 7, 2) := by decide +kernel
theorem dX12_rank_113 : decode cX12_rank 113 = .ok (.iastore, 1) := by decide +kernel
theorem dX12_rank_114 : decode cX12_rank 114 = .ok (.iinc 6 1, 3) := by decide +kernel
theorem dX12_rank_117 : decode cX12_rank 117 = .ok (.goto (-63), 3) := by decide +kernel
theorem dX12_rank_120 : decode cX12_rank 120 = .ok (.aload_n 0, 1) := by decide +kernel
theorem dX12_rank_121 : decode cX12_rank 121 = .ok (.aload_n 0, 1) := by decide +kernel
theorem dX12_rank_122 : decode cX12_rank 122 = .ok (.getfield 27, 3) := by decide +kernel
theorem dX12_rank_125 : decode cX12_rank 125 = .ok (.bipush 6, 2) := by decide +kernel
theorem dX12_rank_127 : decode cX12_rank 127 = .ok (.iload_n 3, 1) := by decide +kernel
theorem dX12_rank_128 : decode cX12_rank 128 = .ok (.imul, 1) := by decide +kernel
theorem dX12_rank_129 : decode cX12_rank 129 = .ok (.iload 4, 2) := by decide +kernel
theorem dX12_rank_131 : decode cX12_rank 131 = .ok (.iadd, 1) := by decide +kernel
theorem dX12_rank_132 : decode cX12_rank 132 = .ok (.iaload, 1) := by decide +kernel
theorem dX12_rank_133 : decode cX12_rank 133 = .ok (.invokevirtual 56, 3) := by decide +kernel
theorem dX12_rank_136 : decode cX12_rank 136 = .ok (.istore 6, 2) := by decide +kernel
theorem dX12_rank_138 : decode cX12_rank 138 = .ok (.iconst 0, 1) := by decide +kernel
theorem dX12_rank_139 : decode cX12_rank 139 = .ok (.istore 7, 2) := by decide +kernel
theorem dX12_rank_141 : decode cX12_rank 141 = .ok (.iload 7, 2) := by decide +kernel
theorem dX12_rank_143 : decode cX12_rank 143 = .ok (.iload_n 2, 1) := by decide +kernel
theorem dX12_rank_144 : decode cX12_rank 144 = .ok (.if_icmp .ge 41, 3) := by decide +kernel
theorem dX12_rank_147 : decode cX12_rank 147 = .ok (.aload_n 0, 1) := by decide +kernel
theorem dX12_rank_148 : decode cX12_rank 148 = .ok (.getfield 27, 3) := by decide +kernel
theorem dX12_rank_151 : decode cX12_rank 151 = .ok (.bipush 6, 2) := by decide +kernel
theorem dX12_rank_153 : decode cX12_rank 153 = .ok (.iload_n 3, 1) := by decide +kernel
theorem dX12_rank_154 : decode cX12_rank 154 = .ok (.imul, 1) := by decide +kernel
theorem dX12_rank_155 : decode cX12_rank 155 = .ok (.iload 7, 2) := by decide +kernel
theorem dX12_rank_157 : decode cX12_rank 157 = .ok (.iadd, 1) := by decide +kernel
theorem dX12_rank_158 : decode cX12_rank 158 = .ok (.aload_n 0, 1) := by decide +kernel
theorem dX12_rank_159 : decode cX12_rank 159 = .ok (.getfield 27, 3) := by decide +kernel
theorem dX12_rank_162 : decode cX12_rank 162 = .ok (.bipush 6, 2) := by decide +kernel
theorem dX12_rank_164 : decode cX12_rank 164 = .ok (.iload_n 3, 1) := by decide +kernel
theorem dX12_rank_165 : decode cX12_rank 165 = .ok (.imul, 1) := by decide +kernel
theorem dX12_rank_166 : decode cX12_rank 166 = .ok (.iload 7, 2) := by decide +kernel
theorem dX12_rank_168 : decode cX12_rank 168 = .ok (.iadd, 1) := by decide +kernel
theorem dX12_rank_169 : decode cX12_rank 169 = .ok (.iaload, 1) := by decide +kernel
theorem dX12_rank_170 : decode cX12_rank 170 = .ok (.iload 6, 2) := by decide +kernel
theorem dX12_rank_172 : decode cX12_rank 172 = .ok (.imul, 1) := by decide +kernel
theorem dX12_rank_173 : decode cX12_rank 173 = .ok (.aload_n 0, 1) := by decide +kernel
theorem dX12_rank_174 : decode cX12_rank 174 = .ok (.getfield 40, 3) := by decide +kernel
theorem dX12_rank_177 : decode cX12_rank 177 = .ok (.irem, 1) := by decide +kernel
theorem dX12_rank_178 : decode cX12_rank 178 = .ok (.iastore, 1) := by decide +kernel
theorem dX12_rank_179 : decode cX12_rank 179 = .ok (.iinc 7 1, 3) := by decide +kernel
theorem dX12_rank_182 : decode cX12_rank 182 = .ok (.goto (-41), 3) := by decide +kernel
theorem dX12_rank_185 : decode cX12_rank 185 = .ok (.iconst 0, 1) := by decide +kernel
theorem dX12_rank_186 : decode cX12_rank 186 = .ok (.istore 7, 2) := by decide +kernel
theorem dX12_rank_188 : decode cX12_rank 188 = .ok (.iload 7, 2) := by decide +kernel
theorem dX12_rank_190 : decode cX12_rank 190 = .ok (.iload_n 1, 1) := by decide +kernel
theorem dX12_rank_191 : decode cX12_rank 191 = .ok (.if_icmp .ge 99, 3) := by decide +kernel
theorem dX12_rank_194 : decode cX12_rank 194 = .ok (.aload_n 0, 1) := by decide +kernel
theorem dX12_rank_195 : decode cX12_rank 195 = .ok (.getfield 27, 3) := by decide +kernel
theorem dX12_rank_198 : decode cX12_rank 198 = .ok (.bipush 6, 2) := by decide +kernel
theorem dX12_rank_200 : decode cX12_rank 200 = .ok (.iload 7, 2) := by decide +kernel
theorem dX12_rank_202 : decode cX12_rank 202 = .ok (.imul, 1) := by decide +kernel
theorem dX12_rank_203 : decode cX12_rank 203 = .ok (.iload 4, 2) := by decide +kernel
theorem dX12_rank_205 : decode cX12_rank 205 = .ok (.iadd, 1) := by decide +kernel
theorem dX12_rank_206 : decode cX12_rank 206 = .ok (.iaload, 1) := by decide +kernel
theorem dX12_rank_207 : decode cX12_rank 207 = .ok (.istore 8, 2) := by decide +kernel
theorem dX12_rank_209 : decode cX12_rank 209 = .ok (.iload 7, 2) := by decide +kernel
theorem dX12_rank_211 : decode cX12_rank 211 = .ok (.iload_n 3, 1) := by decide +kernel
theorem dX12_rank_212 : decode cX12_rank 212 = .ok (.if_icmp .eq 72, 3) := by decide +kernel
theorem dX12_rank_215 : decode cX12_rank 215 = .ok (.iload 8, 2) := by decide +kernel
theorem dX12_rank_217 : decode cX12_rank 217 = .ok (.ifCond .ne 6, 3) := by decide +kernel
theorem dX12_rank_220 : decode cX12_rank 220 = .ok (.goto 64, 3) := by decide +kernel
theorem dX12_rank_223 : decode cX12_rank 223 = .ok (.iconst 0, 1) := by decide +kernel
theorem dX12_rank_224 : decode cX12_rank 224 = .ok (.istore 9, 2) := by decide +kernel
theorem dX12_rank_226 : decode cX12_rank 226 = .ok (.iload 9, 2) := by decide +kernel
theorem dX12_rank_228 : decode cX12_rank 228 = .ok (.iload_n 2, 1) := by decide +kernel
theorem dX12_rank_229 : decode cX12_rank 229 = .ok (.if_icmp .ge 55, 3) := by decide +kernel
theorem dX12_rank_232 : decode cX12_rank 232 = .ok (.aload_n 0, 1) := by decide +kernel
theorem dX12_rank_233 : decode cX12_rank 233 = .ok (.getfield 27, 3) := by decide +kernel
theorem dX12_rank_236 : decode cX12_rank 236 = .ok (.bipush 6, 2) := by decide +kernel
theorem dX12_rank_238 : decode cX12_rank 238 = .ok (.iload 7, 2) := by decide +kernel
theorem dX12_rank_240 : decode cX12_rank 240 = .ok (.imul, 1) := by decide +kernel
theorem dX12_rank_241 : decode cX12_rank 241 = .ok (.iload 9, 2) := by decide +kernel
theorem dX12_rank_243 : decode cX12_rank 243 = .ok (.iadd, 1) := by decide +kernel
theorem dX12_rank_244 : decode cX12_rank 244 = .ok (.aload_n 0, 1) := by decide +kernel
theorem dX12_rank_245 : decode cX12_rank 245 = .ok (.aload_n 0, 1) := by decide +kernel
theorem dX12_rank_246 : decode cX12_rank 246 = .ok (.getfield 27, 3) := by decide +kernel
theorem dX12_rank_249 : decode cX12_rank 249 = .ok (.bipush 6, 2) := by decide +kernel
theorem dX12_rank_251 : decode cX12_rank 251 = .ok (.iload 7, 2) := by decide +kernel
theorem dX12_rank_253 : decode cX12_rank 253 = .ok (.imul, 1) := by decide +kernel
theorem dX12_rank_254 : decode cX12_rank 254 = .ok (.iload 9, 2) := by decide +kernel
theorem dX12_rank_256 : decode cX12_rank 256 = .ok (.iadd, 1) := by decide +kernel
theorem dX12_rank_257 : decode cX12_rank 257 = .ok (.iaload, 1) := by decide +kernel
theorem dX12_rank_258 : decode cX12_rank 258 = .ok (.iload 8, 2) := by decide +kernel
theorem dX12_rank_260 : decode cX12_rank 260 = .ok (.aload_n 0, 1) := by decide +kernel
theorem dX12_rank_261 : decode cX12_rank 261 = .ok (.getfield 27, 3) := by decide +kernel
theorem dX12_rank_264 : decode cX12_rank 264 = .ok (.bipush 6, 2) := by decide +kernel
theorem dX12_rank_266 : decode cX12_rank 266 = .ok (.iload_n 3, 1) := by decide +kernel
theorem dX12_rank_267 : decode cX12_rank 267 = .ok (.imul, 1) := by decide +kernel
theorem dX12_rank_268 : decode cX12_rank 268 = .ok (.iload 9, 2) := by decide +kernel
theorem dX12_rank_270 : decode cX12_rank 270 = .ok (.iadd, 1) := by decide +kernel
theorem dX12_rank_271 : decode cX12_rank 271 = .ok (.iaload, 1) := by decide +kernel
theorem dX12_rank_272 : decode cX12_rank 272 = .ok (.imul, 1) := by decide +kernel
theorem dX12_rank_273 : decode cX12_rank 273 = .ok (.isub, 1) := by decide +kernel
theorem dX12_rank_274 : decode cX12_rank 274 = .ok (.invokevirtual 52, 3) := by decide +kernel
theorem dX12_rank_277 : decode cX12_rank 277 = .ok (.iastore, 1) := by decide +kernel
theorem dX12_rank_278 : decode cX12_rank 278 = .ok (.iinc 9 1, 3) := by decide +kernel
theorem dX12_rank_281 : decode cX12_rank 281 = .ok (.goto (-55), 3) := by decide +kernel
theorem dX12_rank_284 : decode cX12_rank 284 = .ok (.iinc 7 1, 3) := by decide +kernel
theorem dX12_rank_287 : decode cX12_rank 287 = .ok (.goto (-99), 3) := by decide +kernel
theorem dX12_rank_290 : decode cX12_rank 290 = .ok (.iinc 3 1, 3) := by decide +kernel
theorem dX12_rank_293 : decode cX12_rank 293 = .ok (.iinc 4 1, 3) := by decide +kernel
theorem dX12_rank_296 : decode cX12_rank 296 = .ok (.goto (-291), 3) := by decide +kernel
theorem dX12_rank_299 : decode cX12_rank 299 = .ok (.iload_n 3, 1) := by decide +kernel
theorem dX12_rank_300 : decode cX12_rank 300 = .ok (.ireturn, 1) := by decide +kernel
theorem dX12_rankOf_0 : decode cX12_rankOf 0 = .ok (.aload_n 0, 1) := by decide +kernel
theorem dX12_rankOf_1 : decode cX12_rankOf 1 = .ok (.getfield 27, 3) := by decide +kernel
theorem dX12_rankOf_4 : decode cX12_rankOf 4 = .ok (.iconst 0, 1) := by decide +kernel
theorem dX12_rankOf_5 : decode cX12_rankOf 5 = .ok (.iconst 2, 1) := by decide +kernel
theorem dX12_rankOf_6 : decode cX12_rankOf 6 = .ok (.aload_n 0, 1) := by decide +kernel
theorem dX12_rankOf_7 : decode cX12_rankOf 7 = .ok (.getfield 24, 3) := by decide +kernel
theorem dX12_rankOf_10 : decode cX12_rankOf 10 = .ok (.iconst 0, 1) := by decide +kernel
theorem dX12_rankOf_11 : decode cX12_rankOf 11 = .ok (.iaload, 1) := by decide +kernel
theorem dX12_rankOf_12 : decode cX12_rankOf 12 = .ok (.imul, 1) := by decide +kernel
theorem dX12_rankOf_13 : decode cX12_rankOf 13 = .ok (.aload_n 0, 1) := by decide +kernel
theorem dX12_rankOf_14 : decode cX12_rankOf 14 = .ok (.getfield 40, 3) := by decide +kernel
theorem dX12_rankOf_17 : decode cX12_rankOf 17 = .ok (.irem, 1) := by decide +kernel
theorem dX12_rankOf_18 : decode cX12_rankOf 18 = .ok (.iastore, 1) := by decide +kernel
theorem dX12_rankOf_19 : decode cX12_rankOf 19 = .ok (.aload_n 0, 1) := by decide +kernel
theorem dX12_rankOf_20 : decode cX12_rankOf 20 = .ok (.getfield 27, 3) := by decide +kernel
theorem dX12_rankOf_23 : decode cX12_rankOf 23 = .ok (.iconst 1, 1) := by decide +kernel
theorem dX12_rankOf_24 : decode cX12_rankOf 24 = .ok (.aload_n 0, 1) := by decide +kernel
theorem dX12_rankOf_25 : decode cX12_rankOf 25 = .ok (.getfield 24, 3) := by decide +kernel
theorem dX12_rankOf_28 : decode cX12_rankOf 28 = .ok (.iconst 5, 1) := by decide +kernel
theorem dX12_rankOf_29 : decode cX12_rankOf 29 = .ok (.iaload, 1) := by decide +kernel
theorem dX12_rankOf_30 : decode cX12_rankOf 30 = .ok (.iastore, 1) := by decide +kernel
theorem dX12_rankOf_31 : decode cX12_rankOf 31 = .ok (.aload_n 0, 1) := by decide +kernel
theorem dX12_rankOf_32 : decode cX12_rankOf 32 = .ok (.getfield 27, 3) := by decide +kernel
theorem dX12_rankOf_35 : decode cX12_rankOf 35 = .ok (.iconst 2, 1) := by decide +kernel
theorem dX12_rankOf_36 : decode cX12_rankOf 36 = .ok (.aload_n 0, 1) := by decide +kernel
theorem dX12_rankOf_37 : decode cX12_rankOf 37 = .ok (.getfield 24, 3) := by decide +kernel
theorem dX12_rankOf_40 : decode cX12_rankOf 40 = .ok (.iconst 4, 1) := by decide +kernel
theorem dX12_rankOf_41 : decode cX12_rankOf 41 = .ok (.iaload, 1) := by decide +kernel
theorem dX12_rankOf_42 : decode cX12_rankOf 42 = .ok (.iastore, 1) := by decide +kernel
theorem dX12_rankOf_43 : decode cX12_rankOf 43 = .ok (.aload_n 0, 1) := by decide +kernel
theorem dX12_rankOf_44 : decode cX12_rankOf 44 = .ok (.getfield 27, 3) := by decide +kernel
theorem dX12_rankOf_47 : decode cX12_rankOf 47 = .ok (.bipush 6, 2) := by decide +kernel
theorem dX12_rankOf_49 : decode cX12_rankOf 49 = .ok (.aload_n 0, 1) := by decide +kernel
theorem dX12_rankOf_50 : decode cX12_rankOf 50 = .ok (.getfield 24, 3) := by decide +kernel
theorem dX12_rankOf_53 : decode cX12_rankOf 53 = .ok (.iconst 5, 1) := by decide +kernel
theorem dX12_rankOf_54 : decode cX12_rankOf 54 = .ok (.iaload, 1) := by decide +kernel
theorem dX12_rankOf_55 : decode cX12_rankOf 55 = .ok (.iastore, 1) := by decide +kernel
theorem dX12_rankOf_56 : decode cX12_rankOf 56 = .ok (.aload_n 0, 1) := by decide +kernel
theorem dX12_rankOf_57 : decode cX12_rankOf 57 = .ok (.getfield 27, 3) := by decide +kernel
theorem dX12_rankOf_60 : decode cX12_rankOf 60 = .ok (.bipush 7, 2) := by decide +kernel
theorem dX12_rankOf_62 : decode cX12_rankOf 62 = .ok (.iconst 2, 1) := by decide +kernel
theorem dX12_rankOf_63 : decode cX12_rankOf 63 = .ok (.aload_n 0, 1) := by decide +kernel
theorem dX12_rankOf_64 : decode cX12_rankOf 64 = .ok (.getfield 24, 3) := by decide +kernel
theorem dX12_rankOf_67 : decode cX12_rankOf 67 = .ok (.iconst 1, 1) := by decide +kernel
theorem dX12_rankOf_68 : decode cX12_rankOf 68 = .ok (.iaload, 1) := by decide +kernel
theorem dX12_rankOf_69 : decode cX12_rankOf 69 = .ok (.imul, 1) := by decide +kernel
theorem dX12_rankOf_70 : decode cX12_rankOf 70 = .ok (.aload_n 0, 1) := by decide +kernel
theorem dX12_rankOf_71 : decode cX12_rankOf 71 = .ok (.getfield 40, 3) := by decide +kernel
theorem dX12_rankOf_74 : decode cX12_rankOf 74 = .ok (.irem, 1) := by decide +kernel
theorem dX12_rankOf_75 : decode cX12_rankOf 75 = .ok (.iastore, 1) := by decide +kernel
theorem dX12_rankOf_76 : decode cX12_rankOf 76 = .ok (.aload_n 0, 1) := by decide +kernel
theorem dX12_rankOf_77 : decode cX12_rankOf 77 = .ok (.getfield 27, 3) := by decide +kernel
theorem dX12_rankOf_80 : decode cX12_rankOf 80 = .ok (.bipush 8, 2) := by decide +kernel
theorem dX12_rankOf_82 : decode cX12_rankOf 82 = .ok (.aload_n 0, 1) := by decide +kernel
theorem dX12_rankOf_83 : decode cX12_rankOf 83 = .ok (.getfield 24, 3) := by decide +kernel
theorem dX12_rankOf_86 : decode cX12_rankOf 86 = .ok (.iconst 3, 1) := by decide +kernel
theorem dX12_rankOf_87 : decode cX12_rankOf 87 = .ok (.iaload, 1) := by decide +kernel
theorem dX12_rankOf_88 : decode cX12_rankOf 88 = .ok (.iastore, 1) := by decide +kernel
theorem dX12_rankOf_89 : decode cX12_rankOf 89 = .ok (.aload_n 0, 1) := by decide +kernel
theorem dX12_rankOf_90 : decode cX12_rankOf 90 = .ok (.getfield 27, 3) := by decide +kernel
theorem dX12_rankOf_93 : decode cX12_rankOf 93 = .ok (.bipush 12, 2) := by decide +kernel
theorem dX12_rankOf_95 : decode cX12_rankOf 95 = .ok (.aload_n 0, 1) := by decide +kernel
theorem dX12_rankOf_96 : decode cX12_rankOf 96 = .ok (.getfield 24, 3) := by decide +kernel
theorem dX12_rankOf_99 : decode cX12_rankOf 99 = .ok (.iconst 4, 1) := by decide +kernel
theorem dX12_rankOf_100 : decode cX12_rankOf 100 = .ok (.iaload, 1) := by decide +kernel
theorem dX12_rankOf_101 : decode cX12_rankOf 101 = .ok (.iastore, 1) := by decide +kernel
theorem dX12_rankOf_102 : decode cX12_rankOf 102 = .ok (.aload_n 0, 1) := by decide +kernel
theorem dX12_rankOf_103 : decode cX12_rankOf 103 = .ok (.getfield 27, 3) := by decide +kernel
theorem dX12_rankOf_106 : decode cX12_rankOf 106 = .ok (.bipush 13, 2) := by decide +kernel
theorem dX12_rankOf_108 : decode cX12_rankOf 108 = .ok (.aload_n 0, 1) := by decide +kernel
theorem dX12_rankOf_109 : decode cX12_rankOf 109 = .ok (.getfield 24, 3) := by decide +kernel
theorem dX12_rankOf_112 : decode cX12_rankOf 112 = .ok (.iconst 3, 1) := by decide +kernel
theorem dX12_rankOf_113 : decode cX12_rankOf 113 = .ok (.iaload, 1) := by decide +kernel
theorem dX12_rankOf_114 : decode cX12_rankOf 114 = .ok (.iastore, 1) := by decide +kernel
theorem dX12_rankOf_115 : decode cX12_rankOf 115 = .ok (.aload_n 0, 1) := by decide +kernel
theorem dX12_rankOf_116 : decode cX12_rankOf 116 = .ok (.getfield 27, 3) := by decide +kernel
theorem dX12_rankOf_119 : decode cX12_rankOf 119 = .ok (.bipush 14, 2) := by decide +kernel
theorem dX12_rankOf_121 : decode cX12_rankOf 121 = .ok (.iconst 2, 1) := by decide +kernel
theorem dX12_rankOf_122 : decode cX12_rankOf 122 = .ok (.aload_n 0, 1) := by decide +kernel
theorem dX12_rankOf_123 : decode cX12_rankOf 123 = .ok (.getfield 24, 3) := by decide +kernel
theorem dX12_rankOf_126 : decode cX12_rankOf 126 = .ok (.iconst 2, 1) := by decide +kernel
theorem dX12_rankOf_127 : decode cX12_rankOf 127 = .ok (.iaload, 1) := by decide +kernel
theorem dX12_rankOf_128 : decode cX12_rankOf 128 = .ok (.imul, 1) := by decide +kernel
theorem dX12_rankOf_129 : decode cX12_rankOf 129 = .ok (.aload_n 0, 1) := by decide +kernel
theorem dX12_rankOf_130 : decode cX12_rankOf 130 = .ok (.getfield 40, 3) := by decide +kernel
theorem dX12_rankOf_133 : decode cX12_rankOf 133 = .ok (.irem, 1) := by decide +kernel
theorem dX12_rankOf_134 : decode cX12_rankOf 134 = .ok (.iastore, 1) := by decide +kernel
theorem dX12_rankOf_135 : decode cX12_rankOf 135 = .ok (.aload_n 0, 1) := by decide +kernel
theorem dX12_rankOf_136 : decode cX12_rankOf 136 = .ok (.iconst 3, 1) := by decide +kernel
theorem dX12_rankOf_137 : decode cX12_rankOf 137 = .ok (.iconst 3, 1) := by decide +kernel
theorem dX12_rankOf_138 : decode cX12_rankOf 138 = .ok (.invokevirtual 81, 3) := by decide +kernel
theorem dX12_rankOf_141 : decode cX12_rankOf 141 = .ok (.ireturn, 1) := by decide +kernel
theorem dX12_kindOf_0 : decode cX12_kindOf 0 = .ok (.aload_n 0, 1) := by decide +kernel
theorem dX12_kindOf_1 : decode cX12_kindOf 1 = .ok (.invokevirtual 85, 3) := by decide +kernel
theorem dX12_kindOf_4 : decode cX12_kindOf 4 = .ok (.istore_n 1, 1) := by decide +kernel
theorem dX12_kindOf_5 : decode cX12_kindOf 5 = .ok (.iload_n 1, 1) := by decide +kernel
theorem dX12_kindOf_6 : decode cX12_kindOf 6 = .ok (.ifCond .ne 7, 3) := by decide +kernel
theorem dX12_kindOf_9 : decode cX12_kindOf 9 = .ok (.iconst 0, 1) := by decide +kernel
theorem dX12_kindOf_10 : decode cX12_kindOf 10 = .ok (.goto 33, 3) := by decide +kernel
theorem dX12_kindOf_13 : decode cX12_kindOf 13 = .ok (.iload_n 1, 1) := by decide +kernel
theorem dX12_kindOf_14 : decode cX12_kindOf 14 = .ok (.iconst 1, 1) := by decide +kernel
theorem dX12_kindOf_15 : decode cX12_kindOf 15 = .ok (.if_icmp .ne 7, 3) := by decide +kernel
theorem dX12_kindOf_18 : decode cX12_kindOf 18 = .ok (.iconst 1, 1) := by decide +kernel
theorem dX12_kindOf_19 : decode cX12_kindOf 19 = .ok (.goto 24, 3) := by decide +kernel
theorem dX12_kindOf_22 : decode cX12_kindOf 22 = .ok (.iload_n 1, 1) := by decide +kernel
theorem dX12_kindOf_23 : decode cX12_kindOf 23 = .ok (.iconst 3, 1) := by decide +kernel
theorem dX12_kindOf_24 : decode cX12_kindOf 24 = .ok (.if_icmp .ne 7, 3) := by decide +kernel
theorem dX12_kindOf_27 : decode cX12_kindOf 27 = .ok (.iconst 4, 1) := by decide +kernel
theorem dX12_kindOf_28 : decode cX12_kindOf 28 = .ok (.goto 15, 3) := by decide +kernel
theorem dX12_kindOf_31 : decode cX12_kindOf 31 = .ok (.aload_n 0, 1) := by decide +kernel
theorem dX12_kindOf_32 : decode cX12_kindOf 32 = .ok (.invokevirtual 88, 3) := by decide +kernel
theorem dX12_kindOf_35 : decode cX12_kindOf 35 = .ok (.ifCond .le 7, 3) := by decide +kernel
theorem dX12_kindOf_38 : decode cX12_kindOf 38 = .ok (.iconst 2, 1) := by decide +kernel
theorem dX12_kindOf_39 : decode cX12_kindOf 39 = .ok (.goto 4, 3) := by decide +kernel
theorem dX12_kindOf_42 : decode cX12_kindOf 42 = .ok (.iconst 3, 1) := by decide +kernel
theorem dX12_kindOf_43 : decode cX12_kindOf 43 = .ok (.ireturn, 1) := by decide +kernel
theorem dX12_tangents_0 : decode cX12_tangents 0 = .ok (.iconst 0, 1) := by decide +kernel
theorem dX12_tangents_1 : decode cX12_tangents 1 = .ok (.istore_n 2, 1) := by decide +kernel
theorem dX12_tangents_2 : decode cX12_tangents 2 = .ok (.iconst 0, 1) := by decide +kernel
theorem dX12_tangents_3 : decode cX12_tangents 3 = .ok (.istore_n 3, 1) := by decide +kernel
theorem dX12_tangents_4 : decode cX12_tangents 4 = .ok (.iload_n 3, 1) := by decide +kernel
theorem dX12_tangents_5 : decode cX12_tangents 5 = .ok (.aload_n 0, 1) := by decide +kernel
theorem dX12_tangents_6 : decode cX12_tangents 6 = .ok (.invokevirtual 66, 3) := by decide +kernel
theorem dX12_tangents_9 : decode cX12_tangents 9 = .ok (.if_icmp .ge 38, 3) := by decide +kernel
theorem dX12_tangents_12 : decode cX12_tangents 12 = .ok (.iload_n 2, 1) := by decide +kernel
theorem dX12_tangents_13 : decode cX12_tangents 13 = .ok (.aload_n 0, 1) := by decide +kernel
theorem dX12_tangents_14 : decode cX12_tangents 14 = .ok (.iload_n 3, 1) := by decide +kernel
theorem dX12_tangents_15 : decode cX12_tangents 15 = .ok (.invokevirtual 70, 3) := by decide +kernel
theorem dX12_tangents_18 : decode cX12_tangents 18 = .ok (.ifCond .eq 20, 3) := by decide +kernel
theorem dX12_tangents_21 : decode cX12_tangents 21 = .ok (.aload_n 0, 1) := by decide +kernel
theorem dX12_tangents_22 : decode cX12_tangents 22 = .ok (.iload_n 1, 1) := by decide +kernel
theorem dX12_tangents_23 : decode cX12_tangents 23 = .ok (.aload_n 0, 1) := by decide +kernel
theorem dX12_tangents_24 : decode cX12_tangents 24 = .ok (.iload_n 3, 1) := by decide +kernel
theorem dX12_tangents_25 : decode cX12_tangents 25 = .ok (.invokevirtual 91, 3) := by decide +kernel
theorem dX12_tangents_28 : decode cX12_tangents 28 = .ok (.invokevirtual 74, 3) := by decide +kernel
theorem dX12_tangents_31 : decode cX12_tangents 31 = .ok (.ifCond .eq 7, 3) := by decide +kernel
theorem dX12_tangents_34 : decode cX12_tangents 34 = .ok (.iconst 1, 1) := by decide +kernel
theorem dX12_tangents_35 : decode cX12_tangents 35 = .ok (.goto 4, 3) := by decide +kernel
theorem dX12_tangents_38 : decode cX12_tangents 38 = .ok (.iconst 0, 1) := by decide +kernel
theorem dX12_tangents_39 : decode cX12_tangents 39 = .ok (.iadd, 1) := by decide +kernel
theorem dX12_tangents_40 : decode cX12_tangents 40 = .ok (.istore_n 2, 1) := by decide +kernel
theorem dX12_tangents_41 : decode cX12_tangents 41 = .ok (.iinc 3 1, 3) := by decide +kernel
theorem dX12_tangents_44 : decode cX12_tangents 44 = .ok (.goto (-40), 3) := by decide +kernel
theorem dX12_tangents_47 : decode cX12_tangents 47 = .ok (.iload_n 2, 1) := by decide +kernel
theorem dX12_tangents_48 : decode cX12_tangents 48 = .ok (.ireturn, 1) := by decide +kernel
theorem dX12_liesOf_0 : decode cX12_liesOf 0 = .ok (.aload_n 0, 1) := by decide +kernel
theorem dX12_liesOf_1 : decode cX12_liesOf 1 = .ok (.iload_n 1, 1) := by decide +kernel
theorem dX12_liesOf_2 : decode cX12_liesOf 2 = .ok (.invokevirtual 70, 3) := by decide +kernel
theorem dX12_liesOf_5 : decode cX12_liesOf 5 = .ok (.ifCond .eq 7, 3) := by decide +kernel
theorem dX12_liesOf_8 : decode cX12_liesOf 8 = .ok (.iconst 0, 1) := by decide +kernel
theorem dX12_liesOf_9 : decode cX12_liesOf 9 = .ok (.goto 25, 3) := by decide +kernel
theorem dX12_liesOf_12 : decode cX12_liesOf 12 = .ok (.iload_n 2, 1) := by decide +kernel
theorem dX12_liesOf_13 : decode cX12_liesOf 13 = .ok (.iconst 4, 1) := by decide +kernel
theorem dX12_liesOf_14 : decode cX12_liesOf 14 = .ok (.if_icmp .eq 7, 3) := by decide +kernel
theorem dX12_liesOf_17 : decode cX12_liesOf 17 = .ok (.iconst 3, 1) := by decide +kernel
theorem dX12_liesOf_18 : decode cX12_liesOf 18 = .ok (.goto 16, 3) := by decide +kernel
theorem dX12_liesOf_21 : decode cX12_liesOf 21 = .ok (.aload_n 0, 1) := by decide +kernel
theorem dX12_liesOf_22 : decode cX12_liesOf 22 = .ok (.iload_n 1, 1) := by decide +kernel
theorem dX12_liesOf_23 : decode cX12_liesOf 23 = .ok (.invokevirtual 94, 3) := by decide +kernel
theorem dX12_liesOf_26 : decode cX12_liesOf 26 = .ok (.ifCond .le 7, 3) := by decide +kernel
theorem dX12_liesOf_29 : decode cX12_liesOf 29 = .ok (.iconst 1, 1) := by decide +kernel
theorem dX12_liesOf_30 : decode cX12_liesOf 30 = .ok (.goto 4, 3) := by decide +kernel
theorem dX12_liesOf_33 : decode cX12_liesOf 33 = .ok (.iconst 2, 1) := by decide +kernel
theorem dX12_liesOf_34 : decode cX12_liesOf 34 = .ok (.ireturn, 1) := by decide +kernel
theorem dX12_sided_0 : decode cX12_sided 0 = .ok (.iconst 0, 1) := by decide +kernel
theorem dX12_sided_1 : decode cX12_sided 1 = .ok (.istore_n 2, 1) := by decide +kernel
theorem dX12_sided_2 : decode cX12_sided 2 = .ok (.iconst 0, 1) := by decide +kernel
theorem dX12_sided_3 : decode cX12_sided 3 = .ok (.istore_n 3, 1) := by decide +kernel
theorem dX12_sided_4 : decode cX12_sided 4 = .ok (.iload_n 3, 1) := by decide +kernel
theorem dX12_sided_5 : decode cX12_sided 5 = .ok (.aload_n 0, 1) := by decide +kernel
theorem dX12_sided_6 : decode cX12_sided 6 = .ok (.invokevirtual 66, 3) := by decide +kernel
theorem dX12_sided_9 : decode cX12_sided 9 = .ok (.if_icmp .ge 27, 3) := by decide +kernel
theorem dX12_sided_12 : decode cX12_sided 12 = .ok (.iload_n 2, 1) := by decide +kernel
theorem dX12_sided_13 : decode cX12_sided 13 = .ok (.aload_n 0, 1) := by decide +kernel
theorem dX12_sided_14 : decode cX12_sided 14 = .ok (.iload_n 3, 1) := by decide +kernel
theorem dX12_sided_15 : decode cX12_sided 15 = .ok (.iconst 4, 1) := by decide +kernel
theorem dX12_sided_16 : decode cX12_sided 16 = .ok (.invokevirtual 97, 3) := by decide +kernel
theorem dX12_sided_19 : decode cX12_sided 19 = .ok (.iload_n 1, 1) := by decide +kernel
theorem dX12_sided_20 : decode cX12_sided 20 = .ok (.if_icmp .ne 7, 3) := by decide +kernel
theorem dX12_sided_23 : decode cX12_sided 23 = .ok (.iconst 1, 1) := by decide +kernel
theorem dX12_sided_24 : decode cX12_sided 24 = .ok (.goto 4, 3) := by decide +kernel
theorem dX12_sided_27 : decode cX12_sided 27 = .ok (.iconst 0, 1) := by decide +kernel
theorem dX12_sided_28 : decode cX12_sided 28 = .ok (.iadd, 1) := by decide +kernel
theorem dX12_sided_29 : decode cX12_sided 29 = .ok (.istore_n 2, 1) := by decide +kernel
theorem dX12_sided_30 : decode cX12_sided 30 = .ok (.iinc 3 1, 3) := by decide +kernel
theorem dX12_sided_33 : decode cX12_sided 33 = .ok (.goto (-29), 3) := by decide +kernel
theorem dX12_sided_36 : decode cX12_sided 36 = .ok (.iload_n 2, 1) := by decide +kernel
theorem dX12_sided_37 : decode cX12_sided 37 = .ok (.ireturn, 1) := by decide +kernel
theorem dX12_sort_0 : decode cX12_sort 0 = .ok (.bipush 6, 2) := by decide +kernel
theorem dX12_sort_2 : decode cX12_sort 2 = .ok (.iload_n 1, 1) := by decide +kernel
theorem dX12_sort_3 : decode cX12_sort 3 = .ok (.imul, 1) := by decide +kernel
theorem dX12_sort_4 : decode cX12_sort 4 = .ok (.istore_n 2, 1) := by decide +kernel
theorem dX12_sort_5 : decode cX12_sort 5 = .ok (.aload_n 0, 1) := by decide +kernel
theorem dX12_sort_6 : decode cX12_sort 6 = .ok (.iload_n 1, 1) := by decide +kernel
theorem dX12_sort_7 : decode cX12_sort 7 = .ok (.iconst 3, 1) := by decide +kernel
theorem dX12_sort_8 : decode cX12_sort 8 = .ok (.invokevirtual 100, 3) := by decide +kernel
theorem dX12_sort_11 : decode cX12_sort 11 = .ok (.istore_n 3, 1) := by decide +kernel
theorem dX12_sort_12 : decode cX12_sort 12 = .ok (.aload_n 0, 1) := by decide +kernel
theorem dX12_sort_13 : decode cX12_sort 13 = .ok (.iload_n 1, 1) := by decide +kernel
theorem dX12_sort_14 : decode cX12_sort 14 = .ok (.iconst 4, 1) := by decide +kernel
theorem dX12_sort_15 : decode cX12_sort 15 = .ok (.invokevirtual 100, 3) := by decide +kernel
theorem dX12_sort_18 : decode cX12_sort 18 = .ok (.istore 4, 2) := by decide +kernel
theorem dX12_sort_20 : decode cX12_sort 20 = .ok (.aload_n 0, 1) := by decide +kernel
theorem dX12_sort_21 : decode cX12_sort 21 = .ok (.iload_n 1, 1) := by decide +kernel
theorem dX12_sort_22 : decode cX12_sort 22 = .ok (.iconst 5, 1) := by decide +kernel
theorem dX12_sort_23 : decode cX12_sort 23 = .ok (.invokevirtual 100, 3) := by decide +kernel
theorem dX12_sort_26 : decode cX12_sort 26 = .ok (.istore 5, 2) := by decide +kernel
theorem dX12_sort_28 : decode cX12_sort 28 = .ok (.iload 4, 2) := by decide +kernel
theorem dX12_sort_30 : decode cX12_sort 30 = .ok (.ifCond .eq 48, 3) := by decide +kernel
theorem dX12_sort_33 : decode cX12_sort 33 = .ok (.iload_n 3, 1) := by decide +kernel
theorem dX12_sort_34 : decode cX12_sort 34 = .ok (.ifCond .le 34, 3) := by decide +kernel
theorem dX12_sort_37 : decode cX12_sort 37 = .ok (.iload 4, 2) := by decide +kernel
theorem dX12_sort_39 : decode cX12_sort 39 = .ok (.aload_n 0, 1) := by decide +kernel
theorem dX12_sort_40 : decode cX12_sort 40 = .ok (.getfield 7, 3) := by decide +kernel
theorem dX12_sort_43 : decode cX12_sort 43 = .ok (.iload_n 2, 1) := by decide +kernel
theorem dX12_sort_44 : decode cX12_sort 44 = .ok (.iaload, 1) := by decide +kernel
theorem dX12_sort_45 : decode cX12_sort 45 = .ok (.aload_n 0, 1) := by decide +kernel
theorem dX12_sort_46 : decode cX12_sort 46 = .ok (.getfield 7, 3) := by decide +kernel
theorem dX12_sort_49 : decode cX12_sort 49 = .ok (.iload_n 2, 1) := by decide +kernel
theorem dX12_sort_50 : decode cX12_sort 50 = .ok (.iconst 1, 1) := by decide +kernel
theorem dX12_sort_51 : decode cX12_sort 51 = .ok (.iadd, 1) := by decide +kernel
theorem dX12_sort_52 : decode cX12_sort 52 = .ok (.iaload, 1) := by decide +kernel
theorem dX12_sort_53 : decode cX12_sort 53 = .ok (.iadd, 1) := by decide +kernel
theorem dX12_sort_54 : decode cX12_sort 54 = .ok (.invokestatic 103, 3) := by decide +kernel
theorem dX12_sort_57 : decode cX12_sort 57 = .ok (.ifCond .ge 7, 3) := by decide +kernel
theorem dX12_sort_60 : decode cX12_sort 60 = .ok (.iconst 0, 1) := by decide +kernel
theorem dX12_sort_61 : decode cX12_sort 61 = .ok (.goto 16, 3) := by decide +kernel
theorem dX12_sort_64 : decode cX12_sort 64 = .ok (.iconst 1, 1) := by decide +kernel
theorem dX12_sort_65 : decode cX12_sort 65 = .ok (.goto 12, 3) := by decide +kernel
theorem dX12_sort_68 : decode cX12_sort 68 = .ok (.iload_n 3, 1) := by decide +kernel
theorem dX12_sort_69 : decode cX12_sort 69 = .ok (.ifCond .ne 7, 3) := by decide +kernel
theorem dX12_sort_72 : decode cX12_sort 72 = .ok (.iconst 2, 1) := by decide +kernel
theorem dX12_sort_73 : decode cX12_sort 73 = .ok (.goto 4, 3) := by decide +kernel
theorem dX12_sort_76 : decode cX12_sort 76 = .ok (.iconst 3, 1) := by decide +kernel
theorem dX12_sort_77 : decode cX12_sort 77 = .ok (.ireturn, 1) := by decide +kernel
theorem dX12_sort_78 : decode cX12_sort 78 = .ok (.iload_n 3, 1) := by decide +kernel
theorem dX12_sort_79 : decode cX12_sort 79 = .ok (.ifCond .eq 13, 3) := by decide +kernel
theorem dX12_sort_82 : decode cX12_sort 82 = .ok (.iload_n 3, 1) := by decide +kernel
theorem dX12_sort_83 : decode cX12_sort 83 = .ok (.ifCond .le 7, 3) := by decide +kernel
theorem dX12_sort_86 : decode cX12_sort 86 = .ok (.iconst 4, 1) := by decide +kernel
theorem dX12_sort_87 : decode cX12_sort 87 = .ok (.goto 4, 3) := by decide +kernel
theorem dX12_sort_90 : decode cX12_sort 90 = .ok (.iconst 5, 1) := by decide +kernel
theorem dX12_sort_91 : decode cX12_sort 91 = .ok (.ireturn, 1) := by decide +kernel
theorem dX12_sort_92 : decode cX12_sort 92 = .ok (.aload_n 0, 1) := by decide +kernel
theorem dX12_sort_93 : decode cX12_sort 93 = .ok (.getfield 7, 3) := by decide +kernel
theorem dX12_sort_96 : decode cX12_sort 96 = .ok (.iload_n 2, 1) := by decide +kernel
theorem dX12_sort_97 : decode cX12_sort 97 = .ok (.iaload, 1) := by decide +kernel
theorem dX12_sort_98 : decode cX12_sort 98 = .ok (.ifCond .ne 25, 3) := by decide +kernel
theorem dX12_sort_101 : decode cX12_sort 101 = .ok (.aload_n 0, 1) := by decide +kernel
theorem dX12_sort_102 : decode cX12_sort 102 = .ok (.getfield 7, 3) := by decide +kernel
theorem dX12_sort_105 : decode cX12_sort 105 = .ok (.iload_n 2, 1) := by decide +kernel
theorem dX12_sort_106 : decode cX12_sort 106 = .ok (.iconst 1, 1) := by decide +kernel
theorem dX12_sort_107 : decode cX12_sort 107 = .ok (.iadd, 1) := by decide +kernel
theorem dX12_sort_108 : decode cX12_sort 108 = .ok (.iaload, 1) := by decide +kernel
theorem dX12_sort_109 : decode cX12_sort 109 = .ok (.ifCond .ne 14, 3) := by decide +kernel
theorem dX12_sort_112 : decode cX12_sort 112 = .ok (.aload_n 0, 1) := by decide +kernel
theorem dX12_sort_113 : decode cX12_sort 113 = .ok (.getfield 7, 3) := by decide +kernel
theorem dX12_sort_116 : decode cX12_sort 116 = .ok (.iload_n 2, 1) := by decide +kernel
theorem dX12_sort_117 : decode cX12_sort 117 = .ok (.iconst 5, 1) := by decide +kernel
theorem dX12_sort_118 : decode cX12_sort 118 = .ok (.iadd, 1) := by decide +kernel
theorem dX12_sort_119 : decode cX12_sort 119 = .ok (.iaload, 1) := by decide +kernel
theorem dX12_sort_120 : decode cX12_sort 120 = .ok (.ifCond .eq 26, 3) := by decide +kernel
theorem dX12_sort_123 : decode cX12_sort 123 = .ok (.iload 5, 2) := by decide +kernel
theorem dX12_sort_125 : decode cX12_sort 125 = .ok (.ifCond .ge 8, 3) := by decide +kernel
theorem dX12_sort_128 : decode cX12_sort 128 = .ok (.bipush 6, 2) := by decide +kernel
theorem dX12_sort_130 : decode cX12_sort 130 = .ok (.goto 15, 3) := by decide +kernel
theorem dX12_sort_133 : decode cX12_sort 133 = .ok (.iload 5, 2) := by decide +kernel
theorem dX12_sort_135 : decode cX12_sort 135 = .ok (.ifCond .le 8, 3) := by decide +kernel
theorem dX12_sort_138 : decode cX12_sort 138 = .ok (.bipush 7, 2) := by decide +kernel
theorem dX12_sort_140 : decode cX12_sort 140 = .ok (.goto 5, 3) := by decide +kernel
theorem dX12_sort_143 : decode cX12_sort 143 = .ok (.bipush 8, 2) := by decide +kernel
theorem dX12_sort_145 : decode cX12_sort 145 = .ok (.ireturn, 1) := by decide +kernel
theorem dX12_sort_146 : decode cX12_sort 146 = .ok (.aload_n 0, 1) := by decide +kernel
theorem dX12_sort_147 : decode cX12_sort 147 = .ok (.getfield 7, 3) := by decide +kernel
theorem dX12_sort_150 : decode cX12_sort 150 = .ok (.iload_n 2, 1) := by decide +kernel
theorem dX12_sort_151 : decode cX12_sort 151 = .ok (.iconst 3, 1) := by decide +kernel
theorem dX12_sort_152 : decode cX12_sort 152 = .ok (.iadd, 1) := by decide +kernel
theorem dX12_sort_153 : decode cX12_sort 153 = .ok (.iaload, 1) := by decide +kernel
theorem dX12_sort_154 : decode cX12_sort 154 = .ok (.ifCond .ne 14, 3) := by decide +kernel
theorem dX12_sort_157 : decode cX12_sort 157 = .ok (.aload_n 0, 1) := by decide +kernel
theorem dX12_sort_158 : decode cX12_sort 158 = .ok (.getfield 7, 3) := by decide +kernel
theorem dX12_sort_161 : decode cX12_sort 161 = .ok (.iload_n 2, 1) := by decide +kernel
theorem dX12_sort_162 : decode cX12_sort 162 = .ok (.iconst 4, 1) := by decide +kernel
theorem dX12_sort_163 : decode cX12_sort 163 = .ok (.iadd, 1) := by decide +kernel
theorem dX12_sort_164 : decode cX12_sort 164 = .ok (.iaload, 1) := by decide +kernel
theorem dX12_sort_165 : decode cX12_sort 165 = .ok (.ifCond .eq 8, 3) := by decide +kernel
theorem dX12_sort_168 : decode cX12_sort 168 = .ok (.bipush 9, 2) := by decide +kernel
theorem dX12_sort_170 : decode cX12_sort 170 = .ok (.goto 5, 3) := by decide +kernel
theorem dX12_sort_173 : decode cX12_sort 173 = .ok (.bipush 10, 2) := by decide +kernel
theorem dX12_sort_175 : decode cX12_sort 175 = .ok (.ireturn, 1) := by decide +kernel
theorem dX12_turned_0 : decode cX12_turned 0 = .ok (.iload_n 0, 1) := by decide +kernel
theorem dX12_turned_1 : decode cX12_turned 1 = .ok (.ifCond .ge 7, 3) := by decide +kernel
theorem dX12_turned_4 : decode cX12_turned 4 = .ok (.iconst (-1), 1) := by decide +kernel
theorem dX12_turned_5 : decode cX12_turned 5 = .ok (.goto 12, 3) := by decide +kernel
theorem dX12_turned_8 : decode cX12_turned 8 = .ok (.iload_n 0, 1) := by decide +kernel
theorem dX12_turned_9 : decode cX12_turned 9 = .ok (.ifCond .le 7, 3) := by decide +kernel
theorem dX12_turned_12 : decode cX12_turned 12 = .ok (.iconst 1, 1) := by decide +kernel
theorem dX12_turned_13 : decode cX12_turned 13 = .ok (.goto 4, 3) := by decide +kernel
theorem dX12_turned_16 : decode cX12_turned 16 = .ok (.iconst 0, 1) := by decide +kernel
theorem dX12_turned_17 : decode cX12_turned 17 = .ok (.iload_n 1, 1) := by decide +kernel
theorem dX12_turned_18 : decode cX12_turned 18 = .ok (.ifCond .ge 7, 3) := by decide +kernel
theorem dX12_turned_21 : decode cX12_turned 21 = .ok (.iconst (-1), 1) := by decide +kernel
theorem dX12_turned_22 : decode cX12_turned 22 = .ok (.goto 12, 3) := by decide +kernel
theorem dX12_turned_25 : decode cX12_turned 25 = .ok (.iload_n 1, 1) := by decide +kernel
theorem dX12_turned_26 : decode cX12_turned 26 = .ok (.ifCond .le 7, 3) := by decide +kernel
theorem dX12_turned_29 : decode cX12_turned 29 = .ok (.iconst 1, 1) := by decide +kernel
theorem dX12_turned_30 : decode cX12_turned 30 = .ok (.goto 4, 3) := by decide +kernel
theorem dX12_turned_33 : decode cX12_turned 33 = .ok (.iconst 0, 1) := by decide +kernel
theorem dX12_turned_34 : decode cX12_turned 34 = .ok (.imul, 1) := by decide +kernel
theorem dX12_turned_35 : decode cX12_turned 35 = .ok (.ireturn, 1) := by decide +kernel
theorem dX12_told_0 : decode cX12_told 0 = .ok (.bipush 6, 2) := by decide +kernel
theorem dX12_told_2 : decode cX12_told 2 = .ok (.iload_n 1, 1) := by decide +kernel
theorem dX12_told_3 : decode cX12_told 3 = .ok (.imul, 1) := by decide +kernel
theorem dX12_told_4 : decode cX12_told 4 = .ok (.istore_n 3, 1) := by decide +kernel
theorem dX12_told_5 : decode cX12_told 5 = .ok (.aload_n 0, 1) := by decide +kernel
theorem dX12_told_6 : decode cX12_told 6 = .ok (.getfield 7, 3) := by decide +kernel
theorem dX12_told_9 : decode cX12_told 9 = .ok (.iload_n 3, 1) := by decide +kernel
theorem dX12_told_10 : decode cX12_told 10 = .ok (.iaload, 1) := by decide +kernel
theorem dX12_told_11 : decode cX12_told 11 = .ok (.istore 4, 2) := by decide +kernel
theorem dX12_told_13 : decode cX12_told 13 = .ok (.aload_n 0, 1) := by decide +kernel
theorem dX12_told_14 : decode cX12_told 14 = .ok (.getfield 7, 3) := by decide +kernel
theorem dX12_told_17 : decode cX12_told 17 = .ok (.iload_n 3, 1) := by decide +kernel
theorem dX12_told_18 : decode cX12_told 18 = .ok (.iconst 1, 1) := by decide +kernel
theorem dX12_told_19 : decode cX12_told 19 = .ok (.iadd, 1) := by decide +kernel
theorem dX12_told_20 : decode cX12_told 20 = .ok (.iaload, 1) := by decide +kernel
theorem dX12_told_21 : decode cX12_told 21 = .ok (.istore 5, 2) := by decide +kernel
theorem dX12_told_23 : decode cX12_told 23 = .ok (.aload_n 0, 1) := by decide +kernel
theorem dX12_told_24 : decode cX12_told 24 = .ok (.getfield 7, 3) := by decide +kernel
theorem dX12_told_27 : decode cX12_told 27 = .ok (.iload_n 3, 1) := by decide +kernel
theorem dX12_told_28 : decode cX12_told 28 = .ok (.iconst 2, 1) := by decide +kernel
theorem dX12_told_29 : decode cX12_told 29 = .ok (.iadd, 1) := by decide +kernel
theorem dX12_told_30 : decode cX12_told 30 = .ok (.iaload, 1) := by decide +kernel
theorem dX12_told_31 : decode cX12_told 31 = .ok (.istore 6, 2) := by decide +kernel
theorem dX12_told_33 : decode cX12_told 33 = .ok (.aload_n 0, 1) := by decide +kernel
theorem dX12_told_34 : decode cX12_told 34 = .ok (.getfield 7, 3) := by decide +kernel
theorem dX12_told_37 : decode cX12_told 37 = .ok (.iload_n 3, 1) := by decide +kernel
theorem dX12_told_38 : decode cX12_told 38 = .ok (.iconst 3, 1) := by decide +kernel
theorem dX12_told_39 : decode cX12_told 39 = .ok (.iadd, 1) := by decide +kernel
theorem dX12_told_40 : decode cX12_told 40 = .ok (.iaload, 1) := by decide +kernel
theorem dX12_told_41 : decode cX12_told 41 = .ok (.istore 7, 2) := by decide +kernel
theorem dX12_told_43 : decode cX12_told 43 = .ok (.aload_n 0, 1) := by decide +kernel
theorem dX12_told_44 : decode cX12_told 44 = .ok (.getfield 7, 3) := by decide +kernel
theorem dX12_told_47 : decode cX12_told 47 = .ok (.iload_n 3, 1) := by decide +kernel
theorem dX12_told_48 : decode cX12_told 48 = .ok (.iconst 4, 1) := by decide +kernel
theorem dX12_told_49 : decode cX12_told 49 = .ok (.iadd, 1) := by decide +kernel
theorem dX12_told_50 : decode cX12_told 50 = .ok (.iaload, 1) := by decide +kernel
theorem dX12_told_51 : decode cX12_told 51 = .ok (.istore 8, 2) := by decide +kernel
theorem dX12_told_53 : decode cX12_told 53 = .ok (.aload_n 0, 1) := by decide +kernel
theorem dX12_told_54 : decode cX12_told 54 = .ok (.getfield 7, 3) := by decide +kernel
theorem dX12_told_57 : decode cX12_told 57 = .ok (.iload_n 3, 1) := by decide +kernel
theorem dX12_told_58 : decode cX12_told 58 = .ok (.iconst 5, 1) := by decide +kernel
theorem dX12_told_59 : decode cX12_told 59 = .ok (.iadd, 1) := by decide +kernel
theorem dX12_told_60 : decode cX12_told 60 = .ok (.iaload, 1) := by decide +kernel
theorem dX12_told_61 : decode cX12_told 61 = .ok (.istore 9, 2) := by decide +kernel
theorem dX12_told_63 : decode cX12_told 63 = .ok (.iload_n 2, 1) := by decide +kernel
theorem dX12_told_64 : decode cX12_told 64 = .ok (.iconst 3, 1) := by decide +kernel
theorem dX12_told_65 : decode cX12_told 65 = .ok (.if_icmp .ne 19, 3) := by decide +kernel
theorem dX12_told_68 : decode cX12_told 68 = .ok (.iconst 4, 1) := by decide +kernel
theorem dX12_told_69 : decode cX12_told 69 = .ok (.iload 4, 2) := by decide +kernel
theorem dX12_told_71 : decode cX12_told 71 = .ok (.imul, 1) := by decide +kernel
theorem dX12_told_72 : decode cX12_told 72 = .ok (.iload 5, 2) := by decide +kernel
theorem dX12_told_74 : decode cX12_told 74 = .ok (.imul, 1) := by decide +kernel
theorem dX12_told_75 : decode cX12_told 75 = .ok (.iload 9, 2) := by decide +kernel
theorem dX12_told_77 : decode cX12_told 77 = .ok (.iload 9, 2) := by decide +kernel
theorem dX12_told_79 : decode cX12_told 79 = .ok (.imul, 1) := by decide +kernel
theorem dX12_told_80 : decode cX12_told 80 = .ok (.isub, 1) := by decide +kernel
theorem dX12_told_81 : decode cX12_told 81 = .ok (.goto 93, 3) := by decide +kernel
theorem dX12_told_84 : decode cX12_told 84 = .ok (.iload_n 2, 1) := by decide +kernel
theorem dX12_told_85 : decode cX12_told 85 = .ok (.iconst 4, 1) := by decide +kernel
theorem dX12_told_86 : decode cX12_told 86 = .ok (.if_icmp .ne 61, 3) := by decide +kernel
theorem dX12_told_89 : decode cX12_told 89 = .ok (.bipush 8, 2) := by decide +kernel
theorem dX12_told_91 : decode cX12_told 91 = .ok (.iload 4, 2) := by decide +kernel
theorem dX12_told_93 : decode cX12_told 93 = .ok (.imul, 1) := by decide +kernel
theorem dX12_told_94 : decode cX12_told 94 = .ok (.iload 5, 2) := by decide +kernel
theorem dX12_told_96 : decode cX12_told 96 = .ok (.imul, 1) := by decide +kernel
theorem dX12_told_97 : decode cX12_told 97 = .ok (.iload 6, 2) := by decide +kernel
theorem dX12_told_99 : decode cX12_told 99 = .ok (.imul, 1) := by decide +kernel
theorem dX12_told_100 : decode cX12_told 100 = .ok (.iconst 2, 1) := by decide +kernel
theorem dX12_told_101 : decode cX12_told 101 = .ok (.iload 7, 2) := by decide +kernel
theorem dX12_told_103 : decode cX12_told 103 = .ok (.imul, 1) := by decide +kernel
theorem dX12_told_104 : decode cX12_told 104 = .ok (.iload 8, 2) := by decide +kernel
theorem dX12_told_106 : decode cX12_told 106 = .ok (.imul, 1) := by decide +kernel
theorem dX12_told_107 : decode cX12_told 107 = .ok (.iload 9, 2) := by decide +kernel
theorem dX12_told_109 : decode cX12_told 109 = .ok (.imul, 1) := by decide +kernel
theorem dX12_told_110 : decode cX12_told 110 = .ok (.iadd, 1) := by decide +kernel
theorem dX12_told_111 : decode cX12_told 111 = .ok (.iconst 2, 1) := by decide +kernel
theorem dX12_told_112 : decode cX12_told 112 = .ok (.iload 4, 2) := by decide +kernel
theorem dX12_told_114 : decode cX12_told 114 = .ok (.imul, 1) := by decide +kernel
theorem dX12_told_115 : decode cX12_told 115 = .ok (.iload 7, 2) := by decide +kernel
theorem dX12_told_117 : decode cX12_told 117 = .ok (.imul, 1) := by decide +kernel
theorem dX12_told_118 : decode cX12_told 118 = .ok (.iload 7, 2) := by decide +kernel
theorem dX12_told_120 : decode cX12_told 120 = .ok (.imul, 1) := by decide +kernel
theorem dX12_told_121 : decode cX12_told 121 = .ok (.isub, 1) := by decide +kernel
theorem dX12_told_122 : decode cX12_told 122 = .ok (.iconst 2, 1) := by decide +kernel
theorem dX12_told_123 : decode cX12_told 123 = .ok (.iload 5, 2) := by decide +kernel
theorem dX12_told_125 : decode cX12_told 125 = .ok (.imul, 1) := by decide +kernel
theorem dX12_told_126 : decode cX12_told 126 = .ok (.iload 8, 2) := by decide +kernel
theorem dX12_told_128 : decode cX12_told 128 = .ok (.imul, 1) := by decide +kernel
theorem dX12_told_129 : decode cX12_told 129 = .ok (.iload 8, 2) := by decide +kernel
theorem dX12_told_131 : decode cX12_told 131 = .ok (.imul, 1) := by decide +kernel
theorem dX12_told_132 : decode cX12_told 132 = .ok (.isub, 1) := by decide +kernel
theorem dX12_told_133 : decode cX12_told 133 = .ok (.iconst 2, 1) := by decide +kernel
theorem dX12_told_134 : decode cX12_told 134 = .ok (.iload 6, 2) := by decide +kernel
theorem dX12_told_136 : decode cX12_told 136 = .ok (.imul, 1) := by decide +kernel
theorem dX12_told_137 : decode cX12_told 137 = .ok (.iload 9, 2) := by decide +kernel
theorem dX12_told_139 : decode cX12_told 139 = .ok (.imul, 1) := by decide +kernel
theorem dX12_told_140 : decode cX12_told 140 = .ok (.iload 9, 2) := by decide +kernel
theorem dX12_told_142 : decode cX12_told 142 = .ok (.imul, 1) := by decide +kernel
theorem dX12_told_143 : decode cX12_told 143 = .ok (.isub, 1) := by decide +kernel
theorem dX12_told_144 : decode cX12_told 144 = .ok (.goto 30, 3) := by decide +kernel
theorem dX12_told_147 : decode cX12_told 147 = .ok (.iconst 4, 1) := by decide +kernel
theorem dX12_told_148 : decode cX12_told 148 = .ok (.iload 5, 2) := by decide +kernel
theorem dX12_told_150 : decode cX12_told 150 = .ok (.imul, 1) := by decide +kernel
theorem dX12_told_151 : decode cX12_told 151 = .ok (.iload 6, 2) := by decide +kernel
theorem dX12_told_153 : decode cX12_told 153 = .ok (.imul, 1) := by decide +kernel
theorem dX12_told_154 : decode cX12_told 154 = .ok (.iload 7, 2) := by decide +kernel
theorem dX12_told_156 : decode cX12_told 156 = .ok (.iload 7, 2) := by decide +kernel
theorem dX12_told_158 : decode cX12_told 158 = .ok (.imul, 1) := by decide +kernel
theorem dX12_told_159 : decode cX12_told 159 = .ok (.isub, 1) := by decide +kernel
theorem dX12_told_160 : decode cX12_told 160 = .ok (.iconst 4, 1) := by decide +kernel
theorem dX12_told_161 : decode cX12_told 161 = .ok (.iload 4, 2) := by decide +kernel
theorem dX12_told_163 : decode cX12_told 163 = .ok (.imul, 1) := by decide +kernel
theorem dX12_told_164 : decode cX12_told 164 = .ok (.iload 6, 2) := by decide +kernel
theorem dX12_told_166 : decode cX12_told 166 = .ok (.imul, 1) := by decide +kernel
theorem dX12_told_167 : decode cX12_told 167 = .ok (.iadd, 1) := by decide +kernel
theorem dX12_told_168 : decode cX12_told 168 = .ok (.iload 8, 2) := by decide +kernel
theorem dX12_told_170 : decode cX12_told 170 = .ok (.iload 8, 2) := by decide +kernel
theorem dX12_told_172 : decode cX12_told 172 = .ok (.imul, 1) := by decide +kernel
theorem dX12_told_173 : decode cX12_told 173 = .ok (.isub, 1) := by decide +kernel
theorem dX12_told_174 : decode cX12_told 174 = .ok (.ireturn, 1) := by decide +kernel
theorem dX12_keeps_0 : decode cX12_keeps 0 = .ok (.aload_n 0, 1) := by decide +kernel
theorem dX12_keeps_1 : decode cX12_keeps 1 = .ok (.getfield 106, 3) := by decide +kernel
theorem dX12_keeps_4 : decode cX12_keeps 4 = .ok (.bipush 8, 2) := by decide +kernel
theorem dX12_keeps_6 : decode cX12_keeps 6 = .ok (.if_icmp .ne 25, 3) := by decide +kernel
theorem dX12_keeps_9 : decode cX12_keeps 9 = .ok (.aload_n 0, 1) := by decide +kernel
theorem dX12_keeps_10 : decode cX12_keeps 10 = .ok (.sipush 140, 3) := by decide +kernel
theorem dX12_keeps_13 : decode cX12_keeps 13 = .ok (.bipush 94, 2) := by decide +kernel
theorem dX12_keeps_15 : decode cX12_keeps 15 = .ok (.sipush 322, 3) := by decide +kernel
theorem dX12_keeps_18 : decode cX12_keeps 18 = .ok (.invokevirtual 109, 3) := by decide +kernel
theorem dX12_keeps_21 : decode cX12_keeps 21 = .ok (.aload_n 0, 1) := by decide +kernel
theorem dX12_keeps_22 : decode cX12_keeps 22 = .ok (.dup, 1) := by decide +kernel
theorem dX12_keeps_23 : decode cX12_keeps 23 = .ok (.getfield 106, 3) := by decide +kernel
theorem dX12_keeps_26 : decode cX12_keeps 26 = .ok (.iconst 1, 1) := by decide +kernel
theorem dX12_keeps_27 : decode cX12_keeps 27 = .ok (.isub, 1) := by decide +kernel
theorem dX12_keeps_28 : decode cX12_keeps 28 = .ok (.putfield 106, 3) := by decide +kernel
theorem dX12_keeps_31 : decode cX12_keeps 31 = .ok (.aload_n 0, 1) := by decide +kernel
theorem dX12_keeps_32 : decode cX12_keeps 32 = .ok (.iconst 0, 1) := by decide +kernel
theorem dX12_keeps_33 : decode cX12_keeps 33 = .ok (.bipush 94, 2) := by decide +kernel
theorem dX12_keeps_35 : decode cX12_keeps 35 = .ok (.bipush 46, 2) := by decide +kernel
theorem dX12_keeps_37 : decode cX12_keeps 37 = .ok (.aload_n 0, 1) := by decide +kernel
theorem dX12_keeps_38 : decode cX12_keeps 38 = .ok (.getfield 106, 3) := by decide +kernel
theorem dX12_keeps_41 : decode cX12_keeps 41 = .ok (.imul, 1) := by decide +kernel
theorem dX12_keeps_42 : decode cX12_keeps 42 = .ok (.iadd, 1) := by decide +kernel
theorem dX12_keeps_43 : decode cX12_keeps 43 = .ok (.bipush 46, 2) := by decide +kernel
theorem dX12_keeps_45 : decode cX12_keeps 45 = .ok (.invokevirtual 109, 3) := by decide +kernel
theorem dX12_keeps_48 : decode cX12_keeps 48 = .ok (.aload_n 0, 1) := by decide +kernel
theorem dX12_keeps_49 : decode cX12_keeps 49 = .ok (.dup, 1) := by decide +kernel
theorem dX12_keeps_50 : decode cX12_keeps 50 = .ok (.getfield 106, 3) := by decide +kernel
theorem dX12_keeps_53 : decode cX12_keeps 53 = .ok (.iconst 1, 1) := by decide +kernel
theorem dX12_keeps_54 : decode cX12_keeps 54 = .ok (.iadd, 1) := by decide +kernel
theorem dX12_keeps_55 : decode cX12_keeps 55 = .ok (.putfield 106, 3) := by decide +kernel
theorem dX12_keeps_58 : decode cX12_keeps 58 = .ok (.return_, 1) := by decide +kernel
theorem dX12_refused_0 : decode cX12_refused 0 = .ok (.aload_n 0, 1) := by decide +kernel
theorem dX12_refused_1 : decode cX12_refused 1 = .ok (.getfield 7, 3) := by decide +kernel
theorem dX12_refused_4 : decode cX12_refused 4 = .ok (.bipush 46, 2) := by decide +kernel
theorem dX12_refused_6 : decode cX12_refused 6 = .ok (.iload_n 1, 1) := by decide +kernel
theorem dX12_refused_7 : decode cX12_refused 7 = .ok (.iastore, 1) := by decide +kernel
theorem dX12_refused_8 : decode cX12_refused 8 = .ok (.aload_n 0, 1) := by decide +kernel
theorem dX12_refused_9 : decode cX12_refused 9 = .ok (.getfield 7, 3) := by decide +kernel
theorem dX12_refused_12 : decode cX12_refused 12 = .ok (.bipush 47, 2) := by decide +kernel
theorem dX12_refused_14 : decode cX12_refused 14 = .ok (.iload_n 2, 1) := by decide +kernel
theorem dX12_refused_15 : decode cX12_refused 15 = .ok (.iastore, 1) := by decide +kernel
theorem dX12_refused_16 : decode cX12_refused 16 = .ok (.iload_n 1, 1) := by decide +kernel
theorem dX12_refused_17 : decode cX12_refused 17 = .ok (.ireturn, 1) := by decide +kernel
theorem dX12_isConic_0 : decode cX12_isConic 0 = .ok (.iload_n 0, 1) := by decide +kernel
theorem dX12_isConic_1 : decode cX12_isConic 1 = .ok (.iconst 0, 1) := by decide +kernel
theorem dX12_isConic_2 : decode cX12_isConic 2 = .ok (.iconst 5, 1) := by decide +kernel
theorem dX12_isConic_3 : decode cX12_isConic 3 = .ok (.invokestatic 113, 3) := by decide +kernel
theorem dX12_isConic_6 : decode cX12_isConic 6 = .ok (.ireturn, 1) := by decide +kernel
theorem dX12_isShort_0 : decode cX12_isShort 0 = .ok (.iload_n 0, 1) := by decide +kernel
theorem dX12_isShort_1 : decode cX12_isShort 1 = .ok (.bipush (-99), 2) := by decide +kernel
theorem dX12_isShort_3 : decode cX12_isShort 3 = .ok (.bipush 99, 2) := by decide +kernel
theorem dX12_isShort_5 : decode cX12_isShort 5 = .ok (.invokestatic 113, 3) := by decide +kernel
theorem dX12_isShort_8 : decode cX12_isShort 8 = .ok (.ireturn, 1) := by decide +kernel
theorem dX12_whyNot_0 : decode cX12_whyNot 0 = .ok (.iconst 0, 1) := by decide +kernel
theorem dX12_whyNot_1 : decode cX12_whyNot 1 = .ok (.istore_n 1, 1) := by decide +kernel
theorem dX12_whyNot_2 : decode cX12_whyNot 2 = .ok (.iconst 0, 1) := by decide +kernel
theorem dX12_whyNot_3 : decode cX12_whyNot 3 = .ok (.istore_n 2, 1) := by decide +kernel
theorem dX12_whyNot_4 : decode cX12_whyNot 4 = .ok (.iload_n 2, 1) := by decide +kernel
theorem dX12_whyNot_5 : decode cX12_whyNot 5 = .ok (.bipush 6, 2) := by decide +kernel
theorem dX12_whyNot_7 : decode cX12_whyNot 7 = .ok (.if_icmp .ge 28, 3) := by decide +kernel
theorem dX12_whyNot_10 : decode cX12_whyNot 10 = .ok (.iload_n 1, 1) := by decide +kernel
theorem dX12_whyNot_11 : decode cX12_whyNot 11 = .ok (.ifCond .ne 12, 3) := by decide +kernel
theorem dX12_whyNot_14 : decode cX12_whyNot 14 = .ok (.aload_n 0, 1) := by decide +kernel
theorem dX12_whyNot_15 : decode cX12_whyNot 15 = .ok (.getfield 30, 3) := by decide +kernel
theorem dX12_whyNot_18 : decode cX12_whyNot 18 = .ok (.iload_n 2, 1) := by decide +kernel
theorem dX12_whyNot_19 : decode cX12_whyNot 19 = .ok (.iaload, 1) := by decide +kernel
theorem dX12_whyNot_20 : decode cX12_whyNot 20 = .ok (.ifCond .eq 7, 3) := by decide +kernel
theorem dX12_whyNot_23 : decode cX12_whyNot 23 = .ok (.iconst 1, 1) := by decide +kernel
theorem dX12_whyNot_24 : decode cX12_whyNot 24 = .ok (.goto 4, 3) := by decide +kernel
theorem dX12_whyNot_27 : decode cX12_whyNot 27 = .ok (.iconst 0, 1) := by decide +kernel
theorem dX12_whyNot_28 : decode cX12_whyNot 28 = .ok (.istore_n 1, 1) := by decide +kernel
theorem dX12_whyNot_29 : decode cX12_whyNot 29 = .ok (.iinc 2 1, 3) := by decide +kernel
theorem dX12_whyNot_32 : decode cX12_whyNot 32 = .ok (.goto (-28), 3) := by decide +kernel
theorem dX12_whyNot_35 : decode cX12_whyNot 35 = .ok (.iload_n 1, 1) := by decide +kernel
theorem dX12_whyNot_36 : decode cX12_whyNot 36 = .ok (.ifCond .ne 5, 3) := by decide +kernel
theorem dX12_whyNot_39 : decode cX12_whyNot 39 = .ok (.iconst 3, 1) := by decide +kernel
theorem dX12_whyNot_40 : decode cX12_whyNot 40 = .ok (.ireturn, 1) := by decide +kernel
theorem dX12_whyNot_41 : decode cX12_whyNot 41 = .ok (.iconst 0, 1) := by decide +kernel
theorem dX12_whyNot_42 : decode cX12_whyNot 42 = .ok (.istore_n 2, 1) := by decide +kernel
theorem dX12_whyNot_43 : decode cX12_whyNot 43 = .ok (.iload_n 2, 1) := by decide +kernel
theorem dX12_whyNot_44 : decode cX12_whyNot 44 = .ok (.bipush 6, 2) := by decide +kernel
theorem dX12_whyNot_46 : decode cX12_whyNot 46 = .ok (.if_icmp .ge 23, 3) := by decide +kernel
theorem dX12_whyNot_49 : decode cX12_whyNot 49 = .ok (.aload_n 0, 1) := by decide +kernel
theorem dX12_whyNot_50 : decode cX12_whyNot 50 = .ok (.getfield 30, 3) := by decide +kernel
theorem dX12_whyNot_53 : decode cX12_whyNot 53 = .ok (.iload_n 2, 1) := by decide +kernel
theorem dX12_whyNot_54 : decode cX12_whyNot 54 = .ok (.iaload, 1) := by decide +kernel
theorem dX12_whyNot_55 : decode cX12_whyNot 55 = .ok (.invokestatic 117, 3) := by decide +kernel
theorem dX12_whyNot_58 : decode cX12_whyNot 58 = .ok (.ifCond .ne 5, 3) := by decide +kernel
theorem dX12_whyNot_61 : decode cX12_whyNot 61 = .ok (.iconst 4, 1) := by decide +kernel
theorem dX12_whyNot_62 : decode cX12_whyNot 62 = .ok (.ireturn, 1) := by decide +kernel
theorem dX12_whyNot_63 : decode cX12_whyNot 63 = .ok (.iinc 2 1, 3) := by decide +kernel
theorem dX12_whyNot_66 : decode cX12_whyNot 66 = .ok (.goto (-23), 3) := by decide +kernel
theorem dX12_whyNot_69 : decode cX12_whyNot 69 = .ok (.iconst 0, 1) := by decide +kernel
theorem dX12_whyNot_70 : decode cX12_whyNot 70 = .ok (.ireturn, 1) := by decide +kernel
theorem dX12_takesIts_0 : decode cX12_takesIts 0 = .ok (.iconst 0, 1) := by decide +kernel
theorem dX12_takesIts_1 : decode cX12_takesIts 1 = .ok (.istore_n 3, 1) := by decide +kernel
theorem dX12_takesIts_2 : decode cX12_takesIts 2 = .ok (.iload_n 3, 1) := by decide +kernel
theorem dX12_takesIts_3 : decode cX12_takesIts 3 = .ok (.bipush 6, 2) := by decide +kernel
theorem dX12_takesIts_5 : decode cX12_takesIts 5 = .ok (.if_icmp .ge 28, 3) := by decide +kernel
theorem dX12_takesIts_8 : decode cX12_takesIts 8 = .ok (.aload_n 0, 1) := by decide +kernel
theorem dX12_takesIts_9 : decode cX12_takesIts 9 = .ok (.getfield 7, 3) := by decide +kernel
theorem dX12_takesIts_12 : decode cX12_takesIts 12 = .ok (.iload_n 1, 1) := by decide +kernel
theorem dX12_takesIts_13 : decode cX12_takesIts 13 = .ok (.bipush 6, 2) := by decide +kernel
theorem dX12_takesIts_15 : decode cX12_takesIts 15 = .ok (.iload_n 2, 1) := by decide +kernel
theorem dX12_takesIts_16 : decode cX12_takesIts 16 = .ok (.imul, 1) := by decide +kernel
theorem dX12_takesIts_17 : decode cX12_takesIts 17 = .ok (.iadd, 1) := by decide +kernel
theorem dX12_takesIts_18 : decode cX12_takesIts 18 = .ok (.iload_n 3, 1) := by decide +kernel
theorem dX12_takesIts_19 : decode cX12_takesIts 19 = .ok (.iadd, 1) := by decide +kernel
theorem dX12_takesIts_20 : decode cX12_takesIts 20 = .ok (.aload_n 0, 1) := by decide +kernel
theorem dX12_takesIts_21 : decode cX12_takesIts 21 = .ok (.getfield 30, 3) := by decide +kernel
theorem dX12_takesIts_24 : decode cX12_takesIts 24 = .ok (.iload_n 3, 1) := by decide +kernel
theorem dX12_takesIts_25 : decode cX12_takesIts 25 = .ok (.iaload, 1) := by decide +kernel
theorem dX12_takesIts_26 : decode cX12_takesIts 26 = .ok (.iastore, 1) := by decide +kernel
theorem dX12_takesIts_27 : decode cX12_takesIts 27 = .ok (.iinc 3 1, 3) := by decide +kernel
theorem dX12_takesIts_30 : decode cX12_takesIts 30 = .ok (.goto (-28), 3) := by decide +kernel
theorem dX12_takesIts_33 : decode cX12_takesIts 33 = .ok (.return_, 1) := by decide +kernel
theorem dX12_becomes_0 : decode cX12_becomes 0 = .ok (.aload_n 0, 1) := by decide +kernel
theorem dX12_becomes_1 : decode cX12_becomes 1 = .ok (.invokevirtual 120, 3) := by decide +kernel
theorem dX12_becomes_4 : decode cX12_becomes 4 = .ok (.istore_n 2, 1) := by decide +kernel
theorem dX12_becomes_5 : decode cX12_becomes 5 = .ok (.iload_n 2, 1) := by decide +kernel
theorem dX12_becomes_6 : decode cX12_becomes 6 = .ok (.ifCond .le 10, 3) := by decide +kernel
theorem dX12_becomes_9 : decode cX12_becomes 9 = .ok (.aload_n 0, 1) := by decide +kernel
theorem dX12_becomes_10 : decode cX12_becomes 10 = .ok (.iload_n 2, 1) := by decide +kernel
theorem dX12_becomes_11 : decode cX12_becomes 11 = .ok (.iconst 0, 1) := by decide +kernel
theorem dX12_becomes_12 : decode cX12_becomes 12 = .ok (.invokevirtual 123, 3) := by decide +kernel
theorem dX12_becomes_15 : decode cX12_becomes 15 = .ok (.ireturn, 1) := by decide +kernel
theorem dX12_becomes_16 : decode cX12_becomes 16 = .ok (.aload_n 0, 1) := by decide +kernel
theorem dX12_becomes_17 : decode cX12_becomes 17 = .ok (.invokevirtual 126, 3) := by decide +kernel
theorem dX12_becomes_20 : decode cX12_becomes 20 = .ok (.aload_n 0, 1) := by decide +kernel
theorem dX12_becomes_21 : decode cX12_becomes 21 = .ok (.iconst 0, 1) := by decide +kernel
theorem dX12_becomes_22 : decode cX12_becomes 22 = .ok (.iload_n 1, 1) := by decide +kernel
theorem dX12_becomes_23 : decode cX12_becomes 23 = .ok (.invokevirtual 129, 3) := by decide +kernel
theorem dX12_becomes_26 : decode cX12_becomes 26 = .ok (.aload_n 0, 1) := by decide +kernel
theorem dX12_becomes_27 : decode cX12_becomes 27 = .ok (.iconst 0, 1) := by decide +kernel
theorem dX12_becomes_28 : decode cX12_becomes 28 = .ok (.iconst 0, 1) := by decide +kernel
theorem dX12_becomes_29 : decode cX12_becomes 29 = .ok (.invokevirtual 123, 3) := by decide +kernel
theorem dX12_becomes_32 : decode cX12_becomes 32 = .ok (.ireturn, 1) := by decide +kernel
theorem dX12_laysIts_0 : decode cX12_laysIts 0 = .ok (.iconst 0, 1) := by decide +kernel
theorem dX12_laysIts_1 : decode cX12_laysIts 1 = .ok (.istore_n 2, 1) := by decide +kernel
theorem dX12_laysIts_2 : decode cX12_laysIts 2 = .ok (.iload_n 2, 1) := by decide +kernel
theorem dX12_laysIts_3 : decode cX12_laysIts 3 = .ok (.bipush 6, 2) := by decide +kernel
theorem dX12_laysIts_5 : decode cX12_laysIts 5 = .ok (.if_icmp .ge 26, 3) := by decide +kernel
theorem dX12_laysIts_8 : decode cX12_laysIts 8 = .ok (.aload_n 0, 1) := by decide +kernel
theorem dX12_laysIts_9 : decode cX12_laysIts 9 = .ok (.getfield 30, 3) := by decide +kernel
theorem dX12_laysIts_12 : decode cX12_laysIts 12 = .ok (.iload_n 2, 1) := by decide +kernel
theorem dX12_laysIts_13 : decode cX12_laysIts 13 = .ok (.aload_n 0, 1) := by decide +kernel
theorem dX12_laysIts_14 : decode cX12_laysIts 14 = .ok (.getfield 7, 3) := by decide +kernel
theorem dX12_laysIts_17 : decode cX12_laysIts 17 = .ok (.bipush 6, 2) := by decide +kernel
theorem dX12_laysIts_19 : decode cX12_laysIts 19 = .ok (.iload_n 1, 1) := by decide +kernel
theorem dX12_laysIts_20 : decode cX12_laysIts 20 = .ok (.imul, 1) := by decide +kernel
theorem dX12_laysIts_21 : decode cX12_laysIts 21 = .ok (.iload_n 2, 1) := by decide +kernel
theorem dX12_laysIts_22 : decode cX12_laysIts 22 = .ok (.iadd, 1) := by decide +kernel
theorem dX12_laysIts_23 : decode cX12_laysIts 23 = .ok (.iaload, 1) := by decide +kernel
theorem dX12_laysIts_24 : decode cX12_laysIts 24 = .ok (.iastore, 1) := by decide +kernel
theorem dX12_laysIts_25 : decode cX12_laysIts 25 = .ok (.iinc 2 1, 3) := by decide +kernel
theorem dX12_laysIts_28 : decode cX12_laysIts 28 = .ok (.goto (-26), 3) := by decide +kernel
theorem dX12_laysIts_31 : decode cX12_laysIts 31 = .ok (.return_, 1) := by decide +kernel
theorem dX12_prime_0 : decode cX12_prime 0 = .ok (.iload_n 1, 1) := by decide +kernel
theorem dX12_prime_1 : decode cX12_prime 1 = .ok (.invokestatic 133, 3) := by decide +kernel
theorem dX12_prime_4 : decode cX12_prime 4 = .ok (.ifCond .ne 10, 3) := by decide +kernel
theorem dX12_prime_7 : decode cX12_prime 7 = .ok (.aload_n 0, 1) := by decide +kernel
theorem dX12_prime_8 : decode cX12_prime 8 = .ok (.iconst 1, 1) := by decide +kernel
theorem dX12_prime_9 : decode cX12_prime 9 = .ok (.iconst 0, 1) := by decide +kernel
theorem dX12_prime_10 : decode cX12_prime 10 = .ok (.invokevirtual 123, 3) := by decide +kernel
theorem dX12_prime_13 : decode cX12_prime 13 = .ok (.ireturn, 1) := by decide +kernel
theorem dX12_prime_14 : decode cX12_prime 14 = .ok (.iload_n 1, 1) := by decide +kernel
theorem dX12_prime_15 : decode cX12_prime 15 = .ok (.aload_n 0, 1) := by decide +kernel
theorem dX12_prime_16 : decode cX12_prime 16 = .ok (.getfield 7, 3) := by decide +kernel
theorem dX12_prime_19 : decode cX12_prime 19 = .ok (.bipush 36, 2) := by decide +kernel
theorem dX12_prime_21 : decode cX12_prime 21 = .ok (.iaload, 1) := by decide +kernel
theorem dX12_prime_22 : decode cX12_prime 22 = .ok (.if_icmp .ne 10, 3) := by decide +kernel
theorem dX12_prime_25 : decode cX12_prime 25 = .ok (.aload_n 0, 1) := by decide +kernel
theorem dX12_prime_26 : decode cX12_prime 26 = .ok (.iconst 2, 1) := by decide +kernel
theorem dX12_prime_27 : decode cX12_prime 27 = .ok (.iconst 0, 1) := by decide +kernel
theorem dX12_prime_28 : decode cX12_prime 28 = .ok (.invokevirtual 123, 3) := by decide +kernel
theorem dX12_prime_31 : decode cX12_prime 31 = .ok (.ireturn, 1) := by decide +kernel
theorem dX12_prime_32 : decode cX12_prime 32 = .ok (.aload_n 0, 1) := by decide +kernel
theorem dX12_prime_33 : decode cX12_prime 33 = .ok (.invokevirtual 126, 3) := by decide +kernel
theorem dX12_prime_36 : decode cX12_prime 36 = .ok (.aload_n 0, 1) := by decide +kernel
theorem dX12_prime_37 : decode cX12_prime 37 = .ok (.getfield 7, 3) := by decide +kernel
theorem dX12_prime_40 : decode cX12_prime 40 = .ok (.bipush 36, 2) := by decide +kernel
theorem dX12_prime_42 : decode cX12_prime 42 = .ok (.iload_n 1, 1) := by decide +kernel
theorem dX12_prime_43 : decode cX12_prime 43 = .ok (.iastore, 1) := by decide +kernel
theorem dX12_prime_44 : decode cX12_prime 44 = .ok (.aload_n 0, 1) := by decide +kernel
theorem dX12_prime_45 : decode cX12_prime 45 = .ok (.getfield 7, 3) := by decide +kernel
theorem dX12_prime_48 : decode cX12_prime 48 = .ok (.bipush 37, 2) := by decide +kernel
theorem dX12_prime_50 : decode cX12_prime 50 = .ok (.iconst 0, 1) := by decide +kernel
theorem dX12_prime_51 : decode cX12_prime 51 = .ok (.iastore, 1) := by decide +kernel
theorem dX12_prime_52 : decode cX12_prime 52 = .ok (.aload_n 0, 1) := by decide +kernel
theorem dX12_prime_53 : decode cX12_prime 53 = .ok (.iconst 0, 1) := by decide +kernel
theorem dX12_prime_54 : decode cX12_prime 54 = .ok (.iconst 0, 1) := by decide +kernel
theorem dX12_prime_55 : decode cX12_prime 55 = .ok (.invokevirtual 123, 3) := by decide +kernel
theorem dX12_prime_58 : decode cX12_prime 58 = .ok (.ireturn, 1) := by decide +kernel
theorem dX12_set_0 : decode cX12_set 0 = .ok (.iload_n 1, 1) := by decide +kernel
theorem dX12_set_1 : decode cX12_set 1 = .ok (.invokestatic 136, 3) := by decide +kernel
theorem dX12_set_4 : decode cX12_set 4 = .ok (.ifCond .eq 19, 3) := by decide +kernel
theorem dX12_set_7 : decode cX12_set 7 = .ok (.iload_n 2, 1) := by decide +kernel
theorem dX12_set_8 : decode cX12_set 8 = .ok (.iconst 0, 1) := by decide +kernel
theorem dX12_set_9 : decode cX12_set 9 = .ok (.iconst 5, 1) := by decide +kernel
theorem dX12_set_10 : decode cX12_set 10 = .ok (.invokestatic 113, 3) := by decide +kernel
theorem dX12_set_13 : decode cX12_set 13 = .ok (.ifCond .eq 10, 3) := by decide +kernel
theorem dX12_set_16 : decode cX12_set 16 = .ok (.iload_n 3, 1) := by decide +kernel
theorem dX12_set_17 : decode cX12_set 17 = .ok (.invokestatic 117, 3) := by decide +kernel
theorem dX12_set_20 : decode cX12_set 20 = .ok (.ifCond .ne 10, 3) := by decide +kernel
theorem dX12_set_23 : decode cX12_set 23 = .ok (.aload_n 0, 1) := by decide +kernel
theorem dX12_set_24 : decode cX12_set 24 = .ok (.iconst 1, 1) := by decide +kernel
theorem dX12_set_25 : decode cX12_set 25 = .ok (.iconst 0, 1) := by decide +kernel
theorem dX12_set_26 : decode cX12_set 26 = .ok (.invokevirtual 123, 3) := by decide +kernel
theorem dX12_set_29 : decode cX12_set 29 = .ok (.ireturn, 1) := by decide +kernel
theorem dX12_set_30 : decode cX12_set 30 = .ok (.aload_n 0, 1) := by decide +kernel
theorem dX12_set_31 : decode cX12_set 31 = .ok (.getfield 7, 3) := by decide +kernel
theorem dX12_set_34 : decode cX12_set 34 = .ok (.bipush 6, 2) := by decide +kernel
theorem dX12_set_36 : decode cX12_set 36 = .ok (.iload_n 1, 1) := by decide +kernel
theorem dX12_set_37 : decode cX12_set 37 = .ok (.imul, 1) := by decide +kernel
theorem dX12_set_38 : decode cX12_set 38 = .ok (.iload_n 2, 1) := by decide +kernel
theorem dX12_set_39 : decode cX12_set 39 = .ok (.iadd, 1) := by decide +kernel
theorem dX12_set_40 : decode cX12_set 40 = .ok (.iaload, 1) := by decide +kernel
theorem dX12_set_41 : decode cX12_set 41 = .ok (.iload_n 3, 1) := by decide +kernel
theorem dX12_set_42 : decode cX12_set 42 = .ok (.if_icmp .ne 10, 3) := by decide +kernel
theorem dX12_set_45 : decode cX12_set 45 = .ok (.aload_n 0, 1) := by decide +kernel
theorem dX12_set_46 : decode cX12_set 46 = .ok (.iconst 2, 1) := by decide +kernel
theorem dX12_set_47 : decode cX12_set 47 = .ok (.iconst 0, 1) := by decide +kernel
theorem dX12_set_48 : decode cX12_set 48 = .ok (.invokevirtual 123, 3) := by decide +kernel
theorem dX12_set_51 : decode cX12_set 51 = .ok (.ireturn, 1) := by decide +kernel
theorem dX12_set_52 : decode cX12_set 52 = .ok (.aload_n 0, 1) := by decide +kernel
theorem dX12_set_53 : decode cX12_set 53 = .ok (.iload_n 1, 1) := by decide +kernel
theorem dX12_set_54 : decode cX12_set 54 = .ok (.invokevirtual 139, 3) := by decide +kernel
theorem dX12_set_57 : decode cX12_set 57 = .ok (.aload_n 0, 1) := by decide +kernel
theorem dX12_set_58 : decode cX12_set 58 = .ok (.getfield 30, 3) := by decide +kernel
theorem dX12_set_61 : decode cX12_set 61 = .ok (.iload_n 2, 1) := by decide +kernel
theorem dX12_set_62 : decode cX12_set 62 = .ok (.iload_n 3, 1) := by decide +kernel
theorem dX12_set_63 : decode cX12_set 63 = .ok (.iastore, 1) := by decide +kernel
theorem dX12_set_64 : decode cX12_set 64 = .ok (.aload_n 0, 1) := by decide +kernel
theorem dX12_set_65 : decode cX12_set 65 = .ok (.iload_n 1, 1) := by decide +kernel
theorem dX12_set_66 : decode cX12_set 66 = .ok (.invokevirtual 142, 3) := by decide +kernel
theorem dX12_set_69 : decode cX12_set 69 = .ok (.ireturn, 1) := by decide +kernel
theorem dX12_sum_0 : decode cX12_sum 0 = .ok (.iload_n 1, 1) := by decide +kernel
theorem dX12_sum_1 : decode cX12_sum 1 = .ok (.invokestatic 136, 3) := by decide +kernel
theorem dX12_sum_4 : decode cX12_sum 4 = .ok (.ifCond .eq 33, 3) := by decide +kernel
theorem dX12_sum_7 : decode cX12_sum 7 = .ok (.iload_n 2, 1) := by decide +kernel
theorem dX12_sum_8 : decode cX12_sum 8 = .ok (.invokestatic 136, 3) := by decide +kernel
theorem dX12_sum_11 : decode cX12_sum 11 = .ok (.ifCond .eq 26, 3) := by decide +kernel
theorem dX12_sum_14 : decode cX12_sum 14 = .ok (.iload 4, 2) := by decide +kernel
theorem dX12_sum_16 : decode cX12_sum 16 = .ok (.invokestatic 136, 3) := by decide +kernel
theorem dX12_sum_19 : decode cX12_sum 19 = .ok (.ifCond .eq 18, 3) := by decide +kernel
theorem dX12_sum_22 : decode cX12_sum 22 = .ok (.iload_n 3, 1) := by decide +kernel
theorem dX12_sum_23 : decode cX12_sum 23 = .ok (.invokestatic 117, 3) := by decide +kernel
theorem dX12_sum_26 : decode cX12_sum 26 = .ok (.ifCond .eq 11, 3) := by decide +kernel
theorem dX12_sum_29 : decode cX12_sum 29 = .ok (.iload 5, 2) := by decide +kernel
theorem dX12_sum_31 : decode cX12_sum 31 = .ok (.invokestatic 117, 3) := by decide +kernel
theorem dX12_sum_34 : decode cX12_sum 34 = .ok (.ifCond .ne 10, 3) := by decide +kernel
theorem dX12_sum_37 : decode cX12_sum 37 = .ok (.aload_n 0, 1) := by decide +kernel
theorem dX12_sum_38 : decode cX12_sum 38 = .ok (.iconst 1, 1) := by decide +kernel
theorem dX12_sum_39 : decode cX12_sum 39 = .ok (.iconst 0, 1) := by decide +kernel
theorem dX12_sum_40 : decode cX12_sum 40 = .ok (.invokevirtual 123, 3) := by decide +kernel
theorem dX12_sum_43 : decode cX12_sum 43 = .ok (.ireturn, 1) := by decide +kernel
theorem dX12_sum_44 : decode cX12_sum 44 = .ok (.iconst 0, 1) := by decide +kernel
theorem dX12_sum_45 : decode cX12_sum 45 = .ok (.istore 6, 2) := by decide +kernel
theorem dX12_sum_47 : decode cX12_sum 47 = .ok (.iload 6, 2) := by decide +kernel
theorem dX12_sum_49 : decode cX12_sum 49 = .ok (.bipush 6, 2) := by decide +kernel
theorem dX12_sum_51 : decode cX12_sum 51 = .ok (.if_icmp .ge 47, 3) := by decide +kernel
theorem dX12_sum_54 : decode cX12_sum 54 = .ok (.aload_n 0, 1) := by decide +kernel
theorem dX12_sum_55 : decode cX12_sum 55 = .ok (.getfield 30, 3) := by decide +kernel
theorem dX12_sum_58 : decode cX12_sum 58 = .ok (.iload 6, 2) := by decide +kernel
theorem dX12_sum_60 : decode cX12_sum 60 = .ok (.iload_n 3, 1) := by decide +kernel
theorem dX12_sum_61 : decode cX12_sum 61 = .ok (.aload_n 0, 1) := by decide +kernel
theorem dX12_sum_62 : decode cX12_sum 62 = .ok (.getfield 7, 3) := by decide +kernel
theorem dX12_sum_65 : decode cX12_sum 65 = .ok (.bipush 6, 2) := by decide +kernel
theorem dX12_sum_67 : decode cX12_sum 67 = .ok (.iload_n 2, 1) := by decide +kernel
theorem dX12_sum_68 : decode cX12_sum 68 = .ok (.imul, 1) := by decide +kernel
theorem dX12_sum_69 : decode cX12_sum 69 = .ok (.iload 6, 2) := by decide +kernel
theorem dX12_sum_71 : decode cX12_sum 71 = .ok (.iadd, 1) := by decide +kernel
theorem dX12_sum_72 : decode cX12_sum 72 = .ok (.iaload, 1) := by decide +kernel
theorem dX12_sum_73 : decode cX12_sum 73 = .ok (.imul, 1) := by decide +kernel
theorem dX12_sum_74 : decode cX12_sum 74 = .ok (.iload 5, 2) := by decide +kernel
theorem dX12_sum_76 : decode cX12_sum 76 = .ok (.aload_n 0, 1) := by decide +kernel
theorem dX12_sum_77 : decode cX12_sum 77 = .ok (.getfield 7, 3) := by decide +kernel
theorem dX12_sum_80 : decode cX12_sum 80 = .ok (.bipush 6, 2) := by decide +kernel
theorem dX12_sum_82 : decode cX12_sum 82 = .ok (.iload 4, 2) := by decide +kernel
theorem dX12_sum_84 : decode cX12_sum 84 = .ok (.imul, 1) := by decide +kernel
theorem dX12_sum_85 : decode cX12_sum 85 = .ok (.iload 6, 2) := by decide +kernel
theorem dX12_sum_87 : decode cX12_sum 87 = .ok (.iadd, 1) := by decide +kernel
theorem dX12_sum_88 : decode cX12_sum 88 = .ok (.iaload, 1) := by decide +kernel
theorem dX12_sum_89 : decode cX12_sum 89 = .ok (.imul, 1) := by decide +kernel
theorem dX12_sum_90 : decode cX12_sum 90 = .ok (.iadd, 1) := by decide +kernel
theorem dX12_sum_91 : decode cX12_sum 91 = .ok (.iastore, 1) := by decide +kernel
theorem dX12_sum_92 : decode cX12_sum 92 = .ok (.iinc 6 1, 3) := by decide +kernel
theorem dX12_sum_95 : decode cX12_sum 95 = .ok (.goto (-48), 3) := by decide +kernel
theorem dX12_sum_98 : decode cX12_sum 98 = .ok (.aload_n 0, 1) := by decide +kernel
theorem dX12_sum_99 : decode cX12_sum 99 = .ok (.iload_n 1, 1) := by decide +kernel
theorem dX12_sum_100 : decode cX12_sum 100 = .ok (.invokevirtual 142, 3) := by decide +kernel
theorem dX12_sum_103 : decode cX12_sum 103 = .ok (.ireturn, 1) := by decide +kernel
theorem dX12_turn_0 : decode cX12_turn 0 = .ok (.iload_n 1, 1) := by decide +kernel
theorem dX12_turn_1 : decode cX12_turn 1 = .ok (.invokestatic 136, 3) := by decide +kernel
theorem dX12_turn_4 : decode cX12_turn 4 = .ok (.ifCond .eq 10, 3) := by decide +kernel
theorem dX12_turn_7 : decode cX12_turn 7 = .ok (.iload_n 2, 1) := by decide +kernel
theorem dX12_turn_8 : decode cX12_turn 8 = .ok (.invokestatic 136, 3) := by decide +kernel
theorem dX12_turn_11 : decode cX12_turn 11 = .ok (.ifCond .ne 10, 3) := by decide +kernel
theorem dX12_turn_14 : decode cX12_turn 14 = .ok (.aload_n 0, 1) := by decide +kernel
theorem dX12_turn_15 : decode cX12_turn 15 = .ok (.iconst 1, 1) := by decide +kernel
theorem dX12_turn_16 : decode cX12_turn 16 = .ok (.iconst 0, 1) := by decide +kernel
theorem dX12_turn_17 : decode cX12_turn 17 = .ok (.invokevirtual 123, 3) := by decide +kernel
theorem dX12_turn_20 : decode cX12_turn 20 = .ok (.ireturn, 1) := by decide +kernel
theorem dX12_turn_21 : decode cX12_turn 21 = .ok (.aload_n 0, 1) := by decide +kernel
theorem dX12_turn_22 : decode cX12_turn 22 = .ok (.iconst 0, 1) := by decide +kernel
theorem dX12_turn_23 : decode cX12_turn 23 = .ok (.iload_n 2, 1) := by decide +kernel
theorem dX12_turn_24 : decode cX12_turn 24 = .ok (.invokevirtual 145, 3) := by decide +kernel
theorem dX12_turn_27 : decode cX12_turn 27 = .ok (.aload_n 0, 1) := by decide +kernel
theorem dX12_turn_28 : decode cX12_turn 28 = .ok (.invokevirtual 148, 3) := by decide +kernel
theorem dX12_turn_31 : decode cX12_turn 31 = .ok (.istore_n 3, 1) := by decide +kernel
theorem dX12_turn_32 : decode cX12_turn 32 = .ok (.iload_n 3, 1) := by decide +kernel
theorem dX12_turn_33 : decode cX12_turn 33 = .ok (.iconst 4, 1) := by decide +kernel
theorem dX12_turn_34 : decode cX12_turn 34 = .ok (.if_icmp .eq 13, 3) := by decide +kernel
theorem dX12_turn_37 : decode cX12_turn 37 = .ok (.aload_n 0, 1) := by decide +kernel
theorem dX12_turn_38 : decode cX12_turn 38 = .ok (.iconst 5, 1) := by decide +kernel
theorem dX12_turn_39 : decode cX12_turn 39 = .ok (.bipush 6, 2) := by decide +kernel
theorem dX12_turn_41 : decode cX12_turn 41 = .ok (.iload_n 3, 1) := by decide +kernel
theorem dX12_turn_42 : decode cX12_turn 42 = .ok (.iadd, 1) := by decide +kernel
theorem dX12_turn_43 : decode cX12_turn 43 = .ok (.invokevirtual 123, 3) := by decide +kernel
theorem dX12_turn_46 : decode cX12_turn 46 = .ok (.ireturn, 1) := by decide +kernel
theorem dX12_turn_47 : decode cX12_turn 47 = .ok (.aload_n 0, 1) := by decide +kernel
theorem dX12_turn_48 : decode cX12_turn 48 = .ok (.getfield 30, 3) := by decide +kernel
theorem dX12_turn_51 : decode cX12_turn 51 = .ok (.iconst 0, 1) := by decide +kernel
theorem dX12_turn_52 : decode cX12_turn 52 = .ok (.aload_n 0, 1) := by decide +kernel
theorem dX12_turn_53 : decode cX12_turn 53 = .ok (.iconst 4, 1) := by decide +kernel
theorem dX12_turn_54 : decode cX12_turn 54 = .ok (.aload_n 0, 1) := by decide +kernel
theorem dX12_turn_55 : decode cX12_turn 55 = .ok (.getfield 24, 3) := by decide +kernel
theorem dX12_turn_58 : decode cX12_turn 58 = .ok (.iconst 1, 1) := by decide +kernel
theorem dX12_turn_59 : decode cX12_turn 59 = .ok (.iaload, 1) := by decide +kernel
theorem dX12_turn_60 : decode cX12_turn 60 = .ok (.imul, 1) := by decide +kernel
theorem dX12_turn_61 : decode cX12_turn 61 = .ok (.aload_n 0, 1) := by decide +kernel
theorem dX12_turn_62 : decode cX12_turn 62 = .ok (.getfield 24, 3) := by decide +kernel
theorem dX12_turn_65 : decode cX12_turn 65 = .ok (.iconst 2, 1) := by decide +kernel
theorem dX12_turn_66 : decode cX12_turn 66 = .ok (.iaload, 1) := by decide +kernel
theorem dX12_turn_67 : decode cX12_turn 67 = .ok (.imul, 1) := by decide +kernel
theorem dX12_turn_68 : decode cX12_turn 68 = .ok (.aload_n 0, 1) := by decide +kernel
theorem dX12_turn_69 : decode cX12_turn 69 = .ok (.getfield 24, 3) := by decide +kernel
theorem dX12_turn_72 : decode cX12_turn 72 = .ok (.iconst 3, 1) := by decide +kernel
theorem dX12_turn_73 : decode cX12_turn 73 = .ok (.iaload, 1) := by decide +kernel
theorem dX12_turn_74 : decode cX12_turn 74 = .ok (.aload_n 0, 1) := by decide +kernel
theorem dX12_turn_75 : decode cX12_turn 75 = .ok (.getfield 24, 3) := by decide +kernel
theorem dX12_turn_78 : decode cX12_turn 78 = .ok (.iconst 3, 1) := by decide +kernel
theorem dX12_turn_79 : decode cX12_turn 79 = .ok (.iaload, 1) := by decide +kernel
theorem dX12_turn_80 : decode cX12_turn 80 = .ok (.imul, 1) := by decide +kernel
theorem dX12_turn_81 : decode cX12_turn 81 = .ok (.isub, 1) := by decide +kernel
theorem dX12_turn_82 : decode cX12_turn 82 = .ok (.invokevirtual 52, 3) := by decide +kernel
theorem dX12_turn_85 : decode cX12_turn 85 = .ok (.iastore, 1) := by decide +kernel
theorem dX12_turn_86 : decode cX12_turn 86 = .ok (.aload_n 0, 1) := by decide +kernel
theorem dX12_turn_87 : decode cX12_turn 87 = .ok (.getfield 30, 3) := by decide +kernel
theorem dX12_turn_90 : decode cX12_turn 90 = .ok (.iconst 1, 1) := by decide +kernel
theorem dX12_turn_91 : decode cX12_turn 91 = .ok (.aload_n 0, 1) := by decide +kernel
theorem dX12_turn_92 : decode cX12_turn 92 = .ok (.iconst 4, 1) := by decide +kernel
theorem dX12_turn_93 : decode cX12_turn 93 = .ok (.aload_n 0, 1) := by decide +kernel
theorem dX12_turn_94 : decode cX12_turn 94 = .ok (.getfield 24, 3) := by decide +kernel
theorem dX12_turn_97 : decode cX12_turn 97 = .ok (.iconst 0, 1) := by decide +kernel
theorem dX12_turn_98 : decode cX12_turn 98 = .ok (.iaload, 1) := by decide +kernel
theorem dX12_turn_99 : decode cX12_turn 99 = .ok (.imul, 1) := by decide +kernel
theorem dX12_turn_100 : decode cX12_turn 100 = .ok (.aload_n 0, 1) := by decide +kernel
theorem dX12_turn_101 : decode cX12_turn 101 = .ok (.getfield 24, 3) := by decide +kernel
theorem dX12_turn_104 : decode cX12_turn 104 = .ok (.iconst 2, 1) := by decide +kernel
theorem dX12_turn_105 : decode cX12_turn 105 = .ok (.iaload, 1) := by decide +kernel
theorem dX12_turn_106 : decode cX12_turn 106 = .ok (.imul, 1) := by decide +kernel
theorem dX12_turn_107 : decode cX12_turn 107 = .ok (.aload_n 0, 1) := by decide +kernel
theorem dX12_turn_108 : decode cX12_turn 108 = .ok (.getfield 24, 3) := by decide +kernel
theorem dX12_turn_111 : decode cX12_turn 111 = .ok (.iconst 4, 1) := by decide +kernel
theorem dX12_turn_112 : decode cX12_turn 112 = .ok (.iaload, 1) := by decide +kernel
theorem dX12_turn_113 : decode cX12_turn 113 = .ok (.aload_n 0, 1) := by decide +kernel
theorem dX12_turn_114 : decode cX12_turn 114 = .ok (.getfield 24, 3) := by decide +kernel
theorem dX12_turn_117 : decode cX12_turn 117 = .ok (.iconst 4, 1) := by decide +kernel
theorem dX12_turn_118 : decode cX12_turn 118 = .ok (.iaload, 1) := by decide +kernel
theorem dX12_turn_119 : decode cX12_turn 119 = .ok (.imul, 1) := by decide +kernel
theorem dX12_turn_120 : decode cX12_turn 120 = .ok (.isub, 1) := by decide +kernel
theorem dX12_turn_121 : decode cX12_turn 121 = .ok (.invokevirtual 52, 3) := by decide +kernel
theorem dX12_turn_124 : decode cX12_turn 124 = .ok (.iastore, 1) := by decide +kernel
theorem dX12_turn_125 : decode cX12_turn 125 = .ok (.aload_n 0, 1) := by decide +kernel
theorem dX12_turn_126 : decode cX12_turn 126 = .ok (.getfield 30, 3) := by decide +kernel
theorem dX12_turn_129 : decode cX12_turn 129 = .ok (.iconst 2, 1) := by decide +kernel
theorem dX12_turn_130 : decode cX12_turn 130 = .ok (.aload_n 0, 1) := by decide +kernel
theorem dX12_turn_131 : decode cX12_turn 131 = .ok (.iconst 4, 1) := by decide +kernel
theorem dX12_turn_132 : decode cX12_turn 132 = .ok (.aload_n 0, 1) := by decide +kernel
theorem dX12_turn_133 : decode cX12_turn 133 = .ok (.getfield 24, 3) := by decide +kernel
theorem dX12_turn_136 : decode cX12_turn 136 = .ok (.iconst 0, 1) := by decide +kernel
theorem dX12_turn_137 : decode cX12_turn 137 = .ok (.iaload, 1) := by decide +kernel
theorem dX12_turn_138 : decode cX12_turn 138 = .ok (.imul, 1) := by decide +kernel
theorem dX12_turn_139 : decode cX12_turn 139 = .ok (.aload_n 0, 1) := by decide +kernel
theorem dX12_turn_140 : decode cX12_turn 140 = .ok (.getfield 24, 3) := by decide +kernel
theorem dX12_turn_143 : decode cX12_turn 143 = .ok (.iconst 1, 1) := by decide +kernel
theorem dX12_turn_144 : decode cX12_turn 144 = .ok (.iaload, 1) := by decide +kernel
theorem dX12_turn_145 : decode cX12_turn 145 = .ok (.imul, 1) := by decide +kernel
theorem dX12_turn_146 : decode cX12_turn 146 = .ok (.aload_n 0, 1) := by decide +kernel
theorem dX12_turn_147 : decode cX12_turn 147 = .ok (.getfield 24, 3) := by decide +kernel
theorem dX12_turn_150 : decode cX12_turn 150 = .ok (.iconst 5, 1) := by decide +kernel
theorem dX12_turn_151 : decode cX12_turn 151 = .ok (.iaload, 1) := by decide +kernel
theorem dX12_turn_152 : decode cX12_turn 152 = .ok (.aload_n 0, 1) := by decide +kernel
theorem dX12_turn_153 : decode cX12_turn 153 = .ok (.getfield 24, 3) := by decide +kernel
theorem dX12_turn_156 : decode cX12_turn 156 = .ok (.iconst 5, 1) := by decide +kernel
theorem dX12_turn_157 : decode cX12_turn 157 = .ok (.iaload, 1) := by decide +kernel
theorem dX12_turn_158 : decode cX12_turn 158 = .ok (.imul, 1) := by decide +kernel
theorem dX12_turn_159 : decode cX12_turn 159 = .ok (.isub, 1) := by decide +kernel
theorem dX12_turn_160 : decode cX12_turn 160 = .ok (.invokevirtual 52, 3) := by decide +kernel
theorem dX12_turn_163 : decode cX12_turn 163 = .ok (.iastore, 1) := by decide +kernel
theorem dX12_turn_164 : decode cX12_turn 164 = .ok (.aload_n 0, 1) := by decide +kernel
theorem dX12_turn_165 : decode cX12_turn 165 = .ok (.getfield 30, 3) := by decide +kernel
theorem dX12_turn_168 : decode cX12_turn 168 = .ok (.iconst 3, 1) := by decide +kernel
theorem dX12_turn_169 : decode cX12_turn 169 = .ok (.aload_n 0, 1) := by decide +kernel
theorem dX12_turn_170 : decode cX12_turn 170 = .ok (.iconst 2, 1) := by decide +kernel
theorem dX12_turn_171 : decode cX12_turn 171 = .ok (.aload_n 0, 1) := by decide +kernel
theorem dX12_turn_172 : decode cX12_turn 172 = .ok (.getfield 24, 3) := by decide +kernel
theorem dX12_turn_175 : decode cX12_turn 175 = .ok (.iconst 4, 1) := by decide +kernel
theorem dX12_turn_176 : decode cX12_turn 176 = .ok (.iaload, 1) := by decide +kernel
theorem dX12_turn_177 : decode cX12_turn 177 = .ok (.aload_n 0, 1) := by decide +kernel
theorem dX12_turn_178 : decode cX12_turn 178 = .ok (.getfield 24, 3) := by decide +kernel
theorem dX12_turn_181 : decode cX12_turn 181 = .ok (.iconst 5, 1) := by decide +kernel
theorem dX12_turn_182 : decode cX12_turn 182 = .ok (.iaload, 1) := by decide +kernel
theorem dX12_turn_183 : decode cX12_turn 183 = .ok (.imul, 1) := by decide +kernel
theorem dX12_turn_184 : decode cX12_turn 184 = .ok (.iconst 2, 1) := by decide +kernel
theorem dX12_turn_185 : decode cX12_turn 185 = .ok (.aload_n 0, 1) := by decide +kernel
theorem dX12_turn_186 : decode cX12_turn 186 = .ok (.getfield 24, 3) := by decide +kernel
theorem dX12_turn_189 : decode cX12_turn 189 = .ok (.iconst 0, 1) := by decide +kernel
theorem dX12_turn_190 : decode cX12_turn 190 = .ok (.iaload, 1) := by decide +kernel
theorem dX12_turn_191 : decode cX12_turn 191 = .ok (.imul, 1) := by decide +kernel
theorem dX12_turn_192 : decode cX12_turn 192 = .ok (.aload_n 0, 1) := by decide +kernel
theorem dX12_turn_193 : decode cX12_turn 193 = .ok (.getfield 24, 3) := by decide +kernel
theorem dX12_turn_196 : decode cX12_turn 196 = .ok (.iconst 3, 1) := by decide +kernel
theorem dX12_turn_197 : decode cX12_turn 197 = .ok (.iaload, 1) := by decide +kernel
theorem dX12_turn_198 : decode cX12_turn 198 = .ok (.imul, 1) := by decide +kernel
theorem dX12_turn_199 : decode cX12_turn 199 = .ok (.isub, 1) := by decide +kernel
theorem dX12_turn_200 : decode cX12_turn 200 = .ok (.imul, 1) := by decide +kernel
theorem dX12_turn_201 : decode cX12_turn 201 = .ok (.invokevirtual 52, 3) := by decide +kernel
theorem dX12_turn_204 : decode cX12_turn 204 = .ok (.iastore, 1) := by decide +kernel
theorem dX12_turn_205 : decode cX12_turn 205 = .ok (.aload_n 0, 1) := by decide +kernel
theorem dX12_turn_206 : decode cX12_turn 206 = .ok (.getfield 30, 3) := by decide +kernel
theorem dX12_turn_209 : decode cX12_turn 209 = .ok (.iconst 4, 1) := by decide +kernel
theorem dX12_turn_210 : decode cX12_turn 210 = .ok (.aload_n 0, 1) := by decide +kernel
theorem dX12_turn_211 : decode cX12_turn 211 = .ok (.iconst 2, 1) := by decide +kernel
theorem dX12_turn_212 : decode cX12_turn 212 = .ok (.aload_n 0, 1) := by decide +kernel
theorem dX12_turn_213 : decode cX12_turn 213 = .ok (.getfield 24, 3) := by decide +kernel
theorem dX12_turn_216 : decode cX12_turn 216 = .ok (.iconst 3, 1) := by decide +kernel
theorem dX12_turn_217 : decode cX12_turn 217 = .ok (.iaload, 1) := by decide +kernel
theorem dX12_turn_218 : decode cX12_turn 218 = .ok (.aload_n 0, 1) := by decide +kernel
theorem dX12_turn_219 : decode cX12_turn 219 = .ok (.getfield 24, 3) := by decide +kernel
theorem dX12_turn_222 : decode cX12_turn 222 = .ok (.iconst 5, 1) := by decide +kernel
theorem dX12_turn_223 : decode cX12_turn 223 = .ok (.iaload, 1) := by decide +kernel
theorem dX12_turn_224 : decode cX12_turn 224 = .ok (.imul, 1) := by decide +kernel
theorem dX12_turn_225 : decode cX12_turn 225 = .ok (.iconst 2, 1) := by decide +kernel
theorem dX12_turn_226 : decode cX12_turn 226 = .ok (.aload_n 0, 1) := by decide +kernel
theorem dX12_turn_227 : decode cX12_turn 227 = .ok (.getfield 24, 3) := by decide +kernel
theorem dX12_turn_230 : decode cX12_turn 230 = .ok (.iconst 1, 1) := by decide +kernel
theorem dX12_turn_231 : decode cX12_turn 231 = .ok (.iaload, 1) := by decide +kernel
theorem dX12_turn_232 : decode cX12_turn 232 = .ok (.imul, 1) := by decide +kernel
theorem dX12_turn_233 : decode cX12_turn 233 = .ok (.aload_n 0, 1) := by decide +kernel
theorem dX12_turn_234 : decode cX12_turn 234 = .ok (.getfield 24, 3) := by decide +kernel
theorem dX12_turn_237 : decode cX12_turn 237 = .ok (.iconst 4, 1) := by decide +kernel
theorem dX12_turn_238 : decode cX12_turn 238 = .ok (.iaload, 1) := by decide +kernel
theorem dX12_turn_239 : decode cX12_turn 239 = .ok (.imul, 1) := by decide +kernel
theorem dX12_turn_240 : decode cX12_turn 240 = .ok (.isub, 1) := by decide +kernel
theorem dX12_turn_241 : decode cX12_turn 241 = .ok (.imul, 1) := by decide +kernel
theorem dX12_turn_242 : decode cX12_turn 242 = .ok (.invokevirtual 52, 3) := by decide +kernel
theorem dX12_turn_245 : decode cX12_turn 245 = .ok (.iastore, 1) := by decide +kernel
theorem dX12_turn_246 : decode cX12_turn 246 = .ok (.aload_n 0, 1) := by decide +kernel
theorem dX12_turn_247 : decode cX12_turn 247 = .ok (.getfield 30, 3) := by decide +kernel
theorem dX12_turn_250 : decode cX12_turn 250 = .ok (.iconst 5, 1) := by decide +kernel
theorem dX12_turn_251 : decode cX12_turn 251 = .ok (.aload_n 0, 1) := by decide +kernel
theorem dX12_turn_252 : decode cX12_turn 252 = .ok (.iconst 2, 1) := by decide +kernel
theorem dX12_turn_253 : decode cX12_turn 253 = .ok (.aload_n 0, 1) := by decide +kernel
theorem dX12_turn_254 : decode cX12_turn 254 = .ok (.getfield 24, 3) := by decide +kernel
theorem dX12_turn_257 : decode cX12_turn 257 = .ok (.iconst 3, 1) := by decide +kernel
theorem dX12_turn_258 : decode cX12_turn 258 = .ok (.iaload, 1) := by decide +kernel
theorem dX12_turn_259 : decode cX12_turn 259 = .ok (.aload_n 0, 1) := by decide +kernel
theorem dX12_turn_260 : decode cX12_turn 260 = .ok (.getfield 24, 3) := by decide +kernel
theorem dX12_turn_263 : decode cX12_turn 263 = .ok (.iconst 4, 1) := by decide +kernel
theorem dX12_turn_264 : decode cX12_turn 264 = .ok (.iaload, 1) := by decide +kernel
theorem dX12_turn_265 : decode cX12_turn 265 = .ok (.imul, 1) := by decide +kernel
theorem dX12_turn_266 : decode cX12_turn 266 = .ok (.iconst 2, 1) := by decide +kernel
theorem dX12_turn_267 : decode cX12_turn 267 = .ok (.aload_n 0, 1) := by decide +kernel
theorem dX12_turn_268 : decode cX12_turn 268 = .ok (.getfield 24, 3) := by decide +kernel
theorem dX12_turn_271 : decode cX12_turn 271 = .ok (.iconst 2, 1) := by decide +kernel
theorem dX12_turn_272 : decode cX12_turn 272 = .ok (.iaload, 1) := by decide +kernel
theorem dX12_turn_273 : decode cX12_turn 273 = .ok (.imul, 1) := by decide +kernel
theorem dX12_turn_274 : decode cX12_turn 274 = .ok (.aload_n 0, 1) := by decide +kernel
theorem dX12_turn_275 : decode cX12_turn 275 = .ok (.getfield 24, 3) := by decide +kernel
theorem dX12_turn_278 : decode cX12_turn 278 = .ok (.iconst 5, 1) := by decide +kernel
theorem dX12_turn_279 : decode cX12_turn 279 = .ok (.iaload, 1) := by decide +kernel
theorem dX12_turn_280 : decode cX12_turn 280 = .ok (.imul, 1) := by decide +kernel
theorem dX12_turn_281 : decode cX12_turn 281 = .ok (.isub, 1) := by decide +kernel
theorem dX12_turn_282 : decode cX12_turn 282 = .ok (.imul, 1) := by decide +kernel
theorem dX12_turn_283 : decode cX12_turn 283 = .ok (.invokevirtual 52, 3) := by decide +kernel
theorem dX12_turn_286 : decode cX12_turn 286 = .ok (.iastore, 1) := by decide +kernel
theorem dX12_turn_287 : decode cX12_turn 287 = .ok (.aload_n 0, 1) := by decide +kernel
theorem dX12_turn_288 : decode cX12_turn 288 = .ok (.iload_n 1, 1) := by decide +kernel
theorem dX12_turn_289 : decode cX12_turn 289 = .ok (.invokevirtual 142, 3) := by decide +kernel
theorem dX12_turn_292 : decode cX12_turn 292 = .ok (.ireturn, 1) := by decide +kernel
theorem dX12_twist_0 : decode cX12_twist 0 = .ok (.iload_n 1, 1) := by decide +kernel
theorem dX12_twist_1 : decode cX12_twist 1 = .ok (.invokestatic 136, 3) := by decide +kernel
theorem dX12_twist_4 : decode cX12_twist 4 = .ok (.ifCond .eq 12, 3) := by decide +kernel
theorem dX12_twist_7 : decode cX12_twist 7 = .ok (.iload_n 2, 1) := by decide +kernel
theorem dX12_twist_8 : decode cX12_twist 8 = .ok (.iconst 0, 1) := by decide +kernel
theorem dX12_twist_9 : decode cX12_twist 9 = .ok (.iconst 2, 1) := by decide +kernel
theorem dX12_twist_10 : decode cX12_twist 10 = .ok (.invokestatic 113, 3) := by decide +kernel
theorem dX12_twist_13 : decode cX12_twist 13 = .ok (.ifCond .ne 10, 3) := by decide +kernel
theorem dX12_twist_16 : decode cX12_twist 16 = .ok (.aload_n 0, 1) := by decide +kernel
theorem dX12_twist_17 : decode cX12_twist 17 = .ok (.iconst 1, 1) := by decide +kernel
theorem dX12_twist_18 : decode cX12_twist 18 = .ok (.iconst 0, 1) := by decide +kernel
theorem dX12_twist_19 : decode cX12_twist 19 = .ok (.invokevirtual 123, 3) := by decide +kernel
theorem dX12_twist_22 : decode cX12_twist 22 = .ok (.ireturn, 1) := by decide +kernel
theorem dX12_twist_23 : decode cX12_twist 23 = .ok (.aload_n 0, 1) := by decide +kernel
theorem dX12_twist_24 : decode cX12_twist 24 = .ok (.iload_n 1, 1) := by decide +kernel
theorem dX12_twist_25 : decode cX12_twist 25 = .ok (.invokevirtual 139, 3) := by decide +kernel
theorem dX12_twist_28 : decode cX12_twist 28 = .ok (.bipush 6, 2) := by decide +kernel
theorem dX12_twist_30 : decode cX12_twist 30 = .ok (.iload_n 1, 1) := by decide +kernel
theorem dX12_twist_31 : decode cX12_twist 31 = .ok (.imul, 1) := by decide +kernel
theorem dX12_twist_32 : decode cX12_twist 32 = .ok (.istore_n 3, 1) := by decide +kernel
theorem dX12_twist_33 : decode cX12_twist 33 = .ok (.iload_n 2, 1) := by decide +kernel
theorem dX12_twist_34 : decode cX12_twist 34 = .ok (.ifCond .ne 60, 3) := by decide +kernel
theorem dX12_twist_37 : decode cX12_twist 37 = .ok (.aload_n 0, 1) := by decide +kernel
theorem dX12_twist_38 : decode cX12_twist 38 = .ok (.getfield 30, 3) := by decide +kernel
theorem dX12_twist_41 : decode cX12_twist 41 = .ok (.iconst 0, 1) := by decide +kernel
theorem dX12_twist_42 : decode cX12_twist 42 = .ok (.aload_n 0, 1) := by decide +kernel
theorem dX12_twist_43 : decode cX12_twist 43 = .ok (.getfield 7, 3) := by decide +kernel
theorem dX12_twist_46 : decode cX12_twist 46 = .ok (.iload_n 3, 1) := by decide +kernel
theorem dX12_twist_47 : decode cX12_twist 47 = .ok (.iconst 1, 1) := by decide +kernel
theorem dX12_twist_48 : decode cX12_twist 48 = .ok (.iadd, 1) := by decide +kernel
theorem dX12_twist_49 : decode cX12_twist 49 = .ok (.iaload, 1) := by decide +kernel
theorem dX12_twist_50 : decode cX12_twist 50 = .ok (.iastore, 1) := by decide +kernel
theorem dX12_twist_51 : decode cX12_twist 51 = .ok (.aload_n 0, 1) := by decide +kernel
theorem dX12_twist_52 : decode cX12_twist 52 = .ok (.getfield 30, 3) := by decide +kernel
theorem dX12_twist_55 : decode cX12_twist 55 = .ok (.iconst 1, 1) := by decide +kernel
theorem dX12_twist_56 : decode cX12_twist 56 = .ok (.aload_n 0, 1) := by decide +kernel
theorem dX12_twist_57 : decode cX12_twist 57 = .ok (.getfield 7, 3) := by decide +kernel
theorem dX12_twist_60 : decode cX12_twist 60 = .ok (.iload_n 3, 1) := by decide +kernel
theorem dX12_twist_61 : decode cX12_twist 61 = .ok (.iaload, 1) := by decide +kernel
theorem dX12_twist_62 : decode cX12_twist 62 = .ok (.iastore, 1) := by decide +kernel
theorem dX12_twist_63 : decode cX12_twist 63 = .ok (.aload_n 0, 1) := by decide +kernel
theorem dX12_twist_64 : decode cX12_twist 64 = .ok (.getfield 30, 3) := by decide +kernel
theorem dX12_twist_67 : decode cX12_twist 67 = .ok (.iconst 3, 1) := by decide +kernel
theorem dX12_twist_68 : decode cX12_twist 68 = .ok (.aload_n 0, 1) := by decide +kernel
theorem dX12_twist_69 : decode cX12_twist 69 = .ok (.getfield 7, 3) := by decide +kernel
theorem dX12_twist_72 : decode cX12_twist 72 = .ok (.iload_n 3, 1) := by decide +kernel
theorem dX12_twist_73 : decode cX12_twist 73 = .ok (.iconst 4, 1) := by decide +kernel
theorem dX12_twist_74 : decode cX12_twist 74 = .ok (.iadd, 1) := by decide +kernel
theorem dX12_twist_75 : decode cX12_twist 75 = .ok (.iaload, 1) := by decide +kernel
theorem dX12_twist_76 : decode cX12_twist 76 = .ok (.iastore, 1) := by decide +kernel
theorem dX12_twist_77 : decode cX12_twist 77 = .ok (.aload_n 0, 1) := by decide +kernel
theorem dX12_twist_78 : decode cX12_twist 78 = .ok (.getfield 30, 3) := by decide +kernel
theorem dX12_twist_81 : decode cX12_twist 81 = .ok (.iconst 4, 1) := by decide +kernel
theorem dX12_twist_82 : decode cX12_twist 82 = .ok (.aload_n 0, 1) := by decide +kernel
theorem dX12_twist_83 : decode cX12_twist 83 = .ok (.getfield 7, 3) := by decide +kernel
theorem dX12_twist_86 : decode cX12_twist 86 = .ok (.iload_n 3, 1) := by decide +kernel
theorem dX12_twist_87 : decode cX12_twist 87 = .ok (.iconst 3, 1) := by decide +kernel
theorem dX12_twist_88 : decode cX12_twist 88 = .ok (.iadd, 1) := by decide +kernel
theorem dX12_twist_89 : decode cX12_twist 89 = .ok (.iaload, 1) := by decide +kernel
theorem dX12_twist_90 : decode cX12_twist 90 = .ok (.iastore, 1) := by decide +kernel
theorem dX12_twist_91 : decode cX12_twist 91 = .ok (.goto 125, 3) := by decide +kernel
theorem dX12_twist_94 : decode cX12_twist 94 = .ok (.iload_n 2, 1) := by decide +kernel
theorem dX12_twist_95 : decode cX12_twist 95 = .ok (.iconst 1, 1) := by decide +kernel
theorem dX12_twist_96 : decode cX12_twist 96 = .ok (.if_icmp .ne 62, 3) := by decide +kernel
theorem dX12_twist_99 : decode cX12_twist 99 = .ok (.aload_n 0, 1) := by decide +kernel
theorem dX12_twist_100 : decode cX12_twist 100 = .ok (.getfield 30, 3) := by decide +kernel
theorem dX12_twist_103 : decode cX12_twist 103 = .ok (.iconst 1, 1) := by decide +kernel
theorem dX12_twist_104 : decode cX12_twist 104 = .ok (.aload_n 0, 1) := by decide +kernel
theorem dX12_twist_105 : decode cX12_twist 105 = .ok (.getfield 7, 3) := by decide +kernel
theorem dX12_twist_108 : decode cX12_twist 108 = .ok (.iload_n 3, 1) := by decide +kernel
theorem dX12_twist_109 : decode cX12_twist 109 = .ok (.iconst 2, 1) := by decide +kernel
theorem dX12_twist_110 : decode cX12_twist 110 = .ok (.iadd, 1) := by decide +kernel
theorem dX12_twist_111 : decode cX12_twist 111 = .ok (.iaload, 1) := by decide +kernel
theorem dX12_twist_112 : decode cX12_twist 112 = .ok (.iastore, 1) := by decide +kernel
theorem dX12_twist_113 : decode cX12_twist 113 = .ok (.aload_n 0, 1) := by decide +kernel
theorem dX12_twist_114 : decode cX12_twist 114 = .ok (.getfield 30, 3) := by decide +kernel
theorem dX12_twist_117 : decode cX12_twist 117 = .ok (.iconst 2, 1) := by decide +kernel
theorem dX12_twist_118 : decode cX12_twist 118 = .ok (.aload_n 0, 1) := by decide +kernel
theorem dX12_twist_119 : decode cX12_twist 119 = .ok (.getfield 7, 3) := by decide +kernel
theorem dX12_twist_122 : decode cX12_twist 122 = .ok (.iload_n 3, 1) := by decide +kernel
theorem dX12_twist_123 : decode cX12_twist 123 = .ok (.iconst 1, 1) := by decide +kernel
theorem dX12_twist_124 : decode cX12_twist 124 = .ok (.iadd, 1) := by decide +kernel
theorem dX12_twist_125 : decode cX12_twist 125 = .ok (.iaload, 1) := by decide +kernel
theorem dX12_twist_126 : decode cX12_twist 126 = .ok (.iastore, 1) := by decide +kernel
theorem dX12_twist_127 : decode cX12_twist 127 = .ok (.aload_n 0, 1) := by decide +kernel
theorem dX12_twist_128 : decode cX12_twist 128 = .ok (.getfield 30, 3) := by decide +kernel
theorem dX12_twist_131 : decode cX12_twist 131 = .ok (.iconst 4, 1) := by decide +kernel
theorem dX12_twist_132 : decode cX12_twist 132 = .ok (.aload_n 0, 1) := by decide +kernel
theorem dX12_twist_133 : decode cX12_twist 133 = .ok (.getfield 7, 3) := by decide +kernel
theorem dX12_twist_136 : decode cX12_twist 136 = .ok (.iload_n 3, 1) := by decide +kernel
theorem dX12_twist_137 : decode cX12_twist 137 = .ok (.iconst 5, 1) := by decide +kernel
theorem dX12_twist_138 : decode cX12_twist 138 = .ok (.iadd, 1) := by decide +kernel
theorem dX12_twist_139 : decode cX12_twist 139 = .ok (.iaload, 1) := by decide +kernel
theorem dX12_twist_140 : decode cX12_twist 140 = .ok (.iastore, 1) := by decide +kernel
theorem dX12_twist_141 : decode cX12_twist 141 = .ok (.aload_n 0, 1) := by decide +kernel
theorem dX12_twist_142 : decode cX12_twist 142 = .ok (.getfield 30, 3) := by decide +kernel
theorem dX12_twist_145 : decode cX12_twist 145 = .ok (.iconst 5, 1) := by decide +kernel
theorem dX12_twist_146 : decode cX12_twist 146 = .ok (.aload_n 0, 1) := by decide +kernel
theorem dX12_twist_147 : decode cX12_twist 147 = .ok (.getfield 7, 3) := by decide +kernel
theorem dX12_twist_150 : decode cX12_twist 150 = .ok (.iload_n 3, 1) := by decide +kernel
theorem dX12_twist_151 : decode cX12_twist 151 = .ok (.iconst 4, 1) := by decide +kernel
theorem dX12_twist_152 : decode cX12_twist 152 = .ok (.iadd, 1) := by decide +kernel
theorem dX12_twist_153 : decode cX12_twist 153 = .ok (.iaload, 1) := by decide +kernel
theorem dX12_twist_154 : decode cX12_twist 154 = .ok (.iastore, 1) := by decide +kernel
theorem dX12_twist_155 : decode cX12_twist 155 = .ok (.goto 61, 3) := by decide +kernel
theorem dX12_twist_158 : decode cX12_twist 158 = .ok (.aload_n 0, 1) := by decide +kernel
theorem dX12_twist_159 : decode cX12_twist 159 = .ok (.getfield 30, 3) := by decide +kernel
theorem dX12_twist_162 : decode cX12_twist 162 = .ok (.iconst 1, 1) := by decide +kernel
theorem dX12_twist_163 : decode cX12_twist 163 = .ok (.dup2, 1) := by decide +kernel
theorem dX12_twist_164 : decode cX12_twist 164 = .ok (.iaload, 1) := by decide +kernel
theorem dX12_twist_165 : decode cX12_twist 165 = .ok (.aload_n 0, 1) := by decide +kernel
theorem dX12_twist_166 : decode cX12_twist 166 = .ok (.getfield 7, 3) := by decide +kernel
theorem dX12_twist_169 : decode cX12_twist 169 = .ok (.iload_n 3, 1) := by decide +kernel
theorem dX12_twist_170 : decode cX12_twist 170 = .ok (.iaload, 1) := by decide +kernel
theorem dX12_twist_171 : decode cX12_twist 171 = .ok (.aload_n 0, 1) := by decide +kernel
theorem dX12_twist_172 : decode cX12_twist 172 = .ok (.getfield 7, 3) := by decide +kernel
theorem dX12_twist_175 : decode cX12_twist 175 = .ok (.iload_n 3, 1) := by decide +kernel
theorem dX12_twist_176 : decode cX12_twist 176 = .ok (.iconst 5, 1) := by decide +kernel
theorem dX12_twist_177 : decode cX12_twist 177 = .ok (.iadd, 1) := by decide +kernel
theorem dX12_twist_178 : decode cX12_twist 178 = .ok (.iaload, 1) := by decide +kernel
theorem dX12_twist_179 : decode cX12_twist 179 = .ok (.iadd, 1) := by decide +kernel
theorem dX12_twist_180 : decode cX12_twist 180 = .ok (.iadd, 1) := by decide +kernel
theorem dX12_twist_181 : decode cX12_twist 181 = .ok (.iastore, 1) := by decide +kernel
theorem dX12_twist_182 : decode cX12_twist 182 = .ok (.aload_n 0, 1) := by decide +kernel
theorem dX12_twist_183 : decode cX12_twist 183 = .ok (.getfield 30, 3) := by decide +kernel
theorem dX12_twist_186 : decode cX12_twist 186 = .ok (.iconst 3, 1) := by decide +kernel
theorem dX12_twist_187 : decode cX12_twist 187 = .ok (.dup2, 1) := by decide +kernel
theorem dX12_twist_188 : decode cX12_twist 188 = .ok (.iaload, 1) := by decide +kernel
theorem dX12_twist_189 : decode cX12_twist 189 = .ok (.aload_n 0, 1) := by decide +kernel
theorem dX12_twist_190 : decode cX12_twist 190 = .ok (.getfield 7, 3) := by decide +kernel
theorem dX12_twist_193 : decode cX12_twist 193 = .ok (.iload_n 3, 1) := by decide +kernel
theorem dX12_twist_194 : decode cX12_twist 194 = .ok (.iconst 4, 1) := by decide +kernel
theorem dX12_twist_195 : decode cX12_twist 195 = .ok (.iadd, 1) := by decide +kernel
theorem dX12_twist_196 : decode cX12_twist 196 = .ok (.iaload, 1) := by decide +kernel
theorem dX12_twist_197 : decode cX12_twist 197 = .ok (.iadd, 1) := by decide +kernel
theorem dX12_twist_198 : decode cX12_twist 198 = .ok (.iastore, 1) := by decide +kernel
theorem dX12_twist_199 : decode cX12_twist 199 = .ok (.aload_n 0, 1) := by decide +kernel
theorem dX12_twist_200 : decode cX12_twist 200 = .ok (.getfield 30, 3) := by decide +kernel
theorem dX12_twist_203 : decode cX12_twist 203 = .ok (.iconst 5, 1) := by decide +kernel
theorem dX12_twist_204 : decode cX12_twist 204 = .ok (.dup2, 1) := by decide +kernel
theorem dX12_twist_205 : decode cX12_twist 205 = .ok (.iaload, 1) := by decide +kernel
theorem dX12_twist_206 : decode cX12_twist 206 = .ok (.iconst 2, 1) := by decide +kernel
theorem dX12_twist_207 : decode cX12_twist 207 = .ok (.aload_n 0, 1) := by decide +kernel
theorem dX12_twist_208 : decode cX12_twist 208 = .ok (.getfield 7, 3) := by decide +kernel
theorem dX12_twist_211 : decode cX12_twist 211 = .ok (.iload_n 3, 1) := by decide +kernel
theorem dX12_twist_212 : decode cX12_twist 212 = .ok (.iaload, 1) := by decide +kernel
theorem dX12_twist_213 : decode cX12_twist 213 = .ok (.imul, 1) := by decide +kernel
theorem dX12_twist_214 : decode cX12_twist 214 = .ok (.iadd, 1) := by decide +kernel
theorem dX12_twist_215 : decode cX12_twist 215 = .ok (.iastore, 1) := by decide +kernel
theorem dX12_twist_216 : decode cX12_twist 216 = .ok (.iconst 1, 1) := by decide +kernel
theorem dX12_twist_217 : decode cX12_twist 217 = .ok (.istore 4, 2) := by decide +kernel
theorem dX12_twist_219 : decode cX12_twist 219 = .ok (.iconst 0, 1) := by decide +kernel
theorem dX12_twist_220 : decode cX12_twist 220 = .ok (.istore 5, 2) := by decide +kernel
theorem dX12_twist_222 : decode cX12_twist 222 = .ok (.iload 5, 2) := by decide +kernel
theorem dX12_twist_224 : decode cX12_twist 224 = .ok (.bipush 6, 2) := by decide +kernel
theorem dX12_twist_226 : decode cX12_twist 226 = .ok (.if_icmp .ge 40, 3) := by decide +kernel
theorem dX12_twist_229 : decode cX12_twist 229 = .ok (.iload 4, 2) := by decide +kernel
theorem dX12_twist_231 : decode cX12_twist 231 = .ok (.ifCond .eq 26, 3) := by decide +kernel
theorem dX12_twist_234 : decode cX12_twist 234 = .ok (.aload_n 0, 1) := by decide +kernel
theorem dX12_twist_235 : decode cX12_twist 235 = .ok (.getfield 30, 3) := by decide +kernel
theorem dX12_twist_238 : decode cX12_twist 238 = .ok (.iload 5, 2) := by decide +kernel
theorem dX12_twist_240 : decode cX12_twist 240 = .ok (.iaload, 1) := by decide +kernel
theorem dX12_twist_241 : decode cX12_twist 241 = .ok (.aload_n 0, 1) := by decide +kernel
theorem dX12_twist_242 : decode cX12_twist 242 = .ok (.getfield 7, 3) := by decide +kernel
theorem dX12_twist_245 : decode cX12_twist 245 = .ok (.iload_n 3, 1) := by decide +kernel
theorem dX12_twist_246 : decode cX12_twist 246 = .ok (.iload 5, 2) := by decide +kernel
theorem dX12_twist_248 : decode cX12_twist 248 = .ok (.iadd, 1) := by decide +kernel
theorem dX12_twist_249 : decode cX12_twist 249 = .ok (.iaload, 1) := by decide +kernel
theorem dX12_twist_250 : decode cX12_twist 250 = .ok (.if_icmp .ne 7, 3) := by decide +kernel
theorem dX12_twist_253 : decode cX12_twist 253 = .ok (.iconst 1, 1) := by decide +kernel
theorem dX12_twist_254 : decode cX12_twist 254 = .ok (.goto 4, 3) := by decide +kernel
theorem dX12_twist_257 : decode cX12_twist 257 = .ok (.iconst 0, 1) := by decide +kernel
theorem dX12_twist_258 : decode cX12_twist 258 = .ok (.istore 4, 2) := by decide +kernel
theorem dX12_twist_260 : decode cX12_twist 260 = .ok (.iinc 5 1, 3) := by decide +kernel
theorem dX12_twist_263 : decode cX12_twist 263 = .ok (.goto (-41), 3) := by decide +kernel
theorem dX12_twist_266 : decode cX12_twist 266 = .ok (.iload 4, 2) := by decide +kernel
theorem dX12_twist_268 : decode cX12_twist 268 = .ok (.ifCond .eq 12, 3) := by decide +kernel
theorem dX12_twist_271 : decode cX12_twist 271 = .ok (.aload_n 0, 1) := by decide +kernel
theorem dX12_twist_272 : decode cX12_twist 272 = .ok (.iconst 2, 1) := by decide +kernel
theorem dX12_twist_273 : decode cX12_twist 273 = .ok (.iconst 0, 1) := by decide +kernel
theorem dX12_twist_274 : decode cX12_twist 274 = .ok (.invokevirtual 123, 3) := by decide +kernel
theorem dX12_twist_277 : decode cX12_twist 277 = .ok (.goto 8, 3) := by decide +kernel
theorem dX12_twist_280 : decode cX12_twist 280 = .ok (.aload_n 0, 1) := by decide +kernel
theorem dX12_twist_281 : decode cX12_twist 281 = .ok (.iload_n 1, 1) := by decide +kernel
theorem dX12_twist_282 : decode cX12_twist 282 = .ok (.invokevirtual 142, 3) := by decide +kernel
theorem dX12_twist_285 : decode cX12_twist 285 = .ok (.ireturn, 1) := by decide +kernel
theorem dX12_laysMark_0 : decode cX12_laysMark 0 = .ok (.aload_n 0, 1) := by decide +kernel
theorem dX12_laysMark_1 : decode cX12_laysMark 1 = .ok (.iload_n 2, 1) := by decide +kernel
theorem dX12_laysMark_2 : decode cX12_laysMark 2 = .ok (.invokevirtual 59, 3) := by decide +kernel
theorem dX12_laysMark_5 : decode cX12_laysMark 5 = .ok (.aload_n 0, 1) := by decide +kernel
theorem dX12_laysMark_6 : decode cX12_laysMark 6 = .ok (.getfield 27, 3) := by decide +kernel
theorem dX12_laysMark_9 : decode cX12_laysMark 9 = .ok (.bipush 6, 2) := by decide +kernel
theorem dX12_laysMark_11 : decode cX12_laysMark 11 = .ok (.iload_n 1, 1) := by decide +kernel
theorem dX12_laysMark_12 : decode cX12_laysMark 12 = .ok (.imul, 1) := by decide +kernel
theorem dX12_laysMark_13 : decode cX12_laysMark 13 = .ok (.aload_n 0, 1) := by decide +kernel
theorem dX12_laysMark_14 : decode cX12_laysMark 14 = .ok (.getfield 43, 3) := by decide +kernel
theorem dX12_laysMark_17 : decode cX12_laysMark 17 = .ok (.aload_n 0, 1) := by decide +kernel
theorem dX12_laysMark_18 : decode cX12_laysMark 18 = .ok (.getfield 43, 3) := by decide +kernel
theorem dX12_laysMark_21 : decode cX12_laysMark 21 = .ok (.imul, 1) := by decide +kernel
theorem dX12_laysMark_22 : decode cX12_laysMark 22 = .ok (.aload_n 0, 1) := by decide +kernel
theorem dX12_laysMark_23 : decode cX12_laysMark 23 = .ok (.getfield 40, 3) := by decide +kernel
theorem dX12_laysMark_26 : decode cX12_laysMark 26 = .ok (.irem, 1) := by decide +kernel
theorem dX12_laysMark_27 : decode cX12_laysMark 27 = .ok (.iastore, 1) := by decide +kernel
theorem dX12_laysMark_28 : decode cX12_laysMark 28 = .ok (.aload_n 0, 1) := by decide +kernel
theorem dX12_laysMark_29 : decode cX12_laysMark 29 = .ok (.getfield 27, 3) := by decide +kernel
theorem dX12_laysMark_32 : decode cX12_laysMark 32 = .ok (.bipush 6, 2) := by decide +kernel
theorem dX12_laysMark_34 : decode cX12_laysMark 34 = .ok (.iload_n 1, 1) := by decide +kernel
theorem dX12_laysMark_35 : decode cX12_laysMark 35 = .ok (.imul, 1) := by decide +kernel
theorem dX12_laysMark_36 : decode cX12_laysMark 36 = .ok (.iconst 1, 1) := by decide +kernel
theorem dX12_laysMark_37 : decode cX12_laysMark 37 = .ok (.iadd, 1) := by decide +kernel
theorem dX12_laysMark_38 : decode cX12_laysMark 38 = .ok (.aload_n 0, 1) := by decide +kernel
theorem dX12_laysMark_39 : decode cX12_laysMark 39 = .ok (.getfield 46, 3) := by decide +kernel
theorem dX12_laysMark_42 : decode cX12_laysMark 42 = .ok (.aload_n 0, 1) := by decide +kernel
theorem dX12_laysMark_43 : decode cX12_laysMark 43 = .ok (.getfield 46, 3) := by decide +kernel
theorem dX12_laysMark_46 : decode cX12_laysMark 46 = .ok (.imul, 1) := by decide +kernel
theorem dX12_laysMark_47 : decode cX12_laysMark 47 = .ok (.aload_n 0, 1) := by decide +kernel
theorem dX12_laysMark_48 : decode cX12_laysMark 48 = .ok (.getfield 40, 3) := by decide +kernel
theorem dX12_laysMark_51 : decode cX12_laysMark 51 = .ok (.irem, 1) := by decide +kernel
theorem dX12_laysMark_52 : decode cX12_laysMark 52 = .ok (.iastore, 1) := by decide +kernel
theorem dX12_laysMark_53 : decode cX12_laysMark 53 = .ok (.aload_n 0, 1) := by decide +kernel
theorem dX12_laysMark_54 : decode cX12_laysMark 54 = .ok (.getfield 27, 3) := by decide +kernel
theorem dX12_laysMark_57 : decode cX12_laysMark 57 = .ok (.bipush 6, 2) := by decide +kernel
theorem dX12_laysMark_59 : decode cX12_laysMark 59 = .ok (.iload_n 1, 1) := by decide +kernel
theorem dX12_laysMark_60 : decode cX12_laysMark 60 = .ok (.imul, 1) := by decide +kernel
theorem dX12_laysMark_61 : decode cX12_laysMark 61 = .ok (.iconst 2, 1) := by decide +kernel
theorem dX12_laysMark_62 : decode cX12_laysMark 62 = .ok (.iadd, 1) := by decide +kernel
theorem dX12_laysMark_63 : decode cX12_laysMark 63 = .ok (.aload_n 0, 1) := by decide +kernel
theorem dX12_laysMark_64 : decode cX12_laysMark 64 = .ok (.getfield 49, 3) := by decide +kernel
theorem dX12_laysMark_67 : decode cX12_laysMark 67 = .ok (.aload_n 0, 1) := by decide +kernel
theorem dX12_laysMark_68 : decode cX12_laysMark 68 = .ok (.getfield 49, 3) := by decide +kernel
theorem dX12_laysMark_71 : decode cX12_laysMark 71 = .ok (.imul, 1) := by decide +kernel
theorem dX12_laysMark_72 : decode cX12_laysMark 72 = .ok (.aload_n 0, 1) := by decide +kernel
theorem dX12_laysMark_73 : decode cX12_laysMark 73 = .ok (.getfield 40, 3) := by decide +kernel
theorem dX12_laysMark_76 : decode cX12_laysMark 76 = .ok (.irem, 1) := by decide +kernel
theorem dX12_laysMark_77 : decode cX12_laysMark 77 = .ok (.iastore, 1) := by decide +kernel
theorem dX12_laysMark_78 : decode cX12_laysMark 78 = .ok (.aload_n 0, 1) := by decide +kernel
theorem dX12_laysMark_79 : decode cX12_laysMark 79 = .ok (.getfield 27, 3) := by decide +kernel
theorem dX12_laysMark_82 : decode cX12_laysMark 82 = .ok (.bipush 6, 2) := by decide +kernel
theorem dX12_laysMark_84 : decode cX12_laysMark 84 = .ok (.iload_n 1, 1) := by decide +kernel
theorem dX12_laysMark_85 : decode cX12_laysMark 85 = .ok (.imul, 1) := by decide +kernel
theorem dX12_laysMark_86 : decode cX12_laysMark 86 = .ok (.iconst 3, 1) := by decide +kernel
theorem dX12_laysMark_87 : decode cX12_laysMark 87 = .ok (.iadd, 1) := by decide +kernel
theorem dX12_laysMark_88 : decode cX12_laysMark 88 = .ok (.aload_n 0, 1) := by decide +kernel
theorem dX12_laysMark_89 : decode cX12_laysMark 89 = .ok (.getfield 46, 3) := by decide +kernel
theorem dX12_laysMark_92 : decode cX12_laysMark 92 = .ok (.aload_n 0, 1) := by decide +kernel
theorem dX12_laysMark_93 : decode cX12_laysMark 93 = .ok (.getfield 49, 3) := by decide +kernel
theorem dX12_laysMark_96 : decode cX12_laysMark 96 = .ok (.imul, 1) := by decide +kernel
theorem dX12_laysMark_97 : decode cX12_laysMark 97 = .ok (.aload_n 0, 1) := by decide +kernel
theorem dX12_laysMark_98 : decode cX12_laysMark 98 = .ok (.getfield 40, 3) := by decide +kernel
theorem dX12_laysMark_101 : decode cX12_laysMark 101 = .ok (.irem, 1) := by decide +kernel
theorem dX12_laysMark_102 : decode cX12_laysMark 102 = .ok (.iastore, 1) := by decide +kernel
theorem dX12_laysMark_103 : decode cX12_laysMark 103 = .ok (.aload_n 0, 1) := by decide +kernel
theorem dX12_laysMark_104 : decode cX12_laysMark 104 = .ok (.getfield 27, 3) := by decide +kernel
theorem dX12_laysMark_107 : decode cX12_laysMark 107 = .ok (.bipush 6, 2) := by decide +kernel
theorem dX12_laysMark_109 : decode cX12_laysMark 109 = .ok (.iload_n 1, 1) := by decide +kernel
theorem dX12_laysMark_110 : decode cX12_laysMark 110 = .ok (.imul, 1) := by decide +kernel
theorem dX12_laysMark_111 : decode cX12_laysMark 111 = .ok (.iconst 4, 1) := by decide +kernel
theorem dX12_laysMark_112 : decode cX12_laysMark 112 = .ok (.iadd, 1) := by decide +kernel
theorem dX12_laysMark_113 : decode cX12_laysMark 113 = .ok (.aload_n 0, 1) := by decide +kernel
theorem dX12_laysMark_114 : decode cX12_laysMark 114 = .ok (.getfield 49, 3) := by decide +kernel
theorem dX12_laysMark_117 : decode cX12_laysMark 117 = .ok (.aload_n 0, 1) := by decide +kernel
theorem dX12_laysMark_118 : decode cX12_laysMark 118 = .ok (.getfield 43, 3) := by decide +kernel
theorem dX12_laysMark_121 : decode cX12_laysMark 121 = .ok (.imul, 1) := by decide +kernel
theorem dX12_laysMark_122 : decode cX12_laysMark 122 = .ok (.aload_n 0, 1) := by decide +kernel
theorem dX12_laysMark_123 : decode cX12_laysMark 123 = .ok (.getfield 40, 3) := by decide +kernel
theorem dX12_laysMark_126 : decode cX12_laysMark 126 = .ok (.irem, 1) := by decide +kernel
theorem dX12_laysMark_127 : decode cX12_laysMark 127 = .ok (.iastore, 1) := by decide +kernel
theorem dX12_laysMark_128 : decode cX12_laysMark 128 = .ok (.aload_n 0, 1) := by decide +kernel
theorem dX12_laysMark_129 : decode cX12_laysMark 129 = .ok (.getfield 27, 3) := by decide +kernel
theorem dX12_laysMark_132 : decode cX12_laysMark 132 = .ok (.bipush 6, 2) := by decide +kernel
theorem dX12_laysMark_134 : decode cX12_laysMark 134 = .ok (.iload_n 1, 1) := by decide +kernel
theorem dX12_laysMark_135 : decode cX12_laysMark 135 = .ok (.imul, 1) := by decide +kernel
theorem dX12_laysMark_136 : decode cX12_laysMark 136 = .ok (.iconst 5, 1) := by decide +kernel
theorem dX12_laysMark_137 : decode cX12_laysMark 137 = .ok (.iadd, 1) := by decide +kernel
theorem dX12_laysMark_138 : decode cX12_laysMark 138 = .ok (.aload_n 0, 1) := by decide +kernel
theorem dX12_laysMark_139 : decode cX12_laysMark 139 = .ok (.getfield 43, 3) := by decide +kernel
theorem dX12_laysMark_142 : decode cX12_laysMark 142 = .ok (.aload_n 0, 1) := by decide +kernel
theorem dX12_laysMark_143 : decode cX12_laysMark 143 = .ok (.getfield 46, 3) := by decide +kernel
theorem dX12_laysMark_146 : decode cX12_laysMark 146 = .ok (.imul, 1) := by decide +kernel
theorem dX12_laysMark_147 : decode cX12_laysMark 147 = .ok (.aload_n 0, 1) := by decide +kernel
theorem dX12_laysMark_148 : decode cX12_laysMark 148 = .ok (.getfield 40, 3) := by decide +kernel
theorem dX12_laysMark_151 : decode cX12_laysMark 151 = .ok (.irem, 1) := by decide +kernel
theorem dX12_laysMark_152 : decode cX12_laysMark 152 = .ok (.iastore, 1) := by decide +kernel
theorem dX12_laysMark_153 : decode cX12_laysMark 153 = .ok (.return_, 1) := by decide +kernel
theorem dX12_rankWith_0 : decode cX12_rankWith 0 = .ok (.aload_n 0, 1) := by decide +kernel
theorem dX12_rankWith_1 : decode cX12_rankWith 1 = .ok (.aload_n 0, 1) := by decide +kernel
theorem dX12_rankWith_2 : decode cX12_rankWith 2 = .ok (.getfield 7, 3) := by decide +kernel
theorem dX12_rankWith_5 : decode cX12_rankWith 5 = .ok (.bipush 36, 2) := by decide +kernel
theorem dX12_rankWith_7 : decode cX12_rankWith 7 = .ok (.iaload, 1) := by decide +kernel
theorem dX12_rankWith_8 : decode cX12_rankWith 8 = .ok (.putfield 40, 3) := by decide +kernel
theorem dX12_rankWith_11 : decode cX12_rankWith 11 = .ok (.aload_n 0, 1) := by decide +kernel
theorem dX12_rankWith_12 : decode cX12_rankWith 12 = .ok (.getfield 7, 3) := by decide +kernel
theorem dX12_rankWith_15 : decode cX12_rankWith 15 = .ok (.bipush 37, 2) := by decide +kernel
theorem dX12_rankWith_17 : decode cX12_rankWith 17 = .ok (.iaload, 1) := by decide +kernel
theorem dX12_rankWith_18 : decode cX12_rankWith 18 = .ok (.istore_n 2, 1) := by decide +kernel
theorem dX12_rankWith_19 : decode cX12_rankWith 19 = .ok (.iconst 0, 1) := by decide +kernel
theorem dX12_rankWith_20 : decode cX12_rankWith 20 = .ok (.istore_n 3, 1) := by decide +kernel
theorem dX12_rankWith_21 : decode cX12_rankWith 21 = .ok (.iload_n 3, 1) := by decide +kernel
theorem dX12_rankWith_22 : decode cX12_rankWith 22 = .ok (.iload_n 2, 1) := by decide +kernel
theorem dX12_rankWith_23 : decode cX12_rankWith 23 = .ok (.if_icmp .ge 23, 3) := by decide +kernel
theorem dX12_rankWith_26 : decode cX12_rankWith 26 = .ok (.aload_n 0, 1) := by decide +kernel
theorem dX12_rankWith_27 : decode cX12_rankWith 27 = .ok (.iload_n 3, 1) := by decide +kernel
theorem dX12_rankWith_28 : decode cX12_rankWith 28 = .ok (.aload_n 0, 1) := by decide +kernel
theorem dX12_rankWith_29 : decode cX12_rankWith 29 = .ok (.getfield 7, 3) := by decide +kernel
theorem dX12_rankWith_32 : decode cX12_rankWith 32 = .ok (.bipush 38, 2) := by decide +kernel
theorem dX12_rankWith_34 : decode cX12_rankWith 34 = .ok (.iload_n 3, 1) := by decide +kernel
theorem dX12_rankWith_35 : decode cX12_rankWith 35 = .ok (.iadd, 1) := by decide +kernel
theorem dX12_rankWith_36 : decode cX12_rankWith 36 = .ok (.iaload, 1) := by decide +kernel
theorem dX12_rankWith_37 : decode cX12_rankWith 37 = .ok (.invokevirtual 151, 3) := by decide +kernel
theorem dX12_rankWith_40 : decode cX12_rankWith 40 = .ok (.iinc 3 1, 3) := by decide +kernel
theorem dX12_rankWith_43 : decode cX12_rankWith 43 = .ok (.goto (-22), 3) := by decide +kernel
theorem dX12_rankWith_46 : decode cX12_rankWith 46 = .ok (.aload_n 0, 1) := by decide +kernel
theorem dX12_rankWith_47 : decode cX12_rankWith 47 = .ok (.iload_n 2, 1) := by decide +kernel
theorem dX12_rankWith_48 : decode cX12_rankWith 48 = .ok (.bipush 6, 2) := by decide +kernel
theorem dX12_rankWith_50 : decode cX12_rankWith 50 = .ok (.invokevirtual 81, 3) := by decide +kernel
theorem dX12_rankWith_53 : decode cX12_rankWith 53 = .ok (.istore_n 3, 1) := by decide +kernel
theorem dX12_rankWith_54 : decode cX12_rankWith 54 = .ok (.iload_n 1, 1) := by decide +kernel
theorem dX12_rankWith_55 : decode cX12_rankWith 55 = .ok (.iconst (-1), 1) := by decide +kernel
theorem dX12_rankWith_56 : decode cX12_rankWith 56 = .ok (.if_icmp .ne 5, 3) := by decide +kernel
theorem dX12_rankWith_59 : decode cX12_rankWith 59 = .ok (.iload_n 3, 1) := by decide +kernel
theorem dX12_rankWith_60 : decode cX12_rankWith 60 = .ok (.ireturn, 1) := by decide +kernel
theorem dX12_rankWith_61 : decode cX12_rankWith 61 = .ok (.aload_n 0, 1) := by decide +kernel
theorem dX12_rankWith_62 : decode cX12_rankWith 62 = .ok (.iload_n 3, 1) := by decide +kernel
theorem dX12_rankWith_63 : decode cX12_rankWith 63 = .ok (.iload_n 1, 1) := by decide +kernel
theorem dX12_rankWith_64 : decode cX12_rankWith 64 = .ok (.invokevirtual 151, 3) := by decide +kernel
theorem dX12_rankWith_67 : decode cX12_rankWith 67 = .ok (.aload_n 0, 1) := by decide +kernel
theorem dX12_rankWith_68 : decode cX12_rankWith 68 = .ok (.iload_n 3, 1) := by decide +kernel
theorem dX12_rankWith_69 : decode cX12_rankWith 69 = .ok (.iconst 1, 1) := by decide +kernel
theorem dX12_rankWith_70 : decode cX12_rankWith 70 = .ok (.iadd, 1) := by decide +kernel
theorem dX12_rankWith_71 : decode cX12_rankWith 71 = .ok (.bipush 6, 2) := by decide +kernel
theorem dX12_rankWith_73 : decode cX12_rankWith 73 = .ok (.invokevirtual 81, 3) := by decide +kernel
theorem dX12_rankWith_76 : decode cX12_rankWith 76 = .ok (.ireturn, 1) := by decide +kernel
theorem dX12_hasOne_0 : decode cX12_hasOne 0 = .ok (.aload_n 0, 1) := by decide +kernel
theorem dX12_hasOne_1 : decode cX12_hasOne 1 = .ok (.iconst (-1), 1) := by decide +kernel
theorem dX12_hasOne_2 : decode cX12_hasOne 2 = .ok (.invokevirtual 154, 3) := by decide +kernel
theorem dX12_hasOne_5 : decode cX12_hasOne 5 = .ok (.istore_n 1, 1) := by decide +kernel
theorem dX12_hasOne_6 : decode cX12_hasOne 6 = .ok (.iload_n 1, 1) := by decide +kernel
theorem dX12_hasOne_7 : decode cX12_hasOne 7 = .ok (.iconst 5, 1) := by decide +kernel
theorem dX12_hasOne_8 : decode cX12_hasOne 8 = .ok (.if_icmp .eq 5, 3) := by decide +kernel
theorem dX12_hasOne_11 : decode cX12_hasOne 11 = .ok (.iconst 0, 1) := by decide +kernel
theorem dX12_hasOne_12 : decode cX12_hasOne 12 = .ok (.ireturn, 1) := by decide +kernel
theorem dX12_hasOne_13 : decode cX12_hasOne 13 = .ok (.iconst 0, 1) := by decide +kernel
theorem dX12_hasOne_14 : decode cX12_hasOne 14 = .ok (.istore_n 2, 1) := by decide +kernel
theorem dX12_hasOne_15 : decode cX12_hasOne 15 = .ok (.iload_n 2, 1) := by decide +kernel
theorem dX12_hasOne_16 : decode cX12_hasOne 16 = .ok (.iconst 5, 1) := by decide +kernel
theorem dX12_hasOne_17 : decode cX12_hasOne 17 = .ok (.if_icmp .ge 24, 3) := by decide +kernel
theorem dX12_hasOne_20 : decode cX12_hasOne 20 = .ok (.aload_n 0, 1) := by decide +kernel
theorem dX12_hasOne_21 : decode cX12_hasOne 21 = .ok (.getfield 27, 3) := by decide +kernel
theorem dX12_hasOne_24 : decode cX12_hasOne 24 = .ok (.bipush 6, 2) := by decide +kernel
theorem dX12_hasOne_26 : decode cX12_hasOne 26 = .ok (.iload_n 2, 1) := by decide +kernel
theorem dX12_hasOne_27 : decode cX12_hasOne 27 = .ok (.imul, 1) := by decide +kernel
theorem dX12_hasOne_28 : decode cX12_hasOne 28 = .ok (.iload_n 2, 1) := by decide +kernel
theorem dX12_hasOne_29 : decode cX12_hasOne 29 = .ok (.iadd, 1) := by decide +kernel
theorem dX12_hasOne_30 : decode cX12_hasOne 30 = .ok (.iaload, 1) := by decide +kernel
theorem dX12_hasOne_31 : decode cX12_hasOne 31 = .ok (.iconst 1, 1) := by decide +kernel
theorem dX12_hasOne_32 : decode cX12_hasOne 32 = .ok (.if_icmp .ne 9, 3) := by decide +kernel
theorem dX12_hasOne_35 : decode cX12_hasOne 35 = .ok (.iinc 2 1, 3) := by decide +kernel
theorem dX12_hasOne_38 : decode cX12_hasOne 38 = .ok (.goto (-23), 3) := by decide +kernel
theorem dX12_hasOne_41 : decode cX12_hasOne 41 = .ok (.iconst 0, 1) := by decide +kernel
theorem dX12_hasOne_42 : decode cX12_hasOne 42 = .ok (.istore_n 3, 1) := by decide +kernel
theorem dX12_hasOne_43 : decode cX12_hasOne 43 = .ok (.iload_n 3, 1) := by decide +kernel
theorem dX12_hasOne_44 : decode cX12_hasOne 44 = .ok (.bipush 6, 2) := by decide +kernel
theorem dX12_hasOne_46 : decode cX12_hasOne 46 = .ok (.if_icmp .ge 25, 3) := by decide +kernel
theorem dX12_hasOne_49 : decode cX12_hasOne 49 = .ok (.aload_n 0, 1) := by decide +kernel
theorem dX12_hasOne_50 : decode cX12_hasOne 50 = .ok (.getfield 30, 3) := by decide +kernel
theorem dX12_hasOne_53 : decode cX12_hasOne 53 = .ok (.iload_n 3, 1) := by decide +kernel
theorem dX12_hasOne_54 : decode cX12_hasOne 54 = .ok (.iload_n 3, 1) := by decide +kernel
theorem dX12_hasOne_55 : decode cX12_hasOne 55 = .ok (.iload_n 2, 1) := by decide +kernel
theorem dX12_hasOne_56 : decode cX12_hasOne 56 = .ok (.if_icmp .ne 7, 3) := by decide +kernel
theorem dX12_hasOne_59 : decode cX12_hasOne 59 = .ok (.iconst 1, 1) := by decide +kernel
theorem dX12_hasOne_60 : decode cX12_hasOne 60 = .ok (.goto 4, 3) := by decide +kernel
theorem dX12_hasOne_63 : decode cX12_hasOne 63 = .ok (.iconst 0, 1) := by decide +kernel
theorem dX12_hasOne_64 : decode cX12_hasOne 64 = .ok (.iastore, 1) := by decide +kernel
theorem dX12_hasOne_65 : decode cX12_hasOne 65 = .ok (.iinc 3 1, 3) := by decide +kernel
theorem dX12_hasOne_68 : decode cX12_hasOne 68 = .ok (.goto (-25), 3) := by decide +kernel
theorem dX12_hasOne_71 : decode cX12_hasOne 71 = .ok (.iconst 0, 1) := by decide +kernel
theorem dX12_hasOne_72 : decode cX12_hasOne 72 = .ok (.istore_n 3, 1) := by decide +kernel
theorem dX12_hasOne_73 : decode cX12_hasOne 73 = .ok (.iload_n 3, 1) := by decide +kernel
theorem dX12_hasOne_74 : decode cX12_hasOne 74 = .ok (.iconst 5, 1) := by decide +kernel
theorem dX12_hasOne_75 : decode cX12_hasOne 75 = .ok (.if_icmp .ge 42, 3) := by decide +kernel
theorem dX12_hasOne_78 : decode cX12_hasOne 78 = .ok (.aload_n 0, 1) := by decide +kernel
theorem dX12_hasOne_79 : decode cX12_hasOne 79 = .ok (.getfield 30, 3) := by decide +kernel
theorem dX12_hasOne_82 : decode cX12_hasOne 82 = .ok (.iload_n 3, 1) := by decide +kernel
theorem dX12_hasOne_83 : decode cX12_hasOne 83 = .ok (.iload_n 2, 1) := by decide +kernel
theorem dX12_hasOne_84 : decode cX12_hasOne 84 = .ok (.if_icmp .ge 7, 3) := by decide +kernel
theorem dX12_hasOne_87 : decode cX12_hasOne 87 = .ok (.iload_n 3, 1) := by decide +kernel
theorem dX12_hasOne_88 : decode cX12_hasOne 88 = .ok (.goto 6, 3) := by decide +kernel
theorem dX12_hasOne_91 : decode cX12_hasOne 91 = .ok (.iload_n 3, 1) := by decide +kernel
theorem dX12_hasOne_92 : decode cX12_hasOne 92 = .ok (.iconst 1, 1) := by decide +kernel
theorem dX12_hasOne_93 : decode cX12_hasOne 93 = .ok (.iadd, 1) := by decide +kernel
theorem dX12_hasOne_94 : decode cX12_hasOne 94 = .ok (.aload_n 0, 1) := by decide +kernel
theorem dX12_hasOne_95 : decode cX12_hasOne 95 = .ok (.aload_n 0, 1) := by decide +kernel
theorem dX12_hasOne_96 : decode cX12_hasOne 96 = .ok (.getfield 27, 3) := by decide +kernel
theorem dX12_hasOne_99 : decode cX12_hasOne 99 = .ok (.bipush 6, 2) := by decide +kernel
theorem dX12_hasOne_101 : decode cX12_hasOne 101 = .ok (.iload_n 3, 1) := by decide +kernel
theorem dX12_hasOne_102 : decode cX12_hasOne 102 = .ok (.imul, 1) := by decide +kernel
theorem dX12_hasOne_103 : decode cX12_hasOne 103 = .ok (.iload_n 2, 1) := by decide +kernel
theorem dX12_hasOne_104 : decode cX12_hasOne 104 = .ok (.iadd, 1) := by decide +kernel
theorem dX12_hasOne_105 : decode cX12_hasOne 105 = .ok (.iaload, 1) := by decide +kernel
theorem dX12_hasOne_106 : decode cX12_hasOne 106 = .ok (.ineg, 1) := by decide +kernel
theorem dX12_hasOne_107 : decode cX12_hasOne 107 = .ok (.invokevirtual 52, 3) := by decide +kernel
theorem dX12_hasOne_110 : decode cX12_hasOne 110 = .ok (.iastore, 1) := by decide +kernel
theorem dX12_hasOne_111 : decode cX12_hasOne 111 = .ok (.iinc 3 1, 3) := by decide +kernel
theorem dX12_hasOne_114 : decode cX12_hasOne 114 = .ok (.goto (-41), 3) := by decide +kernel
theorem dX12_hasOne_117 : decode cX12_hasOne 117 = .ok (.iconst 0, 1) := by decide +kernel
theorem dX12_hasOne_118 : decode cX12_hasOne 118 = .ok (.istore_n 3, 1) := by decide +kernel
theorem dX12_hasOne_119 : decode cX12_hasOne 119 = .ok (.aload_n 0, 1) := by decide +kernel
theorem dX12_hasOne_120 : decode cX12_hasOne 120 = .ok (.getfield 30, 3) := by decide +kernel
theorem dX12_hasOne_123 : decode cX12_hasOne 123 = .ok (.iload_n 3, 1) := by decide +kernel
theorem dX12_hasOne_124 : decode cX12_hasOne 124 = .ok (.iaload, 1) := by decide +kernel
theorem dX12_hasOne_125 : decode cX12_hasOne 125 = .ok (.ifCond .ne 9, 3) := by decide +kernel
theorem dX12_hasOne_128 : decode cX12_hasOne 128 = .ok (.iinc 3 1, 3) := by decide +kernel
theorem dX12_hasOne_131 : decode cX12_hasOne 131 = .ok (.goto (-12), 3) := by decide +kernel
theorem dX12_hasOne_134 : decode cX12_hasOne 134 = .ok (.aload_n 0, 1) := by decide +kernel
theorem dX12_hasOne_135 : decode cX12_hasOne 135 = .ok (.aload_n 0, 1) := by decide +kernel
theorem dX12_hasOne_136 : decode cX12_hasOne 136 = .ok (.getfield 30, 3) := by decide +kernel
theorem dX12_hasOne_139 : decode cX12_hasOne 139 = .ok (.iload_n 3, 1) := by decide +kernel
theorem dX12_hasOne_140 : decode cX12_hasOne 140 = .ok (.iaload, 1) := by decide +kernel
theorem dX12_hasOne_141 : decode cX12_hasOne 141 = .ok (.invokevirtual 56, 3) := by decide +kernel
theorem dX12_hasOne_144 : decode cX12_hasOne 144 = .ok (.istore 4, 2) := by decide +kernel
theorem dX12_hasOne_146 : decode cX12_hasOne 146 = .ok (.iconst 0, 1) := by decide +kernel
theorem dX12_hasOne_147 : decode cX12_hasOne 147 = .ok (.istore 5, 2) := by decide +kernel
theorem dX12_hasOne_149 : decode cX12_hasOne 149 = .ok (.iload 5, 2) := by decide +kernel
theorem dX12_hasOne_151 : decode cX12_hasOne 151 = .ok (.bipush 6, 2) := by decide +kernel
theorem dX12_hasOne_153 : decode cX12_hasOne 153 = .ok (.if_icmp .ge 31, 3) := by decide +kernel
theorem dX12_hasOne_156 : decode cX12_hasOne 156 = .ok (.aload_n 0, 1) := by decide +kernel
theorem dX12_hasOne_157 : decode cX12_hasOne 157 = .ok (.getfield 30, 3) := by decide +kernel
theorem dX12_hasOne_160 : decode cX12_hasOne 160 = .ok (.iload 5, 2) := by decide +kernel
theorem dX12_hasOne_162 : decode cX12_hasOne 162 = .ok (.aload_n 0, 1) := by decide +kernel
theorem dX12_hasOne_163 : decode cX12_hasOne 163 = .ok (.getfield 30, 3) := by decide +kernel
theorem dX12_hasOne_166 : decode cX12_hasOne 166 = .ok (.iload 5, 2) := by decide +kernel
theorem dX12_hasOne_168 : decode cX12_hasOne 168 = .ok (.iaload, 1) := by decide +kernel
theorem dX12_hasOne_169 : decode cX12_hasOne 169 = .ok (.iload 4, 2) := by decide +kernel
theorem dX12_hasOne_171 : decode cX12_hasOne 171 = .ok (.imul, 1) := by decide +kernel
theorem dX12_hasOne_172 : decode cX12_hasOne 172 = .ok (.aload_n 0, 1) := by decide +kernel
theorem dX12_hasOne_173 : decode cX12_hasOne 173 = .ok (.getfield 40, 3) := by decide +kernel
theorem dX12_hasOne_176 : decode cX12_hasOne 176 = .ok (.irem, 1) := by decide +kernel
theorem dX12_hasOne_177 : decode cX12_hasOne 177 = .ok (.iastore, 1) := by decide +kernel
theorem dX12_hasOne_178 : decode cX12_hasOne 178 = .ok (.iinc 5 1, 3) := by decide +kernel
theorem dX12_hasOne_181 : decode cX12_hasOne 181 = .ok (.goto (-32), 3) := by decide +kernel
theorem dX12_hasOne_184 : decode cX12_hasOne 184 = .ok (.iconst 1, 1) := by decide +kernel
theorem dX12_hasOne_185 : decode cX12_hasOne 185 = .ok (.ireturn, 1) := by decide +kernel
theorem dX12_through_0 : decode cX12_through 0 = .ok (.iload_n 1, 1) := by decide +kernel
theorem dX12_through_1 : decode cX12_through 1 = .ok (.invokestatic 136, 3) := by decide +kernel
theorem dX12_through_4 : decode cX12_through 4 = .ok (.ifCond .ne 10, 3) := by decide +kernel
theorem dX12_through_7 : decode cX12_through 7 = .ok (.aload_n 0, 1) := by decide +kernel
theorem dX12_through_8 : decode cX12_through 8 = .ok (.iconst 1, 1) := by decide +kernel
theorem dX12_through_9 : decode cX12_through 9 = .ok (.iconst 0, 1) := by decide +kernel
theorem dX12_through_10 : decode cX12_through 10 = .ok (.invokevirtual 123, 3) := by decide +kernel
theorem dX12_through_13 : decode cX12_through 13 = .ok (.ireturn, 1) := by decide +kernel
theorem dX12_through_14 : decode cX12_through 14 = .ok (.aload_n 0, 1) := by decide +kernel
theorem dX12_through_15 : decode cX12_through 15 = .ok (.invokevirtual 157, 3) := by decide +kernel
theorem dX12_through_18 : decode cX12_through 18 = .ok (.ifCond .ne 26, 3) := by decide +kernel
