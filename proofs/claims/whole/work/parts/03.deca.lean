theorem dX0_init_0 : decode cX0_init 0 = .ok (.aload_n 0, 1) := by decide +kernel
theorem dX0_init_1 : decode cX0_init 1 = .ok (.invokespecial 3, 3) := by decide +kernel
theorem dX0_init_4 : decode cX0_init 4 = .ok (.aload_n 0, 1) := by decide +kernel
theorem dX0_init_5 : decode cX0_init 5 = .ok (.new 9, 3) := by decide +kernel
theorem dX0_init_8 : decode cX0_init 8 = .ok (.dup, 1) := by decide +kernel
theorem dX0_init_9 : decode cX0_init 9 = .ok (.invokespecial 11, 3) := by decide +kernel
theorem dX0_init_12 : decode cX0_init 12 = .ok (.putfield 12, 3) := by decide +kernel
theorem dX0_init_15 : decode cX0_init 15 = .ok (.aload_n 0, 1) := by decide +kernel
theorem dX0_init_16 : decode cX0_init 16 = .ok (.bipush 7, 2) := by decide +kernel
theorem dX0_init_18 : decode cX0_init 18 = .ok (.putfield 18, 3) := by decide +kernel
theorem dX0_init_21 : decode cX0_init 21 = .ok (.return_, 1) := by decide +kernel
theorem dX0_take_0 : decode cX0_take 0 = .ok (.aload_n 0, 1) := by decide +kernel
theorem dX0_take_1 : decode cX0_take 1 = .ok (.aload_n 1, 1) := by decide +kernel
theorem dX0_take_2 : decode cX0_take 2 = .ok (.getfield 22, 3) := by decide +kernel
theorem dX0_take_5 : decode cX0_take 5 = .ok (.putfield 18, 3) := by decide +kernel
theorem dX0_take_8 : decode cX0_take 8 = .ok (.aload_n 1, 1) := by decide +kernel
theorem dX0_take_9 : decode cX0_take 9 = .ok (.iload_n 2, 1) := by decide +kernel
theorem dX0_take_10 : decode cX0_take 10 = .ok (.aload_n 0, 1) := by decide +kernel
theorem dX0_take_11 : decode cX0_take 11 = .ok (.getfield 12, 3) := by decide +kernel
theorem dX0_take_14 : decode cX0_take 14 = .ok (.invokevirtual 27, 3) := by decide +kernel
theorem dX0_take_17 : decode cX0_take 17 = .ok (.aload_n 0, 1) := by decide +kernel
theorem dX0_take_18 : decode cX0_take 18 = .ok (.getfield 12, 3) := by decide +kernel
theorem dX0_take_21 : decode cX0_take 21 = .ok (.aload_n 0, 1) := by decide +kernel
theorem dX0_take_22 : decode cX0_take 22 = .ok (.getfield 18, 3) := by decide +kernel
theorem dX0_take_25 : decode cX0_take 25 = .ok (.invokevirtual 31, 3) := by decide +kernel
theorem dX0_take_28 : decode cX0_take 28 = .ok (.return_, 1) := by decide +kernel
theorem dX0_becomeDual_0 : decode cX0_becomeDual 0 = .ok (.aload_n 1, 1) := by decide +kernel
theorem dX0_becomeDual_1 : decode cX0_becomeDual 1 = .ok (.getfield 12, 3) := by decide +kernel
theorem dX0_becomeDual_4 : decode cX0_becomeDual 4 = .ok (.astore_n 2, 1) := by decide +kernel
theorem dX0_becomeDual_5 : decode cX0_becomeDual 5 = .ok (.aload_n 0, 1) := by decide +kernel
theorem dX0_becomeDual_6 : decode cX0_becomeDual 6 = .ok (.aload_n 1, 1) := by decide +kernel
theorem dX0_becomeDual_7 : decode cX0_becomeDual 7 = .ok (.getfield 18, 3) := by decide +kernel
theorem dX0_becomeDual_10 : decode cX0_becomeDual 10 = .ok (.putfield 18, 3) := by decide +kernel
theorem dX0_becomeDual_13 : decode cX0_becomeDual 13 = .ok (.aload_n 0, 1) := by decide +kernel
theorem dX0_becomeDual_14 : decode cX0_becomeDual 14 = .ok (.getfield 12, 3) := by decide +kernel
theorem dX0_becomeDual_17 : decode cX0_becomeDual 17 = .ok (.iconst 4, 1) := by decide +kernel
theorem dX0_becomeDual_18 : decode cX0_becomeDual 18 = .ok (.aload_n 2, 1) := by decide +kernel
theorem dX0_becomeDual_19 : decode cX0_becomeDual 19 = .ok (.getfield 35, 3) := by decide +kernel
theorem dX0_becomeDual_22 : decode cX0_becomeDual 22 = .ok (.imul, 1) := by decide +kernel
theorem dX0_becomeDual_23 : decode cX0_becomeDual 23 = .ok (.aload_n 2, 1) := by decide +kernel
theorem dX0_becomeDual_24 : decode cX0_becomeDual 24 = .ok (.getfield 38, 3) := by decide +kernel
theorem dX0_becomeDual_27 : decode cX0_becomeDual 27 = .ok (.imul, 1) := by decide +kernel
theorem dX0_becomeDual_28 : decode cX0_becomeDual 28 = .ok (.aload_n 2, 1) := by decide +kernel
theorem dX0_becomeDual_29 : decode cX0_becomeDual 29 = .ok (.getfield 41, 3) := by decide +kernel
theorem dX0_becomeDual_32 : decode cX0_becomeDual 32 = .ok (.aload_n 2, 1) := by decide +kernel
theorem dX0_becomeDual_33 : decode cX0_becomeDual 33 = .ok (.getfield 41, 3) := by decide +kernel
theorem dX0_becomeDual_36 : decode cX0_becomeDual 36 = .ok (.imul, 1) := by decide +kernel
theorem dX0_becomeDual_37 : decode cX0_becomeDual 37 = .ok (.isub, 1) := by decide +kernel
theorem dX0_becomeDual_38 : decode cX0_becomeDual 38 = .ok (.iconst 4, 1) := by decide +kernel
theorem dX0_becomeDual_39 : decode cX0_becomeDual 39 = .ok (.aload_n 2, 1) := by decide +kernel
theorem dX0_becomeDual_40 : decode cX0_becomeDual 40 = .ok (.getfield 44, 3) := by decide +kernel
theorem dX0_becomeDual_43 : decode cX0_becomeDual 43 = .ok (.imul, 1) := by decide +kernel
theorem dX0_becomeDual_44 : decode cX0_becomeDual 44 = .ok (.aload_n 2, 1) := by decide +kernel
theorem dX0_becomeDual_45 : decode cX0_becomeDual 45 = .ok (.getfield 38, 3) := by decide +kernel
theorem dX0_becomeDual_48 : decode cX0_becomeDual 48 = .ok (.imul, 1) := by decide +kernel
theorem dX0_becomeDual_49 : decode cX0_becomeDual 49 = .ok (.aload_n 2, 1) := by decide +kernel
theorem dX0_becomeDual_50 : decode cX0_becomeDual 50 = .ok (.getfield 47, 3) := by decide +kernel
theorem dX0_becomeDual_53 : decode cX0_becomeDual 53 = .ok (.aload_n 2, 1) := by decide +kernel
theorem dX0_becomeDual_54 : decode cX0_becomeDual 54 = .ok (.getfield 47, 3) := by decide +kernel
theorem dX0_becomeDual_57 : decode cX0_becomeDual 57 = .ok (.imul, 1) := by decide +kernel
theorem dX0_becomeDual_58 : decode cX0_becomeDual 58 = .ok (.isub, 1) := by decide +kernel
theorem dX0_becomeDual_59 : decode cX0_becomeDual 59 = .ok (.iconst 4, 1) := by decide +kernel
theorem dX0_becomeDual_60 : decode cX0_becomeDual 60 = .ok (.aload_n 2, 1) := by decide +kernel
theorem dX0_becomeDual_61 : decode cX0_becomeDual 61 = .ok (.getfield 44, 3) := by decide +kernel
theorem dX0_becomeDual_64 : decode cX0_becomeDual 64 = .ok (.imul, 1) := by decide +kernel
theorem dX0_becomeDual_65 : decode cX0_becomeDual 65 = .ok (.aload_n 2, 1) := by decide +kernel
theorem dX0_becomeDual_66 : decode cX0_becomeDual 66 = .ok (.getfield 35, 3) := by decide +kernel
theorem dX0_becomeDual_69 : decode cX0_becomeDual 69 = .ok (.imul, 1) := by decide +kernel
theorem dX0_becomeDual_70 : decode cX0_becomeDual 70 = .ok (.aload_n 2, 1) := by decide +kernel
theorem dX0_becomeDual_71 : decode cX0_becomeDual 71 = .ok (.getfield 50, 3) := by decide +kernel
theorem dX0_becomeDual_74 : decode cX0_becomeDual 74 = .ok (.aload_n 2, 1) := by decide +kernel
theorem dX0_becomeDual_75 : decode cX0_becomeDual 75 = .ok (.getfield 50, 3) := by decide +kernel
theorem dX0_becomeDual_78 : decode cX0_becomeDual 78 = .ok (.imul, 1) := by decide +kernel
theorem dX0_becomeDual_79 : decode cX0_becomeDual 79 = .ok (.isub, 1) := by decide +kernel
theorem dX0_becomeDual_80 : decode cX0_becomeDual 80 = .ok (.iconst 2, 1) := by decide +kernel
theorem dX0_becomeDual_81 : decode cX0_becomeDual 81 = .ok (.aload_n 2, 1) := by decide +kernel
theorem dX0_becomeDual_82 : decode cX0_becomeDual 82 = .ok (.getfield 47, 3) := by decide +kernel
theorem dX0_becomeDual_85 : decode cX0_becomeDual 85 = .ok (.aload_n 2, 1) := by decide +kernel
theorem dX0_becomeDual_86 : decode cX0_becomeDual 86 = .ok (.getfield 50, 3) := by decide +kernel
theorem dX0_becomeDual_89 : decode cX0_becomeDual 89 = .ok (.imul, 1) := by decide +kernel
theorem dX0_becomeDual_90 : decode cX0_becomeDual 90 = .ok (.iconst 2, 1) := by decide +kernel
theorem dX0_becomeDual_91 : decode cX0_becomeDual 91 = .ok (.aload_n 2, 1) := by decide +kernel
theorem dX0_becomeDual_92 : decode cX0_becomeDual 92 = .ok (.getfield 44, 3) := by decide +kernel
theorem dX0_becomeDual_95 : decode cX0_becomeDual 95 = .ok (.imul, 1) := by decide +kernel
theorem dX0_becomeDual_96 : decode cX0_becomeDual 96 = .ok (.aload_n 2, 1) := by decide +kernel
theorem dX0_becomeDual_97 : decode cX0_becomeDual 97 = .ok (.getfield 41, 3) := by decide +kernel
theorem dX0_becomeDual_100 : decode cX0_becomeDual 100 = .ok (.imul, 1) := by decide +kernel
theorem dX0_becomeDual_101 : decode cX0_becomeDual 101 = .ok (.isub, 1) := by decide +kernel
theorem dX0_becomeDual_102 : decode cX0_becomeDual 102 = .ok (.imul, 1) := by decide +kernel
theorem dX0_becomeDual_103 : decode cX0_becomeDual 103 = .ok (.iconst 2, 1) := by decide +kernel
theorem dX0_becomeDual_104 : decode cX0_becomeDual 104 = .ok (.aload_n 2, 1) := by decide +kernel
theorem dX0_becomeDual_105 : decode cX0_becomeDual 105 = .ok (.getfield 41, 3) := by decide +kernel
theorem dX0_becomeDual_108 : decode cX0_becomeDual 108 = .ok (.aload_n 2, 1) := by decide +kernel
theorem dX0_becomeDual_109 : decode cX0_becomeDual 109 = .ok (.getfield 50, 3) := by decide +kernel
theorem dX0_becomeDual_112 : decode cX0_becomeDual 112 = .ok (.imul, 1) := by decide +kernel
theorem dX0_becomeDual_113 : decode cX0_becomeDual 113 = .ok (.iconst 2, 1) := by decide +kernel
theorem dX0_becomeDual_114 : decode cX0_becomeDual 114 = .ok (.aload_n 2, 1) := by decide +kernel
theorem dX0_becomeDual_115 : decode cX0_becomeDual 115 = .ok (.getfield 35, 3) := by decide +kernel
theorem dX0_becomeDual_118 : decode cX0_becomeDual 118 = .ok (.imul, 1) := by decide +kernel
theorem dX0_becomeDual_119 : decode cX0_becomeDual 119 = .ok (.aload_n 2, 1) := by decide +kernel
theorem dX0_becomeDual_120 : decode cX0_becomeDual 120 = .ok (.getfield 47, 3) := by decide +kernel
theorem dX0_becomeDual_123 : decode cX0_becomeDual 123 = .ok (.imul, 1) := by decide +kernel
theorem dX0_becomeDual_124 : decode cX0_becomeDual 124 = .ok (.isub, 1) := by decide +kernel
theorem dX0_becomeDual_125 : decode cX0_becomeDual 125 = .ok (.imul, 1) := by decide +kernel
theorem dX0_becomeDual_126 : decode cX0_becomeDual 126 = .ok (.iconst 2, 1) := by decide +kernel
theorem dX0_becomeDual_127 : decode cX0_becomeDual 127 = .ok (.aload_n 2, 1) := by decide +kernel
theorem dX0_becomeDual_128 : decode cX0_becomeDual 128 = .ok (.getfield 41, 3) := by decide +kernel
theorem dX0_becomeDual_131 : decode cX0_becomeDual 131 = .ok (.aload_n 2, 1) := by decide +kernel
theorem dX0_becomeDual_132 : decode cX0_becomeDual 132 = .ok (.getfield 47, 3) := by decide +kernel
theorem dX0_becomeDual_135 : decode cX0_becomeDual 135 = .ok (.imul, 1) := by decide +kernel
theorem dX0_becomeDual_136 : decode cX0_becomeDual 136 = .ok (.iconst 2, 1) := by decide +kernel
theorem dX0_becomeDual_137 : decode cX0_becomeDual 137 = .ok (.aload_n 2, 1) := by decide +kernel
theorem dX0_becomeDual_138 : decode cX0_becomeDual 138 = .ok (.getfield 38, 3) := by decide +kernel
theorem dX0_becomeDual_141 : decode cX0_becomeDual 141 = .ok (.imul, 1) := by decide +kernel
theorem dX0_becomeDual_142 : decode cX0_becomeDual 142 = .ok (.aload_n 2, 1) := by decide +kernel
theorem dX0_becomeDual_143 : decode cX0_becomeDual 143 = .ok (.getfield 50, 3) := by decide +kernel
theorem dX0_becomeDual_146 : decode cX0_becomeDual 146 = .ok (.imul, 1) := by decide +kernel
theorem dX0_becomeDual_147 : decode cX0_becomeDual 147 = .ok (.isub, 1) := by decide +kernel
theorem dX0_becomeDual_148 : decode cX0_becomeDual 148 = .ok (.imul, 1) := by decide +kernel
theorem dX0_becomeDual_149 : decode cX0_becomeDual 149 = .ok (.invokevirtual 53, 3) := by decide +kernel
theorem dX0_becomeDual_152 : decode cX0_becomeDual 152 = .ok (.aload_n 0, 1) := by decide +kernel
theorem dX0_becomeDual_153 : decode cX0_becomeDual 153 = .ok (.getfield 12, 3) := by decide +kernel
theorem dX0_becomeDual_156 : decode cX0_becomeDual 156 = .ok (.aload_n 0, 1) := by decide +kernel
theorem dX0_becomeDual_157 : decode cX0_becomeDual 157 = .ok (.getfield 18, 3) := by decide +kernel
theorem dX0_becomeDual_160 : decode cX0_becomeDual 160 = .ok (.invokevirtual 31, 3) := by decide +kernel
theorem dX0_becomeDual_163 : decode cX0_becomeDual 163 = .ok (.return_, 1) := by decide +kernel
theorem dX0_mix_0 : decode cX0_mix 0 = .ok (.aload_n 0, 1) := by decide +kernel
theorem dX0_mix_1 : decode cX0_mix 1 = .ok (.aload_n 1, 1) := by decide +kernel
theorem dX0_mix_2 : decode cX0_mix 2 = .ok (.getfield 18, 3) := by decide +kernel
theorem dX0_mix_5 : decode cX0_mix 5 = .ok (.putfield 18, 3) := by decide +kernel
theorem dX0_mix_8 : decode cX0_mix 8 = .ok (.aload_n 0, 1) := by decide +kernel
theorem dX0_mix_9 : decode cX0_mix 9 = .ok (.getfield 12, 3) := by decide +kernel
theorem dX0_mix_12 : decode cX0_mix 12 = .ok (.aload_n 1, 1) := by decide +kernel
theorem dX0_mix_13 : decode cX0_mix 13 = .ok (.getfield 12, 3) := by decide +kernel
theorem dX0_mix_16 : decode cX0_mix 16 = .ok (.invokevirtual 57, 3) := by decide +kernel
theorem dX0_mix_19 : decode cX0_mix 19 = .ok (.aload_n 0, 1) := by decide +kernel
theorem dX0_mix_20 : decode cX0_mix 20 = .ok (.getfield 12, 3) := by decide +kernel
theorem dX0_mix_23 : decode cX0_mix 23 = .ok (.iload_n 2, 1) := by decide +kernel
theorem dX0_mix_24 : decode cX0_mix 24 = .ok (.iconst 1, 1) := by decide +kernel
theorem dX0_mix_25 : decode cX0_mix 25 = .ok (.aload_n 3, 1) := by decide +kernel
theorem dX0_mix_26 : decode cX0_mix 26 = .ok (.getfield 12, 3) := by decide +kernel
theorem dX0_mix_29 : decode cX0_mix 29 = .ok (.invokevirtual 61, 3) := by decide +kernel
theorem dX0_mix_32 : decode cX0_mix 32 = .ok (.aload_n 0, 1) := by decide +kernel
theorem dX0_mix_33 : decode cX0_mix 33 = .ok (.getfield 12, 3) := by decide +kernel
theorem dX0_mix_36 : decode cX0_mix 36 = .ok (.aload_n 0, 1) := by decide +kernel
theorem dX0_mix_37 : decode cX0_mix 37 = .ok (.getfield 18, 3) := by decide +kernel
theorem dX0_mix_40 : decode cX0_mix 40 = .ok (.invokevirtual 31, 3) := by decide +kernel
theorem dX0_mix_43 : decode cX0_mix 43 = .ok (.return_, 1) := by decide +kernel
theorem dX0_valueAt_0 : decode cX0_valueAt 0 = .ok (.aload_n 1, 1) := by decide +kernel
theorem dX0_valueAt_1 : decode cX0_valueAt 1 = .ok (.getfield 65, 3) := by decide +kernel
theorem dX0_valueAt_4 : decode cX0_valueAt 4 = .ok (.istore_n 2, 1) := by decide +kernel
theorem dX0_valueAt_5 : decode cX0_valueAt 5 = .ok (.aload_n 1, 1) := by decide +kernel
theorem dX0_valueAt_6 : decode cX0_valueAt 6 = .ok (.getfield 70, 3) := by decide +kernel
theorem dX0_valueAt_9 : decode cX0_valueAt 9 = .ok (.istore_n 3, 1) := by decide +kernel
theorem dX0_valueAt_10 : decode cX0_valueAt 10 = .ok (.aload_n 1, 1) := by decide +kernel
theorem dX0_valueAt_11 : decode cX0_valueAt 11 = .ok (.getfield 73, 3) := by decide +kernel
theorem dX0_valueAt_14 : decode cX0_valueAt 14 = .ok (.istore 4, 2) := by decide +kernel
theorem dX0_valueAt_16 : decode cX0_valueAt 16 = .ok (.aload_n 0, 1) := by decide +kernel
theorem dX0_valueAt_17 : decode cX0_valueAt 17 = .ok (.getfield 12, 3) := by decide +kernel
theorem dX0_valueAt_20 : decode cX0_valueAt 20 = .ok (.getfield 44, 3) := by decide +kernel
theorem dX0_valueAt_23 : decode cX0_valueAt 23 = .ok (.iload_n 2, 1) := by decide +kernel
theorem dX0_valueAt_24 : decode cX0_valueAt 24 = .ok (.imul, 1) := by decide +kernel
theorem dX0_valueAt_25 : decode cX0_valueAt 25 = .ok (.iload_n 2, 1) := by decide +kernel
theorem dX0_valueAt_26 : decode cX0_valueAt 26 = .ok (.imul, 1) := by decide +kernel
theorem dX0_valueAt_27 : decode cX0_valueAt 27 = .ok (.aload_n 0, 1) := by decide +kernel
theorem dX0_valueAt_28 : decode cX0_valueAt 28 = .ok (.getfield 12, 3) := by decide +kernel
theorem dX0_valueAt_31 : decode cX0_valueAt 31 = .ok (.getfield 35, 3) := by decide +kernel
theorem dX0_valueAt_34 : decode cX0_valueAt 34 = .ok (.iload_n 3, 1) := by decide +kernel
theorem dX0_valueAt_35 : decode cX0_valueAt 35 = .ok (.imul, 1) := by decide +kernel
theorem dX0_valueAt_36 : decode cX0_valueAt 36 = .ok (.iload_n 3, 1) := by decide +kernel
theorem dX0_valueAt_37 : decode cX0_valueAt 37 = .ok (.imul, 1) := by decide +kernel
theorem dX0_valueAt_38 : decode cX0_valueAt 38 = .ok (.iadd, 1) := by decide +kernel
theorem dX0_valueAt_39 : decode cX0_valueAt 39 = .ok (.aload_n 0, 1) := by decide +kernel
theorem dX0_valueAt_40 : decode cX0_valueAt 40 = .ok (.getfield 12, 3) := by decide +kernel
theorem dX0_valueAt_43 : decode cX0_valueAt 43 = .ok (.getfield 38, 3) := by decide +kernel
theorem dX0_valueAt_46 : decode cX0_valueAt 46 = .ok (.iload 4, 2) := by decide +kernel
theorem dX0_valueAt_48 : decode cX0_valueAt 48 = .ok (.imul, 1) := by decide +kernel
theorem dX0_valueAt_49 : decode cX0_valueAt 49 = .ok (.iload 4, 2) := by decide +kernel
theorem dX0_valueAt_51 : decode cX0_valueAt 51 = .ok (.imul, 1) := by decide +kernel
theorem dX0_valueAt_52 : decode cX0_valueAt 52 = .ok (.iadd, 1) := by decide +kernel
theorem dX0_valueAt_53 : decode cX0_valueAt 53 = .ok (.aload_n 0, 1) := by decide +kernel
theorem dX0_valueAt_54 : decode cX0_valueAt 54 = .ok (.getfield 12, 3) := by decide +kernel
theorem dX0_valueAt_57 : decode cX0_valueAt 57 = .ok (.getfield 41, 3) := by decide +kernel
theorem dX0_valueAt_60 : decode cX0_valueAt 60 = .ok (.iload_n 3, 1) := by decide +kernel
theorem dX0_valueAt_61 : decode cX0_valueAt 61 = .ok (.imul, 1) := by decide +kernel
theorem dX0_valueAt_62 : decode cX0_valueAt 62 = .ok (.iload 4, 2) := by decide +kernel
theorem dX0_valueAt_64 : decode cX0_valueAt 64 = .ok (.imul, 1) := by decide +kernel
theorem dX0_valueAt_65 : decode cX0_valueAt 65 = .ok (.iadd, 1) := by decide +kernel
theorem dX0_valueAt_66 : decode cX0_valueAt 66 = .ok (.aload_n 0, 1) := by decide +kernel
theorem dX0_valueAt_67 : decode cX0_valueAt 67 = .ok (.getfield 12, 3) := by decide +kernel
theorem dX0_valueAt_70 : decode cX0_valueAt 70 = .ok (.getfield 47, 3) := by decide +kernel
theorem dX0_valueAt_73 : decode cX0_valueAt 73 = .ok (.iload 4, 2) := by decide +kernel
theorem dX0_valueAt_75 : decode cX0_valueAt 75 = .ok (.imul, 1) := by decide +kernel
theorem dX0_valueAt_76 : decode cX0_valueAt 76 = .ok (.iload_n 2, 1) := by decide +kernel
theorem dX0_valueAt_77 : decode cX0_valueAt 77 = .ok (.imul, 1) := by decide +kernel
theorem dX0_valueAt_78 : decode cX0_valueAt 78 = .ok (.iadd, 1) := by decide +kernel
theorem dX0_valueAt_79 : decode cX0_valueAt 79 = .ok (.aload_n 0, 1) := by decide +kernel
theorem dX0_valueAt_80 : decode cX0_valueAt 80 = .ok (.getfield 12, 3) := by decide +kernel
theorem dX0_valueAt_83 : decode cX0_valueAt 83 = .ok (.getfield 50, 3) := by decide +kernel
theorem dX0_valueAt_86 : decode cX0_valueAt 86 = .ok (.iload_n 2, 1) := by decide +kernel
theorem dX0_valueAt_87 : decode cX0_valueAt 87 = .ok (.imul, 1) := by decide +kernel
theorem dX0_valueAt_88 : decode cX0_valueAt 88 = .ok (.iload_n 3, 1) := by decide +kernel
theorem dX0_valueAt_89 : decode cX0_valueAt 89 = .ok (.imul, 1) := by decide +kernel
theorem dX0_valueAt_90 : decode cX0_valueAt 90 = .ok (.iadd, 1) := by decide +kernel
theorem dX0_valueAt_91 : decode cX0_valueAt 91 = .ok (.aload_n 0, 1) := by decide +kernel
theorem dX0_valueAt_92 : decode cX0_valueAt 92 = .ok (.getfield 18, 3) := by decide +kernel
theorem dX0_valueAt_95 : decode cX0_valueAt 95 = .ok (.invokestatic 76, 3) := by decide +kernel
theorem dX0_valueAt_98 : decode cX0_valueAt 98 = .ok (.ireturn, 1) := by decide +kernel
theorem dX0_polarOf_0 : decode cX0_polarOf 0 = .ok (.aload_n 1, 1) := by decide +kernel
theorem dX0_polarOf_1 : decode cX0_polarOf 1 = .ok (.getfield 65, 3) := by decide +kernel
theorem dX0_polarOf_4 : decode cX0_polarOf 4 = .ok (.istore_n 3, 1) := by decide +kernel
theorem dX0_polarOf_5 : decode cX0_polarOf 5 = .ok (.aload_n 1, 1) := by decide +kernel
theorem dX0_polarOf_6 : decode cX0_polarOf 6 = .ok (.getfield 70, 3) := by decide +kernel
theorem dX0_polarOf_9 : decode cX0_polarOf 9 = .ok (.istore 4, 2) := by decide +kernel
theorem dX0_polarOf_11 : decode cX0_polarOf 11 = .ok (.aload_n 1, 1) := by decide +kernel
theorem dX0_polarOf_12 : decode cX0_polarOf 12 = .ok (.getfield 73, 3) := by decide +kernel
theorem dX0_polarOf_15 : decode cX0_polarOf 15 = .ok (.istore 5, 2) := by decide +kernel
theorem dX0_polarOf_17 : decode cX0_polarOf 17 = .ok (.aload_n 2, 1) := by decide +kernel
theorem dX0_polarOf_18 : decode cX0_polarOf 18 = .ok (.iconst 2, 1) := by decide +kernel
theorem dX0_polarOf_19 : decode cX0_polarOf 19 = .ok (.aload_n 0, 1) := by decide +kernel
theorem dX0_polarOf_20 : decode cX0_polarOf 20 = .ok (.getfield 12, 3) := by decide +kernel
theorem dX0_polarOf_23 : decode cX0_polarOf 23 = .ok (.getfield 44, 3) := by decide +kernel
theorem dX0_polarOf_26 : decode cX0_polarOf 26 = .ok (.imul, 1) := by decide +kernel
theorem dX0_polarOf_27 : decode cX0_polarOf 27 = .ok (.iload_n 3, 1) := by decide +kernel
theorem dX0_polarOf_28 : decode cX0_polarOf 28 = .ok (.imul, 1) := by decide +kernel
theorem dX0_polarOf_29 : decode cX0_polarOf 29 = .ok (.aload_n 0, 1) := by decide +kernel
theorem dX0_polarOf_30 : decode cX0_polarOf 30 = .ok (.getfield 12, 3) := by decide +kernel
theorem dX0_polarOf_33 : decode cX0_polarOf 33 = .ok (.getfield 50, 3) := by decide +kernel
theorem dX0_polarOf_36 : decode cX0_polarOf 36 = .ok (.iload 4, 2) := by decide +kernel
theorem dX0_polarOf_38 : decode cX0_polarOf 38 = .ok (.imul, 1) := by decide +kernel
theorem dX0_polarOf_39 : decode cX0_polarOf 39 = .ok (.iadd, 1) := by decide +kernel
theorem dX0_polarOf_40 : decode cX0_polarOf 40 = .ok (.aload_n 0, 1) := by decide +kernel
theorem dX0_polarOf_41 : decode cX0_polarOf 41 = .ok (.getfield 12, 3) := by decide +kernel
theorem dX0_polarOf_44 : decode cX0_polarOf 44 = .ok (.getfield 47, 3) := by decide +kernel
theorem dX0_polarOf_47 : decode cX0_polarOf 47 = .ok (.iload 5, 2) := by decide +kernel
theorem dX0_polarOf_49 : decode cX0_polarOf 49 = .ok (.imul, 1) := by decide +kernel
theorem dX0_polarOf_50 : decode cX0_polarOf 50 = .ok (.iadd, 1) := by decide +kernel
theorem dX0_polarOf_51 : decode cX0_polarOf 51 = .ok (.aload_n 0, 1) := by decide +kernel
theorem dX0_polarOf_52 : decode cX0_polarOf 52 = .ok (.getfield 12, 3) := by decide +kernel
theorem dX0_polarOf_55 : decode cX0_polarOf 55 = .ok (.getfield 50, 3) := by decide +kernel
theorem dX0_polarOf_58 : decode cX0_polarOf 58 = .ok (.iload_n 3, 1) := by decide +kernel
theorem dX0_polarOf_59 : decode cX0_polarOf 59 = .ok (.imul, 1) := by decide +kernel
theorem dX0_polarOf_60 : decode cX0_polarOf 60 = .ok (.iconst 2, 1) := by decide +kernel
theorem dX0_polarOf_61 : decode cX0_polarOf 61 = .ok (.aload_n 0, 1) := by decide +kernel
theorem dX0_polarOf_62 : decode cX0_polarOf 62 = .ok (.getfield 12, 3) := by decide +kernel
theorem dX0_polarOf_65 : decode cX0_polarOf 65 = .ok (.getfield 35, 3) := by decide +kernel
theorem dX0_polarOf_68 : decode cX0_polarOf 68 = .ok (.imul, 1) := by decide +kernel
theorem dX0_polarOf_69 : decode cX0_polarOf 69 = .ok (.iload 4, 2) := by decide +kernel
theorem dX0_polarOf_71 : decode cX0_polarOf 71 = .ok (.imul, 1) := by decide +kernel
theorem dX0_polarOf_72 : decode cX0_polarOf 72 = .ok (.iadd, 1) := by decide +kernel
theorem dX0_polarOf_73 : decode cX0_polarOf 73 = .ok (.aload_n 0, 1) := by decide +kernel
theorem dX0_polarOf_74 : decode cX0_polarOf 74 = .ok (.getfield 12, 3) := by decide +kernel
theorem dX0_polarOf_77 : decode cX0_polarOf 77 = .ok (.getfield 41, 3) := by decide +kernel
theorem dX0_polarOf_80 : decode cX0_polarOf 80 = .ok (.iload 5, 2) := by decide +kernel
theorem dX0_polarOf_82 : decode cX0_polarOf 82 = .ok (.imul, 1) := by decide +kernel
theorem dX0_polarOf_83 : decode cX0_polarOf 83 = .ok (.iadd, 1) := by decide +kernel
theorem dX0_polarOf_84 : decode cX0_polarOf 84 = .ok (.aload_n 0, 1) := by decide +kernel
theorem dX0_polarOf_85 : decode cX0_polarOf 85 = .ok (.getfield 12, 3) := by decide +kernel
theorem dX0_polarOf_88 : decode cX0_polarOf 88 = .ok (.getfield 47, 3) := by decide +kernel
theorem dX0_polarOf_91 : decode cX0_polarOf 91 = .ok (.iload_n 3, 1) := by decide +kernel
theorem dX0_polarOf_92 : decode cX0_polarOf 92 = .ok (.imul, 1) := by decide +kernel
theorem dX0_polarOf_93 : decode cX0_polarOf 93 = .ok (.aload_n 0, 1) := by decide +kernel
theorem dX0_polarOf_94 : decode cX0_polarOf 94 = .ok (.getfield 12, 3) := by decide +kernel
theorem dX0_polarOf_97 : decode cX0_polarOf 97 = .ok (.getfield 41, 3) := by decide +kernel
theorem dX0_polarOf_100 : decode cX0_polarOf 100 = .ok (.iload 4, 2) := by decide +kernel
theorem dX0_polarOf_102 : decode cX0_polarOf 102 = .ok (.imul, 1) := by decide +kernel
theorem dX0_polarOf_103 : decode cX0_polarOf 103 = .ok (.iadd, 1) := by decide +kernel
theorem dX0_polarOf_104 : decode cX0_polarOf 104 = .ok (.iconst 2, 1) := by decide +kernel
theorem dX0_polarOf_105 : decode cX0_polarOf 105 = .ok (.aload_n 0, 1) := by decide +kernel
theorem dX0_polarOf_106 : decode cX0_polarOf 106 = .ok (.getfield 12, 3) := by decide +kernel
theorem dX0_polarOf_109 : decode cX0_polarOf 109 = .ok (.getfield 38, 3) := by decide +kernel
theorem dX0_polarOf_112 : decode cX0_polarOf 112 = .ok (.imul, 1) := by decide +kernel
theorem dX0_polarOf_113 : decode cX0_polarOf 113 = .ok (.iload 5, 2) := by decide +kernel
theorem dX0_polarOf_115 : decode cX0_polarOf 115 = .ok (.imul, 1) := by decide +kernel
theorem dX0_polarOf_116 : decode cX0_polarOf 116 = .ok (.iadd, 1) := by decide +kernel
theorem dX0_polarOf_117 : decode cX0_polarOf 117 = .ok (.invokevirtual 82, 3) := by decide +kernel
theorem dX0_polarOf_120 : decode cX0_polarOf 120 = .ok (.return_, 1) := by decide +kernel
theorem dX0_rank_0 : decode cX0_rank 0 = .ok (.aload_n 0, 1) := by decide +kernel
theorem dX0_rank_1 : decode cX0_rank 1 = .ok (.getfield 12, 3) := by decide +kernel
theorem dX0_rank_4 : decode cX0_rank 4 = .ok (.invokevirtual 85, 3) := by decide +kernel
theorem dX0_rank_7 : decode cX0_rank 7 = .ok (.ifCond .eq 5, 3) := by decide +kernel
theorem dX0_rank_10 : decode cX0_rank 10 = .ok (.iconst 0, 1) := by decide +kernel
theorem dX0_rank_11 : decode cX0_rank 11 = .ok (.ireturn, 1) := by decide +kernel
theorem dX0_rank_12 : decode cX0_rank 12 = .ok (.aload_n 0, 1) := by decide +kernel
theorem dX0_rank_13 : decode cX0_rank 13 = .ok (.getfield 12, 3) := by decide +kernel
theorem dX0_rank_16 : decode cX0_rank 16 = .ok (.invokevirtual 89, 3) := by decide +kernel
theorem dX0_rank_19 : decode cX0_rank 19 = .ok (.aload_n 0, 1) := by decide +kernel
theorem dX0_rank_20 : decode cX0_rank 20 = .ok (.getfield 18, 3) := by decide +kernel
theorem dX0_rank_23 : decode cX0_rank 23 = .ok (.invokestatic 76, 3) := by decide +kernel
theorem dX0_rank_26 : decode cX0_rank 26 = .ok (.ifCond .eq 5, 3) := by decide +kernel
theorem dX0_rank_29 : decode cX0_rank 29 = .ok (.iconst 3, 1) := by decide +kernel
theorem dX0_rank_30 : decode cX0_rank 30 = .ok (.ireturn, 1) := by decide +kernel
theorem dX0_rank_31 : decode cX0_rank 31 = .ok (.aload_n 0, 1) := by decide +kernel
theorem dX0_rank_32 : decode cX0_rank 32 = .ok (.invokevirtual 93, 3) := by decide +kernel
theorem dX0_rank_35 : decode cX0_rank 35 = .ok (.ifCond .eq 7, 3) := by decide +kernel
theorem dX0_rank_38 : decode cX0_rank 38 = .ok (.iconst 2, 1) := by decide +kernel
theorem dX0_rank_39 : decode cX0_rank 39 = .ok (.goto 4, 3) := by decide +kernel
theorem dX0_rank_42 : decode cX0_rank 42 = .ok (.iconst 1, 1) := by decide +kernel
theorem dX0_rank_43 : decode cX0_rank 43 = .ok (.ireturn, 1) := by decide +kernel
theorem dX0_kind_0 : decode cX0_kind 0 = .ok (.aload_n 0, 1) := by decide +kernel
theorem dX0_kind_1 : decode cX0_kind 1 = .ok (.invokevirtual 96, 3) := by decide +kernel
theorem dX0_kind_4 : decode cX0_kind 4 = .ok (.istore_n 1, 1) := by decide +kernel
theorem dX0_kind_5 : decode cX0_kind 5 = .ok (.iload_n 1, 1) := by decide +kernel
theorem dX0_kind_6 : decode cX0_kind 6 = .ok (.iconst 3, 1) := by decide +kernel
theorem dX0_kind_7 : decode cX0_kind 7 = .ok (.if_icmp .ne 5, 3) := by decide +kernel
theorem dX0_kind_10 : decode cX0_kind 10 = .ok (.iconst 4, 1) := by decide +kernel
theorem dX0_kind_11 : decode cX0_kind 11 = .ok (.ireturn, 1) := by decide +kernel
theorem dX0_kind_12 : decode cX0_kind 12 = .ok (.iload_n 1, 1) := by decide +kernel
theorem dX0_kind_13 : decode cX0_kind 13 = .ok (.iconst 2, 1) := by decide +kernel
theorem dX0_kind_14 : decode cX0_kind 14 = .ok (.if_icmp .ge 14, 3) := by decide +kernel
theorem dX0_kind_17 : decode cX0_kind 17 = .ok (.iload_n 1, 1) := by decide +kernel
theorem dX0_kind_18 : decode cX0_kind 18 = .ok (.iconst 1, 1) := by decide +kernel
theorem dX0_kind_19 : decode cX0_kind 19 = .ok (.if_icmp .ne 7, 3) := by decide +kernel
theorem dX0_kind_22 : decode cX0_kind 22 = .ok (.iconst 1, 1) := by decide +kernel
theorem dX0_kind_23 : decode cX0_kind 23 = .ok (.goto 4, 3) := by decide +kernel
theorem dX0_kind_26 : decode cX0_kind 26 = .ok (.iconst 0, 1) := by decide +kernel
theorem dX0_kind_27 : decode cX0_kind 27 = .ok (.ireturn, 1) := by decide +kernel
theorem dX0_kind_28 : decode cX0_kind 28 = .ok (.aload_n 0, 1) := by decide +kernel
theorem dX0_kind_29 : decode cX0_kind 29 = .ok (.invokevirtual 93, 3) := by decide +kernel
theorem dX0_kind_32 : decode cX0_kind 32 = .ok (.ineg, 1) := by decide +kernel
theorem dX0_kind_33 : decode cX0_kind 33 = .ok (.aload_n 0, 1) := by decide +kernel
theorem dX0_kind_34 : decode cX0_kind 34 = .ok (.getfield 18, 3) := by decide +kernel
theorem dX0_kind_37 : decode cX0_kind 37 = .ok (.invokestatic 99, 3) := by decide +kernel
theorem dX0_kind_40 : decode cX0_kind 40 = .ok (.ifCond .eq 7, 3) := by decide +kernel
theorem dX0_kind_43 : decode cX0_kind 43 = .ok (.iconst 2, 1) := by decide +kernel
theorem dX0_kind_44 : decode cX0_kind 44 = .ok (.goto 4, 3) := by decide +kernel
theorem dX0_kind_47 : decode cX0_kind 47 = .ok (.iconst 3, 1) := by decide +kernel
theorem dX0_kind_48 : decode cX0_kind 48 = .ok (.ireturn, 1) := by decide +kernel
theorem dX0_sideMinor_0 : decode cX0_sideMinor 0 = .ok (.iconst 4, 1) := by decide +kernel
theorem dX0_sideMinor_1 : decode cX0_sideMinor 1 = .ok (.aload_n 0, 1) := by decide +kernel
theorem dX0_sideMinor_2 : decode cX0_sideMinor 2 = .ok (.getfield 12, 3) := by decide +kernel
theorem dX0_sideMinor_5 : decode cX0_sideMinor 5 = .ok (.getfield 35, 3) := by decide +kernel
theorem dX0_sideMinor_8 : decode cX0_sideMinor 8 = .ok (.imul, 1) := by decide +kernel
theorem dX0_sideMinor_9 : decode cX0_sideMinor 9 = .ok (.aload_n 0, 1) := by decide +kernel
theorem dX0_sideMinor_10 : decode cX0_sideMinor 10 = .ok (.getfield 12, 3) := by decide +kernel
theorem dX0_sideMinor_13 : decode cX0_sideMinor 13 = .ok (.getfield 38, 3) := by decide +kernel
theorem dX0_sideMinor_16 : decode cX0_sideMinor 16 = .ok (.imul, 1) := by decide +kernel
theorem dX0_sideMinor_17 : decode cX0_sideMinor 17 = .ok (.aload_n 0, 1) := by decide +kernel
theorem dX0_sideMinor_18 : decode cX0_sideMinor 18 = .ok (.getfield 12, 3) := by decide +kernel
theorem dX0_sideMinor_21 : decode cX0_sideMinor 21 = .ok (.getfield 41, 3) := by decide +kernel
theorem dX0_sideMinor_24 : decode cX0_sideMinor 24 = .ok (.aload_n 0, 1) := by decide +kernel
theorem dX0_sideMinor_25 : decode cX0_sideMinor 25 = .ok (.getfield 12, 3) := by decide +kernel
theorem dX0_sideMinor_28 : decode cX0_sideMinor 28 = .ok (.getfield 41, 3) := by decide +kernel
theorem dX0_sideMinor_31 : decode cX0_sideMinor 31 = .ok (.imul, 1) := by decide +kernel
theorem dX0_sideMinor_32 : decode cX0_sideMinor 32 = .ok (.isub, 1) := by decide +kernel
theorem dX0_sideMinor_33 : decode cX0_sideMinor 33 = .ok (.aload_n 0, 1) := by decide +kernel
theorem dX0_sideMinor_34 : decode cX0_sideMinor 34 = .ok (.getfield 18, 3) := by decide +kernel
theorem dX0_sideMinor_37 : decode cX0_sideMinor 37 = .ok (.invokestatic 76, 3) := by decide +kernel
theorem dX0_sideMinor_40 : decode cX0_sideMinor 40 = .ok (.istore_n 1, 1) := by decide +kernel
theorem dX0_sideMinor_41 : decode cX0_sideMinor 41 = .ok (.iload_n 1, 1) := by decide +kernel
theorem dX0_sideMinor_42 : decode cX0_sideMinor 42 = .ok (.ifCond .eq 5, 3) := by decide +kernel
theorem dX0_sideMinor_45 : decode cX0_sideMinor 45 = .ok (.iload_n 1, 1) := by decide +kernel
theorem dX0_sideMinor_46 : decode cX0_sideMinor 46 = .ok (.ireturn, 1) := by decide +kernel
theorem dX0_sideMinor_47 : decode cX0_sideMinor 47 = .ok (.iconst 4, 1) := by decide +kernel
theorem dX0_sideMinor_48 : decode cX0_sideMinor 48 = .ok (.aload_n 0, 1) := by decide +kernel
theorem dX0_sideMinor_49 : decode cX0_sideMinor 49 = .ok (.getfield 12, 3) := by decide +kernel
theorem dX0_sideMinor_52 : decode cX0_sideMinor 52 = .ok (.getfield 44, 3) := by decide +kernel
theorem dX0_sideMinor_55 : decode cX0_sideMinor 55 = .ok (.imul, 1) := by decide +kernel
theorem dX0_sideMinor_56 : decode cX0_sideMinor 56 = .ok (.aload_n 0, 1) := by decide +kernel
theorem dX0_sideMinor_57 : decode cX0_sideMinor 57 = .ok (.getfield 12, 3) := by decide +kernel
theorem dX0_sideMinor_60 : decode cX0_sideMinor 60 = .ok (.getfield 38, 3) := by decide +kernel
theorem dX0_sideMinor_63 : decode cX0_sideMinor 63 = .ok (.imul, 1) := by decide +kernel
theorem dX0_sideMinor_64 : decode cX0_sideMinor 64 = .ok (.aload_n 0, 1) := by decide +kernel
theorem dX0_sideMinor_65 : decode cX0_sideMinor 65 = .ok (.getfield 12, 3) := by decide +kernel
theorem dX0_sideMinor_68 : decode cX0_sideMinor 68 = .ok (.getfield 47, 3) := by decide +kernel
theorem dX0_sideMinor_71 : decode cX0_sideMinor 71 = .ok (.aload_n 0, 1) := by decide +kernel
theorem dX0_sideMinor_72 : decode cX0_sideMinor 72 = .ok (.getfield 12, 3) := by decide +kernel
theorem dX0_sideMinor_75 : decode cX0_sideMinor 75 = .ok (.getfield 47, 3) := by decide +kernel
theorem dX0_sideMinor_78 : decode cX0_sideMinor 78 = .ok (.imul, 1) := by decide +kernel
theorem dX0_sideMinor_79 : decode cX0_sideMinor 79 = .ok (.isub, 1) := by decide +kernel
theorem dX0_sideMinor_80 : decode cX0_sideMinor 80 = .ok (.aload_n 0, 1) := by decide +kernel
theorem dX0_sideMinor_81 : decode cX0_sideMinor 81 = .ok (.getfield 18, 3) := by decide +kernel
theorem dX0_sideMinor_84 : decode cX0_sideMinor 84 = .ok (.invokestatic 76, 3) := by decide +kernel
theorem dX0_sideMinor_87 : decode cX0_sideMinor 87 = .ok (.istore_n 2, 1) := by decide +kernel
theorem dX0_sideMinor_88 : decode cX0_sideMinor 88 = .ok (.iload_n 2, 1) := by decide +kernel
theorem dX0_sideMinor_89 : decode cX0_sideMinor 89 = .ok (.ifCond .eq 7, 3) := by decide +kernel
theorem dX0_sideMinor_92 : decode cX0_sideMinor 92 = .ok (.iload_n 2, 1) := by decide +kernel
theorem dX0_sideMinor_93 : decode cX0_sideMinor 93 = .ok (.goto 17, 3) := by decide +kernel
theorem dX0_sideMinor_96 : decode cX0_sideMinor 96 = .ok (.aload_n 0, 1) := by decide +kernel
theorem dX0_sideMinor_97 : decode cX0_sideMinor 97 = .ok (.getfield 12, 3) := by decide +kernel
theorem dX0_sideMinor_100 : decode cX0_sideMinor 100 = .ok (.invokevirtual 103, 3) := by decide +kernel
theorem dX0_sideMinor_103 : decode cX0_sideMinor 103 = .ok (.aload_n 0, 1) := by decide +kernel
theorem dX0_sideMinor_104 : decode cX0_sideMinor 104 = .ok (.getfield 18, 3) := by decide +kernel
theorem dX0_sideMinor_107 : decode cX0_sideMinor 107 = .ok (.invokestatic 76, 3) := by decide +kernel
theorem dX0_sideMinor_110 : decode cX0_sideMinor 110 = .ok (.ireturn, 1) := by decide +kernel
theorem dX0_points_0 : decode cX0_points 0 = .ok (.aload_n 0, 1) := by decide +kernel
theorem dX0_points_1 : decode cX0_points 1 = .ok (.invokevirtual 106, 3) := by decide +kernel
theorem dX0_points_4 : decode cX0_points 4 = .ok (.tableswitch 51 0 3 #[32, 51, 40, 49], 32) := by decide +kernel
theorem dX0_points_36 : decode cX0_points 36 = .ok (.aload_n 0, 1) := by decide +kernel
theorem dX0_points_37 : decode cX0_points 37 = .ok (.getfield 18, 3) := by decide +kernel
theorem dX0_points_40 : decode cX0_points 40 = .ok (.invokestatic 109, 3) := by decide +kernel
theorem dX0_points_43 : decode cX0_points 43 = .ok (.ireturn, 1) := by decide +kernel
theorem dX0_points_44 : decode cX0_points 44 = .ok (.iconst 2, 1) := by decide +kernel
theorem dX0_points_45 : decode cX0_points 45 = .ok (.aload_n 0, 1) := by decide +kernel
theorem dX0_points_46 : decode cX0_points 46 = .ok (.getfield 18, 3) := by decide +kernel
theorem dX0_points_49 : decode cX0_points 49 = .ok (.imul, 1) := by decide +kernel
theorem dX0_points_50 : decode cX0_points 50 = .ok (.iconst 1, 1) := by decide +kernel
theorem dX0_points_51 : decode cX0_points 51 = .ok (.iadd, 1) := by decide +kernel
theorem dX0_points_52 : decode cX0_points 52 = .ok (.ireturn, 1) := by decide +kernel
theorem dX0_points_53 : decode cX0_points 53 = .ok (.iconst 1, 1) := by decide +kernel
theorem dX0_points_54 : decode cX0_points 54 = .ok (.ireturn, 1) := by decide +kernel
theorem dX0_points_55 : decode cX0_points 55 = .ok (.aload_n 0, 1) := by decide +kernel
theorem dX0_points_56 : decode cX0_points 56 = .ok (.getfield 18, 3) := by decide +kernel
theorem dX0_points_59 : decode cX0_points 59 = .ok (.iconst 1, 1) := by decide +kernel
theorem dX0_points_60 : decode cX0_points 60 = .ok (.iadd, 1) := by decide +kernel
theorem dX0_points_61 : decode cX0_points 61 = .ok (.ireturn, 1) := by decide +kernel
theorem dX0_lines_0 : decode cX0_lines 0 = .ok (.aload_n 0, 1) := by decide +kernel
theorem dX0_lines_1 : decode cX0_lines 1 = .ok (.invokevirtual 106, 3) := by decide +kernel
theorem dX0_lines_4 : decode cX0_lines 4 = .ok (.tableswitch 40 0 2 #[28, 36, 38], 28) := by decide +kernel
theorem dX0_lines_32 : decode cX0_lines 32 = .ok (.aload_n 0, 1) := by decide +kernel
theorem dX0_lines_33 : decode cX0_lines 33 = .ok (.getfield 18, 3) := by decide +kernel
theorem dX0_lines_36 : decode cX0_lines 36 = .ok (.invokestatic 109, 3) := by decide +kernel
theorem dX0_lines_39 : decode cX0_lines 39 = .ok (.ireturn, 1) := by decide +kernel
theorem dX0_lines_40 : decode cX0_lines 40 = .ok (.iconst 1, 1) := by decide +kernel
theorem dX0_lines_41 : decode cX0_lines 41 = .ok (.ireturn, 1) := by decide +kernel
theorem dX0_lines_42 : decode cX0_lines 42 = .ok (.iconst 2, 1) := by decide +kernel
theorem dX0_lines_43 : decode cX0_lines 43 = .ok (.ireturn, 1) := by decide +kernel
theorem dX0_lines_44 : decode cX0_lines 44 = .ok (.iconst 0, 1) := by decide +kernel
theorem dX0_lines_45 : decode cX0_lines 45 = .ok (.ireturn, 1) := by decide +kernel
theorem dX0_crossings_0 : decode cX0_crossings 0 = .ok (.aload_n 1, 1) := by decide +kernel
theorem dX0_crossings_1 : decode cX0_crossings 1 = .ok (.getfield 70, 3) := by decide +kernel
theorem dX0_crossings_4 : decode cX0_crossings 4 = .ok (.istore_n 2, 1) := by decide +kernel
theorem dX0_crossings_5 : decode cX0_crossings 5 = .ok (.aload_n 1, 1) := by decide +kernel
theorem dX0_crossings_6 : decode cX0_crossings 6 = .ok (.getfield 73, 3) := by decide +kernel
theorem dX0_crossings_9 : decode cX0_crossings 9 = .ok (.istore_n 3, 1) := by decide +kernel
theorem dX0_crossings_10 : decode cX0_crossings 10 = .ok (.aload_n 1, 1) := by decide +kernel
theorem dX0_crossings_11 : decode cX0_crossings 11 = .ok (.getfield 65, 3) := by decide +kernel
theorem dX0_crossings_14 : decode cX0_crossings 14 = .ok (.ifCond .eq 107, 3) := by decide +kernel
theorem dX0_crossings_17 : decode cX0_crossings 17 = .ok (.aload_n 0, 1) := by decide +kernel
theorem dX0_crossings_18 : decode cX0_crossings 18 = .ok (.aload_n 0, 1) := by decide +kernel
theorem dX0_crossings_19 : decode cX0_crossings 19 = .ok (.getfield 12, 3) := by decide +kernel
theorem dX0_crossings_22 : decode cX0_crossings 22 = .ok (.getfield 44, 3) := by decide +kernel
theorem dX0_crossings_25 : decode cX0_crossings 25 = .ok (.iload_n 2, 1) := by decide +kernel
theorem dX0_crossings_26 : decode cX0_crossings 26 = .ok (.imul, 1) := by decide +kernel
theorem dX0_crossings_27 : decode cX0_crossings 27 = .ok (.iload_n 2, 1) := by decide +kernel
theorem dX0_crossings_28 : decode cX0_crossings 28 = .ok (.imul, 1) := by decide +kernel
theorem dX0_crossings_29 : decode cX0_crossings 29 = .ok (.aload_n 0, 1) := by decide +kernel
theorem dX0_crossings_30 : decode cX0_crossings 30 = .ok (.getfield 12, 3) := by decide +kernel
theorem dX0_crossings_33 : decode cX0_crossings 33 = .ok (.getfield 35, 3) := by decide +kernel
theorem dX0_crossings_36 : decode cX0_crossings 36 = .ok (.iadd, 1) := by decide +kernel
theorem dX0_crossings_37 : decode cX0_crossings 37 = .ok (.aload_n 0, 1) := by decide +kernel
theorem dX0_crossings_38 : decode cX0_crossings 38 = .ok (.getfield 12, 3) := by decide +kernel
theorem dX0_crossings_41 : decode cX0_crossings 41 = .ok (.getfield 50, 3) := by decide +kernel
theorem dX0_crossings_44 : decode cX0_crossings 44 = .ok (.iload_n 2, 1) := by decide +kernel
theorem dX0_crossings_45 : decode cX0_crossings 45 = .ok (.imul, 1) := by decide +kernel
theorem dX0_crossings_46 : decode cX0_crossings 46 = .ok (.isub, 1) := by decide +kernel
theorem dX0_crossings_47 : decode cX0_crossings 47 = .ok (.iconst 2, 1) := by decide +kernel
theorem dX0_crossings_48 : decode cX0_crossings 48 = .ok (.aload_n 0, 1) := by decide +kernel
theorem dX0_crossings_49 : decode cX0_crossings 49 = .ok (.getfield 12, 3) := by decide +kernel
theorem dX0_crossings_52 : decode cX0_crossings 52 = .ok (.getfield 44, 3) := by decide +kernel
theorem dX0_crossings_55 : decode cX0_crossings 55 = .ok (.imul, 1) := by decide +kernel
theorem dX0_crossings_56 : decode cX0_crossings 56 = .ok (.iload_n 2, 1) := by decide +kernel
theorem dX0_crossings_57 : decode cX0_crossings 57 = .ok (.imul, 1) := by decide +kernel
theorem dX0_crossings_58 : decode cX0_crossings 58 = .ok (.iload_n 3, 1) := by decide +kernel
theorem dX0_crossings_59 : decode cX0_crossings 59 = .ok (.imul, 1) := by decide +kernel
theorem dX0_crossings_60 : decode cX0_crossings 60 = .ok (.aload_n 0, 1) := by decide +kernel
theorem dX0_crossings_61 : decode cX0_crossings 61 = .ok (.getfield 12, 3) := by decide +kernel
theorem dX0_crossings_64 : decode cX0_crossings 64 = .ok (.getfield 41, 3) := by decide +kernel
theorem dX0_crossings_67 : decode cX0_crossings 67 = .ok (.iadd, 1) := by decide +kernel
theorem dX0_crossings_68 : decode cX0_crossings 68 = .ok (.aload_n 0, 1) := by decide +kernel
theorem dX0_crossings_69 : decode cX0_crossings 69 = .ok (.getfield 12, 3) := by decide +kernel
theorem dX0_crossings_72 : decode cX0_crossings 72 = .ok (.getfield 47, 3) := by decide +kernel
theorem dX0_crossings_75 : decode cX0_crossings 75 = .ok (.iload_n 2, 1) := by decide +kernel
theorem dX0_crossings_76 : decode cX0_crossings 76 = .ok (.imul, 1) := by decide +kernel
theorem dX0_crossings_77 : decode cX0_crossings 77 = .ok (.isub, 1) := by decide +kernel
theorem dX0_crossings_78 : decode cX0_crossings 78 = .ok (.aload_n 0, 1) := by decide +kernel
theorem dX0_crossings_79 : decode cX0_crossings 79 = .ok (.getfield 12, 3) := by decide +kernel
theorem dX0_crossings_82 : decode cX0_crossings 82 = .ok (.getfield 50, 3) := by decide +kernel
theorem dX0_crossings_85 : decode cX0_crossings 85 = .ok (.iload_n 3, 1) := by decide +kernel
theorem dX0_crossings_86 : decode cX0_crossings 86 = .ok (.imul, 1) := by decide +kernel
theorem dX0_crossings_87 : decode cX0_crossings 87 = .ok (.isub, 1) := by decide +kernel
theorem dX0_crossings_88 : decode cX0_crossings 88 = .ok (.aload_n 0, 1) := by decide +kernel
theorem dX0_crossings_89 : decode cX0_crossings 89 = .ok (.getfield 12, 3) := by decide +kernel
theorem dX0_crossings_92 : decode cX0_crossings 92 = .ok (.getfield 44, 3) := by decide +kernel
theorem dX0_crossings_95 : decode cX0_crossings 95 = .ok (.iload_n 3, 1) := by decide +kernel
theorem dX0_crossings_96 : decode cX0_crossings 96 = .ok (.imul, 1) := by decide +kernel
theorem dX0_crossings_97 : decode cX0_crossings 97 = .ok (.iload_n 3, 1) := by decide +kernel
theorem dX0_crossings_98 : decode cX0_crossings 98 = .ok (.imul, 1) := by decide +kernel
theorem dX0_crossings_99 : decode cX0_crossings 99 = .ok (.aload_n 0, 1) := by decide +kernel
theorem dX0_crossings_100 : decode cX0_crossings 100 = .ok (.getfield 12, 3) := by decide +kernel
theorem dX0_crossings_103 : decode cX0_crossings 103 = .ok (.getfield 38, 3) := by decide +kernel
theorem dX0_crossings_106 : decode cX0_crossings 106 = .ok (.iadd, 1) := by decide +kernel
theorem dX0_crossings_107 : decode cX0_crossings 107 = .ok (.aload_n 0, 1) := by decide +kernel
theorem dX0_crossings_108 : decode cX0_crossings 108 = .ok (.getfield 12, 3) := by decide +kernel
theorem dX0_crossings_111 : decode cX0_crossings 111 = .ok (.getfield 47, 3) := by decide +kernel
theorem dX0_crossings_114 : decode cX0_crossings 114 = .ok (.iload_n 3, 1) := by decide +kernel
theorem dX0_crossings_115 : decode cX0_crossings 115 = .ok (.imul, 1) := by decide +kernel
theorem dX0_crossings_116 : decode cX0_crossings 116 = .ok (.isub, 1) := by decide +kernel
theorem dX0_crossings_117 : decode cX0_crossings 117 = .ok (.invokevirtual 113, 3) := by decide +kernel
theorem dX0_crossings_120 : decode cX0_crossings 120 = .ok (.ireturn, 1) := by decide +kernel
theorem dX0_crossings_121 : decode cX0_crossings 121 = .ok (.iload_n 2, 1) := by decide +kernel
theorem dX0_crossings_122 : decode cX0_crossings 122 = .ok (.ifCond .eq 61, 3) := by decide +kernel
theorem dX0_crossings_125 : decode cX0_crossings 125 = .ok (.aload_n 0, 1) := by decide +kernel
theorem dX0_crossings_126 : decode cX0_crossings 126 = .ok (.aload_n 0, 1) := by decide +kernel
theorem dX0_crossings_127 : decode cX0_crossings 127 = .ok (.getfield 12, 3) := by decide +kernel
theorem dX0_crossings_130 : decode cX0_crossings 130 = .ok (.getfield 44, 3) := by decide +kernel
theorem dX0_crossings_133 : decode cX0_crossings 133 = .ok (.aload_n 0, 1) := by decide +kernel
theorem dX0_crossings_134 : decode cX0_crossings 134 = .ok (.getfield 12, 3) := by decide +kernel
theorem dX0_crossings_137 : decode cX0_crossings 137 = .ok (.getfield 47, 3) := by decide +kernel
theorem dX0_crossings_140 : decode cX0_crossings 140 = .ok (.aload_n 0, 1) := by decide +kernel
theorem dX0_crossings_141 : decode cX0_crossings 141 = .ok (.getfield 12, 3) := by decide +kernel
theorem dX0_crossings_144 : decode cX0_crossings 144 = .ok (.getfield 50, 3) := by decide +kernel
theorem dX0_crossings_147 : decode cX0_crossings 147 = .ok (.iload_n 3, 1) := by decide +kernel
theorem dX0_crossings_148 : decode cX0_crossings 148 = .ok (.imul, 1) := by decide +kernel
theorem dX0_crossings_149 : decode cX0_crossings 149 = .ok (.isub, 1) := by decide +kernel
theorem dX0_crossings_150 : decode cX0_crossings 150 = .ok (.aload_n 0, 1) := by decide +kernel
theorem dX0_crossings_151 : decode cX0_crossings 151 = .ok (.getfield 12, 3) := by decide +kernel
theorem dX0_crossings_154 : decode cX0_crossings 154 = .ok (.getfield 35, 3) := by decide +kernel
theorem dX0_crossings_157 : decode cX0_crossings 157 = .ok (.iload_n 3, 1) := by decide +kernel
theorem dX0_crossings_158 : decode cX0_crossings 158 = .ok (.imul, 1) := by decide +kernel
theorem dX0_crossings_159 : decode cX0_crossings 159 = .ok (.iload_n 3, 1) := by decide +kernel
theorem dX0_crossings_160 : decode cX0_crossings 160 = .ok (.imul, 1) := by decide +kernel
theorem dX0_crossings_161 : decode cX0_crossings 161 = .ok (.aload_n 0, 1) := by decide +kernel
theorem dX0_crossings_162 : decode cX0_crossings 162 = .ok (.getfield 12, 3) := by decide +kernel
theorem dX0_crossings_165 : decode cX0_crossings 165 = .ok (.getfield 38, 3) := by decide +kernel
theorem dX0_crossings_168 : decode cX0_crossings 168 = .ok (.iadd, 1) := by decide +kernel
theorem dX0_crossings_169 : decode cX0_crossings 169 = .ok (.aload_n 0, 1) := by decide +kernel
theorem dX0_crossings_170 : decode cX0_crossings 170 = .ok (.getfield 12, 3) := by decide +kernel
theorem dX0_crossings_173 : decode cX0_crossings 173 = .ok (.getfield 41, 3) := by decide +kernel
theorem dX0_crossings_176 : decode cX0_crossings 176 = .ok (.iload_n 3, 1) := by decide +kernel
theorem dX0_crossings_177 : decode cX0_crossings 177 = .ok (.imul, 1) := by decide +kernel
theorem dX0_crossings_178 : decode cX0_crossings 178 = .ok (.isub, 1) := by decide +kernel
theorem dX0_crossings_179 : decode cX0_crossings 179 = .ok (.invokevirtual 113, 3) := by decide +kernel
theorem dX0_crossings_182 : decode cX0_crossings 182 = .ok (.ireturn, 1) := by decide +kernel
theorem dX0_crossings_183 : decode cX0_crossings 183 = .ok (.aload_n 0, 1) := by decide +kernel
theorem dX0_crossings_184 : decode cX0_crossings 184 = .ok (.aload_n 0, 1) := by decide +kernel
theorem dX0_crossings_185 : decode cX0_crossings 185 = .ok (.getfield 12, 3) := by decide +kernel
theorem dX0_crossings_188 : decode cX0_crossings 188 = .ok (.getfield 44, 3) := by decide +kernel
theorem dX0_crossings_191 : decode cX0_crossings 191 = .ok (.aload_n 0, 1) := by decide +kernel
theorem dX0_crossings_192 : decode cX0_crossings 192 = .ok (.getfield 12, 3) := by decide +kernel
theorem dX0_crossings_195 : decode cX0_crossings 195 = .ok (.getfield 50, 3) := by decide +kernel
theorem dX0_crossings_198 : decode cX0_crossings 198 = .ok (.aload_n 0, 1) := by decide +kernel
theorem dX0_crossings_199 : decode cX0_crossings 199 = .ok (.getfield 12, 3) := by decide +kernel
theorem dX0_crossings_202 : decode cX0_crossings 202 = .ok (.getfield 35, 3) := by decide +kernel
theorem dX0_crossings_205 : decode cX0_crossings 205 = .ok (.invokevirtual 113, 3) := by decide +kernel
theorem dX0_crossings_208 : decode cX0_crossings 208 = .ok (.ireturn, 1) := by decide +kernel
theorem dX0_zeros_0 : decode cX0_zeros 0 = .ok (.iload_n 1, 1) := by decide +kernel
theorem dX0_zeros_1 : decode cX0_zeros 1 = .ok (.aload_n 0, 1) := by decide +kernel
theorem dX0_zeros_2 : decode cX0_zeros 2 = .ok (.getfield 18, 3) := by decide +kernel
theorem dX0_zeros_5 : decode cX0_zeros 5 = .ok (.invokestatic 76, 3) := by decide +kernel
theorem dX0_zeros_8 : decode cX0_zeros 8 = .ok (.istore 4, 2) := by decide +kernel
theorem dX0_zeros_10 : decode cX0_zeros 10 = .ok (.iload_n 2, 1) := by decide +kernel
theorem dX0_zeros_11 : decode cX0_zeros 11 = .ok (.aload_n 0, 1) := by decide +kernel
theorem dX0_zeros_12 : decode cX0_zeros 12 = .ok (.getfield 18, 3) := by decide +kernel
theorem dX0_zeros_15 : decode cX0_zeros 15 = .ok (.invokestatic 76, 3) := by decide +kernel
theorem dX0_zeros_18 : decode cX0_zeros 18 = .ok (.istore 5, 2) := by decide +kernel
theorem dX0_zeros_20 : decode cX0_zeros 20 = .ok (.iload_n 3, 1) := by decide +kernel
theorem dX0_zeros_21 : decode cX0_zeros 21 = .ok (.aload_n 0, 1) := by decide +kernel
theorem dX0_zeros_22 : decode cX0_zeros 22 = .ok (.getfield 18, 3) := by decide +kernel
theorem dX0_zeros_25 : decode cX0_zeros 25 = .ok (.invokestatic 76, 3) := by decide +kernel
theorem dX0_zeros_28 : decode cX0_zeros 28 = .ok (.istore 6, 2) := by decide +kernel
theorem dX0_zeros_30 : decode cX0_zeros 30 = .ok (.iload 4, 2) := by decide +kernel
theorem dX0_zeros_32 : decode cX0_zeros 32 = .ok (.ifCond .ne 20, 3) := by decide +kernel
theorem dX0_zeros_35 : decode cX0_zeros 35 = .ok (.iload 5, 2) := by decide +kernel
theorem dX0_zeros_37 : decode cX0_zeros 37 = .ok (.ifCond .ne 15, 3) := by decide +kernel
theorem dX0_zeros_40 : decode cX0_zeros 40 = .ok (.iload 6, 2) := by decide +kernel
theorem dX0_zeros_42 : decode cX0_zeros 42 = .ok (.ifCond .ne 10, 3) := by decide +kernel
theorem dX0_zeros_45 : decode cX0_zeros 45 = .ok (.aload_n 0, 1) := by decide +kernel
theorem dX0_zeros_46 : decode cX0_zeros 46 = .ok (.getfield 18, 3) := by decide +kernel
theorem dX0_zeros_49 : decode cX0_zeros 49 = .ok (.iconst 1, 1) := by decide +kernel
theorem dX0_zeros_50 : decode cX0_zeros 50 = .ok (.iadd, 1) := by decide +kernel
theorem dX0_zeros_51 : decode cX0_zeros 51 = .ok (.ireturn, 1) := by decide +kernel
theorem dX0_zeros_52 : decode cX0_zeros 52 = .ok (.iload 5, 2) := by decide +kernel
theorem dX0_zeros_54 : decode cX0_zeros 54 = .ok (.iload 5, 2) := by decide +kernel
theorem dX0_zeros_56 : decode cX0_zeros 56 = .ok (.imul, 1) := by decide +kernel
theorem dX0_zeros_57 : decode cX0_zeros 57 = .ok (.iconst 4, 1) := by decide +kernel
theorem dX0_zeros_58 : decode cX0_zeros 58 = .ok (.iload 4, 2) := by decide +kernel
theorem dX0_zeros_60 : decode cX0_zeros 60 = .ok (.imul, 1) := by decide +kernel
theorem dX0_zeros_61 : decode cX0_zeros 61 = .ok (.iload 6, 2) := by decide +kernel
theorem dX0_zeros_63 : decode cX0_zeros 63 = .ok (.imul, 1) := by decide +kernel
theorem dX0_zeros_64 : decode cX0_zeros 64 = .ok (.isub, 1) := by decide +kernel
theorem dX0_zeros_65 : decode cX0_zeros 65 = .ok (.aload_n 0, 1) := by decide +kernel
theorem dX0_zeros_66 : decode cX0_zeros 66 = .ok (.getfield 18, 3) := by decide +kernel
theorem dX0_zeros_69 : decode cX0_zeros 69 = .ok (.invokestatic 76, 3) := by decide +kernel
theorem dX0_zeros_72 : decode cX0_zeros 72 = .ok (.istore 7, 2) := by decide +kernel
theorem dX0_zeros_74 : decode cX0_zeros 74 = .ok (.iload 7, 2) := by decide +kernel
theorem dX0_zeros_76 : decode cX0_zeros 76 = .ok (.ifCond .ne 5, 3) := by decide +kernel
theorem dX0_zeros_79 : decode cX0_zeros 79 = .ok (.iconst 1, 1) := by decide +kernel
theorem dX0_zeros_80 : decode cX0_zeros 80 = .ok (.ireturn, 1) := by decide +kernel
theorem dX0_zeros_81 : decode cX0_zeros 81 = .ok (.iload 7, 2) := by decide +kernel
theorem dX0_zeros_83 : decode cX0_zeros 83 = .ok (.aload_n 0, 1) := by decide +kernel
theorem dX0_zeros_84 : decode cX0_zeros 84 = .ok (.getfield 18, 3) := by decide +kernel
theorem dX0_zeros_87 : decode cX0_zeros 87 = .ok (.invokestatic 99, 3) := by decide +kernel
theorem dX0_zeros_90 : decode cX0_zeros 90 = .ok (.ifCond .eq 7, 3) := by decide +kernel
theorem dX0_zeros_93 : decode cX0_zeros 93 = .ok (.iconst 2, 1) := by decide +kernel
theorem dX0_zeros_94 : decode cX0_zeros 94 = .ok (.goto 4, 3) := by decide +kernel
theorem dX0_zeros_97 : decode cX0_zeros 97 = .ok (.iconst 0, 1) := by decide +kernel
theorem dX0_zeros_98 : decode cX0_zeros 98 = .ok (.ireturn, 1) := by decide +kernel
theorem dX0_isUnlike_0 : decode cX0_isUnlike 0 = .ok (.iconst 0, 1) := by decide +kernel
theorem dX0_isUnlike_1 : decode cX0_isUnlike 1 = .ok (.istore_n 2, 1) := by decide +kernel
theorem dX0_isUnlike_2 : decode cX0_isUnlike 2 = .ok (.iload_n 2, 1) := by decide +kernel
theorem dX0_isUnlike_3 : decode cX0_isUnlike 3 = .ok (.bipush 6, 2) := by decide +kernel
theorem dX0_isUnlike_5 : decode cX0_isUnlike 5 = .ok (.if_icmp .ge 76, 3) := by decide +kernel
theorem dX0_isUnlike_8 : decode cX0_isUnlike 8 = .ok (.iload_n 2, 1) := by decide +kernel
theorem dX0_isUnlike_9 : decode cX0_isUnlike 9 = .ok (.iconst 1, 1) := by decide +kernel
theorem dX0_isUnlike_10 : decode cX0_isUnlike 10 = .ok (.iadd, 1) := by decide +kernel
theorem dX0_isUnlike_11 : decode cX0_isUnlike 11 = .ok (.istore_n 3, 1) := by decide +kernel
theorem dX0_isUnlike_12 : decode cX0_isUnlike 12 = .ok (.iload_n 3, 1) := by decide +kernel
theorem dX0_isUnlike_13 : decode cX0_isUnlike 13 = .ok (.bipush 6, 2) := by decide +kernel
theorem dX0_isUnlike_15 : decode cX0_isUnlike 15 = .ok (.if_icmp .ge 60, 3) := by decide +kernel
theorem dX0_isUnlike_18 : decode cX0_isUnlike 18 = .ok (.aload_n 0, 1) := by decide +kernel
theorem dX0_isUnlike_19 : decode cX0_isUnlike 19 = .ok (.getfield 12, 3) := by decide +kernel
theorem dX0_isUnlike_22 : decode cX0_isUnlike 22 = .ok (.iload_n 2, 1) := by decide +kernel
theorem dX0_isUnlike_23 : decode cX0_isUnlike 23 = .ok (.invokevirtual 117, 3) := by decide +kernel
theorem dX0_isUnlike_26 : decode cX0_isUnlike 26 = .ok (.aload_n 1, 1) := by decide +kernel
theorem dX0_isUnlike_27 : decode cX0_isUnlike 27 = .ok (.getfield 12, 3) := by decide +kernel
theorem dX0_isUnlike_30 : decode cX0_isUnlike 30 = .ok (.iload_n 3, 1) := by decide +kernel
theorem dX0_isUnlike_31 : decode cX0_isUnlike 31 = .ok (.invokevirtual 117, 3) := by decide +kernel
theorem dX0_isUnlike_34 : decode cX0_isUnlike 34 = .ok (.imul, 1) := by decide +kernel
theorem dX0_isUnlike_35 : decode cX0_isUnlike 35 = .ok (.aload_n 0, 1) := by decide +kernel
theorem dX0_isUnlike_36 : decode cX0_isUnlike 36 = .ok (.getfield 12, 3) := by decide +kernel
theorem dX0_isUnlike_39 : decode cX0_isUnlike 39 = .ok (.iload_n 3, 1) := by decide +kernel
theorem dX0_isUnlike_40 : decode cX0_isUnlike 40 = .ok (.invokevirtual 117, 3) := by decide +kernel
theorem dX0_isUnlike_43 : decode cX0_isUnlike 43 = .ok (.aload_n 1, 1) := by decide +kernel
theorem dX0_isUnlike_44 : decode cX0_isUnlike 44 = .ok (.getfield 12, 3) := by decide +kernel
theorem dX0_isUnlike_47 : decode cX0_isUnlike 47 = .ok (.iload_n 2, 1) := by decide +kernel
theorem dX0_isUnlike_48 : decode cX0_isUnlike 48 = .ok (.invokevirtual 117, 3) := by decide +kernel
theorem dX0_isUnlike_51 : decode cX0_isUnlike 51 = .ok (.imul, 1) := by decide +kernel
theorem dX0_isUnlike_52 : decode cX0_isUnlike 52 = .ok (.isub, 1) := by decide +kernel
theorem dX0_isUnlike_53 : decode cX0_isUnlike 53 = .ok (.istore 4, 2) := by decide +kernel
theorem dX0_isUnlike_55 : decode cX0_isUnlike 55 = .ok (.iload 4, 2) := by decide +kernel
theorem dX0_isUnlike_57 : decode cX0_isUnlike 57 = .ok (.aload_n 0, 1) := by decide +kernel
theorem dX0_isUnlike_58 : decode cX0_isUnlike 58 = .ok (.getfield 18, 3) := by decide +kernel
theorem dX0_isUnlike_61 : decode cX0_isUnlike 61 = .ok (.invokestatic 76, 3) := by decide +kernel
theorem dX0_isUnlike_64 : decode cX0_isUnlike 64 = .ok (.ifCond .eq 5, 3) := by decide +kernel
theorem dX0_isUnlike_67 : decode cX0_isUnlike 67 = .ok (.iconst 1, 1) := by decide +kernel
theorem dX0_isUnlike_68 : decode cX0_isUnlike 68 = .ok (.ireturn, 1) := by decide +kernel
theorem dX0_isUnlike_69 : decode cX0_isUnlike 69 = .ok (.iinc 3 1, 3) := by decide +kernel
theorem dX0_isUnlike_72 : decode cX0_isUnlike 72 = .ok (.goto (-60), 3) := by decide +kernel
theorem dX0_isUnlike_75 : decode cX0_isUnlike 75 = .ok (.iinc 2 1, 3) := by decide +kernel
theorem dX0_isUnlike_78 : decode cX0_isUnlike 78 = .ok (.goto (-76), 3) := by decide +kernel
theorem dX0_isUnlike_81 : decode cX0_isUnlike 81 = .ok (.iconst 0, 1) := by decide +kernel
theorem dX0_isUnlike_82 : decode cX0_isUnlike 82 = .ok (.ireturn, 1) := by decide +kernel
theorem dX1_init_0 : decode cX1_init 0 = .ok (.aload_n 0, 1) := by decide +kernel
theorem dX1_init_1 : decode cX1_init 1 = .ok (.invokespecial 3, 3) := by decide +kernel
theorem dX1_init_4 : decode cX1_init 4 = .ok (.aload_n 0, 1) := by decide +kernel
theorem dX1_init_5 : decode cX1_init 5 = .ok (.bipush 6, 2) := by decide +kernel
theorem dX1_init_7 : decode cX1_init 7 = .ok (.anewarray 9, 3) := by decide +kernel
theorem dX1_init_10 : decode cX1_init 10 = .ok (.putfield 11, 3) := by decide +kernel
theorem dX1_init_13 : decode cX1_init 13 = .ok (.aload_n 0, 1) := by decide +kernel
theorem dX1_init_14 : decode cX1_init 14 = .ok (.new 17, 3) := by decide +kernel
theorem dX1_init_17 : decode cX1_init 17 = .ok (.dup, 1) := by decide +kernel
theorem dX1_init_18 : decode cX1_init 18 = .ok (.invokespecial 19, 3) := by decide +kernel
theorem dX1_init_21 : decode cX1_init 21 = .ok (.putfield 20, 3) := by decide +kernel
theorem dX1_init_24 : decode cX1_init 24 = .ok (.aload_n 0, 1) := by decide +kernel
theorem dX1_init_25 : decode cX1_init 25 = .ok (.bipush 6, 2) := by decide +kernel
theorem dX1_init_27 : decode cX1_init 27 = .ok (.putfield 24, 3) := by decide +kernel
theorem dX1_init_30 : decode cX1_init 30 = .ok (.iconst 0, 1) := by decide +kernel
theorem dX1_init_31 : decode cX1_init 31 = .ok (.istore_n 1, 1) := by decide +kernel
theorem dX1_init_32 : decode cX1_init 32 = .ok (.iload_n 1, 1) := by decide +kernel
theorem dX1_init_33 : decode cX1_init 33 = .ok (.bipush 6, 2) := by decide +kernel
theorem dX1_init_35 : decode cX1_init 35 = .ok (.if_icmp .ge 22, 3) := by decide +kernel
theorem dX1_init_38 : decode cX1_init 38 = .ok (.aload_n 0, 1) := by decide +kernel
theorem dX1_init_39 : decode cX1_init 39 = .ok (.getfield 11, 3) := by decide +kernel
theorem dX1_init_42 : decode cX1_init 42 = .ok (.iload_n 1, 1) := by decide +kernel
theorem dX1_init_43 : decode cX1_init 43 = .ok (.new 9, 3) := by decide +kernel
theorem dX1_init_46 : decode cX1_init 46 = .ok (.dup, 1) := by decide +kernel
theorem dX1_init_47 : decode cX1_init 47 = .ok (.invokespecial 28, 3) := by decide +kernel
theorem dX1_init_50 : decode cX1_init 50 = .ok (.aastore, 1) := by decide +kernel
theorem dX1_init_51 : decode cX1_init 51 = .ok (.iinc 1 1, 3) := by decide +kernel
theorem dX1_init_54 : decode cX1_init 54 = .ok (.goto (-22), 3) := by decide +kernel
theorem dX1_init_57 : decode cX1_init 57 = .ok (.return_, 1) := by decide +kernel
theorem dX1_gather_0 : decode cX1_gather 0 = .ok (.aload_n 0, 1) := by decide +kernel
theorem dX1_gather_1 : decode cX1_gather 1 = .ok (.bipush 6, 2) := by decide +kernel
theorem dX1_gather_3 : decode cX1_gather 3 = .ok (.putfield 24, 3) := by decide +kernel
theorem dX1_gather_6 : decode cX1_gather 6 = .ok (.iconst 0, 1) := by decide +kernel
theorem dX1_gather_7 : decode cX1_gather 7 = .ok (.istore_n 2, 1) := by decide +kernel
theorem dX1_gather_8 : decode cX1_gather 8 = .ok (.iload_n 2, 1) := by decide +kernel
theorem dX1_gather_9 : decode cX1_gather 9 = .ok (.bipush 6, 2) := by decide +kernel
theorem dX1_gather_11 : decode cX1_gather 11 = .ok (.if_icmp .ge 54, 3) := by decide +kernel
theorem dX1_gather_14 : decode cX1_gather 14 = .ok (.aload_n 0, 1) := by decide +kernel
theorem dX1_gather_15 : decode cX1_gather 15 = .ok (.getfield 11, 3) := by decide +kernel
theorem dX1_gather_18 : decode cX1_gather 18 = .ok (.iload_n 2, 1) := by decide +kernel
theorem dX1_gather_19 : decode cX1_gather 19 = .ok (.aaload, 1) := by decide +kernel
theorem dX1_gather_20 : decode cX1_gather 20 = .ok (.aload_n 1, 1) := by decide +kernel
theorem dX1_gather_21 : decode cX1_gather 21 = .ok (.getfield 29, 3) := by decide +kernel
theorem dX1_gather_24 : decode cX1_gather 24 = .ok (.putfield 34, 3) := by decide +kernel
theorem dX1_gather_27 : decode cX1_gather 27 = .ok (.aload_n 0, 1) := by decide +kernel
theorem dX1_gather_28 : decode cX1_gather 28 = .ok (.getfield 11, 3) := by decide +kernel
theorem dX1_gather_31 : decode cX1_gather 31 = .ok (.iload_n 2, 1) := by decide +kernel
theorem dX1_gather_32 : decode cX1_gather 32 = .ok (.aaload, 1) := by decide +kernel
theorem dX1_gather_33 : decode cX1_gather 33 = .ok (.getfield 37, 3) := by decide +kernel
theorem dX1_gather_36 : decode cX1_gather 36 = .ok (.iconst 0, 1) := by decide +kernel
theorem dX1_gather_37 : decode cX1_gather 37 = .ok (.iconst 0, 1) := by decide +kernel
theorem dX1_gather_38 : decode cX1_gather 38 = .ok (.iconst 0, 1) := by decide +kernel
theorem dX1_gather_39 : decode cX1_gather 39 = .ok (.iconst 0, 1) := by decide +kernel
theorem dX1_gather_40 : decode cX1_gather 40 = .ok (.iconst 0, 1) := by decide +kernel
theorem dX1_gather_41 : decode cX1_gather 41 = .ok (.iconst 0, 1) := by decide +kernel
theorem dX1_gather_42 : decode cX1_gather 42 = .ok (.invokevirtual 41, 3) := by decide +kernel
theorem dX1_gather_45 : decode cX1_gather 45 = .ok (.aload_n 0, 1) := by decide +kernel
theorem dX1_gather_46 : decode cX1_gather 46 = .ok (.getfield 11, 3) := by decide +kernel
theorem dX1_gather_49 : decode cX1_gather 49 = .ok (.iload_n 2, 1) := by decide +kernel
theorem dX1_gather_50 : decode cX1_gather 50 = .ok (.aaload, 1) := by decide +kernel
theorem dX1_gather_51 : decode cX1_gather 51 = .ok (.getfield 37, 3) := by decide +kernel
theorem dX1_gather_54 : decode cX1_gather 54 = .ok (.iload_n 2, 1) := by decide +kernel
theorem dX1_gather_55 : decode cX1_gather 55 = .ok (.iconst 1, 1) := by decide +kernel
theorem dX1_gather_56 : decode cX1_gather 56 = .ok (.invokevirtual 47, 3) := by decide +kernel
theorem dX1_gather_59 : decode cX1_gather 59 = .ok (.iinc 2 1, 3) := by decide +kernel
theorem dX1_gather_62 : decode cX1_gather 62 = .ok (.goto (-54), 3) := by decide +kernel
theorem dX1_gather_65 : decode cX1_gather 65 = .ok (.iconst 0, 1) := by decide +kernel
theorem dX1_gather_66 : decode cX1_gather 66 = .ok (.istore_n 2, 1) := by decide +kernel
theorem dX1_gather_67 : decode cX1_gather 67 = .ok (.iload_n 2, 1) := by decide +kernel
theorem dX1_gather_68 : decode cX1_gather 68 = .ok (.aload_n 1, 1) := by decide +kernel
theorem dX1_gather_69 : decode cX1_gather 69 = .ok (.getfield 51, 3) := by decide +kernel
theorem dX1_gather_72 : decode cX1_gather 72 = .ok (.if_icmp .ge 32, 3) := by decide +kernel
theorem dX1_gather_75 : decode cX1_gather 75 = .ok (.aload_n 0, 1) := by decide +kernel
theorem dX1_gather_76 : decode cX1_gather 76 = .ok (.getfield 20, 3) := by decide +kernel
theorem dX1_gather_79 : decode cX1_gather 79 = .ok (.aload_n 1, 1) := by decide +kernel
theorem dX1_gather_80 : decode cX1_gather 80 = .ok (.iload_n 2, 1) := by decide +kernel
theorem dX1_gather_81 : decode cX1_gather 81 = .ok (.invokevirtual 54, 3) := by decide +kernel
theorem dX1_gather_84 : decode cX1_gather 84 = .ok (.aload_n 1, 1) := by decide +kernel
theorem dX1_gather_85 : decode cX1_gather 85 = .ok (.getfield 29, 3) := by decide +kernel
theorem dX1_gather_88 : decode cX1_gather 88 = .ok (.invokevirtual 58, 3) := by decide +kernel
theorem dX1_gather_91 : decode cX1_gather 91 = .ok (.ifCond .eq 7, 3) := by decide +kernel
theorem dX1_gather_94 : decode cX1_gather 94 = .ok (.aload_n 0, 1) := by decide +kernel
theorem dX1_gather_95 : decode cX1_gather 95 = .ok (.invokevirtual 62, 3) := by decide +kernel
theorem dX1_gather_98 : decode cX1_gather 98 = .ok (.iinc 2 1, 3) := by decide +kernel
theorem dX1_gather_101 : decode cX1_gather 101 = .ok (.goto (-34), 3) := by decide +kernel
theorem dX1_gather_104 : decode cX1_gather 104 = .ok (.return_, 1) := by decide +kernel
theorem dX1_isLessBy_0 : decode cX1_isLessBy 0 = .ok (.aload_n 0, 1) := by decide +kernel
theorem dX1_isLessBy_1 : decode cX1_isLessBy 1 = .ok (.aload_n 1, 1) := by decide +kernel
theorem dX1_isLessBy_2 : decode cX1_isLessBy 2 = .ok (.invokevirtual 65, 3) := by decide +kernel
theorem dX1_isLessBy_5 : decode cX1_isLessBy 5 = .ok (.iconst (-1), 1) := by decide +kernel
theorem dX1_isLessBy_6 : decode cX1_isLessBy 6 = .ok (.if_icmp .eq 7, 3) := by decide +kernel
theorem dX1_isLessBy_9 : decode cX1_isLessBy 9 = .ok (.iconst 1, 1) := by decide +kernel
theorem dX1_isLessBy_10 : decode cX1_isLessBy 10 = .ok (.goto 4, 3) := by decide +kernel
theorem dX1_isLessBy_13 : decode cX1_isLessBy 13 = .ok (.iconst 0, 1) := by decide +kernel
theorem dX1_isLessBy_14 : decode cX1_isLessBy 14 = .ok (.ireturn, 1) := by decide +kernel
theorem dX1_readOne_0 : decode cX1_readOne 0 = .ok (.aload_n 0, 1) := by decide +kernel
theorem dX1_readOne_1 : decode cX1_readOne 1 = .ok (.getfield 11, 3) := by decide +kernel
theorem dX1_readOne_4 : decode cX1_readOne 4 = .ok (.iconst 0, 1) := by decide +kernel
theorem dX1_readOne_5 : decode cX1_readOne 5 = .ok (.aaload, 1) := by decide +kernel
theorem dX1_readOne_6 : decode cX1_readOne 6 = .ok (.getfield 37, 3) := by decide +kernel
theorem dX1_readOne_9 : decode cX1_readOne 9 = .ok (.astore_n 2, 1) := by decide +kernel
theorem dX1_readOne_10 : decode cX1_readOne 10 = .ok (.aload_n 0, 1) := by decide +kernel
theorem dX1_readOne_11 : decode cX1_readOne 11 = .ok (.getfield 11, 3) := by decide +kernel
theorem dX1_readOne_14 : decode cX1_readOne 14 = .ok (.iconst 0, 1) := by decide +kernel
theorem dX1_readOne_15 : decode cX1_readOne 15 = .ok (.aaload, 1) := by decide +kernel
theorem dX1_readOne_16 : decode cX1_readOne 16 = .ok (.getfield 34, 3) := by decide +kernel
theorem dX1_readOne_19 : decode cX1_readOne 19 = .ok (.istore_n 3, 1) := by decide +kernel
theorem dX1_readOne_20 : decode cX1_readOne 20 = .ok (.iconst 0, 1) := by decide +kernel
theorem dX1_readOne_21 : decode cX1_readOne 21 = .ok (.istore 4, 2) := by decide +kernel
theorem dX1_readOne_23 : decode cX1_readOne 23 = .ok (.iconst 0, 1) := by decide +kernel
theorem dX1_readOne_24 : decode cX1_readOne 24 = .ok (.istore 5, 2) := by decide +kernel
theorem dX1_readOne_26 : decode cX1_readOne 26 = .ok (.iload 5, 2) := by decide +kernel
theorem dX1_readOne_28 : decode cX1_readOne 28 = .ok (.bipush 6, 2) := by decide +kernel
theorem dX1_readOne_30 : decode cX1_readOne 30 = .ok (.if_icmp .ge 22, 3) := by decide +kernel
theorem dX1_readOne_33 : decode cX1_readOne 33 = .ok (.iload 4, 2) := by decide +kernel
theorem dX1_readOne_35 : decode cX1_readOne 35 = .ok (.ifCond .ne 17, 3) := by decide +kernel
theorem dX1_readOne_38 : decode cX1_readOne 38 = .ok (.aload_n 2, 1) := by decide +kernel
theorem dX1_readOne_39 : decode cX1_readOne 39 = .ok (.iload 5, 2) := by decide +kernel
theorem dX1_readOne_41 : decode cX1_readOne 41 = .ok (.invokevirtual 69, 3) := by decide +kernel
theorem dX1_readOne_44 : decode cX1_readOne 44 = .ok (.istore 4, 2) := by decide +kernel
theorem dX1_readOne_46 : decode cX1_readOne 46 = .ok (.iinc 5 1, 3) := by decide +kernel
theorem dX1_readOne_49 : decode cX1_readOne 49 = .ok (.goto (-23), 3) := by decide +kernel
theorem dX1_readOne_52 : decode cX1_readOne 52 = .ok (.aload_n 1, 1) := by decide +kernel
theorem dX1_readOne_53 : decode cX1_readOne 53 = .ok (.aload_n 2, 1) := by decide +kernel
theorem dX1_readOne_54 : decode cX1_readOne 54 = .ok (.invokevirtual 72, 3) := by decide +kernel
theorem dX1_readOne_57 : decode cX1_readOne 57 = .ok (.aload_n 1, 1) := by decide +kernel
theorem dX1_readOne_58 : decode cX1_readOne 58 = .ok (.iload 4, 2) := by decide +kernel
theorem dX1_readOne_60 : decode cX1_readOne 60 = .ok (.iload_n 3, 1) := by decide +kernel
theorem dX1_readOne_61 : decode cX1_readOne 61 = .ok (.invokestatic 76, 3) := by decide +kernel
theorem dX1_readOne_64 : decode cX1_readOne 64 = .ok (.iconst 0, 1) := by decide +kernel
theorem dX1_readOne_65 : decode cX1_readOne 65 = .ok (.aload_n 2, 1) := by decide +kernel
theorem dX1_readOne_66 : decode cX1_readOne 66 = .ok (.invokevirtual 82, 3) := by decide +kernel
theorem dX1_readOne_69 : decode cX1_readOne 69 = .ok (.aload_n 1, 1) := by decide +kernel
theorem dX1_readOne_70 : decode cX1_readOne 70 = .ok (.iload_n 3, 1) := by decide +kernel
theorem dX1_readOne_71 : decode cX1_readOne 71 = .ok (.invokevirtual 86, 3) := by decide +kernel
theorem dX1_readOne_74 : decode cX1_readOne 74 = .ok (.return_, 1) := by decide +kernel
theorem dX1_firstOff_0 : decode cX1_firstOff 0 = .ok (.iconst 0, 1) := by decide +kernel
theorem dX1_firstOff_1 : decode cX1_firstOff 1 = .ok (.istore_n 2, 1) := by decide +kernel
theorem dX1_firstOff_2 : decode cX1_firstOff 2 = .ok (.iload_n 2, 1) := by decide +kernel
theorem dX1_firstOff_3 : decode cX1_firstOff 3 = .ok (.aload_n 0, 1) := by decide +kernel
theorem dX1_firstOff_4 : decode cX1_firstOff 4 = .ok (.getfield 24, 3) := by decide +kernel
theorem dX1_firstOff_7 : decode cX1_firstOff 7 = .ok (.if_icmp .ge 30, 3) := by decide +kernel
theorem dX1_firstOff_10 : decode cX1_firstOff 10 = .ok (.iload_n 2, 1) := by decide +kernel
theorem dX1_firstOff_11 : decode cX1_firstOff 11 = .ok (.bipush 6, 2) := by decide +kernel
theorem dX1_firstOff_13 : decode cX1_firstOff 13 = .ok (.if_icmp .ge 24, 3) := by decide +kernel
theorem dX1_firstOff_16 : decode cX1_firstOff 16 = .ok (.aload_n 0, 1) := by decide +kernel
theorem dX1_firstOff_17 : decode cX1_firstOff 17 = .ok (.getfield 11, 3) := by decide +kernel
theorem dX1_firstOff_20 : decode cX1_firstOff 20 = .ok (.iload_n 2, 1) := by decide +kernel
theorem dX1_firstOff_21 : decode cX1_firstOff 21 = .ok (.aaload, 1) := by decide +kernel
theorem dX1_firstOff_22 : decode cX1_firstOff 22 = .ok (.aload_n 1, 1) := by decide +kernel
theorem dX1_firstOff_23 : decode cX1_firstOff 23 = .ok (.invokevirtual 90, 3) := by decide +kernel
theorem dX1_firstOff_26 : decode cX1_firstOff 26 = .ok (.ifCond .eq 5, 3) := by decide +kernel
theorem dX1_firstOff_29 : decode cX1_firstOff 29 = .ok (.iload_n 2, 1) := by decide +kernel
theorem dX1_firstOff_30 : decode cX1_firstOff 30 = .ok (.ireturn, 1) := by decide +kernel
theorem dX1_firstOff_31 : decode cX1_firstOff 31 = .ok (.iinc 2 1, 3) := by decide +kernel
theorem dX1_firstOff_34 : decode cX1_firstOff 34 = .ok (.goto (-32), 3) := by decide +kernel
theorem dX1_firstOff_37 : decode cX1_firstOff 37 = .ok (.iconst (-1), 1) := by decide +kernel
theorem dX1_firstOff_38 : decode cX1_firstOff 38 = .ok (.ireturn, 1) := by decide +kernel
theorem dX1_pass_0 : decode cX1_pass 0 = .ok (.aload_n 0, 1) := by decide +kernel
theorem dX1_pass_1 : decode cX1_pass 1 = .ok (.aload_n 0, 1) := by decide +kernel
theorem dX1_pass_2 : decode cX1_pass 2 = .ok (.getfield 20, 3) := by decide +kernel
theorem dX1_pass_5 : decode cX1_pass 5 = .ok (.invokevirtual 65, 3) := by decide +kernel
theorem dX1_pass_8 : decode cX1_pass 8 = .ok (.istore_n 1, 1) := by decide +kernel
theorem dX1_pass_9 : decode cX1_pass 9 = .ok (.iload_n 1, 1) := by decide +kernel
theorem dX1_pass_10 : decode cX1_pass 10 = .ok (.ifCond .lt 20, 3) := by decide +kernel
theorem dX1_pass_13 : decode cX1_pass 13 = .ok (.iload_n 1, 1) := by decide +kernel
theorem dX1_pass_14 : decode cX1_pass 14 = .ok (.aload_n 0, 1) := by decide +kernel
theorem dX1_pass_15 : decode cX1_pass 15 = .ok (.getfield 24, 3) := by decide +kernel
theorem dX1_pass_18 : decode cX1_pass 18 = .ok (.if_icmp .ge 12, 3) := by decide +kernel
theorem dX1_pass_21 : decode cX1_pass 21 = .ok (.aload_n 0, 1) := by decide +kernel
theorem dX1_pass_22 : decode cX1_pass 22 = .ok (.getfield 24, 3) := by decide +kernel
theorem dX1_pass_25 : decode cX1_pass 25 = .ok (.bipush 6, 2) := by decide +kernel
theorem dX1_pass_27 : decode cX1_pass 27 = .ok (.if_icmp .le 4, 3) := by decide +kernel
theorem dX1_pass_30 : decode cX1_pass 30 = .ok (.return_, 1) := by decide +kernel
theorem dX1_pass_31 : decode cX1_pass 31 = .ok (.aload_n 0, 1) := by decide +kernel
theorem dX1_pass_32 : decode cX1_pass 32 = .ok (.dup, 1) := by decide +kernel
theorem dX1_pass_33 : decode cX1_pass 33 = .ok (.getfield 24, 3) := by decide +kernel
theorem dX1_pass_36 : decode cX1_pass 36 = .ok (.iconst 1, 1) := by decide +kernel
theorem dX1_pass_37 : decode cX1_pass 37 = .ok (.isub, 1) := by decide +kernel
theorem dX1_pass_38 : decode cX1_pass 38 = .ok (.putfield 24, 3) := by decide +kernel
theorem dX1_pass_41 : decode cX1_pass 41 = .ok (.aload_n 0, 1) := by decide +kernel
theorem dX1_pass_42 : decode cX1_pass 42 = .ok (.getfield 11, 3) := by decide +kernel
theorem dX1_pass_45 : decode cX1_pass 45 = .ok (.iload_n 1, 1) := by decide +kernel
theorem dX1_pass_46 : decode cX1_pass 46 = .ok (.aaload, 1) := by decide +kernel
theorem dX1_pass_47 : decode cX1_pass 47 = .ok (.astore_n 2, 1) := by decide +kernel
theorem dX1_pass_48 : decode cX1_pass 48 = .ok (.aload_n 0, 1) := by decide +kernel
theorem dX1_pass_49 : decode cX1_pass 49 = .ok (.getfield 11, 3) := by decide +kernel
theorem dX1_pass_52 : decode cX1_pass 52 = .ok (.iload_n 1, 1) := by decide +kernel
theorem dX1_pass_53 : decode cX1_pass 53 = .ok (.aload_n 0, 1) := by decide +kernel
theorem dX1_pass_54 : decode cX1_pass 54 = .ok (.getfield 11, 3) := by decide +kernel
theorem dX1_pass_57 : decode cX1_pass 57 = .ok (.aload_n 0, 1) := by decide +kernel
theorem dX1_pass_58 : decode cX1_pass 58 = .ok (.getfield 24, 3) := by decide +kernel
theorem dX1_pass_61 : decode cX1_pass 61 = .ok (.aaload, 1) := by decide +kernel
theorem dX1_pass_62 : decode cX1_pass 62 = .ok (.aastore, 1) := by decide +kernel
theorem dX1_pass_63 : decode cX1_pass 63 = .ok (.aload_n 0, 1) := by decide +kernel
theorem dX1_pass_64 : decode cX1_pass 64 = .ok (.getfield 11, 3) := by decide +kernel
theorem dX1_pass_67 : decode cX1_pass 67 = .ok (.aload_n 0, 1) := by decide +kernel
theorem dX1_pass_68 : decode cX1_pass 68 = .ok (.getfield 24, 3) := by decide +kernel
theorem dX1_pass_71 : decode cX1_pass 71 = .ok (.aload_n 2, 1) := by decide +kernel
theorem dX1_pass_72 : decode cX1_pass 72 = .ok (.aastore, 1) := by decide +kernel
theorem dX1_pass_73 : decode cX1_pass 73 = .ok (.aload_n 2, 1) := by decide +kernel
theorem dX1_pass_74 : decode cX1_pass 74 = .ok (.aload_n 0, 1) := by decide +kernel
theorem dX1_pass_75 : decode cX1_pass 75 = .ok (.getfield 20, 3) := by decide +kernel
theorem dX1_pass_78 : decode cX1_pass 78 = .ok (.invokevirtual 90, 3) := by decide +kernel
theorem dX1_pass_81 : decode cX1_pass 81 = .ok (.istore_n 3, 1) := by decide +kernel
theorem dX1_pass_82 : decode cX1_pass 82 = .ok (.iconst 0, 1) := by decide +kernel
theorem dX1_pass_83 : decode cX1_pass 83 = .ok (.istore 4, 2) := by decide +kernel
theorem dX1_pass_85 : decode cX1_pass 85 = .ok (.iload 4, 2) := by decide +kernel
theorem dX1_pass_87 : decode cX1_pass 87 = .ok (.aload_n 0, 1) := by decide +kernel
theorem dX1_pass_88 : decode cX1_pass 88 = .ok (.getfield 24, 3) := by decide +kernel
theorem dX1_pass_91 : decode cX1_pass 91 = .ok (.if_icmp .ge 65, 3) := by decide +kernel
theorem dX1_pass_94 : decode cX1_pass 94 = .ok (.aload_n 0, 1) := by decide +kernel
theorem dX1_pass_95 : decode cX1_pass 95 = .ok (.getfield 11, 3) := by decide +kernel
theorem dX1_pass_98 : decode cX1_pass 98 = .ok (.iload 4, 2) := by decide +kernel
theorem dX1_pass_100 : decode cX1_pass 100 = .ok (.aaload, 1) := by decide +kernel
theorem dX1_pass_101 : decode cX1_pass 101 = .ok (.getfield 37, 3) := by decide +kernel
theorem dX1_pass_104 : decode cX1_pass 104 = .ok (.iload_n 3, 1) := by decide +kernel
theorem dX1_pass_105 : decode cX1_pass 105 = .ok (.aload_n 0, 1) := by decide +kernel
theorem dX1_pass_106 : decode cX1_pass 106 = .ok (.getfield 11, 3) := by decide +kernel
theorem dX1_pass_109 : decode cX1_pass 109 = .ok (.iload 4, 2) := by decide +kernel
theorem dX1_pass_111 : decode cX1_pass 111 = .ok (.aaload, 1) := by decide +kernel
theorem dX1_pass_112 : decode cX1_pass 112 = .ok (.aload_n 0, 1) := by decide +kernel
theorem dX1_pass_113 : decode cX1_pass 113 = .ok (.getfield 20, 3) := by decide +kernel
theorem dX1_pass_116 : decode cX1_pass 116 = .ok (.invokevirtual 90, 3) := by decide +kernel
theorem dX1_pass_119 : decode cX1_pass 119 = .ok (.ineg, 1) := by decide +kernel
theorem dX1_pass_120 : decode cX1_pass 120 = .ok (.aload_n 2, 1) := by decide +kernel
theorem dX1_pass_121 : decode cX1_pass 121 = .ok (.getfield 37, 3) := by decide +kernel
theorem dX1_pass_124 : decode cX1_pass 124 = .ok (.invokevirtual 82, 3) := by decide +kernel
theorem dX1_pass_127 : decode cX1_pass 127 = .ok (.aload_n 0, 1) := by decide +kernel
theorem dX1_pass_128 : decode cX1_pass 128 = .ok (.getfield 11, 3) := by decide +kernel
theorem dX1_pass_131 : decode cX1_pass 131 = .ok (.iload 4, 2) := by decide +kernel
theorem dX1_pass_133 : decode cX1_pass 133 = .ok (.aaload, 1) := by decide +kernel
theorem dX1_pass_134 : decode cX1_pass 134 = .ok (.getfield 37, 3) := by decide +kernel
theorem dX1_pass_137 : decode cX1_pass 137 = .ok (.aload_n 0, 1) := by decide +kernel
theorem dX1_pass_138 : decode cX1_pass 138 = .ok (.getfield 11, 3) := by decide +kernel
theorem dX1_pass_141 : decode cX1_pass 141 = .ok (.iload 4, 2) := by decide +kernel
theorem dX1_pass_143 : decode cX1_pass 143 = .ok (.aaload, 1) := by decide +kernel
theorem dX1_pass_144 : decode cX1_pass 144 = .ok (.getfield 34, 3) := by decide +kernel
theorem dX1_pass_147 : decode cX1_pass 147 = .ok (.invokevirtual 86, 3) := by decide +kernel
theorem dX1_pass_150 : decode cX1_pass 150 = .ok (.iinc 4 1, 3) := by decide +kernel
theorem dX1_pass_153 : decode cX1_pass 153 = .ok (.goto (-68), 3) := by decide +kernel
theorem dX1_pass_156 : decode cX1_pass 156 = .ok (.return_, 1) := by decide +kernel
theorem dX2_rest_0 : decode cX2_rest 0 = .ok (.iload_n 1, 1) := by decide +kernel
theorem dX2_rest_1 : decode cX2_rest 1 = .ok (.ifCond .le 11, 3) := by decide +kernel
theorem dX2_rest_4 : decode cX2_rest 4 = .ok (.iload_n 0, 1) := by decide +kernel
theorem dX2_rest_5 : decode cX2_rest 5 = .ok (.iload_n 1, 1) := by decide +kernel
theorem dX2_rest_6 : decode cX2_rest 6 = .ok (.invokestatic 7, 3) := by decide +kernel
theorem dX2_rest_9 : decode cX2_rest 9 = .ok (.goto 4, 3) := by decide +kernel
theorem dX2_rest_12 : decode cX2_rest 12 = .ok (.iconst 0, 1) := by decide +kernel
theorem dX2_rest_13 : decode cX2_rest 13 = .ok (.ireturn, 1) := by decide +kernel
theorem dX2_points_0 : decode cX2_points 0 = .ok (.iload_n 0, 1) := by decide +kernel
theorem dX2_points_1 : decode cX2_points 1 = .ok (.iload_n 0, 1) := by decide +kernel
theorem dX2_points_2 : decode cX2_points 2 = .ok (.imul, 1) := by decide +kernel
theorem dX2_points_3 : decode cX2_points 3 = .ok (.iload_n 0, 1) := by decide +kernel
theorem dX2_points_4 : decode cX2_points 4 = .ok (.iadd, 1) := by decide +kernel
theorem dX2_points_5 : decode cX2_points 5 = .ok (.iconst 1, 1) := by decide +kernel
theorem dX2_points_6 : decode cX2_points 6 = .ok (.iadd, 1) := by decide +kernel
theorem dX2_points_7 : decode cX2_points 7 = .ok (.ireturn, 1) := by decide +kernel
theorem dX2_inverse_0 : decode cX2_inverse 0 = .ok (.iconst 1, 1) := by decide +kernel
theorem dX2_inverse_1 : decode cX2_inverse 1 = .ok (.istore_n 2, 1) := by decide +kernel
theorem dX2_inverse_2 : decode cX2_inverse 2 = .ok (.iload_n 2, 1) := by decide +kernel
theorem dX2_inverse_3 : decode cX2_inverse 3 = .ok (.iload_n 1, 1) := by decide +kernel
theorem dX2_inverse_4 : decode cX2_inverse 4 = .ok (.if_icmp .ge 22, 3) := by decide +kernel
theorem dX2_inverse_7 : decode cX2_inverse 7 = .ok (.iload_n 2, 1) := by decide +kernel
theorem dX2_inverse_8 : decode cX2_inverse 8 = .ok (.iload_n 0, 1) := by decide +kernel
theorem dX2_inverse_9 : decode cX2_inverse 9 = .ok (.imul, 1) := by decide +kernel
theorem dX2_inverse_10 : decode cX2_inverse 10 = .ok (.iload_n 1, 1) := by decide +kernel
theorem dX2_inverse_11 : decode cX2_inverse 11 = .ok (.invokestatic 13, 3) := by decide +kernel
theorem dX2_inverse_14 : decode cX2_inverse 14 = .ok (.iconst 1, 1) := by decide +kernel
theorem dX2_inverse_15 : decode cX2_inverse 15 = .ok (.if_icmp .ne 5, 3) := by decide +kernel
theorem dX2_inverse_18 : decode cX2_inverse 18 = .ok (.iload_n 2, 1) := by decide +kernel
theorem dX2_inverse_19 : decode cX2_inverse 19 = .ok (.ireturn, 1) := by decide +kernel
theorem dX2_inverse_20 : decode cX2_inverse 20 = .ok (.iinc 2 1, 3) := by decide +kernel
theorem dX2_inverse_23 : decode cX2_inverse 23 = .ok (.goto (-21), 3) := by decide +kernel
theorem dX2_inverse_26 : decode cX2_inverse 26 = .ok (.iconst 0, 1) := by decide +kernel
theorem dX2_inverse_27 : decode cX2_inverse 27 = .ok (.ireturn, 1) := by decide +kernel
theorem dX2_isSquare_0 : decode cX2_isSquare 0 = .ok (.iload_n 0, 1) := by decide +kernel
theorem dX2_isSquare_1 : decode cX2_isSquare 1 = .ok (.iload_n 1, 1) := by decide +kernel
theorem dX2_isSquare_2 : decode cX2_isSquare 2 = .ok (.invokestatic 13, 3) := by decide +kernel
theorem dX2_isSquare_5 : decode cX2_isSquare 5 = .ok (.istore_n 2, 1) := by decide +kernel
theorem dX2_isSquare_6 : decode cX2_isSquare 6 = .ok (.iconst 0, 1) := by decide +kernel
theorem dX2_isSquare_7 : decode cX2_isSquare 7 = .ok (.istore_n 3, 1) := by decide +kernel
theorem dX2_isSquare_8 : decode cX2_isSquare 8 = .ok (.iload_n 3, 1) := by decide +kernel
theorem dX2_isSquare_9 : decode cX2_isSquare 9 = .ok (.iload_n 1, 1) := by decide +kernel
theorem dX2_isSquare_10 : decode cX2_isSquare 10 = .ok (.if_icmp .ge 22, 3) := by decide +kernel
theorem dX2_isSquare_13 : decode cX2_isSquare 13 = .ok (.iload_n 3, 1) := by decide +kernel
theorem dX2_isSquare_14 : decode cX2_isSquare 14 = .ok (.iload_n 3, 1) := by decide +kernel
theorem dX2_isSquare_15 : decode cX2_isSquare 15 = .ok (.imul, 1) := by decide +kernel
theorem dX2_isSquare_16 : decode cX2_isSquare 16 = .ok (.iload_n 1, 1) := by decide +kernel
theorem dX2_isSquare_17 : decode cX2_isSquare 17 = .ok (.invokestatic 13, 3) := by decide +kernel
theorem dX2_isSquare_20 : decode cX2_isSquare 20 = .ok (.iload_n 2, 1) := by decide +kernel
theorem dX2_isSquare_21 : decode cX2_isSquare 21 = .ok (.if_icmp .ne 5, 3) := by decide +kernel
theorem dX2_isSquare_24 : decode cX2_isSquare 24 = .ok (.iconst 1, 1) := by decide +kernel
theorem dX2_isSquare_25 : decode cX2_isSquare 25 = .ok (.ireturn, 1) := by decide +kernel
theorem dX2_isSquare_26 : decode cX2_isSquare 26 = .ok (.iinc 3 1, 3) := by decide +kernel
theorem dX2_isSquare_29 : decode cX2_isSquare 29 = .ok (.goto (-21), 3) := by decide +kernel
theorem dX2_isSquare_32 : decode cX2_isSquare 32 = .ok (.iconst 0, 1) := by decide +kernel
theorem dX2_isSquare_33 : decode cX2_isSquare 33 = .ok (.ireturn, 1) := by decide +kernel
theorem dX3_init_0 : decode cX3_init 0 = .ok (.aload_n 0, 1) := by decide +kernel
theorem dX3_init_1 : decode cX3_init 1 = .ok (.invokespecial 1, 3) := by decide +kernel
theorem dX3_init_4 : decode cX3_init 4 = .ok (.return_, 1) := by decide +kernel
theorem dX3_fill_0 : decode cX3_fill 0 = .ok (.aload_n 0, 1) := by decide +kernel
theorem dX3_fill_1 : decode cX3_fill 1 = .ok (.iload_n 1, 1) := by decide +kernel
theorem dX3_fill_2 : decode cX3_fill 2 = .ok (.putfield 7, 3) := by decide +kernel
theorem dX3_fill_5 : decode cX3_fill 5 = .ok (.aload_n 0, 1) := by decide +kernel
theorem dX3_fill_6 : decode cX3_fill 6 = .ok (.iload_n 2, 1) := by decide +kernel
theorem dX3_fill_7 : decode cX3_fill 7 = .ok (.putfield 13, 3) := by decide +kernel
theorem dX3_fill_10 : decode cX3_fill 10 = .ok (.aload_n 0, 1) := by decide +kernel
theorem dX3_fill_11 : decode cX3_fill 11 = .ok (.iload_n 3, 1) := by decide +kernel
theorem dX3_fill_12 : decode cX3_fill 12 = .ok (.putfield 16, 3) := by decide +kernel
theorem dX3_fill_15 : decode cX3_fill 15 = .ok (.aload_n 0, 1) := by decide +kernel
theorem dX3_fill_16 : decode cX3_fill 16 = .ok (.iload 4, 2) := by decide +kernel
theorem dX3_fill_18 : decode cX3_fill 18 = .ok (.putfield 19, 3) := by decide +kernel
theorem dX3_fill_21 : decode cX3_fill 21 = .ok (.aload_n 0, 1) := by decide +kernel
theorem dX3_fill_22 : decode cX3_fill 22 = .ok (.iload 5, 2) := by decide +kernel
theorem dX3_fill_24 : decode cX3_fill 24 = .ok (.putfield 22, 3) := by decide +kernel
theorem dX3_fill_27 : decode cX3_fill 27 = .ok (.aload_n 0, 1) := by decide +kernel
theorem dX3_fill_28 : decode cX3_fill 28 = .ok (.iload 6, 2) := by decide +kernel
theorem dX3_fill_30 : decode cX3_fill 30 = .ok (.putfield 25, 3) := by decide +kernel
theorem dX3_fill_33 : decode cX3_fill 33 = .ok (.return_, 1) := by decide +kernel
theorem dX3_copy_0 : decode cX3_copy 0 = .ok (.aload_n 0, 1) := by decide +kernel
theorem dX3_copy_1 : decode cX3_copy 1 = .ok (.aload_n 1, 1) := by decide +kernel
theorem dX3_copy_2 : decode cX3_copy 2 = .ok (.getfield 7, 3) := by decide +kernel
theorem dX3_copy_5 : decode cX3_copy 5 = .ok (.aload_n 1, 1) := by decide +kernel
theorem dX3_copy_6 : decode cX3_copy 6 = .ok (.getfield 13, 3) := by decide +kernel
theorem dX3_copy_9 : decode cX3_copy 9 = .ok (.aload_n 1, 1) := by decide +kernel
theorem dX3_copy_10 : decode cX3_copy 10 = .ok (.getfield 16, 3) := by decide +kernel
theorem dX3_copy_13 : decode cX3_copy 13 = .ok (.aload_n 1, 1) := by decide +kernel
theorem dX3_copy_14 : decode cX3_copy 14 = .ok (.getfield 19, 3) := by decide +kernel
theorem dX3_copy_17 : decode cX3_copy 17 = .ok (.aload_n 1, 1) := by decide +kernel
theorem dX3_copy_18 : decode cX3_copy 18 = .ok (.getfield 22, 3) := by decide +kernel
theorem dX3_copy_21 : decode cX3_copy 21 = .ok (.aload_n 1, 1) := by decide +kernel
theorem dX3_copy_22 : decode cX3_copy 22 = .ok (.getfield 25, 3) := by decide +kernel
theorem dX3_copy_25 : decode cX3_copy 25 = .ok (.invokevirtual 28, 3) := by decide +kernel
theorem dX3_copy_28 : decode cX3_copy 28 = .ok (.return_, 1) := by decide +kernel
theorem dX3_nth_0 : decode cX3_nth 0 = .ok (.iload_n 1, 1) := by decide +kernel
theorem dX3_nth_1 : decode cX3_nth 1 = .ok (.tableswitch 60 0 4 #[35, 40, 45, 50, 55], 35) := by decide +kernel
theorem dX3_nth_36 : decode cX3_nth 36 = .ok (.aload_n 0, 1) := by decide +kernel
theorem dX3_nth_37 : decode cX3_nth 37 = .ok (.getfield 7, 3) := by decide +kernel
theorem dX3_nth_40 : decode cX3_nth 40 = .ok (.ireturn, 1) := by decide +kernel
theorem dX3_nth_41 : decode cX3_nth 41 = .ok (.aload_n 0, 1) := by decide +kernel
theorem dX3_nth_42 : decode cX3_nth 42 = .ok (.getfield 13, 3) := by decide +kernel
theorem dX3_nth_45 : decode cX3_nth 45 = .ok (.ireturn, 1) := by decide +kernel
theorem dX3_nth_46 : decode cX3_nth 46 = .ok (.aload_n 0, 1) := by decide +kernel
theorem dX3_nth_47 : decode cX3_nth 47 = .ok (.getfield 16, 3) := by decide +kernel
theorem dX3_nth_50 : decode cX3_nth 50 = .ok (.ireturn, 1) := by decide +kernel
theorem dX3_nth_51 : decode cX3_nth 51 = .ok (.aload_n 0, 1) := by decide +kernel
theorem dX3_nth_52 : decode cX3_nth 52 = .ok (.getfield 19, 3) := by decide +kernel
theorem dX3_nth_55 : decode cX3_nth 55 = .ok (.ireturn, 1) := by decide +kernel
theorem dX3_nth_56 : decode cX3_nth 56 = .ok (.aload_n 0, 1) := by decide +kernel
theorem dX3_nth_57 : decode cX3_nth 57 = .ok (.getfield 22, 3) := by decide +kernel
theorem dX3_nth_60 : decode cX3_nth 60 = .ok (.ireturn, 1) := by decide +kernel
theorem dX3_nth_61 : decode cX3_nth 61 = .ok (.aload_n 0, 1) := by decide +kernel
theorem dX3_nth_62 : decode cX3_nth 62 = .ok (.getfield 25, 3) := by decide +kernel
theorem dX3_nth_65 : decode cX3_nth 65 = .ok (.ireturn, 1) := by decide +kernel
theorem dX3_change_0 : decode cX3_change 0 = .ok (.iload_n 1, 1) := by decide +kernel
theorem dX3_change_1 : decode cX3_change 1 = .ok (.tableswitch 75 0 4 #[35, 43, 51, 59, 67], 35) := by decide +kernel
theorem dX3_change_36 : decode cX3_change 36 = .ok (.aload_n 0, 1) := by decide +kernel
theorem dX3_change_37 : decode cX3_change 37 = .ok (.iload_n 2, 1) := by decide +kernel
theorem dX3_change_38 : decode cX3_change 38 = .ok (.putfield 7, 3) := by decide +kernel
theorem dX3_change_41 : decode cX3_change 41 = .ok (.goto 40, 3) := by decide +kernel
theorem dX3_change_44 : decode cX3_change 44 = .ok (.aload_n 0, 1) := by decide +kernel
theorem dX3_change_45 : decode cX3_change 45 = .ok (.iload_n 2, 1) := by decide +kernel
theorem dX3_change_46 : decode cX3_change 46 = .ok (.putfield 13, 3) := by decide +kernel
theorem dX3_change_49 : decode cX3_change 49 = .ok (.goto 32, 3) := by decide +kernel
theorem dX3_change_52 : decode cX3_change 52 = .ok (.aload_n 0, 1) := by decide +kernel
theorem dX3_change_53 : decode cX3_change 53 = .ok (.iload_n 2, 1) := by decide +kernel
theorem dX3_change_54 : decode cX3_change 54 = .ok (.putfield 16, 3) := by decide +kernel
theorem dX3_change_57 : decode cX3_change 57 = .ok (.goto 24, 3) := by decide +kernel
theorem dX3_change_60 : decode cX3_change 60 = .ok (.aload_n 0, 1) := by decide +kernel
theorem dX3_change_61 : decode cX3_change 61 = .ok (.iload_n 2, 1) := by decide +kernel
theorem dX3_change_62 : decode cX3_change 62 = .ok (.putfield 19, 3) := by decide +kernel
theorem dX3_change_65 : decode cX3_change 65 = .ok (.goto 16, 3) := by decide +kernel
theorem dX3_change_68 : decode cX3_change 68 = .ok (.aload_n 0, 1) := by decide +kernel
theorem dX3_change_69 : decode cX3_change 69 = .ok (.iload_n 2, 1) := by decide +kernel
theorem dX3_change_70 : decode cX3_change 70 = .ok (.putfield 22, 3) := by decide +kernel
theorem dX3_change_73 : decode cX3_change 73 = .ok (.goto 8, 3) := by decide +kernel
theorem dX3_change_76 : decode cX3_change 76 = .ok (.aload_n 0, 1) := by decide +kernel
theorem dX3_change_77 : decode cX3_change 77 = .ok (.iload_n 2, 1) := by decide +kernel
theorem dX3_change_78 : decode cX3_change 78 = .ok (.putfield 25, 3) := by decide +kernel
theorem dX3_change_81 : decode cX3_change 81 = .ok (.return_, 1) := by decide +kernel
theorem dX3_isZero_0 : decode cX3_isZero 0 = .ok (.aload_n 0, 1) := by decide +kernel
theorem dX3_isZero_1 : decode cX3_isZero 1 = .ok (.getfield 7, 3) := by decide +kernel
theorem dX3_isZero_4 : decode cX3_isZero 4 = .ok (.ifCond .ne 42, 3) := by decide +kernel
theorem dX3_isZero_7 : decode cX3_isZero 7 = .ok (.aload_n 0, 1) := by decide +kernel
theorem dX3_isZero_8 : decode cX3_isZero 8 = .ok (.getfield 13, 3) := by decide +kernel
theorem dX3_isZero_11 : decode cX3_isZero 11 = .ok (.ifCond .ne 35, 3) := by decide +kernel
theorem dX3_isZero_14 : decode cX3_isZero 14 = .ok (.aload_n 0, 1) := by decide +kernel
theorem dX3_isZero_15 : decode cX3_isZero 15 = .ok (.getfield 16, 3) := by decide +kernel
theorem dX3_isZero_18 : decode cX3_isZero 18 = .ok (.ifCond .ne 28, 3) := by decide +kernel
theorem dX3_isZero_21 : decode cX3_isZero 21 = .ok (.aload_n 0, 1) := by decide +kernel
theorem dX3_isZero_22 : decode cX3_isZero 22 = .ok (.getfield 19, 3) := by decide +kernel
theorem dX3_isZero_25 : decode cX3_isZero 25 = .ok (.ifCond .ne 21, 3) := by decide +kernel
theorem dX3_isZero_28 : decode cX3_isZero 28 = .ok (.aload_n 0, 1) := by decide +kernel
theorem dX3_isZero_29 : decode cX3_isZero 29 = .ok (.getfield 22, 3) := by decide +kernel
theorem dX3_isZero_32 : decode cX3_isZero 32 = .ok (.ifCond .ne 14, 3) := by decide +kernel
theorem dX3_isZero_35 : decode cX3_isZero 35 = .ok (.aload_n 0, 1) := by decide +kernel
theorem dX3_isZero_36 : decode cX3_isZero 36 = .ok (.getfield 25, 3) := by decide +kernel
theorem dX3_isZero_39 : decode cX3_isZero 39 = .ok (.ifCond .ne 7, 3) := by decide +kernel
theorem dX3_isZero_42 : decode cX3_isZero 42 = .ok (.iconst 1, 1) := by decide +kernel
theorem dX3_isZero_43 : decode cX3_isZero 43 = .ok (.goto 4, 3) := by decide +kernel
theorem dX3_isZero_46 : decode cX3_isZero 46 = .ok (.iconst 0, 1) := by decide +kernel
theorem dX3_isZero_47 : decode cX3_isZero 47 = .ok (.ireturn, 1) := by decide +kernel
theorem dX3_isLike_0 : decode cX3_isLike 0 = .ok (.aload_n 0, 1) := by decide +kernel
theorem dX3_isLike_1 : decode cX3_isLike 1 = .ok (.getfield 7, 3) := by decide +kernel
theorem dX3_isLike_4 : decode cX3_isLike 4 = .ok (.aload_n 1, 1) := by decide +kernel
theorem dX3_isLike_5 : decode cX3_isLike 5 = .ok (.getfield 7, 3) := by decide +kernel
theorem dX3_isLike_8 : decode cX3_isLike 8 = .ok (.if_icmp .ne 62, 3) := by decide +kernel
theorem dX3_isLike_11 : decode cX3_isLike 11 = .ok (.aload_n 0, 1) := by decide +kernel
theorem dX3_isLike_12 : decode cX3_isLike 12 = .ok (.getfield 13, 3) := by decide +kernel
theorem dX3_isLike_15 : decode cX3_isLike 15 = .ok (.aload_n 1, 1) := by decide +kernel
theorem dX3_isLike_16 : decode cX3_isLike 16 = .ok (.getfield 13, 3) := by decide +kernel
theorem dX3_isLike_19 : decode cX3_isLike 19 = .ok (.if_icmp .ne 51, 3) := by decide +kernel
theorem dX3_isLike_22 : decode cX3_isLike 22 = .ok (.aload_n 0, 1) := by decide +kernel
theorem dX3_isLike_23 : decode cX3_isLike 23 = .ok (.getfield 16, 3) := by decide +kernel
theorem dX3_isLike_26 : decode cX3_isLike 26 = .ok (.aload_n 1, 1) := by decide +kernel
theorem dX3_isLike_27 : decode cX3_isLike 27 = .ok (.getfield 16, 3) := by decide +kernel
theorem dX3_isLike_30 : decode cX3_isLike 30 = .ok (.if_icmp .ne 40, 3) := by decide +kernel
theorem dX3_isLike_33 : decode cX3_isLike 33 = .ok (.aload_n 0, 1) := by decide +kernel
theorem dX3_isLike_34 : decode cX3_isLike 34 = .ok (.getfield 19, 3) := by decide +kernel
theorem dX3_isLike_37 : decode cX3_isLike 37 = .ok (.aload_n 1, 1) := by decide +kernel
theorem dX3_isLike_38 : decode cX3_isLike 38 = .ok (.getfield 19, 3) := by decide +kernel
theorem dX3_isLike_41 : decode cX3_isLike 41 = .ok (.if_icmp .ne 29, 3) := by decide +kernel
theorem dX3_isLike_44 : decode cX3_isLike 44 = .ok (.aload_n 0, 1) := by decide +kernel
theorem dX3_isLike_45 : decode cX3_isLike 45 = .ok (.getfield 22, 3) := by decide +kernel
theorem dX3_isLike_48 : decode cX3_isLike 48 = .ok (.aload_n 1, 1) := by decide +kernel
theorem dX3_isLike_49 : decode cX3_isLike 49 = .ok (.getfield 22, 3) := by decide +kernel
theorem dX3_isLike_52 : decode cX3_isLike 52 = .ok (.if_icmp .ne 18, 3) := by decide +kernel
theorem dX3_isLike_55 : decode cX3_isLike 55 = .ok (.aload_n 0, 1) := by decide +kernel
theorem dX3_isLike_56 : decode cX3_isLike 56 = .ok (.getfield 25, 3) := by decide +kernel
theorem dX3_isLike_59 : decode cX3_isLike 59 = .ok (.aload_n 1, 1) := by decide +kernel
theorem dX3_isLike_60 : decode cX3_isLike 60 = .ok (.getfield 25, 3) := by decide +kernel
theorem dX3_isLike_63 : decode cX3_isLike 63 = .ok (.if_icmp .ne 7, 3) := by decide +kernel
theorem dX3_isLike_66 : decode cX3_isLike 66 = .ok (.iconst 1, 1) := by decide +kernel
theorem dX3_isLike_67 : decode cX3_isLike 67 = .ok (.goto 4, 3) := by decide +kernel
theorem dX3_isLike_70 : decode cX3_isLike 70 = .ok (.iconst 0, 1) := by decide +kernel
theorem dX3_isLike_71 : decode cX3_isLike 71 = .ok (.ireturn, 1) := by decide +kernel
theorem dX3_isWithinLimit_0 : decode cX3_isWithinLimit 0 = .ok (.aload_n 0, 1) := by decide +kernel
theorem dX3_isWithinLimit_1 : decode cX3_isWithinLimit 1 = .ok (.getfield 7, 3) := by decide +kernel
theorem dX3_isWithinLimit_4 : decode cX3_isWithinLimit 4 = .ok (.invokestatic 32, 3) := by decide +kernel
theorem dX3_isWithinLimit_7 : decode cX3_isWithinLimit 7 = .ok (.ifCond .ne 57, 3) := by decide +kernel
theorem dX3_isWithinLimit_10 : decode cX3_isWithinLimit 10 = .ok (.aload_n 0, 1) := by decide +kernel
theorem dX3_isWithinLimit_11 : decode cX3_isWithinLimit 11 = .ok (.getfield 13, 3) := by decide +kernel
theorem dX3_isWithinLimit_14 : decode cX3_isWithinLimit 14 = .ok (.invokestatic 32, 3) := by decide +kernel
theorem dX3_isWithinLimit_17 : decode cX3_isWithinLimit 17 = .ok (.ifCond .ne 47, 3) := by decide +kernel
theorem dX3_isWithinLimit_20 : decode cX3_isWithinLimit 20 = .ok (.aload_n 0, 1) := by decide +kernel
theorem dX3_isWithinLimit_21 : decode cX3_isWithinLimit 21 = .ok (.getfield 16, 3) := by decide +kernel
theorem dX3_isWithinLimit_24 : decode cX3_isWithinLimit 24 = .ok (.invokestatic 32, 3) := by decide +kernel
theorem dX3_isWithinLimit_27 : decode cX3_isWithinLimit 27 = .ok (.ifCond .ne 37, 3) := by decide +kernel
theorem dX3_isWithinLimit_30 : decode cX3_isWithinLimit 30 = .ok (.aload_n 0, 1) := by decide +kernel
theorem dX3_isWithinLimit_31 : decode cX3_isWithinLimit 31 = .ok (.getfield 19, 3) := by decide +kernel
theorem dX3_isWithinLimit_34 : decode cX3_isWithinLimit 34 = .ok (.invokestatic 32, 3) := by decide +kernel
theorem dX3_isWithinLimit_37 : decode cX3_isWithinLimit 37 = .ok (.ifCond .ne 27, 3) := by decide +kernel
theorem dX3_isWithinLimit_40 : decode cX3_isWithinLimit 40 = .ok (.aload_n 0, 1) := by decide +kernel
theorem dX3_isWithinLimit_41 : decode cX3_isWithinLimit 41 = .ok (.getfield 22, 3) := by decide +kernel
theorem dX3_isWithinLimit_44 : decode cX3_isWithinLimit 44 = .ok (.invokestatic 32, 3) := by decide +kernel
theorem dX3_isWithinLimit_47 : decode cX3_isWithinLimit 47 = .ok (.ifCond .ne 17, 3) := by decide +kernel
theorem dX3_isWithinLimit_50 : decode cX3_isWithinLimit 50 = .ok (.aload_n 0, 1) := by decide +kernel
theorem dX3_isWithinLimit_51 : decode cX3_isWithinLimit 51 = .ok (.getfield 25, 3) := by decide +kernel
theorem dX3_isWithinLimit_54 : decode cX3_isWithinLimit 54 = .ok (.invokestatic 32, 3) := by decide +kernel
theorem dX3_isWithinLimit_57 : decode cX3_isWithinLimit 57 = .ok (.ifCond .ne 7, 3) := by decide +kernel
theorem dX3_isWithinLimit_60 : decode cX3_isWithinLimit 60 = .ok (.iconst 1, 1) := by decide +kernel
theorem dX3_isWithinLimit_61 : decode cX3_isWithinLimit 61 = .ok (.goto 4, 3) := by decide +kernel
theorem dX3_isWithinLimit_64 : decode cX3_isWithinLimit 64 = .ok (.iconst 0, 1) := by decide +kernel
theorem dX3_isWithinLimit_65 : decode cX3_isWithinLimit 65 = .ok (.ireturn, 1) := by decide +kernel
theorem dX3_blend_0 : decode cX3_blend 0 = .ok (.aload_n 0, 1) := by decide +kernel
theorem dX3_blend_1 : decode cX3_blend 1 = .ok (.iload_n 1, 1) := by decide +kernel
theorem dX3_blend_2 : decode cX3_blend 2 = .ok (.aload_n 0, 1) := by decide +kernel
theorem dX3_blend_3 : decode cX3_blend 3 = .ok (.getfield 7, 3) := by decide +kernel
theorem dX3_blend_6 : decode cX3_blend 6 = .ok (.imul, 1) := by decide +kernel
theorem dX3_blend_7 : decode cX3_blend 7 = .ok (.iload_n 2, 1) := by decide +kernel
theorem dX3_blend_8 : decode cX3_blend 8 = .ok (.aload_n 3, 1) := by decide +kernel
theorem dX3_blend_9 : decode cX3_blend 9 = .ok (.getfield 7, 3) := by decide +kernel
theorem dX3_blend_12 : decode cX3_blend 12 = .ok (.imul, 1) := by decide +kernel
theorem dX3_blend_13 : decode cX3_blend 13 = .ok (.iadd, 1) := by decide +kernel
theorem dX3_blend_14 : decode cX3_blend 14 = .ok (.iload_n 1, 1) := by decide +kernel
theorem dX3_blend_15 : decode cX3_blend 15 = .ok (.aload_n 0, 1) := by decide +kernel
theorem dX3_blend_16 : decode cX3_blend 16 = .ok (.getfield 13, 3) := by decide +kernel
theorem dX3_blend_19 : decode cX3_blend 19 = .ok (.imul, 1) := by decide +kernel
theorem dX3_blend_20 : decode cX3_blend 20 = .ok (.iload_n 2, 1) := by decide +kernel
theorem dX3_blend_21 : decode cX3_blend 21 = .ok (.aload_n 3, 1) := by decide +kernel
theorem dX3_blend_22 : decode cX3_blend 22 = .ok (.getfield 13, 3) := by decide +kernel
theorem dX3_blend_25 : decode cX3_blend 25 = .ok (.imul, 1) := by decide +kernel
theorem dX3_blend_26 : decode cX3_blend 26 = .ok (.iadd, 1) := by decide +kernel
theorem dX3_blend_27 : decode cX3_blend 27 = .ok (.iload_n 1, 1) := by decide +kernel
theorem dX3_blend_28 : decode cX3_blend 28 = .ok (.aload_n 0, 1) := by decide +kernel
theorem dX3_blend_29 : decode cX3_blend 29 = .ok (.getfield 16, 3) := by decide +kernel
theorem dX3_blend_32 : decode cX3_blend 32 = .ok (.imul, 1) := by decide +kernel
theorem dX3_blend_33 : decode cX3_blend 33 = .ok (.iload_n 2, 1) := by decide +kernel
theorem dX3_blend_34 : decode cX3_blend 34 = .ok (.aload_n 3, 1) := by decide +kernel
theorem dX3_blend_35 : decode cX3_blend 35 = .ok (.getfield 16, 3) := by decide +kernel
theorem dX3_blend_38 : decode cX3_blend 38 = .ok (.imul, 1) := by decide +kernel
theorem dX3_blend_39 : decode cX3_blend 39 = .ok (.iadd, 1) := by decide +kernel
theorem dX3_blend_40 : decode cX3_blend 40 = .ok (.iload_n 1, 1) := by decide +kernel
theorem dX3_blend_41 : decode cX3_blend 41 = .ok (.aload_n 0, 1) := by decide +kernel
theorem dX3_blend_42 : decode cX3_blend 42 = .ok (.getfield 19, 3) := by decide +kernel
theorem dX3_blend_45 : decode cX3_blend 45 = .ok (.imul, 1) := by decide +kernel
theorem dX3_blend_46 : decode cX3_blend 46 = .ok (.iload_n 2, 1) := by decide +kernel
theorem dX3_blend_47 : decode cX3_blend 47 = .ok (.aload_n 3, 1) := by decide +kernel
theorem dX3_blend_48 : decode cX3_blend 48 = .ok (.getfield 19, 3) := by decide +kernel
theorem dX3_blend_51 : decode cX3_blend 51 = .ok (.imul, 1) := by decide +kernel
theorem dX3_blend_52 : decode cX3_blend 52 = .ok (.iadd, 1) := by decide +kernel
theorem dX3_blend_53 : decode cX3_blend 53 = .ok (.iload_n 1, 1) := by decide +kernel
theorem dX3_blend_54 : decode cX3_blend 54 = .ok (.aload_n 0, 1) := by decide +kernel
theorem dX3_blend_55 : decode cX3_blend 55 = .ok (.getfield 22, 3) := by decide +kernel
theorem dX3_blend_58 : decode cX3_blend 58 = .ok (.imul, 1) := by decide +kernel
theorem dX3_blend_59 : decode cX3_blend 59 = .ok (.iload_n 2, 1) := by decide +kernel
theorem dX3_blend_60 : decode cX3_blend 60 = .ok (.aload_n 3, 1) := by decide +kernel
theorem dX3_blend_61 : decode cX3_blend 61 = .ok (.getfield 22, 3) := by decide +kernel
theorem dX3_blend_64 : decode cX3_blend 64 = .ok (.imul, 1) := by decide +kernel
theorem dX3_blend_65 : decode cX3_blend 65 = .ok (.iadd, 1) := by decide +kernel
theorem dX3_blend_66 : decode cX3_blend 66 = .ok (.iload_n 1, 1) := by decide +kernel
theorem dX3_blend_67 : decode cX3_blend 67 = .ok (.aload_n 0, 1) := by decide +kernel
theorem dX3_blend_68 : decode cX3_blend 68 = .ok (.getfield 25, 3) := by decide +kernel
theorem dX3_blend_71 : decode cX3_blend 71 = .ok (.imul, 1) := by decide +kernel
theorem dX3_blend_72 : decode cX3_blend 72 = .ok (.iload_n 2, 1) := by decide +kernel
theorem dX3_blend_73 : decode cX3_blend 73 = .ok (.aload_n 3, 1) := by decide +kernel
theorem dX3_blend_74 : decode cX3_blend 74 = .ok (.getfield 25, 3) := by decide +kernel
theorem dX3_blend_77 : decode cX3_blend 77 = .ok (.imul, 1) := by decide +kernel
theorem dX3_blend_78 : decode cX3_blend 78 = .ok (.iadd, 1) := by decide +kernel
theorem dX3_blend_79 : decode cX3_blend 79 = .ok (.invokevirtual 28, 3) := by decide +kernel
theorem dX3_blend_82 : decode cX3_blend 82 = .ok (.return_, 1) := by decide +kernel
theorem dX3_reduce_0 : decode cX3_reduce 0 = .ok (.aload_n 0, 1) := by decide +kernel
theorem dX3_reduce_1 : decode cX3_reduce 1 = .ok (.aload_n 0, 1) := by decide +kernel
theorem dX3_reduce_2 : decode cX3_reduce 2 = .ok (.getfield 7, 3) := by decide +kernel
theorem dX3_reduce_5 : decode cX3_reduce 5 = .ok (.iload_n 1, 1) := by decide +kernel
theorem dX3_reduce_6 : decode cX3_reduce 6 = .ok (.invokestatic 38, 3) := by decide +kernel
theorem dX3_reduce_9 : decode cX3_reduce 9 = .ok (.aload_n 0, 1) := by decide +kernel
theorem dX3_reduce_10 : decode cX3_reduce 10 = .ok (.getfield 13, 3) := by decide +kernel
theorem dX3_reduce_13 : decode cX3_reduce 13 = .ok (.iload_n 1, 1) := by decide +kernel
theorem dX3_reduce_14 : decode cX3_reduce 14 = .ok (.invokestatic 38, 3) := by decide +kernel
theorem dX3_reduce_17 : decode cX3_reduce 17 = .ok (.aload_n 0, 1) := by decide +kernel
theorem dX3_reduce_18 : decode cX3_reduce 18 = .ok (.getfield 16, 3) := by decide +kernel
theorem dX3_reduce_21 : decode cX3_reduce 21 = .ok (.iload_n 1, 1) := by decide +kernel
theorem dX3_reduce_22 : decode cX3_reduce 22 = .ok (.invokestatic 38, 3) := by decide +kernel
theorem dX3_reduce_25 : decode cX3_reduce 25 = .ok (.aload_n 0, 1) := by decide +kernel
theorem dX3_reduce_26 : decode cX3_reduce 26 = .ok (.getfield 19, 3) := by decide +kernel
theorem dX3_reduce_29 : decode cX3_reduce 29 = .ok (.iload_n 1, 1) := by decide +kernel
theorem dX3_reduce_30 : decode cX3_reduce 30 = .ok (.invokestatic 38, 3) := by decide +kernel
theorem dX3_reduce_33 : decode cX3_reduce 33 = .ok (.aload_n 0, 1) := by decide +kernel
theorem dX3_reduce_34 : decode cX3_reduce 34 = .ok (.getfield 22, 3) := by decide +kernel
theorem dX3_reduce_37 : decode cX3_reduce 37 = .ok (.iload_n 1, 1) := by decide +kernel
theorem dX3_reduce_38 : decode cX3_reduce 38 = .ok (.invokestatic 38, 3) := by decide +kernel
theorem dX3_reduce_41 : decode cX3_reduce 41 = .ok (.aload_n 0, 1) := by decide +kernel
theorem dX3_reduce_42 : decode cX3_reduce 42 = .ok (.getfield 25, 3) := by decide +kernel
theorem dX3_reduce_45 : decode cX3_reduce 45 = .ok (.iload_n 1, 1) := by decide +kernel
theorem dX3_reduce_46 : decode cX3_reduce 46 = .ok (.invokestatic 38, 3) := by decide +kernel
theorem dX3_reduce_49 : decode cX3_reduce 49 = .ok (.invokevirtual 28, 3) := by decide +kernel
theorem dX3_reduce_52 : decode cX3_reduce 52 = .ok (.return_, 1) := by decide +kernel
theorem dX3_twisted_0 : decode cX3_twisted 0 = .ok (.iload_n 1, 1) := by decide +kernel
theorem dX3_twisted_1 : decode cX3_twisted 1 = .ok (.ifCond .ne 34, 3) := by decide +kernel
theorem dX3_twisted_4 : decode cX3_twisted 4 = .ok (.aload_n 0, 1) := by decide +kernel
theorem dX3_twisted_5 : decode cX3_twisted 5 = .ok (.aload_n 0, 1) := by decide +kernel
theorem dX3_twisted_6 : decode cX3_twisted 6 = .ok (.getfield 13, 3) := by decide +kernel
theorem dX3_twisted_9 : decode cX3_twisted 9 = .ok (.aload_n 0, 1) := by decide +kernel
theorem dX3_twisted_10 : decode cX3_twisted 10 = .ok (.getfield 7, 3) := by decide +kernel
theorem dX3_twisted_13 : decode cX3_twisted 13 = .ok (.aload_n 0, 1) := by decide +kernel
theorem dX3_twisted_14 : decode cX3_twisted 14 = .ok (.getfield 16, 3) := by decide +kernel
theorem dX3_twisted_17 : decode cX3_twisted 17 = .ok (.aload_n 0, 1) := by decide +kernel
theorem dX3_twisted_18 : decode cX3_twisted 18 = .ok (.getfield 22, 3) := by decide +kernel
theorem dX3_twisted_21 : decode cX3_twisted 21 = .ok (.aload_n 0, 1) := by decide +kernel
theorem dX3_twisted_22 : decode cX3_twisted 22 = .ok (.getfield 19, 3) := by decide +kernel
theorem dX3_twisted_25 : decode cX3_twisted 25 = .ok (.aload_n 0, 1) := by decide +kernel
theorem dX3_twisted_26 : decode cX3_twisted 26 = .ok (.getfield 25, 3) := by decide +kernel
theorem dX3_twisted_29 : decode cX3_twisted 29 = .ok (.invokevirtual 28, 3) := by decide +kernel
theorem dX3_twisted_32 : decode cX3_twisted 32 = .ok (.goto 89, 3) := by decide +kernel
theorem dX3_twisted_35 : decode cX3_twisted 35 = .ok (.iload_n 1, 1) := by decide +kernel
theorem dX3_twisted_36 : decode cX3_twisted 36 = .ok (.iconst 1, 1) := by decide +kernel
theorem dX3_twisted_37 : decode cX3_twisted 37 = .ok (.if_icmp .ne 34, 3) := by decide +kernel
theorem dX3_twisted_40 : decode cX3_twisted 40 = .ok (.aload_n 0, 1) := by decide +kernel
theorem dX3_twisted_41 : decode cX3_twisted 41 = .ok (.aload_n 0, 1) := by decide +kernel
theorem dX3_twisted_42 : decode cX3_twisted 42 = .ok (.getfield 7, 3) := by decide +kernel
theorem dX3_twisted_45 : decode cX3_twisted 45 = .ok (.aload_n 0, 1) := by decide +kernel
theorem dX3_twisted_46 : decode cX3_twisted 46 = .ok (.getfield 16, 3) := by decide +kernel
theorem dX3_twisted_49 : decode cX3_twisted 49 = .ok (.aload_n 0, 1) := by decide +kernel
theorem dX3_twisted_50 : decode cX3_twisted 50 = .ok (.getfield 13, 3) := by decide +kernel
theorem dX3_twisted_53 : decode cX3_twisted 53 = .ok (.aload_n 0, 1) := by decide +kernel
theorem dX3_twisted_54 : decode cX3_twisted 54 = .ok (.getfield 19, 3) := by decide +kernel
theorem dX3_twisted_57 : decode cX3_twisted 57 = .ok (.aload_n 0, 1) := by decide +kernel
theorem dX3_twisted_58 : decode cX3_twisted 58 = .ok (.getfield 25, 3) := by decide +kernel
theorem dX3_twisted_61 : decode cX3_twisted 61 = .ok (.aload_n 0, 1) := by decide +kernel
theorem dX3_twisted_62 : decode cX3_twisted 62 = .ok (.getfield 22, 3) := by decide +kernel
theorem dX3_twisted_65 : decode cX3_twisted 65 = .ok (.invokevirtual 28, 3) := by decide +kernel
theorem dX3_twisted_68 : decode cX3_twisted 68 = .ok (.goto 53, 3) := by decide +kernel
theorem dX3_twisted_71 : decode cX3_twisted 71 = .ok (.aload_n 0, 1) := by decide +kernel
theorem dX3_twisted_72 : decode cX3_twisted 72 = .ok (.aload_n 0, 1) := by decide +kernel
theorem dX3_twisted_73 : decode cX3_twisted 73 = .ok (.getfield 7, 3) := by decide +kernel
theorem dX3_twisted_76 : decode cX3_twisted 76 = .ok (.aload_n 0, 1) := by decide +kernel
theorem dX3_twisted_77 : decode cX3_twisted 77 = .ok (.getfield 7, 3) := by decide +kernel
theorem dX3_twisted_80 : decode cX3_twisted 80 = .ok (.aload_n 0, 1) := by decide +kernel
theorem dX3_twisted_81 : decode cX3_twisted 81 = .ok (.getfield 13, 3) := by decide +kernel
theorem dX3_twisted_84 : decode cX3_twisted 84 = .ok (.iadd, 1) := by decide +kernel
theorem dX3_twisted_85 : decode cX3_twisted 85 = .ok (.aload_n 0, 1) := by decide +kernel
theorem dX3_twisted_86 : decode cX3_twisted 86 = .ok (.getfield 25, 3) := by decide +kernel
theorem dX3_twisted_89 : decode cX3_twisted 89 = .ok (.iadd, 1) := by decide +kernel
theorem dX3_twisted_90 : decode cX3_twisted 90 = .ok (.aload_n 0, 1) := by decide +kernel
theorem dX3_twisted_91 : decode cX3_twisted 91 = .ok (.getfield 16, 3) := by decide +kernel
theorem dX3_twisted_94 : decode cX3_twisted 94 = .ok (.aload_n 0, 1) := by decide +kernel
theorem dX3_twisted_95 : decode cX3_twisted 95 = .ok (.getfield 19, 3) := by decide +kernel
theorem dX3_twisted_98 : decode cX3_twisted 98 = .ok (.aload_n 0, 1) := by decide +kernel
theorem dX3_twisted_99 : decode cX3_twisted 99 = .ok (.getfield 22, 3) := by decide +kernel
theorem dX3_twisted_102 : decode cX3_twisted 102 = .ok (.iadd, 1) := by decide +kernel
theorem dX3_twisted_103 : decode cX3_twisted 103 = .ok (.aload_n 0, 1) := by decide +kernel
theorem dX3_twisted_104 : decode cX3_twisted 104 = .ok (.getfield 22, 3) := by decide +kernel
theorem dX3_twisted_107 : decode cX3_twisted 107 = .ok (.iconst 2, 1) := by decide +kernel
theorem dX3_twisted_108 : decode cX3_twisted 108 = .ok (.aload_n 0, 1) := by decide +kernel
theorem dX3_twisted_109 : decode cX3_twisted 109 = .ok (.getfield 7, 3) := by decide +kernel
theorem dX3_twisted_112 : decode cX3_twisted 112 = .ok (.imul, 1) := by decide +kernel
theorem dX3_twisted_113 : decode cX3_twisted 113 = .ok (.aload_n 0, 1) := by decide +kernel
theorem dX3_twisted_114 : decode cX3_twisted 114 = .ok (.getfield 25, 3) := by decide +kernel
theorem dX3_twisted_117 : decode cX3_twisted 117 = .ok (.iadd, 1) := by decide +kernel
theorem dX3_twisted_118 : decode cX3_twisted 118 = .ok (.invokevirtual 28, 3) := by decide +kernel
theorem dX3_twisted_121 : decode cX3_twisted 121 = .ok (.return_, 1) := by decide +kernel
theorem dX3_multiply_0 : decode cX3_multiply 0 = .ok (.aload_n 0, 1) := by decide +kernel
theorem dX3_multiply_1 : decode cX3_multiply 1 = .ok (.aload_n 0, 1) := by decide +kernel
theorem dX3_multiply_2 : decode cX3_multiply 2 = .ok (.getfield 7, 3) := by decide +kernel
theorem dX3_multiply_5 : decode cX3_multiply 5 = .ok (.aload_n 0, 1) := by decide +kernel
theorem dX3_multiply_6 : decode cX3_multiply 6 = .ok (.getfield 19, 3) := by decide +kernel
theorem dX3_multiply_9 : decode cX3_multiply 9 = .ok (.imul, 1) := by decide +kernel
theorem dX3_multiply_10 : decode cX3_multiply 10 = .ok (.aload_n 0, 1) := by decide +kernel
theorem dX3_multiply_11 : decode cX3_multiply 11 = .ok (.getfield 13, 3) := by decide +kernel
theorem dX3_multiply_14 : decode cX3_multiply 14 = .ok (.aload_n 0, 1) := by decide +kernel
theorem dX3_multiply_15 : decode cX3_multiply 15 = .ok (.getfield 22, 3) := by decide +kernel
theorem dX3_multiply_18 : decode cX3_multiply 18 = .ok (.imul, 1) := by decide +kernel
theorem dX3_multiply_19 : decode cX3_multiply 19 = .ok (.aload_n 0, 1) := by decide +kernel
theorem dX3_multiply_20 : decode cX3_multiply 20 = .ok (.getfield 16, 3) := by decide +kernel
theorem dX3_multiply_23 : decode cX3_multiply 23 = .ok (.aload_n 0, 1) := by decide +kernel
theorem dX3_multiply_24 : decode cX3_multiply 24 = .ok (.getfield 25, 3) := by decide +kernel
theorem dX3_multiply_27 : decode cX3_multiply 27 = .ok (.imul, 1) := by decide +kernel
theorem dX3_multiply_28 : decode cX3_multiply 28 = .ok (.aload_n 0, 1) := by decide +kernel
theorem dX3_multiply_29 : decode cX3_multiply 29 = .ok (.getfield 13, 3) := by decide +kernel
theorem dX3_multiply_32 : decode cX3_multiply 32 = .ok (.aload_n 0, 1) := by decide +kernel
theorem dX3_multiply_33 : decode cX3_multiply 33 = .ok (.getfield 25, 3) := by decide +kernel
theorem dX3_multiply_36 : decode cX3_multiply 36 = .ok (.imul, 1) := by decide +kernel
theorem dX3_multiply_37 : decode cX3_multiply 37 = .ok (.aload_n 0, 1) := by decide +kernel
theorem dX3_multiply_38 : decode cX3_multiply 38 = .ok (.getfield 16, 3) := by decide +kernel
theorem dX3_multiply_41 : decode cX3_multiply 41 = .ok (.aload_n 0, 1) := by decide +kernel
theorem dX3_multiply_42 : decode cX3_multiply 42 = .ok (.getfield 22, 3) := by decide +kernel
theorem dX3_multiply_45 : decode cX3_multiply 45 = .ok (.imul, 1) := by decide +kernel
theorem dX3_multiply_46 : decode cX3_multiply 46 = .ok (.iadd, 1) := by decide +kernel
theorem dX3_multiply_47 : decode cX3_multiply 47 = .ok (.aload_n 0, 1) := by decide +kernel
theorem dX3_multiply_48 : decode cX3_multiply 48 = .ok (.getfield 7, 3) := by decide +kernel
theorem dX3_multiply_51 : decode cX3_multiply 51 = .ok (.aload_n 0, 1) := by decide +kernel
theorem dX3_multiply_52 : decode cX3_multiply 52 = .ok (.getfield 25, 3) := by decide +kernel
theorem dX3_multiply_55 : decode cX3_multiply 55 = .ok (.imul, 1) := by decide +kernel
theorem dX3_multiply_56 : decode cX3_multiply 56 = .ok (.aload_n 0, 1) := by decide +kernel
theorem dX3_multiply_57 : decode cX3_multiply 57 = .ok (.getfield 16, 3) := by decide +kernel
theorem dX3_multiply_60 : decode cX3_multiply 60 = .ok (.aload_n 0, 1) := by decide +kernel
theorem dX3_multiply_61 : decode cX3_multiply 61 = .ok (.getfield 19, 3) := by decide +kernel
theorem dX3_multiply_64 : decode cX3_multiply 64 = .ok (.imul, 1) := by decide +kernel
theorem dX3_multiply_65 : decode cX3_multiply 65 = .ok (.iadd, 1) := by decide +kernel
theorem dX3_multiply_66 : decode cX3_multiply 66 = .ok (.aload_n 0, 1) := by decide +kernel
theorem dX3_multiply_67 : decode cX3_multiply 67 = .ok (.getfield 7, 3) := by decide +kernel
theorem dX3_multiply_70 : decode cX3_multiply 70 = .ok (.aload_n 0, 1) := by decide +kernel
theorem dX3_multiply_71 : decode cX3_multiply 71 = .ok (.getfield 22, 3) := by decide +kernel
theorem dX3_multiply_74 : decode cX3_multiply 74 = .ok (.imul, 1) := by decide +kernel
theorem dX3_multiply_75 : decode cX3_multiply 75 = .ok (.aload_n 0, 1) := by decide +kernel
theorem dX3_multiply_76 : decode cX3_multiply 76 = .ok (.getfield 13, 3) := by decide +kernel
theorem dX3_multiply_79 : decode cX3_multiply 79 = .ok (.aload_n 0, 1) := by decide +kernel
theorem dX3_multiply_80 : decode cX3_multiply 80 = .ok (.getfield 19, 3) := by decide +kernel
theorem dX3_multiply_83 : decode cX3_multiply 83 = .ok (.imul, 1) := by decide +kernel
theorem dX3_multiply_84 : decode cX3_multiply 84 = .ok (.iadd, 1) := by decide +kernel
theorem dX3_multiply_85 : decode cX3_multiply 85 = .ok (.invokevirtual 28, 3) := by decide +kernel
theorem dX3_multiply_88 : decode cX3_multiply 88 = .ok (.return_, 1) := by decide +kernel
theorem dX3_d_0 : decode cX3_d 0 = .ok (.iconst 4, 1) := by decide +kernel
theorem dX3_d_1 : decode cX3_d 1 = .ok (.aload_n 0, 1) := by decide +kernel
theorem dX3_d_2 : decode cX3_d 2 = .ok (.getfield 7, 3) := by decide +kernel
theorem dX3_d_5 : decode cX3_d 5 = .ok (.imul, 1) := by decide +kernel
theorem dX3_d_6 : decode cX3_d 6 = .ok (.aload_n 0, 1) := by decide +kernel
theorem dX3_d_7 : decode cX3_d 7 = .ok (.getfield 13, 3) := by decide +kernel
theorem dX3_d_10 : decode cX3_d 10 = .ok (.imul, 1) := by decide +kernel
theorem dX3_d_11 : decode cX3_d 11 = .ok (.aload_n 0, 1) := by decide +kernel
theorem dX3_d_12 : decode cX3_d 12 = .ok (.getfield 25, 3) := by decide +kernel
theorem dX3_d_15 : decode cX3_d 15 = .ok (.aload_n 0, 1) := by decide +kernel
theorem dX3_d_16 : decode cX3_d 16 = .ok (.getfield 25, 3) := by decide +kernel
theorem dX3_d_19 : decode cX3_d 19 = .ok (.imul, 1) := by decide +kernel
theorem dX3_d_20 : decode cX3_d 20 = .ok (.isub, 1) := by decide +kernel
theorem dX3_d_21 : decode cX3_d 21 = .ok (.ireturn, 1) := by decide +kernel
theorem dX3_e_0 : decode cX3_e 0 = .ok (.bipush 8, 2) := by decide +kernel
theorem dX3_e_2 : decode cX3_e 2 = .ok (.aload_n 0, 1) := by decide +kernel
theorem dX3_e_3 : decode cX3_e 3 = .ok (.getfield 7, 3) := by decide +kernel
theorem dX3_e_6 : decode cX3_e 6 = .ok (.imul, 1) := by decide +kernel
theorem dX3_e_7 : decode cX3_e 7 = .ok (.aload_n 0, 1) := by decide +kernel
theorem dX3_e_8 : decode cX3_e 8 = .ok (.getfield 13, 3) := by decide +kernel
theorem dX3_e_11 : decode cX3_e 11 = .ok (.imul, 1) := by decide +kernel
theorem dX3_e_12 : decode cX3_e 12 = .ok (.aload_n 0, 1) := by decide +kernel
theorem dX3_e_13 : decode cX3_e 13 = .ok (.getfield 16, 3) := by decide +kernel
theorem dX3_e_16 : decode cX3_e 16 = .ok (.imul, 1) := by decide +kernel
theorem dX3_e_17 : decode cX3_e 17 = .ok (.iconst 2, 1) := by decide +kernel
theorem dX3_e_18 : decode cX3_e 18 = .ok (.aload_n 0, 1) := by decide +kernel
theorem dX3_e_19 : decode cX3_e 19 = .ok (.getfield 19, 3) := by decide +kernel
theorem dX3_e_22 : decode cX3_e 22 = .ok (.imul, 1) := by decide +kernel
theorem dX3_e_23 : decode cX3_e 23 = .ok (.aload_n 0, 1) := by decide +kernel
theorem dX3_e_24 : decode cX3_e 24 = .ok (.getfield 22, 3) := by decide +kernel
theorem dX3_e_27 : decode cX3_e 27 = .ok (.imul, 1) := by decide +kernel
theorem dX3_e_28 : decode cX3_e 28 = .ok (.aload_n 0, 1) := by decide +kernel
theorem dX3_e_29 : decode cX3_e 29 = .ok (.getfield 25, 3) := by decide +kernel
theorem dX3_e_32 : decode cX3_e 32 = .ok (.imul, 1) := by decide +kernel
theorem dX3_e_33 : decode cX3_e 33 = .ok (.iadd, 1) := by decide +kernel
theorem dX3_e_34 : decode cX3_e 34 = .ok (.iconst 2, 1) := by decide +kernel
theorem dX3_e_35 : decode cX3_e 35 = .ok (.aload_n 0, 1) := by decide +kernel
theorem dX3_e_36 : decode cX3_e 36 = .ok (.getfield 7, 3) := by decide +kernel
theorem dX3_e_39 : decode cX3_e 39 = .ok (.imul, 1) := by decide +kernel
theorem dX3_e_40 : decode cX3_e 40 = .ok (.aload_n 0, 1) := by decide +kernel
theorem dX3_e_41 : decode cX3_e 41 = .ok (.getfield 19, 3) := by decide +kernel
theorem dX3_e_44 : decode cX3_e 44 = .ok (.imul, 1) := by decide +kernel
theorem dX3_e_45 : decode cX3_e 45 = .ok (.aload_n 0, 1) := by decide +kernel
theorem dX3_e_46 : decode cX3_e 46 = .ok (.getfield 19, 3) := by decide +kernel
theorem dX3_e_49 : decode cX3_e 49 = .ok (.imul, 1) := by decide +kernel
theorem dX3_e_50 : decode cX3_e 50 = .ok (.isub, 1) := by decide +kernel
theorem dX3_e_51 : decode cX3_e 51 = .ok (.iconst 2, 1) := by decide +kernel
theorem dX3_e_52 : decode cX3_e 52 = .ok (.aload_n 0, 1) := by decide +kernel
theorem dX3_e_53 : decode cX3_e 53 = .ok (.getfield 13, 3) := by decide +kernel
theorem dX3_e_56 : decode cX3_e 56 = .ok (.imul, 1) := by decide +kernel
theorem dX3_e_57 : decode cX3_e 57 = .ok (.aload_n 0, 1) := by decide +kernel
theorem dX3_e_58 : decode cX3_e 58 = .ok (.getfield 22, 3) := by decide +kernel
theorem dX3_e_61 : decode cX3_e 61 = .ok (.imul, 1) := by decide +kernel
theorem dX3_e_62 : decode cX3_e 62 = .ok (.aload_n 0, 1) := by decide +kernel
theorem dX3_e_63 : decode cX3_e 63 = .ok (.getfield 22, 3) := by decide +kernel
theorem dX3_e_66 : decode cX3_e 66 = .ok (.imul, 1) := by decide +kernel
theorem dX3_e_67 : decode cX3_e 67 = .ok (.isub, 1) := by decide +kernel
theorem dX3_e_68 : decode cX3_e 68 = .ok (.iconst 2, 1) := by decide +kernel
theorem dX3_e_69 : decode cX3_e 69 = .ok (.aload_n 0, 1) := by decide +kernel
theorem dX3_e_70 : decode cX3_e 70 = .ok (.getfield 16, 3) := by decide +kernel
theorem dX3_e_73 : decode cX3_e 73 = .ok (.imul, 1) := by decide +kernel
theorem dX3_e_74 : decode cX3_e 74 = .ok (.aload_n 0, 1) := by decide +kernel
theorem dX3_e_75 : decode cX3_e 75 = .ok (.getfield 25, 3) := by decide +kernel
theorem dX3_e_78 : decode cX3_e 78 = .ok (.imul, 1) := by decide +kernel
theorem dX3_e_79 : decode cX3_e 79 = .ok (.aload_n 0, 1) := by decide +kernel
theorem dX3_e_80 : decode cX3_e 80 = .ok (.getfield 25, 3) := by decide +kernel
theorem dX3_e_83 : decode cX3_e 83 = .ok (.imul, 1) := by decide +kernel
theorem dX3_e_84 : decode cX3_e 84 = .ok (.isub, 1) := by decide +kernel
theorem dX3_e_85 : decode cX3_e 85 = .ok (.ireturn, 1) := by decide +kernel
theorem dX3_i_0 : decode cX3_i 0 = .ok (.iconst 4, 1) := by decide +kernel
theorem dX3_i_1 : decode cX3_i 1 = .ok (.aload_n 0, 1) := by decide +kernel
theorem dX3_i_2 : decode cX3_i 2 = .ok (.getfield 13, 3) := by decide +kernel
theorem dX3_i_5 : decode cX3_i 5 = .ok (.imul, 1) := by decide +kernel
theorem dX3_i_6 : decode cX3_i 6 = .ok (.aload_n 0, 1) := by decide +kernel
theorem dX3_i_7 : decode cX3_i 7 = .ok (.getfield 16, 3) := by decide +kernel
theorem dX3_i_10 : decode cX3_i 10 = .ok (.imul, 1) := by decide +kernel
theorem dX3_i_11 : decode cX3_i 11 = .ok (.aload_n 0, 1) := by decide +kernel
theorem dX3_i_12 : decode cX3_i 12 = .ok (.getfield 19, 3) := by decide +kernel
theorem dX3_i_15 : decode cX3_i 15 = .ok (.aload_n 0, 1) := by decide +kernel
theorem dX3_i_16 : decode cX3_i 16 = .ok (.getfield 19, 3) := by decide +kernel
theorem dX3_i_19 : decode cX3_i 19 = .ok (.imul, 1) := by decide +kernel
theorem dX3_i_20 : decode cX3_i 20 = .ok (.isub, 1) := by decide +kernel
theorem dX3_i_21 : decode cX3_i 21 = .ok (.iconst 4, 1) := by decide +kernel
theorem dX3_i_22 : decode cX3_i 22 = .ok (.aload_n 0, 1) := by decide +kernel
theorem dX3_i_23 : decode cX3_i 23 = .ok (.getfield 7, 3) := by decide +kernel
theorem dX3_i_26 : decode cX3_i 26 = .ok (.imul, 1) := by decide +kernel
theorem dX3_i_27 : decode cX3_i 27 = .ok (.aload_n 0, 1) := by decide +kernel
theorem dX3_i_28 : decode cX3_i 28 = .ok (.getfield 16, 3) := by decide +kernel
theorem dX3_i_31 : decode cX3_i 31 = .ok (.imul, 1) := by decide +kernel
theorem dX3_i_32 : decode cX3_i 32 = .ok (.iadd, 1) := by decide +kernel
theorem dX3_i_33 : decode cX3_i 33 = .ok (.aload_n 0, 1) := by decide +kernel
theorem dX3_i_34 : decode cX3_i 34 = .ok (.getfield 22, 3) := by decide +kernel
theorem dX3_i_37 : decode cX3_i 37 = .ok (.aload_n 0, 1) := by decide +kernel
theorem dX3_i_38 : decode cX3_i 38 = .ok (.getfield 22, 3) := by decide +kernel
theorem dX3_i_41 : decode cX3_i 41 = .ok (.imul, 1) := by decide +kernel
theorem dX3_i_42 : decode cX3_i 42 = .ok (.isub, 1) := by decide +kernel
theorem dX3_i_43 : decode cX3_i 43 = .ok (.ireturn, 1) := by decide +kernel
theorem dX3_sort_0 : decode cX3_sort 0 = .ok (.aload_n 0, 1) := by decide +kernel
theorem dX3_sort_1 : decode cX3_sort 1 = .ok (.invokevirtual 44, 3) := by decide +kernel
theorem dX3_sort_4 : decode cX3_sort 4 = .ok (.ifCond .eq 10, 3) := by decide +kernel
theorem dX3_sort_7 : decode cX3_sort 7 = .ok (.aload_n 0, 1) := by decide +kernel
theorem dX3_sort_8 : decode cX3_sort 8 = .ok (.invokevirtual 48, 3) := by decide +kernel
theorem dX3_sort_11 : decode cX3_sort 11 = .ok (.goto 7, 3) := by decide +kernel
theorem dX3_sort_14 : decode cX3_sort 14 = .ok (.aload_n 0, 1) := by decide +kernel
theorem dX3_sort_15 : decode cX3_sort 15 = .ok (.invokevirtual 51, 3) := by decide +kernel
theorem dX3_sort_18 : decode cX3_sort 18 = .ok (.ireturn, 1) := by decide +kernel
theorem dX3_sortOfWhole_0 : decode cX3_sortOfWhole 0 = .ok (.aload_n 0, 1) := by decide +kernel
theorem dX3_sortOfWhole_1 : decode cX3_sortOfWhole 1 = .ok (.invokevirtual 54, 3) := by decide +kernel
theorem dX3_sortOfWhole_4 : decode cX3_sortOfWhole 4 = .ok (.ifCond .le 30, 3) := by decide +kernel
theorem dX3_sortOfWhole_7 : decode cX3_sortOfWhole 7 = .ok (.aload_n 0, 1) := by decide +kernel
theorem dX3_sortOfWhole_8 : decode cX3_sortOfWhole 8 = .ok (.invokevirtual 44, 3) := by decide +kernel
theorem dX3_sortOfWhole_11 : decode cX3_sortOfWhole 11 = .ok (.i2l, 1) := by decide +kernel
theorem dX3_sortOfWhole_12 : decode cX3_sortOfWhole 12 = .ok (.aload_n 0, 1) := by decide +kernel
theorem dX3_sortOfWhole_13 : decode cX3_sortOfWhole 13 = .ok (.getfield 7, 3) := by decide +kernel
theorem dX3_sortOfWhole_16 : decode cX3_sortOfWhole 16 = .ok (.aload_n 0, 1) := by decide +kernel
theorem dX3_sortOfWhole_17 : decode cX3_sortOfWhole 17 = .ok (.getfield 13, 3) := by decide +kernel
theorem dX3_sortOfWhole_20 : decode cX3_sortOfWhole 20 = .ok (.iadd, 1) := by decide +kernel
theorem dX3_sortOfWhole_21 : decode cX3_sortOfWhole 21 = .ok (.i2l, 1) := by decide +kernel
theorem dX3_sortOfWhole_22 : decode cX3_sortOfWhole 22 = .ok (.lmul, 1) := by decide +kernel
theorem dX3_sortOfWhole_23 : decode cX3_sortOfWhole 23 = .ok (.lconst 0, 1) := by decide +kernel
theorem dX3_sortOfWhole_24 : decode cX3_sortOfWhole 24 = .ok (.lcmp, 1) := by decide +kernel
theorem dX3_sortOfWhole_25 : decode cX3_sortOfWhole 25 = .ok (.ifCond .ge 7, 3) := by decide +kernel
theorem dX3_sortOfWhole_28 : decode cX3_sortOfWhole 28 = .ok (.iconst 0, 1) := by decide +kernel
theorem dX3_sortOfWhole_29 : decode cX3_sortOfWhole 29 = .ok (.goto 4, 3) := by decide +kernel
theorem dX3_sortOfWhole_32 : decode cX3_sortOfWhole 32 = .ok (.iconst 1, 1) := by decide +kernel
theorem dX3_sortOfWhole_33 : decode cX3_sortOfWhole 33 = .ok (.ireturn, 1) := by decide +kernel
theorem dX3_sortOfWhole_34 : decode cX3_sortOfWhole 34 = .ok (.aload_n 0, 1) := by decide +kernel
theorem dX3_sortOfWhole_35 : decode cX3_sortOfWhole 35 = .ok (.invokevirtual 54, 3) := by decide +kernel
theorem dX3_sortOfWhole_38 : decode cX3_sortOfWhole 38 = .ok (.ifCond .ne 7, 3) := by decide +kernel
theorem dX3_sortOfWhole_41 : decode cX3_sortOfWhole 41 = .ok (.iconst 2, 1) := by decide +kernel
theorem dX3_sortOfWhole_42 : decode cX3_sortOfWhole 42 = .ok (.goto 4, 3) := by decide +kernel
theorem dX3_sortOfWhole_45 : decode cX3_sortOfWhole 45 = .ok (.iconst 3, 1) := by decide +kernel
theorem dX3_sortOfWhole_46 : decode cX3_sortOfWhole 46 = .ok (.ireturn, 1) := by decide +kernel
theorem dX3_sortOfFallen_0 : decode cX3_sortOfFallen 0 = .ok (.aload_n 0, 1) := by decide +kernel
theorem dX3_sortOfFallen_1 : decode cX3_sortOfFallen 1 = .ok (.invokevirtual 54, 3) := by decide +kernel
theorem dX3_sortOfFallen_4 : decode cX3_sortOfFallen 4 = .ok (.ifCond .eq 16, 3) := by decide +kernel
theorem dX3_sortOfFallen_7 : decode cX3_sortOfFallen 7 = .ok (.aload_n 0, 1) := by decide +kernel
theorem dX3_sortOfFallen_8 : decode cX3_sortOfFallen 8 = .ok (.invokevirtual 54, 3) := by decide +kernel
theorem dX3_sortOfFallen_11 : decode cX3_sortOfFallen 11 = .ok (.ifCond .le 7, 3) := by decide +kernel
theorem dX3_sortOfFallen_14 : decode cX3_sortOfFallen 14 = .ok (.iconst 4, 1) := by decide +kernel
theorem dX3_sortOfFallen_15 : decode cX3_sortOfFallen 15 = .ok (.goto 4, 3) := by decide +kernel
theorem dX3_sortOfFallen_18 : decode cX3_sortOfFallen 18 = .ok (.iconst 5, 1) := by decide +kernel
theorem dX3_sortOfFallen_19 : decode cX3_sortOfFallen 19 = .ok (.ireturn, 1) := by decide +kernel
theorem dX3_sortOfFallen_20 : decode cX3_sortOfFallen 20 = .ok (.aload_n 0, 1) := by decide +kernel
theorem dX3_sortOfFallen_21 : decode cX3_sortOfFallen 21 = .ok (.getfield 7, 3) := by decide +kernel
theorem dX3_sortOfFallen_24 : decode cX3_sortOfFallen 24 = .ok (.ifCond .ne 17, 3) := by decide +kernel
theorem dX3_sortOfFallen_27 : decode cX3_sortOfFallen 27 = .ok (.aload_n 0, 1) := by decide +kernel
theorem dX3_sortOfFallen_28 : decode cX3_sortOfFallen 28 = .ok (.getfield 13, 3) := by decide +kernel
theorem dX3_sortOfFallen_31 : decode cX3_sortOfFallen 31 = .ok (.ifCond .ne 10, 3) := by decide +kernel
theorem dX3_sortOfFallen_34 : decode cX3_sortOfFallen 34 = .ok (.aload_n 0, 1) := by decide +kernel
theorem dX3_sortOfFallen_35 : decode cX3_sortOfFallen 35 = .ok (.getfield 25, 3) := by decide +kernel
theorem dX3_sortOfFallen_38 : decode cX3_sortOfFallen 38 = .ok (.ifCond .eq 30, 3) := by decide +kernel
theorem dX3_sortOfFallen_41 : decode cX3_sortOfFallen 41 = .ok (.aload_n 0, 1) := by decide +kernel
theorem dX3_sortOfFallen_42 : decode cX3_sortOfFallen 42 = .ok (.invokevirtual 57, 3) := by decide +kernel
theorem dX3_sortOfFallen_45 : decode cX3_sortOfFallen 45 = .ok (.ifCond .ge 8, 3) := by decide +kernel
theorem dX3_sortOfFallen_48 : decode cX3_sortOfFallen 48 = .ok (.bipush 6, 2) := by decide +kernel
theorem dX3_sortOfFallen_50 : decode cX3_sortOfFallen 50 = .ok (.goto 17, 3) := by decide +kernel
theorem dX3_sortOfFallen_53 : decode cX3_sortOfFallen 53 = .ok (.aload_n 0, 1) := by decide +kernel
theorem dX3_sortOfFallen_54 : decode cX3_sortOfFallen 54 = .ok (.invokevirtual 57, 3) := by decide +kernel
theorem dX3_sortOfFallen_57 : decode cX3_sortOfFallen 57 = .ok (.ifCond .le 8, 3) := by decide +kernel
theorem dX3_sortOfFallen_60 : decode cX3_sortOfFallen 60 = .ok (.bipush 7, 2) := by decide +kernel
theorem dX3_sortOfFallen_62 : decode cX3_sortOfFallen 62 = .ok (.goto 5, 3) := by decide +kernel
theorem dX3_sortOfFallen_65 : decode cX3_sortOfFallen 65 = .ok (.bipush 8, 2) := by decide +kernel
theorem dX3_sortOfFallen_67 : decode cX3_sortOfFallen 67 = .ok (.ireturn, 1) := by decide +kernel
theorem dX3_sortOfFallen_68 : decode cX3_sortOfFallen 68 = .ok (.aload_n 0, 1) := by decide +kernel
theorem dX3_sortOfFallen_69 : decode cX3_sortOfFallen 69 = .ok (.getfield 19, 3) := by decide +kernel
theorem dX3_sortOfFallen_72 : decode cX3_sortOfFallen 72 = .ok (.ifCond .ne 10, 3) := by decide +kernel
theorem dX3_sortOfFallen_75 : decode cX3_sortOfFallen 75 = .ok (.aload_n 0, 1) := by decide +kernel
theorem dX3_sortOfFallen_76 : decode cX3_sortOfFallen 76 = .ok (.getfield 22, 3) := by decide +kernel
theorem dX3_sortOfFallen_79 : decode cX3_sortOfFallen 79 = .ok (.ifCond .eq 8, 3) := by decide +kernel
theorem dX3_sortOfFallen_82 : decode cX3_sortOfFallen 82 = .ok (.bipush 9, 2) := by decide +kernel
theorem dX3_sortOfFallen_84 : decode cX3_sortOfFallen 84 = .ok (.goto 5, 3) := by decide +kernel
theorem dX3_sortOfFallen_87 : decode cX3_sortOfFallen 87 = .ok (.bipush 10, 2) := by decide +kernel
theorem dX3_sortOfFallen_89 : decode cX3_sortOfFallen 89 = .ok (.ireturn, 1) := by decide +kernel
theorem dX4_init_0 : decode cX4_init 0 = .ok (.aload_n 0, 1) := by decide +kernel
theorem dX4_init_1 : decode cX4_init 1 = .ok (.invokespecial 3, 3) := by decide +kernel
theorem dX4_init_4 : decode cX4_init 4 = .ok (.aload_n 0, 1) := by decide +kernel
theorem dX4_init_5 : decode cX4_init 5 = .ok (.new 9, 3) := by decide +kernel
theorem dX4_init_8 : decode cX4_init 8 = .ok (.dup, 1) := by decide +kernel
theorem dX4_init_9 : decode cX4_init 9 = .ok (.invokespecial 11, 3) := by decide +kernel
theorem dX4_init_12 : decode cX4_init 12 = .ok (.putfield 12, 3) := by decide +kernel
theorem dX4_init_15 : decode cX4_init 15 = .ok (.aload_n 0, 1) := by decide +kernel
theorem dX4_init_16 : decode cX4_init 16 = .ok (.new 18, 3) := by decide +kernel
theorem dX4_init_19 : decode cX4_init 19 = .ok (.dup, 1) := by decide +kernel
theorem dX4_init_20 : decode cX4_init 20 = .ok (.invokespecial 20, 3) := by decide +kernel
theorem dX4_init_23 : decode cX4_init 23 = .ok (.putfield 21, 3) := by decide +kernel
theorem dX4_init_26 : decode cX4_init 26 = .ok (.aload_n 0, 1) := by decide +kernel
theorem dX4_init_27 : decode cX4_init 27 = .ok (.iconst 0, 1) := by decide +kernel
theorem dX4_init_28 : decode cX4_init 28 = .ok (.putfield 25, 3) := by decide +kernel
theorem dX4_init_31 : decode cX4_init 31 = .ok (.aload_n 0, 1) := by decide +kernel
theorem dX4_init_32 : decode cX4_init 32 = .ok (.iconst (-1), 1) := by decide +kernel
theorem dX4_init_33 : decode cX4_init 33 = .ok (.putfield 29, 3) := by decide +kernel
theorem dX4_init_36 : decode cX4_init 36 = .ok (.aload_n 0, 1) := by decide +kernel
theorem dX4_init_37 : decode cX4_init 37 = .ok (.iconst 0, 1) := by decide +kernel
theorem dX4_init_38 : decode cX4_init 38 = .ok (.putfield 32, 3) := by decide +kernel
theorem dX4_init_41 : decode cX4_init 41 = .ok (.aload_n 0, 1) := by decide +kernel
theorem dX4_init_42 : decode cX4_init 42 = .ok (.iconst 0, 1) := by decide +kernel
theorem dX4_init_43 : decode cX4_init 43 = .ok (.putfield 35, 3) := by decide +kernel
theorem dX4_init_46 : decode cX4_init 46 = .ok (.return_, 1) := by decide +kernel
theorem dX4_copy_0 : decode cX4_copy 0 = .ok (.aload_n 0, 1) := by decide +kernel
theorem dX4_copy_1 : decode cX4_copy 1 = .ok (.getfield 12, 3) := by decide +kernel
theorem dX4_copy_4 : decode cX4_copy 4 = .ok (.aload_n 1, 1) := by decide +kernel
theorem dX4_copy_5 : decode cX4_copy 5 = .ok (.getfield 12, 3) := by decide +kernel
theorem dX4_copy_8 : decode cX4_copy 8 = .ok (.invokevirtual 38, 3) := by decide +kernel
theorem dX4_copy_11 : decode cX4_copy 11 = .ok (.aload_n 0, 1) := by decide +kernel
theorem dX4_copy_12 : decode cX4_copy 12 = .ok (.getfield 21, 3) := by decide +kernel
theorem dX4_copy_15 : decode cX4_copy 15 = .ok (.aload_n 1, 1) := by decide +kernel
theorem dX4_copy_16 : decode cX4_copy 16 = .ok (.getfield 21, 3) := by decide +kernel
theorem dX4_copy_19 : decode cX4_copy 19 = .ok (.invokevirtual 42, 3) := by decide +kernel
theorem dX4_copy_22 : decode cX4_copy 22 = .ok (.aload_n 0, 1) := by decide +kernel
theorem dX4_copy_23 : decode cX4_copy 23 = .ok (.aload_n 1, 1) := by decide +kernel
theorem dX4_copy_24 : decode cX4_copy 24 = .ok (.getfield 25, 3) := by decide +kernel
theorem dX4_copy_27 : decode cX4_copy 27 = .ok (.putfield 25, 3) := by decide +kernel
theorem dX4_copy_30 : decode cX4_copy 30 = .ok (.aload_n 0, 1) := by decide +kernel
theorem dX4_copy_31 : decode cX4_copy 31 = .ok (.aload_n 1, 1) := by decide +kernel
theorem dX4_copy_32 : decode cX4_copy 32 = .ok (.getfield 29, 3) := by decide +kernel
theorem dX4_copy_35 : decode cX4_copy 35 = .ok (.putfield 29, 3) := by decide +kernel
theorem dX4_copy_38 : decode cX4_copy 38 = .ok (.aload_n 0, 1) := by decide +kernel
theorem dX4_copy_39 : decode cX4_copy 39 = .ok (.aload_n 1, 1) := by decide +kernel
theorem dX4_copy_40 : decode cX4_copy 40 = .ok (.getfield 32, 3) := by decide +kernel
theorem dX4_copy_43 : decode cX4_copy 43 = .ok (.putfield 32, 3) := by decide +kernel
theorem dX4_copy_46 : decode cX4_copy 46 = .ok (.aload_n 0, 1) := by decide +kernel
theorem dX4_copy_47 : decode cX4_copy 47 = .ok (.aload_n 1, 1) := by decide +kernel
theorem dX4_copy_48 : decode cX4_copy 48 = .ok (.getfield 35, 3) := by decide +kernel
theorem dX4_copy_51 : decode cX4_copy 51 = .ok (.putfield 35, 3) := by decide +kernel
theorem dX4_copy_54 : decode cX4_copy 54 = .ok (.return_, 1) := by decide +kernel
theorem dX5_init_0 : decode cX5_init 0 = .ok (.aload_n 0, 1) := by decide +kernel
theorem dX5_init_1 : decode cX5_init 1 = .ok (.invokespecial 3, 3) := by decide +kernel
theorem dX5_init_4 : decode cX5_init 4 = .ok (.aload_n 0, 1) := by decide +kernel
theorem dX5_init_5 : decode cX5_init 5 = .ok (.bipush 8, 2) := by decide +kernel
theorem dX5_init_7 : decode cX5_init 7 = .ok (.anewarray 9, 3) := by decide +kernel
theorem dX5_init_10 : decode cX5_init 10 = .ok (.putfield 11, 3) := by decide +kernel
theorem dX5_init_13 : decode cX5_init 13 = .ok (.aload_n 0, 1) := by decide +kernel
theorem dX5_init_14 : decode cX5_init 14 = .ok (.iconst 0, 1) := by decide +kernel
theorem dX5_init_15 : decode cX5_init 15 = .ok (.putfield 17, 3) := by decide +kernel
theorem dX5_init_18 : decode cX5_init 18 = .ok (.aload_n 0, 1) := by decide +kernel
theorem dX5_init_19 : decode cX5_init 19 = .ok (.iconst 0, 1) := by decide +kernel
theorem dX5_init_20 : decode cX5_init 20 = .ok (.putfield 21, 3) := by decide +kernel
theorem dX5_init_23 : decode cX5_init 23 = .ok (.iconst 0, 1) := by decide +kernel
theorem dX5_init_24 : decode cX5_init 24 = .ok (.istore_n 1, 1) := by decide +kernel
theorem dX5_init_25 : decode cX5_init 25 = .ok (.iload_n 1, 1) := by decide +kernel
theorem dX5_init_26 : decode cX5_init 26 = .ok (.bipush 8, 2) := by decide +kernel
theorem dX5_init_28 : decode cX5_init 28 = .ok (.if_icmp .ge 22, 3) := by decide +kernel
theorem dX5_init_31 : decode cX5_init 31 = .ok (.aload_n 0, 1) := by decide +kernel
theorem dX5_init_32 : decode cX5_init 32 = .ok (.getfield 11, 3) := by decide +kernel
theorem dX5_init_35 : decode cX5_init 35 = .ok (.iload_n 1, 1) := by decide +kernel
theorem dX5_init_36 : decode cX5_init 36 = .ok (.new 9, 3) := by decide +kernel
theorem dX5_init_39 : decode cX5_init 39 = .ok (.dup, 1) := by decide +kernel
theorem dX5_init_40 : decode cX5_init 40 = .ok (.invokespecial 24, 3) := by decide +kernel
theorem dX5_init_43 : decode cX5_init 43 = .ok (.aastore, 1) := by decide +kernel
theorem dX5_init_44 : decode cX5_init 44 = .ok (.iinc 1 1, 3) := by decide +kernel
theorem dX5_init_47 : decode cX5_init 47 = .ok (.goto (-22), 3) := by decide +kernel
theorem dX5_init_50 : decode cX5_init 50 = .ok (.return_, 1) := by decide +kernel
theorem dX5_keep_0 : decode cX5_keep 0 = .ok (.aload_n 0, 1) := by decide +kernel
theorem dX5_keep_1 : decode cX5_keep 1 = .ok (.getfield 17, 3) := by decide +kernel
theorem dX5_keep_4 : decode cX5_keep 4 = .ok (.ifCond .lt 12, 3) := by decide +kernel
theorem dX5_keep_7 : decode cX5_keep 7 = .ok (.aload_n 0, 1) := by decide +kernel
theorem dX5_keep_8 : decode cX5_keep 8 = .ok (.getfield 17, 3) := by decide +kernel
theorem dX5_keep_11 : decode cX5_keep 11 = .ok (.bipush 8, 2) := by decide +kernel
theorem dX5_keep_13 : decode cX5_keep 13 = .ok (.if_icmp .lt 4, 3) := by decide +kernel
theorem dX5_keep_16 : decode cX5_keep 16 = .ok (.return_, 1) := by decide +kernel
theorem dX5_keep_17 : decode cX5_keep 17 = .ok (.aload_n 0, 1) := by decide +kernel
theorem dX5_keep_18 : decode cX5_keep 18 = .ok (.getfield 11, 3) := by decide +kernel
theorem dX5_keep_21 : decode cX5_keep 21 = .ok (.aload_n 0, 1) := by decide +kernel
theorem dX5_keep_22 : decode cX5_keep 22 = .ok (.getfield 17, 3) := by decide +kernel
theorem dX5_keep_25 : decode cX5_keep 25 = .ok (.aaload, 1) := by decide +kernel
theorem dX5_keep_26 : decode cX5_keep 26 = .ok (.aload_n 1, 1) := by decide +kernel
theorem dX5_keep_27 : decode cX5_keep 27 = .ok (.invokevirtual 25, 3) := by decide +kernel
theorem dX5_keep_30 : decode cX5_keep 30 = .ok (.aload_n 0, 1) := by decide +kernel
theorem dX5_keep_31 : decode cX5_keep 31 = .ok (.aload_n 0, 1) := by decide +kernel
theorem dX5_keep_32 : decode cX5_keep 32 = .ok (.getfield 17, 3) := by decide +kernel
theorem dX5_keep_35 : decode cX5_keep 35 = .ok (.iconst 1, 1) := by decide +kernel
theorem dX5_keep_36 : decode cX5_keep 36 = .ok (.iadd, 1) := by decide +kernel
theorem dX5_keep_37 : decode cX5_keep 37 = .ok (.bipush 8, 2) := by decide +kernel
theorem dX5_keep_39 : decode cX5_keep 39 = .ok (.if_icmp .ge 12, 3) := by decide +kernel
theorem dX5_keep_42 : decode cX5_keep 42 = .ok (.aload_n 0, 1) := by decide +kernel
theorem dX5_keep_43 : decode cX5_keep 43 = .ok (.getfield 17, 3) := by decide +kernel
theorem dX5_keep_46 : decode cX5_keep 46 = .ok (.iconst 1, 1) := by decide +kernel
theorem dX5_keep_47 : decode cX5_keep 47 = .ok (.iadd, 1) := by decide +kernel
theorem dX5_keep_48 : decode cX5_keep 48 = .ok (.goto 4, 3) := by decide +kernel
theorem dX5_keep_51 : decode cX5_keep 51 = .ok (.iconst 0, 1) := by decide +kernel
theorem dX5_keep_52 : decode cX5_keep 52 = .ok (.putfield 17, 3) := by decide +kernel
theorem dX5_keep_55 : decode cX5_keep 55 = .ok (.aload_n 0, 1) := by decide +kernel
theorem dX5_keep_56 : decode cX5_keep 56 = .ok (.aload_n 0, 1) := by decide +kernel
theorem dX5_keep_57 : decode cX5_keep 57 = .ok (.getfield 21, 3) := by decide +kernel
theorem dX5_keep_60 : decode cX5_keep 60 = .ok (.iconst 1, 1) := by decide +kernel
theorem dX5_keep_61 : decode cX5_keep 61 = .ok (.iadd, 1) := by decide +kernel
theorem dX5_keep_62 : decode cX5_keep 62 = .ok (.bipush 8, 2) := by decide +kernel
theorem dX5_keep_64 : decode cX5_keep 64 = .ok (.invokestatic 29, 3) := by decide +kernel
theorem dX5_keep_67 : decode cX5_keep 67 = .ok (.putfield 21, 3) := by decide +kernel
theorem dX5_keep_70 : decode cX5_keep 70 = .ok (.return_, 1) := by decide +kernel
theorem dX5_giveBack_0 : decode cX5_giveBack 0 = .ok (.aload_n 0, 1) := by decide +kernel
theorem dX5_giveBack_1 : decode cX5_giveBack 1 = .ok (.getfield 17, 3) := by decide +kernel
theorem dX5_giveBack_4 : decode cX5_giveBack 4 = .ok (.ifCond .le 12, 3) := by decide +kernel
theorem dX5_giveBack_7 : decode cX5_giveBack 7 = .ok (.aload_n 0, 1) := by decide +kernel
theorem dX5_giveBack_8 : decode cX5_giveBack 8 = .ok (.getfield 17, 3) := by decide +kernel
theorem dX5_giveBack_11 : decode cX5_giveBack 11 = .ok (.iconst 1, 1) := by decide +kernel
theorem dX5_giveBack_12 : decode cX5_giveBack 12 = .ok (.isub, 1) := by decide +kernel
theorem dX5_giveBack_13 : decode cX5_giveBack 13 = .ok (.goto 5, 3) := by decide +kernel
theorem dX5_giveBack_16 : decode cX5_giveBack 16 = .ok (.bipush 7, 2) := by decide +kernel
theorem dX5_giveBack_18 : decode cX5_giveBack 18 = .ok (.istore_n 2, 1) := by decide +kernel
theorem dX5_giveBack_19 : decode cX5_giveBack 19 = .ok (.aload_n 0, 1) := by decide +kernel
theorem dX5_giveBack_20 : decode cX5_giveBack 20 = .ok (.getfield 21, 3) := by decide +kernel
theorem dX5_giveBack_23 : decode cX5_giveBack 23 = .ok (.ifCond .eq 9, 3) := by decide +kernel
theorem dX5_giveBack_26 : decode cX5_giveBack 26 = .ok (.iload_n 2, 1) := by decide +kernel
theorem dX5_giveBack_27 : decode cX5_giveBack 27 = .ok (.bipush 8, 2) := by decide +kernel
theorem dX5_giveBack_29 : decode cX5_giveBack 29 = .ok (.if_icmp .lt 5, 3) := by decide +kernel
theorem dX5_giveBack_32 : decode cX5_giveBack 32 = .ok (.iconst 0, 1) := by decide +kernel
theorem dX5_giveBack_33 : decode cX5_giveBack 33 = .ok (.ireturn, 1) := by decide +kernel
theorem dX5_giveBack_34 : decode cX5_giveBack 34 = .ok (.aload_n 1, 1) := by decide +kernel
theorem dX5_giveBack_35 : decode cX5_giveBack 35 = .ok (.aload_n 0, 1) := by decide +kernel
theorem dX5_giveBack_36 : decode cX5_giveBack 36 = .ok (.getfield 11, 3) := by decide +kernel
theorem dX5_giveBack_39 : decode cX5_giveBack 39 = .ok (.iload_n 2, 1) := by decide +kernel
theorem dX5_giveBack_40 : decode cX5_giveBack 40 = .ok (.aaload, 1) := by decide +kernel
theorem dX5_giveBack_41 : decode cX5_giveBack 41 = .ok (.invokevirtual 25, 3) := by decide +kernel
theorem dX5_giveBack_44 : decode cX5_giveBack 44 = .ok (.aload_n 0, 1) := by decide +kernel
theorem dX5_giveBack_45 : decode cX5_giveBack 45 = .ok (.iload_n 2, 1) := by decide +kernel
theorem dX5_giveBack_46 : decode cX5_giveBack 46 = .ok (.putfield 17, 3) := by decide +kernel
theorem dX5_giveBack_49 : decode cX5_giveBack 49 = .ok (.aload_n 0, 1) := by decide +kernel
theorem dX5_giveBack_50 : decode cX5_giveBack 50 = .ok (.dup, 1) := by decide +kernel
theorem dX5_giveBack_51 : decode cX5_giveBack 51 = .ok (.getfield 21, 3) := by decide +kernel
theorem dX5_giveBack_54 : decode cX5_giveBack 54 = .ok (.iconst 1, 1) := by decide +kernel
theorem dX5_giveBack_55 : decode cX5_giveBack 55 = .ok (.isub, 1) := by decide +kernel
theorem dX5_giveBack_56 : decode cX5_giveBack 56 = .ok (.putfield 21, 3) := by decide +kernel
theorem dX5_giveBack_59 : decode cX5_giveBack 59 = .ok (.iconst 1, 1) := by decide +kernel
theorem dX5_giveBack_60 : decode cX5_giveBack 60 = .ok (.ireturn, 1) := by decide +kernel
theorem dX5_forget_0 : decode cX5_forget 0 = .ok (.aload_n 0, 1) := by decide +kernel
theorem dX5_forget_1 : decode cX5_forget 1 = .ok (.iconst 0, 1) := by decide +kernel
theorem dX5_forget_2 : decode cX5_forget 2 = .ok (.putfield 21, 3) := by decide +kernel
theorem dX5_forget_5 : decode cX5_forget 5 = .ok (.return_, 1) := by decide +kernel
theorem dX6_init_0 : decode cX6_init 0 = .ok (.aload_n 0, 1) := by decide +kernel
theorem dX6_init_1 : decode cX6_init 1 = .ok (.invokespecial 3, 3) := by decide +kernel
theorem dX6_init_4 : decode cX6_init 4 = .ok (.aload_n 0, 1) := by decide +kernel
theorem dX6_init_5 : decode cX6_init 5 = .ok (.new 9, 3) := by decide +kernel
theorem dX6_init_8 : decode cX6_init 8 = .ok (.dup, 1) := by decide +kernel
theorem dX6_init_9 : decode cX6_init 9 = .ok (.invokespecial 11, 3) := by decide +kernel
theorem dX6_init_12 : decode cX6_init 12 = .ok (.putfield 12, 3) := by decide +kernel
theorem dX6_init_15 : decode cX6_init 15 = .ok (.aload_n 0, 1) := by decide +kernel
theorem dX6_init_16 : decode cX6_init 16 = .ok (.new 9, 3) := by decide +kernel
theorem dX6_init_19 : decode cX6_init 19 = .ok (.dup, 1) := by decide +kernel
theorem dX6_init_20 : decode cX6_init 20 = .ok (.invokespecial 11, 3) := by decide +kernel
theorem dX6_init_23 : decode cX6_init 23 = .ok (.putfield 18, 3) := by decide +kernel
theorem dX6_init_26 : decode cX6_init 26 = .ok (.aload_n 0, 1) := by decide +kernel
theorem dX6_init_27 : decode cX6_init 27 = .ok (.new 9, 3) := by decide +kernel
theorem dX6_init_30 : decode cX6_init 30 = .ok (.dup, 1) := by decide +kernel
theorem dX6_init_31 : decode cX6_init 31 = .ok (.invokespecial 11, 3) := by decide +kernel
theorem dX6_init_34 : decode cX6_init 34 = .ok (.putfield 21, 3) := by decide +kernel
theorem dX6_init_37 : decode cX6_init 37 = .ok (.aload_n 0, 1) := by decide +kernel
theorem dX6_init_38 : decode cX6_init 38 = .ok (.new 24, 3) := by decide +kernel
theorem dX6_init_41 : decode cX6_init 41 = .ok (.dup, 1) := by decide +kernel
theorem dX6_init_42 : decode cX6_init 42 = .ok (.invokespecial 26, 3) := by decide +kernel
theorem dX6_init_45 : decode cX6_init 45 = .ok (.putfield 27, 3) := by decide +kernel
theorem dX6_init_48 : decode cX6_init 48 = .ok (.aload_n 0, 1) := by decide +kernel
theorem dX6_init_49 : decode cX6_init 49 = .ok (.new 24, 3) := by decide +kernel
theorem dX6_init_52 : decode cX6_init 52 = .ok (.dup, 1) := by decide +kernel
theorem dX6_init_53 : decode cX6_init 53 = .ok (.invokespecial 26, 3) := by decide +kernel
theorem dX6_init_56 : decode cX6_init 56 = .ok (.putfield 31, 3) := by decide +kernel
theorem dX6_init_59 : decode cX6_init 59 = .ok (.return_, 1) := by decide +kernel
theorem dX6_take_0 : decode cX6_take 0 = .ok (.aload_n 0, 1) := by decide +kernel
theorem dX6_take_1 : decode cX6_take 1 = .ok (.getfield 12, 3) := by decide +kernel
theorem dX6_take_4 : decode cX6_take 4 = .ok (.aload_n 1, 1) := by decide +kernel
theorem dX6_take_5 : decode cX6_take 5 = .ok (.iload_n 2, 1) := by decide +kernel
theorem dX6_take_6 : decode cX6_take 6 = .ok (.invokevirtual 34, 3) := by decide +kernel
theorem dX6_take_9 : decode cX6_take 9 = .ok (.aload_n 0, 1) := by decide +kernel
theorem dX6_take_10 : decode cX6_take 10 = .ok (.getfield 18, 3) := by decide +kernel
theorem dX6_take_13 : decode cX6_take 13 = .ok (.aload_n 1, 1) := by decide +kernel
theorem dX6_take_14 : decode cX6_take 14 = .ok (.iload_n 3, 1) := by decide +kernel
theorem dX6_take_15 : decode cX6_take 15 = .ok (.invokevirtual 34, 3) := by decide +kernel
theorem dX6_take_18 : decode cX6_take 18 = .ok (.aload_n 0, 1) := by decide +kernel
theorem dX6_take_19 : decode cX6_take 19 = .ok (.getfield 12, 3) := by decide +kernel
theorem dX6_take_22 : decode cX6_take 22 = .ok (.getfield 38, 3) := by decide +kernel
theorem dX6_take_25 : decode cX6_take 25 = .ok (.invokevirtual 42, 3) := by decide +kernel
theorem dX6_take_28 : decode cX6_take 28 = .ok (.ifCond .ne 34, 3) := by decide +kernel
theorem dX6_take_31 : decode cX6_take 31 = .ok (.aload_n 0, 1) := by decide +kernel
theorem dX6_take_32 : decode cX6_take 32 = .ok (.getfield 18, 3) := by decide +kernel
theorem dX6_take_35 : decode cX6_take 35 = .ok (.getfield 38, 3) := by decide +kernel
theorem dX6_take_38 : decode cX6_take 38 = .ok (.invokevirtual 42, 3) := by decide +kernel
theorem dX6_take_41 : decode cX6_take 41 = .ok (.ifCond .ne 21, 3) := by decide +kernel
theorem dX6_take_44 : decode cX6_take 44 = .ok (.aload_n 0, 1) := by decide +kernel
theorem dX6_take_45 : decode cX6_take 45 = .ok (.getfield 12, 3) := by decide +kernel
theorem dX6_take_48 : decode cX6_take 48 = .ok (.aload_n 0, 1) := by decide +kernel
theorem dX6_take_49 : decode cX6_take 49 = .ok (.getfield 18, 3) := by decide +kernel
theorem dX6_take_52 : decode cX6_take 52 = .ok (.invokevirtual 48, 3) := by decide +kernel
theorem dX6_take_55 : decode cX6_take 55 = .ok (.ifCond .eq 7, 3) := by decide +kernel
theorem dX6_take_58 : decode cX6_take 58 = .ok (.iconst 1, 1) := by decide +kernel
theorem dX6_take_59 : decode cX6_take 59 = .ok (.goto 4, 3) := by decide +kernel
theorem dX6_take_62 : decode cX6_take 62 = .ok (.iconst 0, 1) := by decide +kernel
theorem dX6_take_63 : decode cX6_take 63 = .ok (.ireturn, 1) := by decide +kernel
theorem dX6_takeMember_0 : decode cX6_takeMember 0 = .ok (.iload_n 1, 1) := by decide +kernel
theorem dX6_takeMember_1 : decode cX6_takeMember 1 = .ok (.ifCond .lt 14, 3) := by decide +kernel
theorem dX6_takeMember_4 : decode cX6_takeMember 4 = .ok (.iload_n 1, 1) := by decide +kernel
theorem dX6_takeMember_5 : decode cX6_takeMember 5 = .ok (.aload_n 0, 1) := by decide +kernel
theorem dX6_takeMember_6 : decode cX6_takeMember 6 = .ok (.getfield 12, 3) := by decide +kernel
theorem dX6_takeMember_9 : decode cX6_takeMember 9 = .ok (.getfield 52, 3) := by decide +kernel
theorem dX6_takeMember_12 : decode cX6_takeMember 12 = .ok (.if_icmp .le 5, 3) := by decide +kernel
theorem dX6_takeMember_15 : decode cX6_takeMember 15 = .ok (.iconst 0, 1) := by decide +kernel
theorem dX6_takeMember_16 : decode cX6_takeMember 16 = .ok (.ireturn, 1) := by decide +kernel
theorem dX6_takeMember_17 : decode cX6_takeMember 17 = .ok (.iload_n 1, 1) := by decide +kernel
theorem dX6_takeMember_18 : decode cX6_takeMember 18 = .ok (.aload_n 0, 1) := by decide +kernel
theorem dX6_takeMember_19 : decode cX6_takeMember 19 = .ok (.getfield 12, 3) := by decide +kernel
theorem dX6_takeMember_22 : decode cX6_takeMember 22 = .ok (.getfield 52, 3) := by decide +kernel
theorem dX6_takeMember_25 : decode cX6_takeMember 25 = .ok (.if_icmp .ge 22, 3) := by decide +kernel
theorem dX6_takeMember_28 : decode cX6_takeMember 28 = .ok (.aload_n 0, 1) := by decide +kernel
theorem dX6_takeMember_29 : decode cX6_takeMember 29 = .ok (.getfield 21, 3) := by decide +kernel
theorem dX6_takeMember_32 : decode cX6_takeMember 32 = .ok (.aload_n 0, 1) := by decide +kernel
theorem dX6_takeMember_33 : decode cX6_takeMember 33 = .ok (.getfield 12, 3) := by decide +kernel
theorem dX6_takeMember_36 : decode cX6_takeMember 36 = .ok (.iload_n 1, 1) := by decide +kernel
theorem dX6_takeMember_37 : decode cX6_takeMember 37 = .ok (.aload_n 0, 1) := by decide +kernel
theorem dX6_takeMember_38 : decode cX6_takeMember 38 = .ok (.getfield 18, 3) := by decide +kernel
theorem dX6_takeMember_41 : decode cX6_takeMember 41 = .ok (.invokevirtual 56, 3) := by decide +kernel
theorem dX6_takeMember_44 : decode cX6_takeMember 44 = .ok (.goto 34, 3) := by decide +kernel
theorem dX6_takeMember_47 : decode cX6_takeMember 47 = .ok (.aload_n 0, 1) := by decide +kernel
theorem dX6_takeMember_48 : decode cX6_takeMember 48 = .ok (.getfield 21, 3) := by decide +kernel
theorem dX6_takeMember_51 : decode cX6_takeMember 51 = .ok (.aload_n 0, 1) := by decide +kernel
theorem dX6_takeMember_52 : decode cX6_takeMember 52 = .ok (.getfield 12, 3) := by decide +kernel
theorem dX6_takeMember_55 : decode cX6_takeMember 55 = .ok (.getfield 52, 3) := by decide +kernel
theorem dX6_takeMember_58 : decode cX6_takeMember 58 = .ok (.putfield 52, 3) := by decide +kernel
theorem dX6_takeMember_61 : decode cX6_takeMember 61 = .ok (.aload_n 0, 1) := by decide +kernel
theorem dX6_takeMember_62 : decode cX6_takeMember 62 = .ok (.getfield 21, 3) := by decide +kernel
theorem dX6_takeMember_65 : decode cX6_takeMember 65 = .ok (.getfield 38, 3) := by decide +kernel
theorem dX6_takeMember_68 : decode cX6_takeMember 68 = .ok (.aload_n 0, 1) := by decide +kernel
theorem dX6_takeMember_69 : decode cX6_takeMember 69 = .ok (.getfield 12, 3) := by decide +kernel
theorem dX6_takeMember_72 : decode cX6_takeMember 72 = .ok (.getfield 38, 3) := by decide +kernel
theorem dX6_takeMember_75 : decode cX6_takeMember 75 = .ok (.invokevirtual 60, 3) := by decide +kernel
theorem dX6_takeMember_78 : decode cX6_takeMember 78 = .ok (.iconst 1, 1) := by decide +kernel
theorem dX6_takeMember_79 : decode cX6_takeMember 79 = .ok (.ireturn, 1) := by decide +kernel
theorem dX6_fallen_0 : decode cX6_fallen 0 = .ok (.iconst 0, 1) := by decide +kernel
theorem dX6_fallen_1 : decode cX6_fallen 1 = .ok (.istore_n 1, 1) := by decide +kernel
theorem dX6_fallen_2 : decode cX6_fallen 2 = .ok (.iconst 0, 1) := by decide +kernel
theorem dX6_fallen_3 : decode cX6_fallen 3 = .ok (.istore_n 2, 1) := by decide +kernel
theorem dX6_fallen_4 : decode cX6_fallen 4 = .ok (.iload_n 2, 1) := by decide +kernel
theorem dX6_fallen_5 : decode cX6_fallen 5 = .ok (.aload_n 0, 1) := by decide +kernel
theorem dX6_fallen_6 : decode cX6_fallen 6 = .ok (.getfield 12, 3) := by decide +kernel
theorem dX6_fallen_9 : decode cX6_fallen 9 = .ok (.getfield 52, 3) := by decide +kernel
theorem dX6_fallen_12 : decode cX6_fallen 12 = .ok (.if_icmp .gt 31, 3) := by decide +kernel
theorem dX6_fallen_15 : decode cX6_fallen 15 = .ok (.aload_n 0, 1) := by decide +kernel
theorem dX6_fallen_16 : decode cX6_fallen 16 = .ok (.iload_n 2, 1) := by decide +kernel
theorem dX6_fallen_17 : decode cX6_fallen 17 = .ok (.invokevirtual 64, 3) := by decide +kernel
theorem dX6_fallen_20 : decode cX6_fallen 20 = .ok (.ifCond .eq 17, 3) := by decide +kernel
theorem dX6_fallen_23 : decode cX6_fallen 23 = .ok (.aload_n 0, 1) := by decide +kernel
theorem dX6_fallen_24 : decode cX6_fallen 24 = .ok (.getfield 21, 3) := by decide +kernel
theorem dX6_fallen_27 : decode cX6_fallen 27 = .ok (.invokevirtual 68, 3) := by decide +kernel
theorem dX6_fallen_30 : decode cX6_fallen 30 = .ok (.iconst 4, 1) := by decide +kernel
theorem dX6_fallen_31 : decode cX6_fallen 31 = .ok (.if_icmp .eq 6, 3) := by decide +kernel
theorem dX6_fallen_34 : decode cX6_fallen 34 = .ok (.iinc 1 1, 3) := by decide +kernel
theorem dX6_fallen_37 : decode cX6_fallen 37 = .ok (.iinc 2 1, 3) := by decide +kernel
theorem dX6_fallen_40 : decode cX6_fallen 40 = .ok (.goto (-36), 3) := by decide +kernel
theorem dX6_fallen_43 : decode cX6_fallen 43 = .ok (.iload_n 1, 1) := by decide +kernel
theorem dX6_fallen_44 : decode cX6_fallen 44 = .ok (.ireturn, 1) := by decide +kernel
theorem dX6_sizeOfBase_0 : decode cX6_sizeOfBase 0 = .ok (.iconst 0, 1) := by decide +kernel
theorem dX6_sizeOfBase_1 : decode cX6_sizeOfBase 1 = .ok (.istore_n 1, 1) := by decide +kernel
theorem dX6_sizeOfBase_2 : decode cX6_sizeOfBase 2 = .ok (.iconst 0, 1) := by decide +kernel
theorem dX6_sizeOfBase_3 : decode cX6_sizeOfBase 3 = .ok (.istore_n 2, 1) := by decide +kernel
theorem dX6_sizeOfBase_4 : decode cX6_sizeOfBase 4 = .ok (.iload_n 2, 1) := by decide +kernel
theorem dX6_sizeOfBase_5 : decode cX6_sizeOfBase 5 = .ok (.aload_n 0, 1) := by decide +kernel
theorem dX6_sizeOfBase_6 : decode cX6_sizeOfBase 6 = .ok (.getfield 12, 3) := by decide +kernel
theorem dX6_sizeOfBase_9 : decode cX6_sizeOfBase 9 = .ok (.getfield 52, 3) := by decide +kernel
theorem dX6_sizeOfBase_12 : decode cX6_sizeOfBase 12 = .ok (.invokestatic 72, 3) := by decide +kernel
theorem dX6_sizeOfBase_15 : decode cX6_sizeOfBase 15 = .ok (.if_icmp .ge 20, 3) := by decide +kernel
theorem dX6_sizeOfBase_18 : decode cX6_sizeOfBase 18 = .ok (.aload_n 0, 1) := by decide +kernel
theorem dX6_sizeOfBase_19 : decode cX6_sizeOfBase 19 = .ok (.iload_n 2, 1) := by decide +kernel
theorem dX6_sizeOfBase_20 : decode cX6_sizeOfBase 20 = .ok (.invokevirtual 78, 3) := by decide +kernel
theorem dX6_sizeOfBase_23 : decode cX6_sizeOfBase 23 = .ok (.ifCond .eq 6, 3) := by decide +kernel
theorem dX6_sizeOfBase_26 : decode cX6_sizeOfBase 26 = .ok (.iinc 1 1, 3) := by decide +kernel
theorem dX6_sizeOfBase_29 : decode cX6_sizeOfBase 29 = .ok (.iinc 2 1, 3) := by decide +kernel
theorem dX6_sizeOfBase_32 : decode cX6_sizeOfBase 32 = .ok (.goto (-28), 3) := by decide +kernel
theorem dX6_sizeOfBase_35 : decode cX6_sizeOfBase 35 = .ok (.iload_n 1, 1) := by decide +kernel
theorem dX6_sizeOfBase_36 : decode cX6_sizeOfBase 36 = .ok (.ireturn, 1) := by decide +kernel
theorem dX6_nthOfBase_0 : decode cX6_nthOfBase 0 = .ok (.iload_n 1, 1) := by decide +kernel
theorem dX6_nthOfBase_1 : decode cX6_nthOfBase 1 = .ok (.istore_n 2, 1) := by decide +kernel
theorem dX6_nthOfBase_2 : decode cX6_nthOfBase 2 = .ok (.iconst 0, 1) := by decide +kernel
theorem dX6_nthOfBase_3 : decode cX6_nthOfBase 3 = .ok (.istore_n 3, 1) := by decide +kernel
theorem dX6_nthOfBase_4 : decode cX6_nthOfBase 4 = .ok (.iload_n 3, 1) := by decide +kernel
theorem dX6_nthOfBase_5 : decode cX6_nthOfBase 5 = .ok (.aload_n 0, 1) := by decide +kernel
theorem dX6_nthOfBase_6 : decode cX6_nthOfBase 6 = .ok (.getfield 12, 3) := by decide +kernel
theorem dX6_nthOfBase_9 : decode cX6_nthOfBase 9 = .ok (.getfield 52, 3) := by decide +kernel
theorem dX6_nthOfBase_12 : decode cX6_nthOfBase 12 = .ok (.invokestatic 72, 3) := by decide +kernel
theorem dX6_nthOfBase_15 : decode cX6_nthOfBase 15 = .ok (.if_icmp .ge 26, 3) := by decide +kernel
theorem dX6_nthOfBase_18 : decode cX6_nthOfBase 18 = .ok (.aload_n 0, 1) := by decide +kernel
theorem dX6_nthOfBase_19 : decode cX6_nthOfBase 19 = .ok (.iload_n 3, 1) := by decide +kernel
theorem dX6_nthOfBase_20 : decode cX6_nthOfBase 20 = .ok (.invokevirtual 78, 3) := by decide +kernel
theorem dX6_nthOfBase_23 : decode cX6_nthOfBase 23 = .ok (.ifCond .eq 12, 3) := by decide +kernel
theorem dX6_nthOfBase_26 : decode cX6_nthOfBase 26 = .ok (.iload_n 2, 1) := by decide +kernel
theorem dX6_nthOfBase_27 : decode cX6_nthOfBase 27 = .ok (.ifCond .ne 5, 3) := by decide +kernel
theorem dX6_nthOfBase_30 : decode cX6_nthOfBase 30 = .ok (.iload_n 3, 1) := by decide +kernel
theorem dX6_nthOfBase_31 : decode cX6_nthOfBase 31 = .ok (.ireturn, 1) := by decide +kernel
theorem dX6_nthOfBase_32 : decode cX6_nthOfBase 32 = .ok (.iinc 2 (-1), 3) := by decide +kernel
theorem dX6_nthOfBase_35 : decode cX6_nthOfBase 35 = .ok (.iinc 3 1, 3) := by decide +kernel
theorem dX6_nthOfBase_38 : decode cX6_nthOfBase 38 = .ok (.goto (-34), 3) := by decide +kernel
theorem dX6_nthOfBase_41 : decode cX6_nthOfBase 41 = .ok (.iconst (-1), 1) := by decide +kernel
theorem dX6_nthOfBase_42 : decode cX6_nthOfBase 42 = .ok (.ireturn, 1) := by decide +kernel
theorem dX6_touching_0 : decode cX6_touching 0 = .ok (.aload_n 0, 1) := by decide +kernel
theorem dX6_touching_1 : decode cX6_touching 1 = .ok (.getfield 12, 3) := by decide +kernel
theorem dX6_touching_4 : decode cX6_touching 4 = .ok (.invokevirtual 68, 3) := by decide +kernel
theorem dX6_touching_7 : decode cX6_touching 7 = .ok (.iconst 4, 1) := by decide +kernel
theorem dX6_touching_8 : decode cX6_touching 8 = .ok (.if_icmp .ne 14, 3) := by decide +kernel
theorem dX6_touching_11 : decode cX6_touching 11 = .ok (.aload_n 0, 1) := by decide +kernel
theorem dX6_touching_12 : decode cX6_touching 12 = .ok (.getfield 18, 3) := by decide +kernel
theorem dX6_touching_15 : decode cX6_touching 15 = .ok (.invokevirtual 68, 3) := by decide +kernel
theorem dX6_touching_18 : decode cX6_touching 18 = .ok (.iconst 4, 1) := by decide +kernel
theorem dX6_touching_19 : decode cX6_touching 19 = .ok (.if_icmp .eq 5, 3) := by decide +kernel
theorem dX6_touching_22 : decode cX6_touching 22 = .ok (.iconst (-1), 1) := by decide +kernel
theorem dX6_touching_23 : decode cX6_touching 23 = .ok (.ireturn, 1) := by decide +kernel
theorem dX6_touching_24 : decode cX6_touching 24 = .ok (.iconst 0, 1) := by decide +kernel
theorem dX6_touching_25 : decode cX6_touching 25 = .ok (.istore_n 1, 1) := by decide +kernel
theorem dX6_touching_26 : decode cX6_touching 26 = .ok (.iconst 0, 1) := by decide +kernel
theorem dX6_touching_27 : decode cX6_touching 27 = .ok (.istore_n 2, 1) := by decide +kernel
theorem dX6_touching_28 : decode cX6_touching 28 = .ok (.iload_n 2, 1) := by decide +kernel
theorem dX6_touching_29 : decode cX6_touching 29 = .ok (.aload_n 0, 1) := by decide +kernel
theorem dX6_touching_30 : decode cX6_touching 30 = .ok (.getfield 12, 3) := by decide +kernel
theorem dX6_touching_33 : decode cX6_touching 33 = .ok (.getfield 52, 3) := by decide +kernel
theorem dX6_touching_36 : decode cX6_touching 36 = .ok (.invokestatic 72, 3) := by decide +kernel
theorem dX6_touching_39 : decode cX6_touching 39 = .ok (.if_icmp .ge 39, 3) := by decide +kernel
theorem dX6_touching_42 : decode cX6_touching 42 = .ok (.aload_n 0, 1) := by decide +kernel
theorem dX6_touching_43 : decode cX6_touching 43 = .ok (.iload_n 2, 1) := by decide +kernel
theorem dX6_touching_44 : decode cX6_touching 44 = .ok (.invokevirtual 78, 3) := by decide +kernel
theorem dX6_touching_47 : decode cX6_touching 47 = .ok (.ifCond .eq 25, 3) := by decide +kernel
theorem dX6_touching_50 : decode cX6_touching 50 = .ok (.aload_n 0, 1) := by decide +kernel
theorem dX6_touching_51 : decode cX6_touching 51 = .ok (.aload_n 0, 1) := by decide +kernel
theorem dX6_touching_52 : decode cX6_touching 52 = .ok (.getfield 12, 3) := by decide +kernel
theorem dX6_touching_55 : decode cX6_touching 55 = .ok (.invokevirtual 81, 3) := by decide +kernel
theorem dX6_touching_58 : decode cX6_touching 58 = .ok (.aload_n 0, 1) := by decide +kernel
theorem dX6_touching_59 : decode cX6_touching 59 = .ok (.aload_n 0, 1) := by decide +kernel
theorem dX6_touching_60 : decode cX6_touching 60 = .ok (.getfield 18, 3) := by decide +kernel
theorem dX6_touching_63 : decode cX6_touching 63 = .ok (.invokevirtual 81, 3) := by decide +kernel
theorem dX6_touching_66 : decode cX6_touching 66 = .ok (.if_icmp .ne 6, 3) := by decide +kernel
theorem dX6_touching_69 : decode cX6_touching 69 = .ok (.iinc 1 1, 3) := by decide +kernel
theorem dX6_touching_72 : decode cX6_touching 72 = .ok (.iinc 2 1, 3) := by decide +kernel
theorem dX6_touching_75 : decode cX6_touching 75 = .ok (.goto (-47), 3) := by decide +kernel
theorem dX6_touching_78 : decode cX6_touching 78 = .ok (.iload_n 1, 1) := by decide +kernel
theorem dX6_touching_79 : decode cX6_touching 79 = .ok (.ireturn, 1) := by decide +kernel
theorem dX6_firstThrough_0 : decode cX6_firstThrough 0 = .ok (.iconst 0, 1) := by decide +kernel
theorem dX6_firstThrough_1 : decode cX6_firstThrough 1 = .ok (.istore_n 2, 1) := by decide +kernel
theorem dX6_firstThrough_2 : decode cX6_firstThrough 2 = .ok (.iload_n 2, 1) := by decide +kernel
theorem dX6_firstThrough_3 : decode cX6_firstThrough 3 = .ok (.aload_n 0, 1) := by decide +kernel
theorem dX6_firstThrough_4 : decode cX6_firstThrough 4 = .ok (.getfield 12, 3) := by decide +kernel
theorem dX6_firstThrough_7 : decode cX6_firstThrough 7 = .ok (.getfield 52, 3) := by decide +kernel
theorem dX6_firstThrough_10 : decode cX6_firstThrough 10 = .ok (.if_icmp .gt 30, 3) := by decide +kernel
theorem dX6_firstThrough_13 : decode cX6_firstThrough 13 = .ok (.aload_n 0, 1) := by decide +kernel
theorem dX6_firstThrough_14 : decode cX6_firstThrough 14 = .ok (.iload_n 2, 1) := by decide +kernel
theorem dX6_firstThrough_15 : decode cX6_firstThrough 15 = .ok (.invokevirtual 64, 3) := by decide +kernel
theorem dX6_firstThrough_18 : decode cX6_firstThrough 18 = .ok (.ifCond .eq 16, 3) := by decide +kernel
theorem dX6_firstThrough_21 : decode cX6_firstThrough 21 = .ok (.aload_n 0, 1) := by decide +kernel
theorem dX6_firstThrough_22 : decode cX6_firstThrough 22 = .ok (.getfield 21, 3) := by decide +kernel
theorem dX6_firstThrough_25 : decode cX6_firstThrough 25 = .ok (.aload_n 1, 1) := by decide +kernel
theorem dX6_firstThrough_26 : decode cX6_firstThrough 26 = .ok (.invokevirtual 85, 3) := by decide +kernel
theorem dX6_firstThrough_29 : decode cX6_firstThrough 29 = .ok (.ifCond .ne 5, 3) := by decide +kernel
theorem dX6_firstThrough_32 : decode cX6_firstThrough 32 = .ok (.iload_n 2, 1) := by decide +kernel
theorem dX6_firstThrough_33 : decode cX6_firstThrough 33 = .ok (.ireturn, 1) := by decide +kernel
theorem dX6_firstThrough_34 : decode cX6_firstThrough 34 = .ok (.iinc 2 1, 3) := by decide +kernel
theorem dX6_firstThrough_37 : decode cX6_firstThrough 37 = .ok (.goto (-35), 3) := by decide +kernel
theorem dX6_firstThrough_40 : decode cX6_firstThrough 40 = .ok (.iconst (-1), 1) := by decide +kernel
theorem dX6_firstThrough_41 : decode cX6_firstThrough 41 = .ok (.ireturn, 1) := by decide +kernel
theorem dX6_isOfBase_0 : decode cX6_isOfBase 0 = .ok (.aload_n 0, 1) := by decide +kernel
theorem dX6_isOfBase_1 : decode cX6_isOfBase 1 = .ok (.getfield 27, 3) := by decide +kernel
theorem dX6_isOfBase_4 : decode cX6_isOfBase 4 = .ok (.iload_n 1, 1) := by decide +kernel
theorem dX6_isOfBase_5 : decode cX6_isOfBase 5 = .ok (.aload_n 0, 1) := by decide +kernel
theorem dX6_isOfBase_6 : decode cX6_isOfBase 6 = .ok (.getfield 12, 3) := by decide +kernel
theorem dX6_isOfBase_9 : decode cX6_isOfBase 9 = .ok (.getfield 52, 3) := by decide +kernel
theorem dX6_isOfBase_12 : decode cX6_isOfBase 12 = .ok (.invokevirtual 89, 3) := by decide +kernel
theorem dX6_isOfBase_15 : decode cX6_isOfBase 15 = .ok (.ifCond .eq 35, 3) := by decide +kernel
theorem dX6_isOfBase_18 : decode cX6_isOfBase 18 = .ok (.aload_n 0, 1) := by decide +kernel
theorem dX6_isOfBase_19 : decode cX6_isOfBase 19 = .ok (.getfield 12, 3) := by decide +kernel
theorem dX6_isOfBase_22 : decode cX6_isOfBase 22 = .ok (.aload_n 0, 1) := by decide +kernel
theorem dX6_isOfBase_23 : decode cX6_isOfBase 23 = .ok (.getfield 27, 3) := by decide +kernel
theorem dX6_isOfBase_26 : decode cX6_isOfBase 26 = .ok (.invokevirtual 85, 3) := by decide +kernel
theorem dX6_isOfBase_29 : decode cX6_isOfBase 29 = .ok (.ifCond .ne 21, 3) := by decide +kernel
theorem dX6_isOfBase_32 : decode cX6_isOfBase 32 = .ok (.aload_n 0, 1) := by decide +kernel
theorem dX6_isOfBase_33 : decode cX6_isOfBase 33 = .ok (.getfield 18, 3) := by decide +kernel
theorem dX6_isOfBase_36 : decode cX6_isOfBase 36 = .ok (.aload_n 0, 1) := by decide +kernel
theorem dX6_isOfBase_37 : decode cX6_isOfBase 37 = .ok (.getfield 27, 3) := by decide +kernel
theorem dX6_isOfBase_40 : decode cX6_isOfBase 40 = .ok (.invokevirtual 85, 3) := by decide +kernel
theorem dX6_isOfBase_43 : decode cX6_isOfBase 43 = .ok (.ifCond .ne 7, 3) := by decide +kernel
theorem dX6_isOfBase_46 : decode cX6_isOfBase 46 = .ok (.iconst 1, 1) := by decide +kernel
theorem dX6_isOfBase_47 : decode cX6_isOfBase 47 = .ok (.goto 4, 3) := by decide +kernel
theorem dX6_isOfBase_50 : decode cX6_isOfBase 50 = .ok (.iconst 0, 1) := by decide +kernel
theorem dX6_isOfBase_51 : decode cX6_isOfBase 51 = .ok (.ireturn, 1) := by decide +kernel
theorem dX6_polarAtSpot_0 : decode cX6_polarAtSpot 0 = .ok (.aload_n 1, 1) := by decide +kernel
theorem dX6_polarAtSpot_1 : decode cX6_polarAtSpot 1 = .ok (.aload_n 0, 1) := by decide +kernel
theorem dX6_polarAtSpot_2 : decode cX6_polarAtSpot 2 = .ok (.getfield 27, 3) := by decide +kernel
theorem dX6_polarAtSpot_5 : decode cX6_polarAtSpot 5 = .ok (.aload_n 0, 1) := by decide +kernel
theorem dX6_polarAtSpot_6 : decode cX6_polarAtSpot 6 = .ok (.getfield 31, 3) := by decide +kernel
theorem dX6_polarAtSpot_9 : decode cX6_polarAtSpot 9 = .ok (.invokevirtual 92, 3) := by decide +kernel
theorem dX6_polarAtSpot_12 : decode cX6_polarAtSpot 12 = .ok (.aload_n 0, 1) := by decide +kernel
theorem dX6_polarAtSpot_13 : decode cX6_polarAtSpot 13 = .ok (.getfield 31, 3) := by decide +kernel
theorem dX6_polarAtSpot_16 : decode cX6_polarAtSpot 16 = .ok (.aload_n 1, 1) := by decide +kernel
theorem dX6_polarAtSpot_17 : decode cX6_polarAtSpot 17 = .ok (.getfield 52, 3) := by decide +kernel
theorem dX6_polarAtSpot_20 : decode cX6_polarAtSpot 20 = .ok (.invokevirtual 96, 3) := by decide +kernel
theorem dX6_polarAtSpot_23 : decode cX6_polarAtSpot 23 = .ok (.ireturn, 1) := by decide +kernel
theorem dX7_init_0 : decode cX7_init 0 = .ok (.aload_n 0, 1) := by decide +kernel
theorem dX7_init_1 : decode cX7_init 1 = .ok (.invokespecial 3, 3) := by decide +kernel
theorem dX7_init_4 : decode cX7_init 4 = .ok (.aload_n 0, 1) := by decide +kernel
theorem dX7_init_5 : decode cX7_init 5 = .ok (.new 9, 3) := by decide +kernel
theorem dX7_init_8 : decode cX7_init 8 = .ok (.dup, 1) := by decide +kernel
theorem dX7_init_9 : decode cX7_init 9 = .ok (.invokespecial 11, 3) := by decide +kernel
theorem dX7_init_12 : decode cX7_init 12 = .ok (.putfield 12, 3) := by decide +kernel
theorem dX7_init_15 : decode cX7_init 15 = .ok (.aload_n 0, 1) := by decide +kernel
theorem dX7_init_16 : decode cX7_init 16 = .ok (.iconst 0, 1) := by decide +kernel
theorem dX7_init_17 : decode cX7_init 17 = .ok (.putfield 18, 3) := by decide +kernel
theorem dX7_init_20 : decode cX7_init 20 = .ok (.aload_n 0, 1) := by decide +kernel
theorem dX7_init_21 : decode cX7_init 21 = .ok (.iconst (-1), 1) := by decide +kernel
theorem dX7_init_22 : decode cX7_init 22 = .ok (.putfield 22, 3) := by decide +kernel
theorem dX7_init_25 : decode cX7_init 25 = .ok (.aload_n 0, 1) := by decide +kernel
theorem dX7_init_26 : decode cX7_init 26 = .ok (.new 25, 3) := by decide +kernel
theorem dX7_init_29 : decode cX7_init 29 = .ok (.dup, 1) := by decide +kernel
theorem dX7_init_30 : decode cX7_init 30 = .ok (.invokespecial 27, 3) := by decide +kernel
theorem dX7_init_33 : decode cX7_init 33 = .ok (.putfield 28, 3) := by decide +kernel
theorem dX7_init_36 : decode cX7_init 36 = .ok (.aload_n 0, 1) := by decide +kernel
theorem dX7_init_37 : decode cX7_init 37 = .ok (.new 32, 3) := by decide +kernel
theorem dX7_init_40 : decode cX7_init 40 = .ok (.dup, 1) := by decide +kernel
theorem dX7_init_41 : decode cX7_init 41 = .ok (.invokespecial 34, 3) := by decide +kernel
theorem dX7_init_44 : decode cX7_init 44 = .ok (.putfield 35, 3) := by decide +kernel
theorem dX7_init_47 : decode cX7_init 47 = .ok (.aload_n 0, 1) := by decide +kernel
theorem dX7_init_48 : decode cX7_init 48 = .ok (.iconst 0, 1) := by decide +kernel
theorem dX7_init_49 : decode cX7_init 49 = .ok (.putfield 39, 3) := by decide +kernel
theorem dX7_init_52 : decode cX7_init 52 = .ok (.aload_n 0, 1) := by decide +kernel
theorem dX7_init_53 : decode cX7_init 53 = .ok (.iconst 0, 1) := by decide +kernel
theorem dX7_init_54 : decode cX7_init 54 = .ok (.putfield 42, 3) := by decide +kernel
theorem dX7_init_57 : decode cX7_init 57 = .ok (.aload_n 0, 1) := by decide +kernel
theorem dX7_init_58 : decode cX7_init 58 = .ok (.iconst 0, 1) := by decide +kernel
theorem dX7_init_59 : decode cX7_init 59 = .ok (.putfield 45, 3) := by decide +kernel
theorem dX7_init_62 : decode cX7_init 62 = .ok (.aload_n 0, 1) := by decide +kernel
theorem dX7_init_63 : decode cX7_init 63 = .ok (.iconst 0, 1) := by decide +kernel
theorem dX7_init_64 : decode cX7_init 64 = .ok (.putfield 48, 3) := by decide +kernel
theorem dX7_init_67 : decode cX7_init 67 = .ok (.return_, 1) := by decide +kernel
theorem dX7_read_0 : decode cX7_read 0 = .ok (.aload_n 0, 1) := by decide +kernel
theorem dX7_read_1 : decode cX7_read 1 = .ok (.getfield 12, 3) := by decide +kernel
theorem dX7_read_4 : decode cX7_read 4 = .ok (.invokevirtual 51, 3) := by decide +kernel
theorem dX7_read_7 : decode cX7_read 7 = .ok (.aload_n 0, 1) := by decide +kernel
theorem dX7_read_8 : decode cX7_read 8 = .ok (.iconst 0, 1) := by decide +kernel
theorem dX7_read_9 : decode cX7_read 9 = .ok (.putfield 18, 3) := by decide +kernel
theorem dX7_read_12 : decode cX7_read 12 = .ok (.aload_n 0, 1) := by decide +kernel
theorem dX7_read_13 : decode cX7_read 13 = .ok (.iconst (-1), 1) := by decide +kernel
theorem dX7_read_14 : decode cX7_read 14 = .ok (.putfield 22, 3) := by decide +kernel
theorem dX7_read_17 : decode cX7_read 17 = .ok (.aload_n 0, 1) := by decide +kernel
theorem dX7_read_18 : decode cX7_read 18 = .ok (.iconst 0, 1) := by decide +kernel
theorem dX7_read_19 : decode cX7_read 19 = .ok (.putfield 39, 3) := by decide +kernel
theorem dX7_read_22 : decode cX7_read 22 = .ok (.iconst 0, 1) := by decide +kernel
theorem dX7_read_23 : decode cX7_read 23 = .ok (.istore_n 2, 1) := by decide +kernel
theorem dX7_read_24 : decode cX7_read 24 = .ok (.iconst 0, 1) := by decide +kernel
theorem dX7_read_25 : decode cX7_read 25 = .ok (.istore_n 3, 1) := by decide +kernel
theorem dX7_read_26 : decode cX7_read 26 = .ok (.iload_n 3, 1) := by decide +kernel
theorem dX7_read_27 : decode cX7_read 27 = .ok (.sipush 500, 3) := by decide +kernel
theorem dX7_read_30 : decode cX7_read 30 = .ok (.if_icmp .ge 36, 3) := by decide +kernel
theorem dX7_read_33 : decode cX7_read 33 = .ok (.aload_n 0, 1) := by decide +kernel
theorem dX7_read_34 : decode cX7_read 34 = .ok (.aload_n 1, 1) := by decide +kernel
theorem dX7_read_35 : decode cX7_read 35 = .ok (.invokevirtual 54, 3) := by decide +kernel
theorem dX7_read_38 : decode cX7_read 38 = .ok (.aload_n 0, 1) := by decide +kernel
theorem dX7_read_39 : decode cX7_read 39 = .ok (.getfield 42, 3) := by decide +kernel
theorem dX7_read_42 : decode cX7_read 42 = .ok (.ifCond .ne 5, 3) := by decide +kernel
theorem dX7_read_45 : decode cX7_read 45 = .ok (.iload_n 2, 1) := by decide +kernel
theorem dX7_read_46 : decode cX7_read 46 = .ok (.ireturn, 1) := by decide +kernel
theorem dX7_read_47 : decode cX7_read 47 = .ok (.aload_n 0, 1) := by decide +kernel
theorem dX7_read_48 : decode cX7_read 48 = .ok (.aload_n 1, 1) := by decide +kernel
theorem dX7_read_49 : decode cX7_read 49 = .ok (.invokevirtual 58, 3) := by decide +kernel
theorem dX7_read_52 : decode cX7_read 52 = .ok (.ifCond .ne 5, 3) := by decide +kernel
theorem dX7_read_55 : decode cX7_read 55 = .ok (.iconst (-1), 1) := by decide +kernel
theorem dX7_read_56 : decode cX7_read 56 = .ok (.ireturn, 1) := by decide +kernel
theorem dX7_read_57 : decode cX7_read 57 = .ok (.iinc 2 1, 3) := by decide +kernel
theorem dX7_read_60 : decode cX7_read 60 = .ok (.iinc 3 1, 3) := by decide +kernel
theorem dX7_read_63 : decode cX7_read 63 = .ok (.goto (-37), 3) := by decide +kernel
theorem dX7_read_66 : decode cX7_read 66 = .ok (.iload_n 2, 1) := by decide +kernel
theorem dX7_read_67 : decode cX7_read 67 = .ok (.ireturn, 1) := by decide +kernel
theorem dX7_fail_0 : decode cX7_fail 0 = .ok (.aload_n 0, 1) := by decide +kernel
theorem dX7_fail_1 : decode cX7_fail 1 = .ok (.iload_n 1, 1) := by decide +kernel
theorem dX7_fail_2 : decode cX7_fail 2 = .ok (.putfield 18, 3) := by decide +kernel
theorem dX7_fail_5 : decode cX7_fail 5 = .ok (.aload_n 0, 1) := by decide +kernel
theorem dX7_fail_6 : decode cX7_fail 6 = .ok (.iload_n 2, 1) := by decide +kernel
theorem dX7_fail_7 : decode cX7_fail 7 = .ok (.putfield 22, 3) := by decide +kernel
theorem dX7_fail_10 : decode cX7_fail 10 = .ok (.iconst 0, 1) := by decide +kernel
theorem dX7_fail_11 : decode cX7_fail 11 = .ok (.ireturn, 1) := by decide +kernel
theorem dX7_readLine_0 : decode cX7_readLine 0 = .ok (.aload_n 0, 1) := by decide +kernel
theorem dX7_readLine_1 : decode cX7_readLine 1 = .ok (.getfield 45, 3) := by decide +kernel
theorem dX7_readLine_4 : decode cX7_readLine 4 = .ok (.istore_n 2, 1) := by decide +kernel
theorem dX7_readLine_5 : decode cX7_readLine 5 = .ok (.aload_n 0, 1) := by decide +kernel
theorem dX7_readLine_6 : decode cX7_readLine 6 = .ok (.aload_n 1, 1) := by decide +kernel
theorem dX7_readLine_7 : decode cX7_readLine 7 = .ok (.invokevirtual 62, 3) := by decide +kernel
theorem dX7_readLine_10 : decode cX7_readLine 10 = .ok (.istore_n 3, 1) := by decide +kernel
theorem dX7_readLine_11 : decode cX7_readLine 11 = .ok (.iload_n 3, 1) := by decide +kernel
theorem dX7_readLine_12 : decode cX7_readLine 12 = .ok (.iconst (-1), 1) := by decide +kernel
theorem dX7_readLine_13 : decode cX7_readLine 13 = .ok (.if_icmp .ne 13, 3) := by decide +kernel
theorem dX7_readLine_16 : decode cX7_readLine 16 = .ok (.aload_n 0, 1) := by decide +kernel
theorem dX7_readLine_17 : decode cX7_readLine 17 = .ok (.iconst 1, 1) := by decide +kernel
theorem dX7_readLine_18 : decode cX7_readLine 18 = .ok (.aload_n 0, 1) := by decide +kernel
theorem dX7_readLine_19 : decode cX7_readLine 19 = .ok (.getfield 45, 3) := by decide +kernel
theorem dX7_readLine_22 : decode cX7_readLine 22 = .ok (.invokevirtual 66, 3) := by decide +kernel
theorem dX7_readLine_25 : decode cX7_readLine 25 = .ok (.ireturn, 1) := by decide +kernel
theorem dX7_readLine_26 : decode cX7_readLine 26 = .ok (.aload_n 0, 1) := by decide +kernel
theorem dX7_readLine_27 : decode cX7_readLine 27 = .ok (.aload_n 1, 1) := by decide +kernel
theorem dX7_readLine_28 : decode cX7_readLine 28 = .ok (.invokevirtual 54, 3) := by decide +kernel
theorem dX7_readLine_31 : decode cX7_readLine 31 = .ok (.aload_n 0, 1) := by decide +kernel
theorem dX7_readLine_32 : decode cX7_readLine 32 = .ok (.getfield 42, 3) := by decide +kernel
theorem dX7_readLine_35 : decode cX7_readLine 35 = .ok (.iconst 2, 1) := by decide +kernel
theorem dX7_readLine_36 : decode cX7_readLine 36 = .ok (.if_icmp .eq 13, 3) := by decide +kernel
theorem dX7_readLine_39 : decode cX7_readLine 39 = .ok (.aload_n 0, 1) := by decide +kernel
theorem dX7_readLine_40 : decode cX7_readLine 40 = .ok (.iconst 1, 1) := by decide +kernel
theorem dX7_readLine_41 : decode cX7_readLine 41 = .ok (.aload_n 0, 1) := by decide +kernel
theorem dX7_readLine_42 : decode cX7_readLine 42 = .ok (.getfield 45, 3) := by decide +kernel
theorem dX7_readLine_45 : decode cX7_readLine 45 = .ok (.invokevirtual 66, 3) := by decide +kernel
theorem dX7_readLine_48 : decode cX7_readLine 48 = .ok (.ireturn, 1) := by decide +kernel
theorem dX7_readLine_49 : decode cX7_readLine 49 = .ok (.aload_n 0, 1) := by decide +kernel
theorem dX7_readLine_50 : decode cX7_readLine 50 = .ok (.getfield 48, 3) := by decide +kernel
theorem dX7_readLine_53 : decode cX7_readLine 53 = .ok (.istore 4, 2) := by decide +kernel
theorem dX7_readLine_55 : decode cX7_readLine 55 = .ok (.aload_n 0, 1) := by decide +kernel
theorem dX7_readLine_56 : decode cX7_readLine 56 = .ok (.iload_n 3, 1) := by decide +kernel
theorem dX7_readLine_57 : decode cX7_readLine 57 = .ok (.iload 4, 2) := by decide +kernel
theorem dX7_readLine_59 : decode cX7_readLine 59 = .ok (.invokevirtual 70, 3) := by decide +kernel
theorem dX7_readLine_62 : decode cX7_readLine 62 = .ok (.ifCond .ne 13, 3) := by decide +kernel
theorem dX7_readLine_65 : decode cX7_readLine 65 = .ok (.aload_n 0, 1) := by decide +kernel
theorem dX7_readLine_66 : decode cX7_readLine 66 = .ok (.iconst 2, 1) := by decide +kernel
theorem dX7_readLine_67 : decode cX7_readLine 67 = .ok (.aload_n 0, 1) := by decide +kernel
theorem dX7_readLine_68 : decode cX7_readLine 68 = .ok (.getfield 45, 3) := by decide +kernel
theorem dX7_readLine_71 : decode cX7_readLine 71 = .ok (.invokevirtual 66, 3) := by decide +kernel
theorem dX7_readLine_74 : decode cX7_readLine 74 = .ok (.ireturn, 1) := by decide +kernel
theorem dX7_readLine_75 : decode cX7_readLine 75 = .ok (.iload_n 3, 1) := by decide +kernel
theorem dX7_readLine_76 : decode cX7_readLine 76 = .ok (.iconst 2, 1) := by decide +kernel
theorem dX7_readLine_77 : decode cX7_readLine 77 = .ok (.if_icmp .eq 8, 3) := by decide +kernel
theorem dX7_readLine_80 : decode cX7_readLine 80 = .ok (.iload_n 3, 1) := by decide +kernel
theorem dX7_readLine_81 : decode cX7_readLine 81 = .ok (.iconst 3, 1) := by decide +kernel
theorem dX7_readLine_82 : decode cX7_readLine 82 = .ok (.if_icmp .ne 13, 3) := by decide +kernel
theorem dX7_readLine_85 : decode cX7_readLine 85 = .ok (.aload_n 0, 1) := by decide +kernel
theorem dX7_readLine_86 : decode cX7_readLine 86 = .ok (.aload_n 1, 1) := by decide +kernel
theorem dX7_readLine_87 : decode cX7_readLine 87 = .ok (.invokevirtual 73, 3) := by decide +kernel
theorem dX7_readLine_90 : decode cX7_readLine 90 = .ok (.ifCond .ne 5, 3) := by decide +kernel
theorem dX7_readLine_93 : decode cX7_readLine 93 = .ok (.iconst 0, 1) := by decide +kernel
theorem dX7_readLine_94 : decode cX7_readLine 94 = .ok (.ireturn, 1) := by decide +kernel
theorem dX7_readLine_95 : decode cX7_readLine 95 = .ok (.aload_n 0, 1) := by decide +kernel
theorem dX7_readLine_96 : decode cX7_readLine 96 = .ok (.aload_n 1, 1) := by decide +kernel
theorem dX7_readLine_97 : decode cX7_readLine 97 = .ok (.invokevirtual 54, 3) := by decide +kernel
theorem dX7_readLine_100 : decode cX7_readLine 100 = .ok (.aload_n 0, 1) := by decide +kernel
theorem dX7_readLine_101 : decode cX7_readLine 101 = .ok (.getfield 42, 3) := by decide +kernel
theorem dX7_readLine_104 : decode cX7_readLine 104 = .ok (.iconst 4, 1) := by decide +kernel
theorem dX7_readLine_105 : decode cX7_readLine 105 = .ok (.if_icmp .eq 13, 3) := by decide +kernel
theorem dX7_readLine_108 : decode cX7_readLine 108 = .ok (.aload_n 0, 1) := by decide +kernel
theorem dX7_readLine_109 : decode cX7_readLine 109 = .ok (.iconst 1, 1) := by decide +kernel
theorem dX7_readLine_110 : decode cX7_readLine 110 = .ok (.aload_n 0, 1) := by decide +kernel
theorem dX7_readLine_111 : decode cX7_readLine 111 = .ok (.getfield 45, 3) := by decide +kernel
theorem dX7_readLine_114 : decode cX7_readLine 114 = .ok (.invokevirtual 66, 3) := by decide +kernel
theorem dX7_readLine_117 : decode cX7_readLine 117 = .ok (.ireturn, 1) := by decide +kernel
theorem dX7_readLine_118 : decode cX7_readLine 118 = .ok (.aload_n 0, 1) := by decide +kernel
theorem dX7_readLine_119 : decode cX7_readLine 119 = .ok (.iload_n 3, 1) := by decide +kernel
theorem dX7_readLine_120 : decode cX7_readLine 120 = .ok (.iload 4, 2) := by decide +kernel
theorem dX7_readLine_122 : decode cX7_readLine 122 = .ok (.invokevirtual 76, 3) := by decide +kernel
theorem dX7_readLine_125 : decode cX7_readLine 125 = .ok (.ifCond .ne 12, 3) := by decide +kernel
theorem dX7_readLine_128 : decode cX7_readLine 128 = .ok (.aload_n 0, 1) := by decide +kernel
theorem dX7_readLine_129 : decode cX7_readLine 129 = .ok (.iconst 3, 1) := by decide +kernel
theorem dX7_readLine_130 : decode cX7_readLine 130 = .ok (.iload_n 2, 1) := by decide +kernel
theorem dX7_readLine_131 : decode cX7_readLine 131 = .ok (.invokevirtual 66, 3) := by decide +kernel
theorem dX7_readLine_134 : decode cX7_readLine 134 = .ok (.ifCond .eq 7, 3) := by decide +kernel
theorem dX7_readLine_137 : decode cX7_readLine 137 = .ok (.iconst 1, 1) := by decide +kernel
theorem dX7_readLine_138 : decode cX7_readLine 138 = .ok (.goto 4, 3) := by decide +kernel
theorem dX7_readLine_141 : decode cX7_readLine 141 = .ok (.iconst 0, 1) := by decide +kernel
theorem dX7_readLine_142 : decode cX7_readLine 142 = .ok (.ireturn, 1) := by decide +kernel
theorem dX7_lineKind_0 : decode cX7_lineKind 0 = .ok (.aload_n 0, 1) := by decide +kernel
theorem dX7_lineKind_1 : decode cX7_lineKind 1 = .ok (.aload_n 1, 1) := by decide +kernel
theorem dX7_lineKind_2 : decode cX7_lineKind 2 = .ok (.ldc 79, 2) := by decide +kernel
theorem dX7_lineKind_4 : decode cX7_lineKind 4 = .ok (.invokevirtual 81, 3) := by decide +kernel
theorem dX7_lineKind_7 : decode cX7_lineKind 7 = .ok (.ifCond .eq 5, 3) := by decide +kernel
theorem dX7_lineKind_10 : decode cX7_lineKind 10 = .ok (.iconst 0, 1) := by decide +kernel
theorem dX7_lineKind_11 : decode cX7_lineKind 11 = .ok (.ireturn, 1) := by decide +kernel
theorem dX7_lineKind_12 : decode cX7_lineKind 12 = .ok (.aload_n 0, 1) := by decide +kernel
theorem dX7_lineKind_13 : decode cX7_lineKind 13 = .ok (.aload_n 1, 1) := by decide +kernel
theorem dX7_lineKind_14 : decode cX7_lineKind 14 = .ok (.ldc 85, 2) := by decide +kernel
theorem dX7_lineKind_16 : decode cX7_lineKind 16 = .ok (.invokevirtual 81, 3) := by decide +kernel
theorem dX7_lineKind_19 : decode cX7_lineKind 19 = .ok (.ifCond .eq 5, 3) := by decide +kernel
theorem dX7_lineKind_22 : decode cX7_lineKind 22 = .ok (.iconst 1, 1) := by decide +kernel
theorem dX7_lineKind_23 : decode cX7_lineKind 23 = .ok (.ireturn, 1) := by decide +kernel
theorem dX7_lineKind_24 : decode cX7_lineKind 24 = .ok (.aload_n 0, 1) := by decide +kernel
theorem dX7_lineKind_25 : decode cX7_lineKind 25 = .ok (.aload_n 1, 1) := by decide +kernel
theorem dX7_lineKind_26 : decode cX7_lineKind 26 = .ok (.ldc 87, 2) := by decide +kernel
theorem dX7_lineKind_28 : decode cX7_lineKind 28 = .ok (.invokevirtual 81, 3) := by decide +kernel
theorem dX7_lineKind_31 : decode cX7_lineKind 31 = .ok (.ifCond .eq 5, 3) := by decide +kernel
theorem dX7_lineKind_34 : decode cX7_lineKind 34 = .ok (.iconst 2, 1) := by decide +kernel
theorem dX7_lineKind_35 : decode cX7_lineKind 35 = .ok (.ireturn, 1) := by decide +kernel
theorem dX7_lineKind_36 : decode cX7_lineKind 36 = .ok (.aload_n 0, 1) := by decide +kernel
theorem dX7_lineKind_37 : decode cX7_lineKind 37 = .ok (.aload_n 1, 1) := by decide +kernel
theorem dX7_lineKind_38 : decode cX7_lineKind 38 = .ok (.ldc 89, 2) := by decide +kernel
theorem dX7_lineKind_40 : decode cX7_lineKind 40 = .ok (.invokevirtual 81, 3) := by decide +kernel
theorem dX7_lineKind_43 : decode cX7_lineKind 43 = .ok (.ifCond .eq 7, 3) := by decide +kernel
theorem dX7_lineKind_46 : decode cX7_lineKind 46 = .ok (.iconst 3, 1) := by decide +kernel
theorem dX7_lineKind_47 : decode cX7_lineKind 47 = .ok (.goto 4, 3) := by decide +kernel
theorem dX7_lineKind_50 : decode cX7_lineKind 50 = .ok (.iconst (-1), 1) := by decide +kernel
theorem dX7_lineKind_51 : decode cX7_lineKind 51 = .ok (.ireturn, 1) := by decide +kernel
theorem dX7_canBe_0 : decode cX7_canBe 0 = .ok (.iload_n 1, 1) := by decide +kernel
theorem dX7_canBe_1 : decode cX7_canBe 1 = .ok (.ifCond .ne 8, 3) := by decide +kernel
theorem dX7_canBe_4 : decode cX7_canBe 4 = .ok (.iload_n 2, 1) := by decide +kernel
theorem dX7_canBe_5 : decode cX7_canBe 5 = .ok (.invokestatic 91, 3) := by decide +kernel
theorem dX7_canBe_8 : decode cX7_canBe 8 = .ok (.ireturn, 1) := by decide +kernel
theorem dX7_canBe_9 : decode cX7_canBe 9 = .ok (.iload_n 1, 1) := by decide +kernel
theorem dX7_canBe_10 : decode cX7_canBe 10 = .ok (.iconst 1, 1) := by decide +kernel
theorem dX7_canBe_11 : decode cX7_canBe 11 = .ok (.if_icmp .ne 21, 3) := by decide +kernel
theorem dX7_canBe_14 : decode cX7_canBe 14 = .ok (.aload_n 0, 1) := by decide +kernel
theorem dX7_canBe_15 : decode cX7_canBe 15 = .ok (.getfield 35, 3) := by decide +kernel
theorem dX7_canBe_18 : decode cX7_canBe 18 = .ok (.iload_n 2, 1) := by decide +kernel
theorem dX7_canBe_19 : decode cX7_canBe 19 = .ok (.aload_n 0, 1) := by decide +kernel
theorem dX7_canBe_20 : decode cX7_canBe 20 = .ok (.getfield 12, 3) := by decide +kernel
theorem dX7_canBe_23 : decode cX7_canBe 23 = .ok (.getfield 95, 3) := by decide +kernel
theorem dX7_canBe_26 : decode cX7_canBe 26 = .ok (.invokevirtual 97, 3) := by decide +kernel
theorem dX7_canBe_29 : decode cX7_canBe 29 = .ok (.goto 7, 3) := by decide +kernel
theorem dX7_canBe_32 : decode cX7_canBe 32 = .ok (.iload_n 2, 1) := by decide +kernel
theorem dX7_canBe_33 : decode cX7_canBe 33 = .ok (.invokestatic 100, 3) := by decide +kernel
theorem dX7_canBe_36 : decode cX7_canBe 36 = .ok (.ireturn, 1) := by decide +kernel
theorem dX7_readSix_0 : decode cX7_readSix 0 = .ok (.iconst 0, 1) := by decide +kernel
theorem dX7_readSix_1 : decode cX7_readSix 1 = .ok (.istore_n 2, 1) := by decide +kernel
theorem dX7_readSix_2 : decode cX7_readSix 2 = .ok (.iload_n 2, 1) := by decide +kernel
theorem dX7_readSix_3 : decode cX7_readSix 3 = .ok (.bipush 6, 2) := by decide +kernel
theorem dX7_readSix_5 : decode cX7_readSix 5 = .ok (.if_icmp .ge 98, 3) := by decide +kernel
theorem dX7_readSix_8 : decode cX7_readSix 8 = .ok (.aload_n 0, 1) := by decide +kernel
theorem dX7_readSix_9 : decode cX7_readSix 9 = .ok (.aload_n 1, 1) := by decide +kernel
theorem dX7_readSix_10 : decode cX7_readSix 10 = .ok (.invokevirtual 54, 3) := by decide +kernel
theorem dX7_readSix_13 : decode cX7_readSix 13 = .ok (.aload_n 0, 1) := by decide +kernel
theorem dX7_readSix_14 : decode cX7_readSix 14 = .ok (.getfield 42, 3) := by decide +kernel
theorem dX7_readSix_17 : decode cX7_readSix 17 = .ok (.iconst 3, 1) := by decide +kernel
theorem dX7_readSix_18 : decode cX7_readSix 18 = .ok (.if_icmp .ne 7, 3) := by decide +kernel
theorem dX7_readSix_21 : decode cX7_readSix 21 = .ok (.iconst 1, 1) := by decide +kernel
theorem dX7_readSix_22 : decode cX7_readSix 22 = .ok (.goto 4, 3) := by decide +kernel
theorem dX7_readSix_25 : decode cX7_readSix 25 = .ok (.iconst 0, 1) := by decide +kernel
theorem dX7_readSix_26 : decode cX7_readSix 26 = .ok (.istore_n 3, 1) := by decide +kernel
theorem dX7_readSix_27 : decode cX7_readSix 27 = .ok (.iload_n 3, 1) := by decide +kernel
theorem dX7_readSix_28 : decode cX7_readSix 28 = .ok (.ifCond .eq 8, 3) := by decide +kernel
theorem dX7_readSix_31 : decode cX7_readSix 31 = .ok (.aload_n 0, 1) := by decide +kernel
theorem dX7_readSix_32 : decode cX7_readSix 32 = .ok (.aload_n 1, 1) := by decide +kernel
theorem dX7_readSix_33 : decode cX7_readSix 33 = .ok (.invokevirtual 54, 3) := by decide +kernel
theorem dX7_readSix_36 : decode cX7_readSix 36 = .ok (.aload_n 0, 1) := by decide +kernel
theorem dX7_readSix_37 : decode cX7_readSix 37 = .ok (.getfield 42, 3) := by decide +kernel
theorem dX7_readSix_40 : decode cX7_readSix 40 = .ok (.iconst 2, 1) := by decide +kernel
theorem dX7_readSix_41 : decode cX7_readSix 41 = .ok (.if_icmp .eq 13, 3) := by decide +kernel
theorem dX7_readSix_44 : decode cX7_readSix 44 = .ok (.aload_n 0, 1) := by decide +kernel
theorem dX7_readSix_45 : decode cX7_readSix 45 = .ok (.iconst 1, 1) := by decide +kernel
theorem dX7_readSix_46 : decode cX7_readSix 46 = .ok (.aload_n 0, 1) := by decide +kernel
theorem dX7_readSix_47 : decode cX7_readSix 47 = .ok (.getfield 45, 3) := by decide +kernel
theorem dX7_readSix_50 : decode cX7_readSix 50 = .ok (.invokevirtual 66, 3) := by decide +kernel
theorem dX7_readSix_53 : decode cX7_readSix 53 = .ok (.ireturn, 1) := by decide +kernel
theorem dX7_readSix_54 : decode cX7_readSix 54 = .ok (.aload_n 0, 1) := by decide +kernel
theorem dX7_readSix_55 : decode cX7_readSix 55 = .ok (.getfield 48, 3) := by decide +kernel
theorem dX7_readSix_58 : decode cX7_readSix 58 = .ok (.bipush 99, 2) := by decide +kernel
theorem dX7_readSix_60 : decode cX7_readSix 60 = .ok (.if_icmp .le 13, 3) := by decide +kernel
theorem dX7_readSix_63 : decode cX7_readSix 63 = .ok (.aload_n 0, 1) := by decide +kernel
theorem dX7_readSix_64 : decode cX7_readSix 64 = .ok (.iconst 2, 1) := by decide +kernel
theorem dX7_readSix_65 : decode cX7_readSix 65 = .ok (.aload_n 0, 1) := by decide +kernel
theorem dX7_readSix_66 : decode cX7_readSix 66 = .ok (.getfield 45, 3) := by decide +kernel
theorem dX7_readSix_69 : decode cX7_readSix 69 = .ok (.invokevirtual 66, 3) := by decide +kernel
theorem dX7_readSix_72 : decode cX7_readSix 72 = .ok (.ireturn, 1) := by decide +kernel
theorem dX7_readSix_73 : decode cX7_readSix 73 = .ok (.aload_n 0, 1) := by decide +kernel
theorem dX7_readSix_74 : decode cX7_readSix 74 = .ok (.getfield 28, 3) := by decide +kernel
theorem dX7_readSix_77 : decode cX7_readSix 77 = .ok (.iload_n 2, 1) := by decide +kernel
theorem dX7_readSix_78 : decode cX7_readSix 78 = .ok (.iload_n 3, 1) := by decide +kernel
theorem dX7_readSix_79 : decode cX7_readSix 79 = .ok (.ifCond .eq 11, 3) := by decide +kernel
theorem dX7_readSix_82 : decode cX7_readSix 82 = .ok (.aload_n 0, 1) := by decide +kernel
theorem dX7_readSix_83 : decode cX7_readSix 83 = .ok (.getfield 48, 3) := by decide +kernel
theorem dX7_readSix_86 : decode cX7_readSix 86 = .ok (.ineg, 1) := by decide +kernel
theorem dX7_readSix_87 : decode cX7_readSix 87 = .ok (.goto 7, 3) := by decide +kernel
theorem dX7_readSix_90 : decode cX7_readSix 90 = .ok (.aload_n 0, 1) := by decide +kernel
theorem dX7_readSix_91 : decode cX7_readSix 91 = .ok (.getfield 48, 3) := by decide +kernel
theorem dX7_readSix_94 : decode cX7_readSix 94 = .ok (.invokevirtual 103, 3) := by decide +kernel
theorem dX7_readSix_97 : decode cX7_readSix 97 = .ok (.iinc 2 1, 3) := by decide +kernel
theorem dX7_readSix_100 : decode cX7_readSix 100 = .ok (.goto (-98), 3) := by decide +kernel
theorem dX7_readSix_103 : decode cX7_readSix 103 = .ok (.iconst 1, 1) := by decide +kernel
theorem dX7_readSix_104 : decode cX7_readSix 104 = .ok (.ireturn, 1) := by decide +kernel
theorem dX7_carryOut_0 : decode cX7_carryOut 0 = .ok (.iload_n 1, 1) := by decide +kernel
theorem dX7_carryOut_1 : decode cX7_carryOut 1 = .ok (.ifCond .ne 13, 3) := by decide +kernel
theorem dX7_carryOut_4 : decode cX7_carryOut 4 = .ok (.aload_n 0, 1) := by decide +kernel
theorem dX7_carryOut_5 : decode cX7_carryOut 5 = .ok (.getfield 12, 3) := by decide +kernel
theorem dX7_carryOut_8 : decode cX7_carryOut 8 = .ok (.iload_n 2, 1) := by decide +kernel
theorem dX7_carryOut_9 : decode cX7_carryOut 9 = .ok (.invokevirtual 107, 3) := by decide +kernel
theorem dX7_carryOut_12 : decode cX7_carryOut 12 = .ok (.iconst 1, 1) := by decide +kernel
theorem dX7_carryOut_13 : decode cX7_carryOut 13 = .ok (.ireturn, 1) := by decide +kernel
theorem dX7_carryOut_14 : decode cX7_carryOut 14 = .ok (.iload_n 1, 1) := by decide +kernel
theorem dX7_carryOut_15 : decode cX7_carryOut 15 = .ok (.iconst 1, 1) := by decide +kernel
theorem dX7_carryOut_16 : decode cX7_carryOut 16 = .ok (.if_icmp .ne 46, 3) := by decide +kernel
theorem dX7_carryOut_19 : decode cX7_carryOut 19 = .ok (.aload_n 0, 1) := by decide +kernel
theorem dX7_carryOut_20 : decode cX7_carryOut 20 = .ok (.getfield 12, 3) := by decide +kernel
theorem dX7_carryOut_23 : decode cX7_carryOut 23 = .ok (.iload_n 2, 1) := by decide +kernel
theorem dX7_carryOut_24 : decode cX7_carryOut 24 = .ok (.invokevirtual 111, 3) := by decide +kernel
theorem dX7_carryOut_27 : decode cX7_carryOut 27 = .ok (.ifCond .ne 19, 3) := by decide +kernel
theorem dX7_carryOut_30 : decode cX7_carryOut 30 = .ok (.aload_n 0, 1) := by decide +kernel
theorem dX7_carryOut_31 : decode cX7_carryOut 31 = .ok (.getfield 12, 3) := by decide +kernel
theorem dX7_carryOut_34 : decode cX7_carryOut 34 = .ok (.getfield 114, 3) := by decide +kernel
theorem dX7_carryOut_37 : decode cX7_carryOut 37 = .ok (.bipush 8, 2) := by decide +kernel
theorem dX7_carryOut_39 : decode cX7_carryOut 39 = .ok (.if_icmp .ge 7, 3) := by decide +kernel
theorem dX7_carryOut_42 : decode cX7_carryOut 42 = .ok (.iconst 1, 1) := by decide +kernel
theorem dX7_carryOut_43 : decode cX7_carryOut 43 = .ok (.goto 4, 3) := by decide +kernel
theorem dX7_carryOut_46 : decode cX7_carryOut 46 = .ok (.iconst 0, 1) := by decide +kernel
theorem dX7_carryOut_47 : decode cX7_carryOut 47 = .ok (.istore_n 3, 1) := by decide +kernel
theorem dX7_carryOut_48 : decode cX7_carryOut 48 = .ok (.iload_n 3, 1) := by decide +kernel
theorem dX7_carryOut_49 : decode cX7_carryOut 49 = .ok (.ifCond .eq 11, 3) := by decide +kernel
theorem dX7_carryOut_52 : decode cX7_carryOut 52 = .ok (.aload_n 0, 1) := by decide +kernel
theorem dX7_carryOut_53 : decode cX7_carryOut 53 = .ok (.getfield 12, 3) := by decide +kernel
theorem dX7_carryOut_56 : decode cX7_carryOut 56 = .ok (.iload_n 2, 1) := by decide +kernel
theorem dX7_carryOut_57 : decode cX7_carryOut 57 = .ok (.invokevirtual 117, 3) := by decide +kernel
theorem dX7_carryOut_60 : decode cX7_carryOut 60 = .ok (.iload_n 3, 1) := by decide +kernel
theorem dX7_carryOut_61 : decode cX7_carryOut 61 = .ok (.ireturn, 1) := by decide +kernel
theorem dX7_carryOut_62 : decode cX7_carryOut 62 = .ok (.iload_n 1, 1) := by decide +kernel
theorem dX7_carryOut_63 : decode cX7_carryOut 63 = .ok (.iconst 3, 1) := by decide +kernel
theorem dX7_carryOut_64 : decode cX7_carryOut 64 = .ok (.if_icmp .ne 10, 3) := by decide +kernel
theorem dX7_carryOut_67 : decode cX7_carryOut 67 = .ok (.aload_n 0, 1) := by decide +kernel
theorem dX7_carryOut_68 : decode cX7_carryOut 68 = .ok (.getfield 28, 3) := by decide +kernel
theorem dX7_carryOut_71 : decode cX7_carryOut 71 = .ok (.invokevirtual 120, 3) := by decide +kernel
theorem dX7_carryOut_74 : decode cX7_carryOut 74 = .ok (.aload_n 0, 1) := by decide +kernel
theorem dX7_carryOut_75 : decode cX7_carryOut 75 = .ok (.getfield 28, 3) := by decide +kernel
theorem dX7_carryOut_78 : decode cX7_carryOut 78 = .ok (.invokevirtual 123, 3) := by decide +kernel
theorem dX7_carryOut_81 : decode cX7_carryOut 81 = .ok (.ifCond .ne 17, 3) := by decide +kernel
theorem dX7_carryOut_84 : decode cX7_carryOut 84 = .ok (.aload_n 0, 1) := by decide +kernel
theorem dX7_carryOut_85 : decode cX7_carryOut 85 = .ok (.getfield 28, 3) := by decide +kernel
theorem dX7_carryOut_88 : decode cX7_carryOut 88 = .ok (.invokevirtual 127, 3) := by decide +kernel
theorem dX7_carryOut_91 : decode cX7_carryOut 91 = .ok (.ifCond .eq 7, 3) := by decide +kernel
theorem dX7_carryOut_94 : decode cX7_carryOut 94 = .ok (.iconst 1, 1) := by decide +kernel
theorem dX7_carryOut_95 : decode cX7_carryOut 95 = .ok (.goto 4, 3) := by decide +kernel
theorem dX7_carryOut_98 : decode cX7_carryOut 98 = .ok (.iconst 0, 1) := by decide +kernel
theorem dX7_carryOut_99 : decode cX7_carryOut 99 = .ok (.istore_n 3, 1) := by decide +kernel
theorem dX7_carryOut_100 : decode cX7_carryOut 100 = .ok (.iload_n 3, 1) := by decide +kernel
theorem dX7_carryOut_101 : decode cX7_carryOut 101 = .ok (.ifCond .eq 15, 3) := by decide +kernel
theorem dX7_carryOut_104 : decode cX7_carryOut 104 = .ok (.aload_n 0, 1) := by decide +kernel
theorem dX7_carryOut_105 : decode cX7_carryOut 105 = .ok (.getfield 12, 3) := by decide +kernel
theorem dX7_carryOut_108 : decode cX7_carryOut 108 = .ok (.iload_n 2, 1) := by decide +kernel
theorem dX7_carryOut_109 : decode cX7_carryOut 109 = .ok (.aload_n 0, 1) := by decide +kernel
theorem dX7_carryOut_110 : decode cX7_carryOut 110 = .ok (.getfield 28, 3) := by decide +kernel
theorem dX7_carryOut_113 : decode cX7_carryOut 113 = .ok (.invokevirtual 130, 3) := by decide +kernel
theorem dX7_carryOut_116 : decode cX7_carryOut 116 = .ok (.iload_n 3, 1) := by decide +kernel
theorem dX7_carryOut_117 : decode cX7_carryOut 117 = .ok (.ireturn, 1) := by decide +kernel
theorem dX7_advance_0 : decode cX7_advance 0 = .ok (.aload_n 0, 1) := by decide +kernel
theorem dX7_advance_1 : decode cX7_advance 1 = .ok (.aload_n 1, 1) := by decide +kernel
theorem dX7_advance_2 : decode cX7_advance 2 = .ok (.invokevirtual 134, 3) := by decide +kernel
theorem dX7_advance_5 : decode cX7_advance 5 = .ok (.aload_n 0, 1) := by decide +kernel
theorem dX7_advance_6 : decode cX7_advance 6 = .ok (.aload_n 0, 1) := by decide +kernel
theorem dX7_advance_7 : decode cX7_advance 7 = .ok (.getfield 39, 3) := by decide +kernel
theorem dX7_advance_10 : decode cX7_advance 10 = .ok (.putfield 45, 3) := by decide +kernel
theorem dX7_advance_13 : decode cX7_advance 13 = .ok (.aload_n 1, 1) := by decide +kernel
theorem dX7_advance_14 : decode cX7_advance 14 = .ok (.aload_n 0, 1) := by decide +kernel
theorem dX7_advance_15 : decode cX7_advance 15 = .ok (.getfield 39, 3) := by decide +kernel
theorem dX7_advance_18 : decode cX7_advance 18 = .ok (.invokevirtual 137, 3) := by decide +kernel
theorem dX7_advance_21 : decode cX7_advance 21 = .ok (.istore_n 2, 1) := by decide +kernel
theorem dX7_advance_22 : decode cX7_advance 22 = .ok (.iload_n 2, 1) := by decide +kernel
theorem dX7_advance_23 : decode cX7_advance 23 = .ok (.iconst (-1), 1) := by decide +kernel
theorem dX7_advance_24 : decode cX7_advance 24 = .ok (.if_icmp .ne 11, 3) := by decide +kernel
theorem dX7_advance_27 : decode cX7_advance 27 = .ok (.aload_n 0, 1) := by decide +kernel
theorem dX7_advance_28 : decode cX7_advance 28 = .ok (.iconst 0, 1) := by decide +kernel
theorem dX7_advance_29 : decode cX7_advance 29 = .ok (.putfield 42, 3) := by decide +kernel
theorem dX7_advance_32 : decode cX7_advance 32 = .ok (.goto 68, 3) := by decide +kernel
theorem dX7_advance_35 : decode cX7_advance 35 = .ok (.iload_n 2, 1) := by decide +kernel
theorem dX7_advance_36 : decode cX7_advance 36 = .ok (.invokestatic 143, 3) := by decide +kernel
theorem dX7_advance_39 : decode cX7_advance 39 = .ok (.ifCond .eq 11, 3) := by decide +kernel
theorem dX7_advance_42 : decode cX7_advance 42 = .ok (.aload_n 0, 1) := by decide +kernel
theorem dX7_advance_43 : decode cX7_advance 43 = .ok (.aload_n 1, 1) := by decide +kernel
theorem dX7_advance_44 : decode cX7_advance 44 = .ok (.invokevirtual 146, 3) := by decide +kernel
theorem dX7_advance_47 : decode cX7_advance 47 = .ok (.goto 53, 3) := by decide +kernel
theorem dX7_advance_50 : decode cX7_advance 50 = .ok (.iload_n 2, 1) := by decide +kernel
theorem dX7_advance_51 : decode cX7_advance 51 = .ok (.invokestatic 149, 3) := by decide +kernel
theorem dX7_advance_54 : decode cX7_advance 54 = .ok (.ifCond .eq 11, 3) := by decide +kernel
theorem dX7_advance_57 : decode cX7_advance 57 = .ok (.aload_n 0, 1) := by decide +kernel
theorem dX7_advance_58 : decode cX7_advance 58 = .ok (.aload_n 1, 1) := by decide +kernel
theorem dX7_advance_59 : decode cX7_advance 59 = .ok (.invokevirtual 152, 3) := by decide +kernel
theorem dX7_advance_62 : decode cX7_advance 62 = .ok (.goto 38, 3) := by decide +kernel
theorem dX7_advance_65 : decode cX7_advance 65 = .ok (.aload_n 0, 1) := by decide +kernel
theorem dX7_advance_66 : decode cX7_advance 66 = .ok (.dup, 1) := by decide +kernel
theorem dX7_advance_67 : decode cX7_advance 67 = .ok (.getfield 39, 3) := by decide +kernel
theorem dX7_advance_70 : decode cX7_advance 70 = .ok (.iconst 1, 1) := by decide +kernel
theorem dX7_advance_71 : decode cX7_advance 71 = .ok (.iadd, 1) := by decide +kernel
theorem dX7_advance_72 : decode cX7_advance 72 = .ok (.putfield 39, 3) := by decide +kernel
theorem dX7_advance_75 : decode cX7_advance 75 = .ok (.aload_n 0, 1) := by decide +kernel
theorem dX7_advance_76 : decode cX7_advance 76 = .ok (.iload_n 2, 1) := by decide +kernel
theorem dX7_advance_77 : decode cX7_advance 77 = .ok (.bipush 45, 2) := by decide +kernel
theorem dX7_advance_79 : decode cX7_advance 79 = .ok (.if_icmp .ne 7, 3) := by decide +kernel
theorem dX7_advance_82 : decode cX7_advance 82 = .ok (.iconst 3, 1) := by decide +kernel
theorem dX7_advance_83 : decode cX7_advance 83 = .ok (.goto 14, 3) := by decide +kernel
theorem dX7_advance_86 : decode cX7_advance 86 = .ok (.iload_n 2, 1) := by decide +kernel
theorem dX7_advance_87 : decode cX7_advance 87 = .ok (.bipush 59, 2) := by decide +kernel
theorem dX7_advance_89 : decode cX7_advance 89 = .ok (.if_icmp .ne 7, 3) := by decide +kernel
theorem dX7_advance_92 : decode cX7_advance 92 = .ok (.iconst 4, 1) := by decide +kernel
theorem dX7_advance_93 : decode cX7_advance 93 = .ok (.goto 4, 3) := by decide +kernel
theorem dX7_advance_96 : decode cX7_advance 96 = .ok (.iconst 5, 1) := by decide +kernel
theorem dX7_advance_97 : decode cX7_advance 97 = .ok (.putfield 42, 3) := by decide +kernel
theorem dX7_advance_100 : decode cX7_advance 100 = .ok (.return_, 1) := by decide +kernel
theorem dX7_skipBlanks_0 : decode cX7_skipBlanks 0 = .ok (.iconst 0, 1) := by decide +kernel
theorem dX7_skipBlanks_1 : decode cX7_skipBlanks 1 = .ok (.istore_n 2, 1) := by decide +kernel
theorem dX7_skipBlanks_2 : decode cX7_skipBlanks 2 = .ok (.iload_n 2, 1) := by decide +kernel
theorem dX7_skipBlanks_3 : decode cX7_skipBlanks 3 = .ok (.sipush 500, 3) := by decide +kernel
theorem dX7_skipBlanks_6 : decode cX7_skipBlanks 6 = .ok (.if_icmp .ge 41, 3) := by decide +kernel
theorem dX7_skipBlanks_9 : decode cX7_skipBlanks 9 = .ok (.aload_n 1, 1) := by decide +kernel
theorem dX7_skipBlanks_10 : decode cX7_skipBlanks 10 = .ok (.aload_n 0, 1) := by decide +kernel
theorem dX7_skipBlanks_11 : decode cX7_skipBlanks 11 = .ok (.getfield 39, 3) := by decide +kernel
theorem dX7_skipBlanks_14 : decode cX7_skipBlanks 14 = .ok (.invokevirtual 137, 3) := by decide +kernel
theorem dX7_skipBlanks_17 : decode cX7_skipBlanks 17 = .ok (.istore_n 3, 1) := by decide +kernel
theorem dX7_skipBlanks_18 : decode cX7_skipBlanks 18 = .ok (.iload_n 3, 1) := by decide +kernel
theorem dX7_skipBlanks_19 : decode cX7_skipBlanks 19 = .ok (.bipush 32, 2) := by decide +kernel
theorem dX7_skipBlanks_21 : decode cX7_skipBlanks 21 = .ok (.if_icmp .eq 10, 3) := by decide +kernel
theorem dX7_skipBlanks_24 : decode cX7_skipBlanks 24 = .ok (.iload_n 3, 1) := by decide +kernel
theorem dX7_skipBlanks_25 : decode cX7_skipBlanks 25 = .ok (.bipush 10, 2) := by decide +kernel
theorem dX7_skipBlanks_27 : decode cX7_skipBlanks 27 = .ok (.if_icmp .eq 4, 3) := by decide +kernel
theorem dX7_skipBlanks_30 : decode cX7_skipBlanks 30 = .ok (.return_, 1) := by decide +kernel
theorem dX7_skipBlanks_31 : decode cX7_skipBlanks 31 = .ok (.aload_n 0, 1) := by decide +kernel
theorem dX7_skipBlanks_32 : decode cX7_skipBlanks 32 = .ok (.dup, 1) := by decide +kernel
theorem dX7_skipBlanks_33 : decode cX7_skipBlanks 33 = .ok (.getfield 39, 3) := by decide +kernel
theorem dX7_skipBlanks_36 : decode cX7_skipBlanks 36 = .ok (.iconst 1, 1) := by decide +kernel
theorem dX7_skipBlanks_37 : decode cX7_skipBlanks 37 = .ok (.iadd, 1) := by decide +kernel
theorem dX7_skipBlanks_38 : decode cX7_skipBlanks 38 = .ok (.putfield 39, 3) := by decide +kernel
theorem dX7_skipBlanks_41 : decode cX7_skipBlanks 41 = .ok (.iinc 2 1, 3) := by decide +kernel
theorem dX7_skipBlanks_44 : decode cX7_skipBlanks 44 = .ok (.goto (-42), 3) := by decide +kernel
theorem dX7_skipBlanks_47 : decode cX7_skipBlanks 47 = .ok (.return_, 1) := by decide +kernel
theorem dX7_takeWord_0 : decode cX7_takeWord 0 = .ok (.aload_n 0, 1) := by decide +kernel
theorem dX7_takeWord_1 : decode cX7_takeWord 1 = .ok (.iconst 1, 1) := by decide +kernel
theorem dX7_takeWord_2 : decode cX7_takeWord 2 = .ok (.putfield 42, 3) := by decide +kernel
theorem dX7_takeWord_5 : decode cX7_takeWord 5 = .ok (.iconst 0, 1) := by decide +kernel
theorem dX7_takeWord_6 : decode cX7_takeWord 6 = .ok (.istore_n 2, 1) := by decide +kernel
theorem dX7_takeWord_7 : decode cX7_takeWord 7 = .ok (.iload_n 2, 1) := by decide +kernel
theorem dX7_takeWord_8 : decode cX7_takeWord 8 = .ok (.sipush 500, 3) := by decide +kernel
theorem dX7_takeWord_11 : decode cX7_takeWord 11 = .ok (.if_icmp .ge 33, 3) := by decide +kernel
theorem dX7_takeWord_14 : decode cX7_takeWord 14 = .ok (.aload_n 1, 1) := by decide +kernel
theorem dX7_takeWord_15 : decode cX7_takeWord 15 = .ok (.aload_n 0, 1) := by decide +kernel
theorem dX7_takeWord_16 : decode cX7_takeWord 16 = .ok (.getfield 39, 3) := by decide +kernel
theorem dX7_takeWord_19 : decode cX7_takeWord 19 = .ok (.invokevirtual 137, 3) := by decide +kernel
theorem dX7_takeWord_22 : decode cX7_takeWord 22 = .ok (.invokestatic 143, 3) := by decide +kernel
theorem dX7_takeWord_25 : decode cX7_takeWord 25 = .ok (.ifCond .eq 19, 3) := by decide +kernel
theorem dX7_takeWord_28 : decode cX7_takeWord 28 = .ok (.aload_n 0, 1) := by decide +kernel
theorem dX7_takeWord_29 : decode cX7_takeWord 29 = .ok (.dup, 1) := by decide +kernel
theorem dX7_takeWord_30 : decode cX7_takeWord 30 = .ok (.getfield 39, 3) := by decide +kernel
theorem dX7_takeWord_33 : decode cX7_takeWord 33 = .ok (.iconst 1, 1) := by decide +kernel
theorem dX7_takeWord_34 : decode cX7_takeWord 34 = .ok (.iadd, 1) := by decide +kernel
theorem dX7_takeWord_35 : decode cX7_takeWord 35 = .ok (.putfield 39, 3) := by decide +kernel
theorem dX7_takeWord_38 : decode cX7_takeWord 38 = .ok (.iinc 2 1, 3) := by decide +kernel
theorem dX7_takeWord_41 : decode cX7_takeWord 41 = .ok (.goto (-34), 3) := by decide +kernel
theorem dX7_takeWord_44 : decode cX7_takeWord 44 = .ok (.return_, 1) := by decide +kernel
theorem dX7_takeDigits_0 : decode cX7_takeDigits 0 = .ok (.aload_n 0, 1) := by decide +kernel
theorem dX7_takeDigits_1 : decode cX7_takeDigits 1 = .ok (.iconst 0, 1) := by decide +kernel
theorem dX7_takeDigits_2 : decode cX7_takeDigits 2 = .ok (.putfield 48, 3) := by decide +kernel
theorem dX7_takeDigits_5 : decode cX7_takeDigits 5 = .ok (.iconst 0, 1) := by decide +kernel
theorem dX7_takeDigits_6 : decode cX7_takeDigits 6 = .ok (.istore_n 2, 1) := by decide +kernel
theorem dX7_takeDigits_7 : decode cX7_takeDigits 7 = .ok (.iload_n 2, 1) := by decide +kernel
theorem dX7_takeDigits_8 : decode cX7_takeDigits 8 = .ok (.sipush 500, 3) := by decide +kernel
theorem dX7_takeDigits_11 : decode cX7_takeDigits 11 = .ok (.if_icmp .ge 61, 3) := by decide +kernel
theorem dX7_takeDigits_14 : decode cX7_takeDigits 14 = .ok (.aload_n 1, 1) := by decide +kernel
theorem dX7_takeDigits_15 : decode cX7_takeDigits 15 = .ok (.aload_n 0, 1) := by decide +kernel
theorem dX7_takeDigits_16 : decode cX7_takeDigits 16 = .ok (.getfield 39, 3) := by decide +kernel
theorem dX7_takeDigits_19 : decode cX7_takeDigits 19 = .ok (.invokevirtual 137, 3) := by decide +kernel
theorem dX7_takeDigits_22 : decode cX7_takeDigits 22 = .ok (.invokestatic 149, 3) := by decide +kernel
theorem dX7_takeDigits_25 : decode cX7_takeDigits 25 = .ok (.ifCond .eq 47, 3) := by decide +kernel
theorem dX7_takeDigits_28 : decode cX7_takeDigits 28 = .ok (.iload_n 2, 1) := by decide +kernel
theorem dX7_takeDigits_29 : decode cX7_takeDigits 29 = .ok (.iconst 3, 1) := by decide +kernel
theorem dX7_takeDigits_30 : decode cX7_takeDigits 30 = .ok (.if_icmp .ge 26, 3) := by decide +kernel
theorem dX7_takeDigits_33 : decode cX7_takeDigits 33 = .ok (.aload_n 0, 1) := by decide +kernel
theorem dX7_takeDigits_34 : decode cX7_takeDigits 34 = .ok (.bipush 10, 2) := by decide +kernel
theorem dX7_takeDigits_36 : decode cX7_takeDigits 36 = .ok (.aload_n 0, 1) := by decide +kernel
theorem dX7_takeDigits_37 : decode cX7_takeDigits 37 = .ok (.getfield 48, 3) := by decide +kernel
theorem dX7_takeDigits_40 : decode cX7_takeDigits 40 = .ok (.imul, 1) := by decide +kernel
theorem dX7_takeDigits_41 : decode cX7_takeDigits 41 = .ok (.aload_n 1, 1) := by decide +kernel
theorem dX7_takeDigits_42 : decode cX7_takeDigits 42 = .ok (.aload_n 0, 1) := by decide +kernel
theorem dX7_takeDigits_43 : decode cX7_takeDigits 43 = .ok (.getfield 39, 3) := by decide +kernel
theorem dX7_takeDigits_46 : decode cX7_takeDigits 46 = .ok (.invokevirtual 137, 3) := by decide +kernel
theorem dX7_takeDigits_49 : decode cX7_takeDigits 49 = .ok (.iadd, 1) := by decide +kernel
theorem dX7_takeDigits_50 : decode cX7_takeDigits 50 = .ok (.bipush 48, 2) := by decide +kernel
theorem dX7_takeDigits_52 : decode cX7_takeDigits 52 = .ok (.isub, 1) := by decide +kernel
theorem dX7_takeDigits_53 : decode cX7_takeDigits 53 = .ok (.putfield 48, 3) := by decide +kernel
theorem dX7_takeDigits_56 : decode cX7_takeDigits 56 = .ok (.aload_n 0, 1) := by decide +kernel
theorem dX7_takeDigits_57 : decode cX7_takeDigits 57 = .ok (.dup, 1) := by decide +kernel
theorem dX7_takeDigits_58 : decode cX7_takeDigits 58 = .ok (.getfield 39, 3) := by decide +kernel
theorem dX7_takeDigits_61 : decode cX7_takeDigits 61 = .ok (.iconst 1, 1) := by decide +kernel
theorem dX7_takeDigits_62 : decode cX7_takeDigits 62 = .ok (.iadd, 1) := by decide +kernel
theorem dX7_takeDigits_63 : decode cX7_takeDigits 63 = .ok (.putfield 39, 3) := by decide +kernel
theorem dX7_takeDigits_66 : decode cX7_takeDigits 66 = .ok (.iinc 2 1, 3) := by decide +kernel
theorem dX7_takeDigits_69 : decode cX7_takeDigits 69 = .ok (.goto (-62), 3) := by decide +kernel
theorem dX7_takeDigits_72 : decode cX7_takeDigits 72 = .ok (.aload_n 0, 1) := by decide +kernel
theorem dX7_takeDigits_73 : decode cX7_takeDigits 73 = .ok (.aload_n 0, 1) := by decide +kernel
theorem dX7_takeDigits_74 : decode cX7_takeDigits 74 = .ok (.getfield 39, 3) := by decide +kernel
theorem dX7_takeDigits_77 : decode cX7_takeDigits 77 = .ok (.aload_n 0, 1) := by decide +kernel
theorem dX7_takeDigits_78 : decode cX7_takeDigits 78 = .ok (.getfield 45, 3) := by decide +kernel
theorem dX7_takeDigits_81 : decode cX7_takeDigits 81 = .ok (.isub, 1) := by decide +kernel
theorem dX7_takeDigits_82 : decode cX7_takeDigits 82 = .ok (.iconst 3, 1) := by decide +kernel
theorem dX7_takeDigits_83 : decode cX7_takeDigits 83 = .ok (.if_icmp .gt 7, 3) := by decide +kernel
theorem dX7_takeDigits_86 : decode cX7_takeDigits 86 = .ok (.iconst 2, 1) := by decide +kernel
theorem dX7_takeDigits_87 : decode cX7_takeDigits 87 = .ok (.goto 4, 3) := by decide +kernel
theorem dX7_takeDigits_90 : decode cX7_takeDigits 90 = .ok (.iconst 5, 1) := by decide +kernel
theorem dX7_takeDigits_91 : decode cX7_takeDigits 91 = .ok (.putfield 42, 3) := by decide +kernel
theorem dX7_takeDigits_94 : decode cX7_takeDigits 94 = .ok (.return_, 1) := by decide +kernel
theorem dX7_tokenIs_0 : decode cX7_tokenIs 0 = .ok (.aload_n 0, 1) := by decide +kernel
theorem dX7_tokenIs_1 : decode cX7_tokenIs 1 = .ok (.getfield 42, 3) := by decide +kernel
theorem dX7_tokenIs_4 : decode cX7_tokenIs 4 = .ok (.iconst 1, 1) := by decide +kernel
theorem dX7_tokenIs_5 : decode cX7_tokenIs 5 = .ok (.if_icmp .ne 19, 3) := by decide +kernel
theorem dX7_tokenIs_8 : decode cX7_tokenIs 8 = .ok (.aload_n 0, 1) := by decide +kernel
theorem dX7_tokenIs_9 : decode cX7_tokenIs 9 = .ok (.getfield 39, 3) := by decide +kernel
theorem dX7_tokenIs_12 : decode cX7_tokenIs 12 = .ok (.aload_n 0, 1) := by decide +kernel
theorem dX7_tokenIs_13 : decode cX7_tokenIs 13 = .ok (.getfield 45, 3) := by decide +kernel
theorem dX7_tokenIs_16 : decode cX7_tokenIs 16 = .ok (.isub, 1) := by decide +kernel
theorem dX7_tokenIs_17 : decode cX7_tokenIs 17 = .ok (.aload_n 2, 1) := by decide +kernel
theorem dX7_tokenIs_18 : decode cX7_tokenIs 18 = .ok (.invokevirtual 155, 3) := by decide +kernel
theorem dX7_tokenIs_21 : decode cX7_tokenIs 21 = .ok (.if_icmp .eq 5, 3) := by decide +kernel
theorem dX7_tokenIs_24 : decode cX7_tokenIs 24 = .ok (.iconst 0, 1) := by decide +kernel
theorem dX7_tokenIs_25 : decode cX7_tokenIs 25 = .ok (.ireturn, 1) := by decide +kernel
theorem dX7_tokenIs_26 : decode cX7_tokenIs 26 = .ok (.iconst 0, 1) := by decide +kernel
theorem dX7_tokenIs_27 : decode cX7_tokenIs 27 = .ok (.istore_n 3, 1) := by decide +kernel
theorem dX7_tokenIs_28 : decode cX7_tokenIs 28 = .ok (.iload_n 3, 1) := by decide +kernel
theorem dX7_tokenIs_29 : decode cX7_tokenIs 29 = .ok (.aload_n 2, 1) := by decide +kernel
theorem dX7_tokenIs_30 : decode cX7_tokenIs 30 = .ok (.invokevirtual 155, 3) := by decide +kernel
theorem dX7_tokenIs_33 : decode cX7_tokenIs 33 = .ok (.if_icmp .ge 29, 3) := by decide +kernel
theorem dX7_tokenIs_36 : decode cX7_tokenIs 36 = .ok (.aload_n 1, 1) := by decide +kernel
theorem dX7_tokenIs_37 : decode cX7_tokenIs 37 = .ok (.aload_n 0, 1) := by decide +kernel
theorem dX7_tokenIs_38 : decode cX7_tokenIs 38 = .ok (.getfield 45, 3) := by decide +kernel
theorem dX7_tokenIs_41 : decode cX7_tokenIs 41 = .ok (.iload_n 3, 1) := by decide +kernel
theorem dX7_tokenIs_42 : decode cX7_tokenIs 42 = .ok (.iadd, 1) := by decide +kernel
theorem dX7_tokenIs_43 : decode cX7_tokenIs 43 = .ok (.invokevirtual 137, 3) := by decide +kernel
theorem dX7_tokenIs_46 : decode cX7_tokenIs 46 = .ok (.aload_n 2, 1) := by decide +kernel
theorem dX7_tokenIs_47 : decode cX7_tokenIs 47 = .ok (.iload_n 3, 1) := by decide +kernel
theorem dX7_tokenIs_48 : decode cX7_tokenIs 48 = .ok (.invokevirtual 161, 3) := by decide +kernel
theorem dX7_tokenIs_51 : decode cX7_tokenIs 51 = .ok (.if_icmp .eq 5, 3) := by decide +kernel
theorem dX7_tokenIs_54 : decode cX7_tokenIs 54 = .ok (.iconst 0, 1) := by decide +kernel
theorem dX7_tokenIs_55 : decode cX7_tokenIs 55 = .ok (.ireturn, 1) := by decide +kernel
theorem dX7_tokenIs_56 : decode cX7_tokenIs 56 = .ok (.iinc 3 1, 3) := by decide +kernel
theorem dX7_tokenIs_59 : decode cX7_tokenIs 59 = .ok (.goto (-31), 3) := by decide +kernel
theorem dX7_tokenIs_62 : decode cX7_tokenIs 62 = .ok (.iconst 1, 1) := by decide +kernel
theorem dX7_tokenIs_63 : decode cX7_tokenIs 63 = .ok (.ireturn, 1) := by decide +kernel
theorem dX7_isLetter_0 : decode cX7_isLetter 0 = .ok (.iload_n 0, 1) := by decide +kernel
theorem dX7_isLetter_1 : decode cX7_isLetter 1 = .ok (.bipush 97, 2) := by decide +kernel
theorem dX7_isLetter_3 : decode cX7_isLetter 3 = .ok (.if_icmp .lt 13, 3) := by decide +kernel
theorem dX7_isLetter_6 : decode cX7_isLetter 6 = .ok (.iload_n 0, 1) := by decide +kernel
theorem dX7_isLetter_7 : decode cX7_isLetter 7 = .ok (.bipush 122, 2) := by decide +kernel
theorem dX7_isLetter_9 : decode cX7_isLetter 9 = .ok (.if_icmp .gt 7, 3) := by decide +kernel
theorem dX7_isLetter_12 : decode cX7_isLetter 12 = .ok (.iconst 1, 1) := by decide +kernel
theorem dX7_isLetter_13 : decode cX7_isLetter 13 = .ok (.goto 4, 3) := by decide +kernel
theorem dX7_isLetter_16 : decode cX7_isLetter 16 = .ok (.iconst 0, 1) := by decide +kernel
theorem dX7_isLetter_17 : decode cX7_isLetter 17 = .ok (.ireturn, 1) := by decide +kernel
theorem dX7_isDigit_0 : decode cX7_isDigit 0 = .ok (.iload_n 0, 1) := by decide +kernel
theorem dX7_isDigit_1 : decode cX7_isDigit 1 = .ok (.bipush 48, 2) := by decide +kernel
theorem dX7_isDigit_3 : decode cX7_isDigit 3 = .ok (.if_icmp .lt 13, 3) := by decide +kernel
theorem dX7_isDigit_6 : decode cX7_isDigit 6 = .ok (.iload_n 0, 1) := by decide +kernel
theorem dX7_isDigit_7 : decode cX7_isDigit 7 = .ok (.bipush 57, 2) := by decide +kernel
theorem dX7_isDigit_9 : decode cX7_isDigit 9 = .ok (.if_icmp .gt 7, 3) := by decide +kernel
theorem dX7_isDigit_12 : decode cX7_isDigit 12 = .ok (.iconst 1, 1) := by decide +kernel
theorem dX7_isDigit_13 : decode cX7_isDigit 13 = .ok (.goto 4, 3) := by decide +kernel
theorem dX7_isDigit_16 : decode cX7_isDigit 16 = .ok (.iconst 0, 1) := by decide +kernel
theorem dX7_isDigit_17 : decode cX7_isDigit 17 = .ok (.ireturn, 1) := by decide +kernel
theorem dX8_init_0 : decode cX8_init 0 = .ok (.aload_n 0, 1) := by decide +kernel
theorem dX8_init_1 : decode cX8_init 1 = .ok (.invokespecial 3, 3) := by decide +kernel
theorem dX8_init_4 : decode cX8_init 4 = .ok (.aload_n 0, 1) := by decide +kernel
theorem dX8_init_5 : decode cX8_init 5 = .ok (.bipush 8, 2) := by decide +kernel
theorem dX8_init_7 : decode cX8_init 7 = .ok (.newarray .int, 2) := by decide +kernel
theorem dX8_init_9 : decode cX8_init 9 = .ok (.putfield 9, 3) := by decide +kernel
theorem dX8_init_12 : decode cX8_init 12 = .ok (.aload_n 0, 1) := by decide +kernel
theorem dX8_init_13 : decode cX8_init 13 = .ok (.bipush 36, 2) := by decide +kernel
theorem dX8_init_15 : decode cX8_init 15 = .ok (.newarray .int, 2) := by decide +kernel
theorem dX8_init_17 : decode cX8_init 17 = .ok (.putfield 15, 3) := by decide +kernel
theorem dX8_init_20 : decode cX8_init 20 = .ok (.aload_n 0, 1) := by decide +kernel
theorem dX8_init_21 : decode cX8_init 21 = .ok (.invokevirtual 18, 3) := by decide +kernel
theorem dX8_init_24 : decode cX8_init 24 = .ok (.return_, 1) := by decide +kernel
theorem dX8_clear_0 : decode cX8_clear 0 = .ok (.aload_n 0, 1) := by decide +kernel
theorem dX8_clear_1 : decode cX8_clear 1 = .ok (.bipush 7, 2) := by decide +kernel
theorem dX8_clear_3 : decode cX8_clear 3 = .ok (.putfield 21, 3) := by decide +kernel
theorem dX8_clear_6 : decode cX8_clear 6 = .ok (.aload_n 0, 1) := by decide +kernel
theorem dX8_clear_7 : decode cX8_clear 7 = .ok (.iconst 0, 1) := by decide +kernel
theorem dX8_clear_8 : decode cX8_clear 8 = .ok (.putfield 25, 3) := by decide +kernel
theorem dX8_clear_11 : decode cX8_clear 11 = .ok (.iconst 0, 1) := by decide +kernel
theorem dX8_clear_12 : decode cX8_clear 12 = .ok (.istore_n 1, 1) := by decide +kernel
theorem dX8_clear_13 : decode cX8_clear 13 = .ok (.iload_n 1, 1) := by decide +kernel
theorem dX8_clear_14 : decode cX8_clear 14 = .ok (.aload_n 0, 1) := by decide +kernel
theorem dX8_clear_15 : decode cX8_clear 15 = .ok (.getfield 15, 3) := by decide +kernel
theorem dX8_clear_18 : decode cX8_clear 18 = .ok (.arraylength, 1) := by decide +kernel
theorem dX8_clear_19 : decode cX8_clear 19 = .ok (.if_icmp .ge 27, 3) := by decide +kernel
theorem dX8_clear_22 : decode cX8_clear 22 = .ok (.aload_n 0, 1) := by decide +kernel
theorem dX8_clear_23 : decode cX8_clear 23 = .ok (.getfield 15, 3) := by decide +kernel
theorem dX8_clear_26 : decode cX8_clear 26 = .ok (.iload_n 1, 1) := by decide +kernel
theorem dX8_clear_27 : decode cX8_clear 27 = .ok (.iload_n 1, 1) := by decide +kernel
theorem dX8_clear_28 : decode cX8_clear 28 = .ok (.bipush 6, 2) := by decide +kernel
theorem dX8_clear_30 : decode cX8_clear 30 = .ok (.irem, 1) := by decide +kernel
theorem dX8_clear_31 : decode cX8_clear 31 = .ok (.ifCond .ne 7, 3) := by decide +kernel
theorem dX8_clear_34 : decode cX8_clear 34 = .ok (.iconst 1, 1) := by decide +kernel
theorem dX8_clear_35 : decode cX8_clear 35 = .ok (.goto 4, 3) := by decide +kernel
theorem dX8_clear_38 : decode cX8_clear 38 = .ok (.iconst 0, 1) := by decide +kernel
theorem dX8_clear_39 : decode cX8_clear 39 = .ok (.iastore, 1) := by decide +kernel
theorem dX8_clear_40 : decode cX8_clear 40 = .ok (.iinc 1 1, 3) := by decide +kernel
theorem dX8_clear_43 : decode cX8_clear 43 = .ok (.goto (-30), 3) := by decide +kernel
theorem dX8_clear_46 : decode cX8_clear 46 = .ok (.return_, 1) := by decide +kernel
theorem dX8_copy_0 : decode cX8_copy 0 = .ok (.aload_n 0, 1) := by decide +kernel
theorem dX8_copy_1 : decode cX8_copy 1 = .ok (.aload_n 1, 1) := by decide +kernel
theorem dX8_copy_2 : decode cX8_copy 2 = .ok (.getfield 21, 3) := by decide +kernel
theorem dX8_copy_5 : decode cX8_copy 5 = .ok (.putfield 21, 3) := by decide +kernel
theorem dX8_copy_8 : decode cX8_copy 8 = .ok (.aload_n 0, 1) := by decide +kernel
theorem dX8_copy_9 : decode cX8_copy 9 = .ok (.aload_n 1, 1) := by decide +kernel
theorem dX8_copy_10 : decode cX8_copy 10 = .ok (.getfield 25, 3) := by decide +kernel
theorem dX8_copy_13 : decode cX8_copy 13 = .ok (.putfield 25, 3) := by decide +kernel
theorem dX8_copy_16 : decode cX8_copy 16 = .ok (.aload_n 1, 1) := by decide +kernel
theorem dX8_copy_17 : decode cX8_copy 17 = .ok (.getfield 9, 3) := by decide +kernel
theorem dX8_copy_20 : decode cX8_copy 20 = .ok (.iconst 0, 1) := by decide +kernel
theorem dX8_copy_21 : decode cX8_copy 21 = .ok (.aload_n 0, 1) := by decide +kernel
theorem dX8_copy_22 : decode cX8_copy 22 = .ok (.getfield 9, 3) := by decide +kernel
theorem dX8_copy_25 : decode cX8_copy 25 = .ok (.iconst 0, 1) := by decide +kernel
theorem dX8_copy_26 : decode cX8_copy 26 = .ok (.bipush 8, 2) := by decide +kernel
theorem dX8_copy_28 : decode cX8_copy 28 = .ok (.invokestatic 28, 3) := by decide +kernel
theorem dX8_copy_31 : decode cX8_copy 31 = .ok (.aload_n 1, 1) := by decide +kernel
theorem dX8_copy_32 : decode cX8_copy 32 = .ok (.getfield 15, 3) := by decide +kernel
theorem dX8_copy_35 : decode cX8_copy 35 = .ok (.iconst 0, 1) := by decide +kernel
theorem dX8_copy_36 : decode cX8_copy 36 = .ok (.aload_n 0, 1) := by decide +kernel
theorem dX8_copy_37 : decode cX8_copy 37 = .ok (.getfield 15, 3) := by decide +kernel
theorem dX8_copy_40 : decode cX8_copy 40 = .ok (.iconst 0, 1) := by decide +kernel
theorem dX8_copy_41 : decode cX8_copy 41 = .ok (.bipush 36, 2) := by decide +kernel
theorem dX8_copy_43 : decode cX8_copy 43 = .ok (.invokestatic 28, 3) := by decide +kernel
theorem dX8_copy_46 : decode cX8_copy 46 = .ok (.return_, 1) := by decide +kernel
theorem dX8_changePrime_0 : decode cX8_changePrime 0 = .ok (.iload_n 1, 1) := by decide +kernel
theorem dX8_changePrime_1 : decode cX8_changePrime 1 = .ok (.aload_n 0, 1) := by decide +kernel
theorem dX8_changePrime_2 : decode cX8_changePrime 2 = .ok (.getfield 21, 3) := by decide +kernel
theorem dX8_changePrime_5 : decode cX8_changePrime 5 = .ok (.if_icmp .eq 13, 3) := by decide +kernel
theorem dX8_changePrime_8 : decode cX8_changePrime 8 = .ok (.aload_n 0, 1) := by decide +kernel
theorem dX8_changePrime_9 : decode cX8_changePrime 9 = .ok (.iload_n 1, 1) := by decide +kernel
theorem dX8_changePrime_10 : decode cX8_changePrime 10 = .ok (.putfield 21, 3) := by decide +kernel
theorem dX8_changePrime_13 : decode cX8_changePrime 13 = .ok (.aload_n 0, 1) := by decide +kernel
theorem dX8_changePrime_14 : decode cX8_changePrime 14 = .ok (.iconst 0, 1) := by decide +kernel
theorem dX8_changePrime_15 : decode cX8_changePrime 15 = .ok (.putfield 25, 3) := by decide +kernel
theorem dX8_changePrime_18 : decode cX8_changePrime 18 = .ok (.return_, 1) := by decide +kernel
theorem dX8_markAt_0 : decode cX8_markAt 0 = .ok (.iload_n 1, 1) := by decide +kernel
theorem dX8_markAt_1 : decode cX8_markAt 1 = .ok (.ifCond .lt 26, 3) := by decide +kernel
theorem dX8_markAt_4 : decode cX8_markAt 4 = .ok (.iload_n 1, 1) := by decide +kernel
theorem dX8_markAt_5 : decode cX8_markAt 5 = .ok (.aload_n 0, 1) := by decide +kernel
theorem dX8_markAt_6 : decode cX8_markAt 6 = .ok (.getfield 25, 3) := by decide +kernel
theorem dX8_markAt_9 : decode cX8_markAt 9 = .ok (.if_icmp .ge 18, 3) := by decide +kernel
theorem dX8_markAt_12 : decode cX8_markAt 12 = .ok (.iload_n 1, 1) := by decide +kernel
theorem dX8_markAt_13 : decode cX8_markAt 13 = .ok (.bipush 8, 2) := by decide +kernel
theorem dX8_markAt_15 : decode cX8_markAt 15 = .ok (.if_icmp .ge 12, 3) := by decide +kernel
theorem dX8_markAt_18 : decode cX8_markAt 18 = .ok (.aload_n 0, 1) := by decide +kernel
theorem dX8_markAt_19 : decode cX8_markAt 19 = .ok (.getfield 9, 3) := by decide +kernel
theorem dX8_markAt_22 : decode cX8_markAt 22 = .ok (.iload_n 1, 1) := by decide +kernel
theorem dX8_markAt_23 : decode cX8_markAt 23 = .ok (.iaload, 1) := by decide +kernel
theorem dX8_markAt_24 : decode cX8_markAt 24 = .ok (.goto 4, 3) := by decide +kernel
theorem dX8_markAt_27 : decode cX8_markAt 27 = .ok (.iconst (-1), 1) := by decide +kernel
theorem dX8_markAt_28 : decode cX8_markAt 28 = .ok (.ireturn, 1) := by decide +kernel
theorem dX8_isMarked_0 : decode cX8_isMarked 0 = .ok (.iconst 0, 1) := by decide +kernel
theorem dX8_isMarked_1 : decode cX8_isMarked 1 = .ok (.istore_n 2, 1) := by decide +kernel
theorem dX8_isMarked_2 : decode cX8_isMarked 2 = .ok (.iload_n 2, 1) := by decide +kernel
theorem dX8_isMarked_3 : decode cX8_isMarked 3 = .ok (.aload_n 0, 1) := by decide +kernel
theorem dX8_isMarked_4 : decode cX8_isMarked 4 = .ok (.getfield 25, 3) := by decide +kernel
theorem dX8_isMarked_7 : decode cX8_isMarked 7 = .ok (.if_icmp .ge 20, 3) := by decide +kernel
theorem dX8_isMarked_10 : decode cX8_isMarked 10 = .ok (.aload_n 0, 1) := by decide +kernel
theorem dX8_isMarked_11 : decode cX8_isMarked 11 = .ok (.iload_n 2, 1) := by decide +kernel
theorem dX8_isMarked_12 : decode cX8_isMarked 12 = .ok (.invokevirtual 34, 3) := by decide +kernel
theorem dX8_isMarked_15 : decode cX8_isMarked 15 = .ok (.iload_n 1, 1) := by decide +kernel
theorem dX8_isMarked_16 : decode cX8_isMarked 16 = .ok (.if_icmp .ne 5, 3) := by decide +kernel
theorem dX8_isMarked_19 : decode cX8_isMarked 19 = .ok (.iconst 1, 1) := by decide +kernel
theorem dX8_isMarked_20 : decode cX8_isMarked 20 = .ok (.ireturn, 1) := by decide +kernel
theorem dX8_isMarked_21 : decode cX8_isMarked 21 = .ok (.iinc 2 1, 3) := by decide +kernel
theorem dX8_isMarked_24 : decode cX8_isMarked 24 = .ok (.goto (-22), 3) := by decide +kernel
theorem dX8_isMarked_27 : decode cX8_isMarked 27 = .ok (.iconst 0, 1) := by decide +kernel
theorem dX8_isMarked_28 : decode cX8_isMarked 28 = .ok (.ireturn, 1) := by decide +kernel
theorem dX8_addMark_0 : decode cX8_addMark 0 = .ok (.aload_n 0, 1) := by decide +kernel
theorem dX8_addMark_1 : decode cX8_addMark 1 = .ok (.getfield 25, 3) := by decide +kernel
theorem dX8_addMark_4 : decode cX8_addMark 4 = .ok (.ifCond .lt 32, 3) := by decide +kernel
theorem dX8_addMark_7 : decode cX8_addMark 7 = .ok (.aload_n 0, 1) := by decide +kernel
theorem dX8_addMark_8 : decode cX8_addMark 8 = .ok (.getfield 25, 3) := by decide +kernel
theorem dX8_addMark_11 : decode cX8_addMark 11 = .ok (.bipush 8, 2) := by decide +kernel
theorem dX8_addMark_13 : decode cX8_addMark 13 = .ok (.if_icmp .ge 23, 3) := by decide +kernel
theorem dX8_addMark_16 : decode cX8_addMark 16 = .ok (.aload_n 0, 1) := by decide +kernel
theorem dX8_addMark_17 : decode cX8_addMark 17 = .ok (.getfield 9, 3) := by decide +kernel
theorem dX8_addMark_20 : decode cX8_addMark 20 = .ok (.aload_n 0, 1) := by decide +kernel
theorem dX8_addMark_21 : decode cX8_addMark 21 = .ok (.getfield 25, 3) := by decide +kernel
theorem dX8_addMark_24 : decode cX8_addMark 24 = .ok (.iload_n 1, 1) := by decide +kernel
theorem dX8_addMark_25 : decode cX8_addMark 25 = .ok (.iastore, 1) := by decide +kernel
theorem dX8_addMark_26 : decode cX8_addMark 26 = .ok (.aload_n 0, 1) := by decide +kernel
theorem dX8_addMark_27 : decode cX8_addMark 27 = .ok (.dup, 1) := by decide +kernel
theorem dX8_addMark_28 : decode cX8_addMark 28 = .ok (.getfield 25, 3) := by decide +kernel
theorem dX8_addMark_31 : decode cX8_addMark 31 = .ok (.iconst 1, 1) := by decide +kernel
theorem dX8_addMark_32 : decode cX8_addMark 32 = .ok (.iadd, 1) := by decide +kernel
theorem dX8_addMark_33 : decode cX8_addMark 33 = .ok (.putfield 25, 3) := by decide +kernel
theorem dX8_addMark_36 : decode cX8_addMark 36 = .ok (.return_, 1) := by decide +kernel
theorem dX8_dropMark_0 : decode cX8_dropMark 0 = .ok (.iconst 0, 1) := by decide +kernel
theorem dX8_dropMark_1 : decode cX8_dropMark 1 = .ok (.istore_n 2, 1) := by decide +kernel
theorem dX8_dropMark_2 : decode cX8_dropMark 2 = .ok (.iconst 0, 1) := by decide +kernel
theorem dX8_dropMark_3 : decode cX8_dropMark 3 = .ok (.istore_n 3, 1) := by decide +kernel
theorem dX8_dropMark_4 : decode cX8_dropMark 4 = .ok (.iload_n 3, 1) := by decide +kernel
theorem dX8_dropMark_5 : decode cX8_dropMark 5 = .ok (.aload_n 0, 1) := by decide +kernel
theorem dX8_dropMark_6 : decode cX8_dropMark 6 = .ok (.getfield 25, 3) := by decide +kernel
theorem dX8_dropMark_9 : decode cX8_dropMark 9 = .ok (.if_icmp .ge 40, 3) := by decide +kernel
theorem dX8_dropMark_12 : decode cX8_dropMark 12 = .ok (.iload_n 3, 1) := by decide +kernel
theorem dX8_dropMark_13 : decode cX8_dropMark 13 = .ok (.bipush 8, 2) := by decide +kernel
theorem dX8_dropMark_15 : decode cX8_dropMark 15 = .ok (.if_icmp .ge 34, 3) := by decide +kernel
theorem dX8_dropMark_18 : decode cX8_dropMark 18 = .ok (.aload_n 0, 1) := by decide +kernel
theorem dX8_dropMark_19 : decode cX8_dropMark 19 = .ok (.getfield 9, 3) := by decide +kernel
theorem dX8_dropMark_22 : decode cX8_dropMark 22 = .ok (.iload_n 3, 1) := by decide +kernel
theorem dX8_dropMark_23 : decode cX8_dropMark 23 = .ok (.iaload, 1) := by decide +kernel
theorem dX8_dropMark_24 : decode cX8_dropMark 24 = .ok (.iload_n 1, 1) := by decide +kernel
theorem dX8_dropMark_25 : decode cX8_dropMark 25 = .ok (.if_icmp .eq 18, 3) := by decide +kernel
theorem dX8_dropMark_28 : decode cX8_dropMark 28 = .ok (.aload_n 0, 1) := by decide +kernel
theorem dX8_dropMark_29 : decode cX8_dropMark 29 = .ok (.getfield 9, 3) := by decide +kernel
theorem dX8_dropMark_32 : decode cX8_dropMark 32 = .ok (.iload_n 2, 1) := by decide +kernel
theorem dX8_dropMark_33 : decode cX8_dropMark 33 = .ok (.aload_n 0, 1) := by decide +kernel
theorem dX8_dropMark_34 : decode cX8_dropMark 34 = .ok (.getfield 9, 3) := by decide +kernel
theorem dX8_dropMark_37 : decode cX8_dropMark 37 = .ok (.iload_n 3, 1) := by decide +kernel
theorem dX8_dropMark_38 : decode cX8_dropMark 38 = .ok (.iaload, 1) := by decide +kernel
theorem dX8_dropMark_39 : decode cX8_dropMark 39 = .ok (.iastore, 1) := by decide +kernel
theorem dX8_dropMark_40 : decode cX8_dropMark 40 = .ok (.iinc 2 1, 3) := by decide +kernel
theorem dX8_dropMark_43 : decode cX8_dropMark 43 = .ok (.iinc 3 1, 3) := by decide +kernel
theorem dX8_dropMark_46 : decode cX8_dropMark 46 = .ok (.goto (-42), 3) := by decide +kernel
theorem dX8_dropMark_49 : decode cX8_dropMark 49 = .ok (.aload_n 0, 1) := by decide +kernel
theorem dX8_dropMark_50 : decode cX8_dropMark 50 = .ok (.iload_n 2, 1) := by decide +kernel
theorem dX8_dropMark_51 : decode cX8_dropMark 51 = .ok (.putfield 25, 3) := by decide +kernel
theorem dX8_dropMark_54 : decode cX8_dropMark 54 = .ok (.return_, 1) := by decide +kernel
theorem dX8_read_0 : decode cX8_read 0 = .ok (.iload_n 1, 1) := by decide +kernel
theorem dX8_read_1 : decode cX8_read 1 = .ok (.invokestatic 38, 3) := by decide +kernel
theorem dX8_read_4 : decode cX8_read 4 = .ok (.ifCond .eq 58, 3) := by decide +kernel
theorem dX8_read_7 : decode cX8_read 7 = .ok (.iload_n 1, 1) := by decide +kernel
theorem dX8_read_8 : decode cX8_read 8 = .ok (.bipush 6, 2) := by decide +kernel
theorem dX8_read_10 : decode cX8_read 10 = .ok (.imul, 1) := by decide +kernel
theorem dX8_read_11 : decode cX8_read 11 = .ok (.istore_n 3, 1) := by decide +kernel
theorem dX8_read_12 : decode cX8_read 12 = .ok (.aload_n 2, 1) := by decide +kernel
theorem dX8_read_13 : decode cX8_read 13 = .ok (.aload_n 0, 1) := by decide +kernel
theorem dX8_read_14 : decode cX8_read 14 = .ok (.getfield 15, 3) := by decide +kernel
theorem dX8_read_17 : decode cX8_read 17 = .ok (.iload_n 3, 1) := by decide +kernel
theorem dX8_read_18 : decode cX8_read 18 = .ok (.iaload, 1) := by decide +kernel
theorem dX8_read_19 : decode cX8_read 19 = .ok (.aload_n 0, 1) := by decide +kernel
theorem dX8_read_20 : decode cX8_read 20 = .ok (.getfield 15, 3) := by decide +kernel
theorem dX8_read_23 : decode cX8_read 23 = .ok (.iload_n 3, 1) := by decide +kernel
theorem dX8_read_24 : decode cX8_read 24 = .ok (.iconst 1, 1) := by decide +kernel
theorem dX8_read_25 : decode cX8_read 25 = .ok (.iadd, 1) := by decide +kernel
theorem dX8_read_26 : decode cX8_read 26 = .ok (.iaload, 1) := by decide +kernel
theorem dX8_read_27 : decode cX8_read 27 = .ok (.aload_n 0, 1) := by decide +kernel
theorem dX8_read_28 : decode cX8_read 28 = .ok (.getfield 15, 3) := by decide +kernel
theorem dX8_read_31 : decode cX8_read 31 = .ok (.iload_n 3, 1) := by decide +kernel
theorem dX8_read_32 : decode cX8_read 32 = .ok (.iconst 2, 1) := by decide +kernel
theorem dX8_read_33 : decode cX8_read 33 = .ok (.iadd, 1) := by decide +kernel
theorem dX8_read_34 : decode cX8_read 34 = .ok (.iaload, 1) := by decide +kernel
theorem dX8_read_35 : decode cX8_read 35 = .ok (.aload_n 0, 1) := by decide +kernel
theorem dX8_read_36 : decode cX8_read 36 = .ok (.getfield 15, 3) := by decide +kernel
theorem dX8_read_39 : decode cX8_read 39 = .ok (.iload_n 3, 1) := by decide +kernel
theorem dX8_read_40 : decode cX8_read 40 = .ok (.iconst 3, 1) := by decide +kernel
theorem dX8_read_41 : decode cX8_read 41 = .ok (.iadd, 1) := by decide +kernel
theorem dX8_read_42 : decode cX8_read 42 = .ok (.iaload, 1) := by decide +kernel
theorem dX8_read_43 : decode cX8_read 43 = .ok (.aload_n 0, 1) := by decide +kernel
theorem dX8_read_44 : decode cX8_read 44 = .ok (.getfield 15, 3) := by decide +kernel
theorem dX8_read_47 : decode cX8_read 47 = .ok (.iload_n 3, 1) := by decide +kernel
theorem dX8_read_48 : decode cX8_read 48 = .ok (.iconst 4, 1) := by decide +kernel
theorem dX8_read_49 : decode cX8_read 49 = .ok (.iadd, 1) := by decide +kernel
theorem dX8_read_50 : decode cX8_read 50 = .ok (.iaload, 1) := by decide +kernel
theorem dX8_read_51 : decode cX8_read 51 = .ok (.aload_n 0, 1) := by decide +kernel
theorem dX8_read_52 : decode cX8_read 52 = .ok (.getfield 15, 3) := by decide +kernel
theorem dX8_read_55 : decode cX8_read 55 = .ok (.iload_n 3, 1) := by decide +kernel
theorem dX8_read_56 : decode cX8_read 56 = .ok (.iconst 5, 1) := by decide +kernel
theorem dX8_read_57 : decode cX8_read 57 = .ok (.iadd, 1) := by decide +kernel
theorem dX8_read_58 : decode cX8_read 58 = .ok (.iaload, 1) := by decide +kernel
theorem dX8_read_59 : decode cX8_read 59 = .ok (.invokevirtual 42, 3) := by decide +kernel
theorem dX8_read_62 : decode cX8_read 62 = .ok (.return_, 1) := by decide +kernel
theorem dX8_write_0 : decode cX8_write 0 = .ok (.iload_n 1, 1) := by decide +kernel
theorem dX8_write_1 : decode cX8_write 1 = .ok (.invokestatic 38, 3) := by decide +kernel
theorem dX8_write_4 : decode cX8_write 4 = .ok (.ifCond .eq 33, 3) := by decide +kernel
theorem dX8_write_7 : decode cX8_write 7 = .ok (.iconst 0, 1) := by decide +kernel
theorem dX8_write_8 : decode cX8_write 8 = .ok (.istore_n 3, 1) := by decide +kernel
theorem dX8_write_9 : decode cX8_write 9 = .ok (.iload_n 3, 1) := by decide +kernel
theorem dX8_write_10 : decode cX8_write 10 = .ok (.bipush 6, 2) := by decide +kernel
theorem dX8_write_12 : decode cX8_write 12 = .ok (.if_icmp .ge 25, 3) := by decide +kernel
theorem dX8_write_15 : decode cX8_write 15 = .ok (.aload_n 0, 1) := by decide +kernel
theorem dX8_write_16 : decode cX8_write 16 = .ok (.getfield 15, 3) := by decide +kernel
theorem dX8_write_19 : decode cX8_write 19 = .ok (.iload_n 1, 1) := by decide +kernel
theorem dX8_write_20 : decode cX8_write 20 = .ok (.bipush 6, 2) := by decide +kernel
theorem dX8_write_22 : decode cX8_write 22 = .ok (.imul, 1) := by decide +kernel
theorem dX8_write_23 : decode cX8_write 23 = .ok (.iload_n 3, 1) := by decide +kernel
theorem dX8_write_24 : decode cX8_write 24 = .ok (.iadd, 1) := by decide +kernel
theorem dX8_write_25 : decode cX8_write 25 = .ok (.aload_n 2, 1) := by decide +kernel
theorem dX8_write_26 : decode cX8_write 26 = .ok (.iload_n 3, 1) := by decide +kernel
theorem dX8_write_27 : decode cX8_write 27 = .ok (.invokevirtual 48, 3) := by decide +kernel
theorem dX8_write_30 : decode cX8_write 30 = .ok (.iastore, 1) := by decide +kernel
theorem dX8_write_31 : decode cX8_write 31 = .ok (.iinc 3 1, 3) := by decide +kernel
theorem dX8_write_34 : decode cX8_write 34 = .ok (.goto (-25), 3) := by decide +kernel
theorem dX8_write_37 : decode cX8_write 37 = .ok (.return_, 1) := by decide +kernel
theorem dX9_init_0 : decode cX9_init 0 = .ok (.aload_n 0, 1) := by decide +kernel
theorem dX9_init_1 : decode cX9_init 1 = .ok (.invokespecial 3, 3) := by decide +kernel
theorem dX9_init_4 : decode cX9_init 4 = .ok (.aload_n 0, 1) := by decide +kernel
theorem dX9_init_5 : decode cX9_init 5 = .ok (.sipush 500, 3) := by decide +kernel
theorem dX9_init_8 : decode cX9_init 8 = .ok (.newarray .byte, 2) := by decide +kernel
theorem dX9_init_10 : decode cX9_init 10 = .ok (.putfield 9, 3) := by decide +kernel
theorem dX9_init_13 : decode cX9_init 13 = .ok (.aload_n 0, 1) := by decide +kernel
theorem dX9_init_14 : decode cX9_init 14 = .ok (.iconst 0, 1) := by decide +kernel
theorem dX9_init_15 : decode cX9_init 15 = .ok (.putfield 15, 3) := by decide +kernel
theorem dX9_init_18 : decode cX9_init 18 = .ok (.return_, 1) := by decide +kernel
theorem dX9_addFour_0 : decode cX9_addFour 0 = .ok (.bipush 24, 2) := by decide +kernel
theorem dX9_addFour_2 : decode cX9_addFour 2 = .ok (.istore_n 2, 1) := by decide +kernel
theorem dX9_addFour_3 : decode cX9_addFour 3 = .ok (.iload_n 2, 1) := by decide +kernel
theorem dX9_addFour_4 : decode cX9_addFour 4 = .ok (.ifCond .lt 49, 3) := by decide +kernel
theorem dX9_addFour_7 : decode cX9_addFour 7 = .ok (.aload_n 0, 1) := by decide +kernel
theorem dX9_addFour_8 : decode cX9_addFour 8 = .ok (.getfield 15, 3) := by decide +kernel
theorem dX9_addFour_11 : decode cX9_addFour 11 = .ok (.ifCond .lt 36, 3) := by decide +kernel
theorem dX9_addFour_14 : decode cX9_addFour 14 = .ok (.aload_n 0, 1) := by decide +kernel
theorem dX9_addFour_15 : decode cX9_addFour 15 = .ok (.getfield 15, 3) := by decide +kernel
theorem dX9_addFour_18 : decode cX9_addFour 18 = .ok (.sipush 500, 3) := by decide +kernel
theorem dX9_addFour_21 : decode cX9_addFour 21 = .ok (.if_icmp .ge 26, 3) := by decide +kernel
theorem dX9_addFour_24 : decode cX9_addFour 24 = .ok (.aload_n 0, 1) := by decide +kernel
theorem dX9_addFour_25 : decode cX9_addFour 25 = .ok (.getfield 9, 3) := by decide +kernel
theorem dX9_addFour_28 : decode cX9_addFour 28 = .ok (.aload_n 0, 1) := by decide +kernel
theorem dX9_addFour_29 : decode cX9_addFour 29 = .ok (.getfield 15, 3) := by decide +kernel
theorem dX9_addFour_32 : decode cX9_addFour 32 = .ok (.iload_n 1, 1) := by decide +kernel
theorem dX9_addFour_33 : decode cX9_addFour 33 = .ok (.iload_n 2, 1) := by decide +kernel
theorem dX9_addFour_34 : decode cX9_addFour 34 = .ok (.iushr, 1) := by decide +kernel
theorem dX9_addFour_35 : decode cX9_addFour 35 = .ok (.i2b, 1) := by decide +kernel
theorem dX9_addFour_36 : decode cX9_addFour 36 = .ok (.bastore, 1) := by decide +kernel
theorem dX9_addFour_37 : decode cX9_addFour 37 = .ok (.aload_n 0, 1) := by decide +kernel
theorem dX9_addFour_38 : decode cX9_addFour 38 = .ok (.dup, 1) := by decide +kernel
theorem dX9_addFour_39 : decode cX9_addFour 39 = .ok (.getfield 15, 3) := by decide +kernel
theorem dX9_addFour_42 : decode cX9_addFour 42 = .ok (.iconst 1, 1) := by decide +kernel
theorem dX9_addFour_43 : decode cX9_addFour 43 = .ok (.iadd, 1) := by decide +kernel
theorem dX9_addFour_44 : decode cX9_addFour 44 = .ok (.putfield 15, 3) := by decide +kernel
theorem dX9_addFour_47 : decode cX9_addFour 47 = .ok (.iinc 2 (-8), 3) := by decide +kernel
theorem dX9_addFour_50 : decode cX9_addFour 50 = .ok (.goto (-47), 3) := by decide +kernel
theorem dX9_addFour_53 : decode cX9_addFour 53 = .ok (.return_, 1) := by decide +kernel
theorem dX9_byteAt_0 : decode cX9_byteAt 0 = .ok (.iload_n 1, 1) := by decide +kernel
theorem dX9_byteAt_1 : decode cX9_byteAt 1 = .ok (.ifCond .lt 31, 3) := by decide +kernel
theorem dX9_byteAt_4 : decode cX9_byteAt 4 = .ok (.iload_n 1, 1) := by decide +kernel
theorem dX9_byteAt_5 : decode cX9_byteAt 5 = .ok (.aload_n 0, 1) := by decide +kernel
theorem dX9_byteAt_6 : decode cX9_byteAt 6 = .ok (.getfield 15, 3) := by decide +kernel
theorem dX9_byteAt_9 : decode cX9_byteAt 9 = .ok (.if_icmp .ge 23, 3) := by decide +kernel
theorem dX9_byteAt_12 : decode cX9_byteAt 12 = .ok (.iload_n 1, 1) := by decide +kernel
theorem dX9_byteAt_13 : decode cX9_byteAt 13 = .ok (.sipush 500, 3) := by decide +kernel
theorem dX9_byteAt_16 : decode cX9_byteAt 16 = .ok (.if_icmp .ge 16, 3) := by decide +kernel
theorem dX9_byteAt_19 : decode cX9_byteAt 19 = .ok (.aload_n 0, 1) := by decide +kernel
theorem dX9_byteAt_20 : decode cX9_byteAt 20 = .ok (.getfield 9, 3) := by decide +kernel
theorem dX9_byteAt_23 : decode cX9_byteAt 23 = .ok (.iload_n 1, 1) := by decide +kernel
theorem dX9_byteAt_24 : decode cX9_byteAt 24 = .ok (.baload, 1) := by decide +kernel
theorem dX9_byteAt_25 : decode cX9_byteAt 25 = .ok (.sipush 255, 3) := by decide +kernel
theorem dX9_byteAt_28 : decode cX9_byteAt 28 = .ok (.iand, 1) := by decide +kernel
theorem dX9_byteAt_29 : decode cX9_byteAt 29 = .ok (.goto 4, 3) := by decide +kernel
theorem dX9_byteAt_32 : decode cX9_byteAt 32 = .ok (.iconst (-1), 1) := by decide +kernel
theorem dX9_byteAt_33 : decode cX9_byteAt 33 = .ok (.ireturn, 1) := by decide +kernel
theorem dX9_copy_0 : decode cX9_copy 0 = .ok (.aload_n 0, 1) := by decide +kernel
theorem dX9_copy_1 : decode cX9_copy 1 = .ok (.aload_n 1, 1) := by decide +kernel
theorem dX9_copy_2 : decode cX9_copy 2 = .ok (.getfield 15, 3) := by decide +kernel
theorem dX9_copy_5 : decode cX9_copy 5 = .ok (.putfield 15, 3) := by decide +kernel
theorem dX9_copy_8 : decode cX9_copy 8 = .ok (.aload_n 1, 1) := by decide +kernel
theorem dX9_copy_9 : decode cX9_copy 9 = .ok (.getfield 9, 3) := by decide +kernel
theorem dX9_copy_12 : decode cX9_copy 12 = .ok (.iconst 0, 1) := by decide +kernel
theorem dX9_copy_13 : decode cX9_copy 13 = .ok (.aload_n 0, 1) := by decide +kernel
theorem dX9_copy_14 : decode cX9_copy 14 = .ok (.getfield 9, 3) := by decide +kernel
theorem dX9_copy_17 : decode cX9_copy 17 = .ok (.iconst 0, 1) := by decide +kernel
theorem dX9_copy_18 : decode cX9_copy 18 = .ok (.sipush 500, 3) := by decide +kernel
theorem dX9_copy_21 : decode cX9_copy 21 = .ok (.invokestatic 19, 3) := by decide +kernel
theorem dX9_copy_24 : decode cX9_copy 24 = .ok (.return_, 1) := by decide +kernel
theorem dX10_init_0 : decode cX10_init 0 = .ok (.aload_n 0, 1) := by decide +kernel
theorem dX10_init_1 : decode cX10_init 1 = .ok (.invokespecial 3, 3) := by decide +kernel
theorem dX10_init_4 : decode cX10_init 4 = .ok (.return_, 1) := by decide +kernel
theorem dX10_fill_0 : decode cX10_fill 0 = .ok (.aload_n 0, 1) := by decide +kernel
theorem dX10_fill_1 : decode cX10_fill 1 = .ok (.iload_n 1, 1) := by decide +kernel
theorem dX10_fill_2 : decode cX10_fill 2 = .ok (.putfield 9, 3) := by decide +kernel
theorem dX10_fill_5 : decode cX10_fill 5 = .ok (.aload_n 0, 1) := by decide +kernel
theorem dX10_fill_6 : decode cX10_fill 6 = .ok (.iload_n 2, 1) := by decide +kernel
theorem dX10_fill_7 : decode cX10_fill 7 = .ok (.putfield 15, 3) := by decide +kernel
theorem dX10_fill_10 : decode cX10_fill 10 = .ok (.aload_n 0, 1) := by decide +kernel
theorem dX10_fill_11 : decode cX10_fill 11 = .ok (.iload_n 3, 1) := by decide +kernel
theorem dX10_fill_12 : decode cX10_fill 12 = .ok (.putfield 18, 3) := by decide +kernel
theorem dX10_fill_15 : decode cX10_fill 15 = .ok (.return_, 1) := by decide +kernel
theorem dX10_nth_0 : decode cX10_nth 0 = .ok (.iload_n 1, 1) := by decide +kernel
theorem dX10_nth_1 : decode cX10_nth 1 = .ok (.ifCond .ne 8, 3) := by decide +kernel
theorem dX10_nth_4 : decode cX10_nth 4 = .ok (.aload_n 0, 1) := by decide +kernel
theorem dX10_nth_5 : decode cX10_nth 5 = .ok (.getfield 9, 3) := by decide +kernel
theorem dX10_nth_8 : decode cX10_nth 8 = .ok (.ireturn, 1) := by decide +kernel
theorem dX10_nth_9 : decode cX10_nth 9 = .ok (.iload_n 1, 1) := by decide +kernel
theorem dX10_nth_10 : decode cX10_nth 10 = .ok (.iconst 1, 1) := by decide +kernel
theorem dX10_nth_11 : decode cX10_nth 11 = .ok (.if_icmp .ne 10, 3) := by decide +kernel
theorem dX10_nth_14 : decode cX10_nth 14 = .ok (.aload_n 0, 1) := by decide +kernel
theorem dX10_nth_15 : decode cX10_nth 15 = .ok (.getfield 15, 3) := by decide +kernel
theorem dX10_nth_18 : decode cX10_nth 18 = .ok (.goto 7, 3) := by decide +kernel
theorem dX10_nth_21 : decode cX10_nth 21 = .ok (.aload_n 0, 1) := by decide +kernel
theorem dX10_nth_22 : decode cX10_nth 22 = .ok (.getfield 18, 3) := by decide +kernel
theorem dX10_nth_25 : decode cX10_nth 25 = .ok (.ireturn, 1) := by decide +kernel
theorem dX10_take_0 : decode cX10_take 0 = .ok (.iload_n 2, 1) := by decide +kernel
theorem dX10_take_1 : decode cX10_take 1 = .ok (.iconst 1, 1) := by decide +kernel
theorem dX10_take_2 : decode cX10_take 2 = .ok (.if_icmp .lt 15, 3) := by decide +kernel
theorem dX10_take_5 : decode cX10_take 5 = .ok (.iload_n 1, 1) := by decide +kernel
theorem dX10_take_6 : decode cX10_take 6 = .ok (.ifCond .lt 11, 3) := by decide +kernel
theorem dX10_take_9 : decode cX10_take 9 = .ok (.iload_n 1, 1) := by decide +kernel
theorem dX10_take_10 : decode cX10_take 10 = .ok (.iload_n 2, 1) := by decide +kernel
theorem dX10_take_11 : decode cX10_take 11 = .ok (.invokestatic 21, 3) := by decide +kernel
theorem dX10_take_14 : decode cX10_take 14 = .ok (.if_icmp .lt 5, 3) := by decide +kernel
theorem dX10_take_17 : decode cX10_take 17 = .ok (.iconst 0, 1) := by decide +kernel
theorem dX10_take_18 : decode cX10_take 18 = .ok (.ireturn, 1) := by decide +kernel
theorem dX10_take_19 : decode cX10_take 19 = .ok (.iload_n 1, 1) := by decide +kernel
theorem dX10_take_20 : decode cX10_take 20 = .ok (.iload_n 2, 1) := by decide +kernel
theorem dX10_take_21 : decode cX10_take 21 = .ok (.iload_n 2, 1) := by decide +kernel
theorem dX10_take_22 : decode cX10_take 22 = .ok (.imul, 1) := by decide +kernel
theorem dX10_take_23 : decode cX10_take 23 = .ok (.if_icmp .ge 17, 3) := by decide +kernel
theorem dX10_take_26 : decode cX10_take 26 = .ok (.aload_n 0, 1) := by decide +kernel
theorem dX10_take_27 : decode cX10_take 27 = .ok (.iconst 1, 1) := by decide +kernel
theorem dX10_take_28 : decode cX10_take 28 = .ok (.iload_n 1, 1) := by decide +kernel
theorem dX10_take_29 : decode cX10_take 29 = .ok (.iload_n 2, 1) := by decide +kernel
theorem dX10_take_30 : decode cX10_take 30 = .ok (.idiv, 1) := by decide +kernel
theorem dX10_take_31 : decode cX10_take 31 = .ok (.iload_n 1, 1) := by decide +kernel
theorem dX10_take_32 : decode cX10_take 32 = .ok (.iload_n 2, 1) := by decide +kernel
theorem dX10_take_33 : decode cX10_take 33 = .ok (.irem, 1) := by decide +kernel
theorem dX10_take_34 : decode cX10_take 34 = .ok (.invokevirtual 27, 3) := by decide +kernel
theorem dX10_take_37 : decode cX10_take 37 = .ok (.goto 33, 3) := by decide +kernel
theorem dX10_take_40 : decode cX10_take 40 = .ok (.iload_n 1, 1) := by decide +kernel
theorem dX10_take_41 : decode cX10_take 41 = .ok (.iload_n 2, 1) := by decide +kernel
theorem dX10_take_42 : decode cX10_take 42 = .ok (.iload_n 2, 1) := by decide +kernel
theorem dX10_take_43 : decode cX10_take 43 = .ok (.imul, 1) := by decide +kernel
theorem dX10_take_44 : decode cX10_take 44 = .ok (.iload_n 2, 1) := by decide +kernel
theorem dX10_take_45 : decode cX10_take 45 = .ok (.iadd, 1) := by decide +kernel
theorem dX10_take_46 : decode cX10_take 46 = .ok (.if_icmp .ge 17, 3) := by decide +kernel
theorem dX10_take_49 : decode cX10_take 49 = .ok (.aload_n 0, 1) := by decide +kernel
theorem dX10_take_50 : decode cX10_take 50 = .ok (.iconst 0, 1) := by decide +kernel
theorem dX10_take_51 : decode cX10_take 51 = .ok (.iconst 1, 1) := by decide +kernel
theorem dX10_take_52 : decode cX10_take 52 = .ok (.iload_n 1, 1) := by decide +kernel
theorem dX10_take_53 : decode cX10_take 53 = .ok (.iload_n 2, 1) := by decide +kernel
theorem dX10_take_54 : decode cX10_take 54 = .ok (.iload_n 2, 1) := by decide +kernel
theorem dX10_take_55 : decode cX10_take 55 = .ok (.imul, 1) := by decide +kernel
theorem dX10_take_56 : decode cX10_take 56 = .ok (.isub, 1) := by decide +kernel
theorem dX10_take_57 : decode cX10_take 57 = .ok (.invokevirtual 27, 3) := by decide +kernel
theorem dX10_take_60 : decode cX10_take 60 = .ok (.goto 10, 3) := by decide +kernel
theorem dX10_take_63 : decode cX10_take 63 = .ok (.aload_n 0, 1) := by decide +kernel
theorem dX10_take_64 : decode cX10_take 64 = .ok (.iconst 0, 1) := by decide +kernel
theorem dX10_take_65 : decode cX10_take 65 = .ok (.iconst 0, 1) := by decide +kernel
theorem dX10_take_66 : decode cX10_take 66 = .ok (.iconst 1, 1) := by decide +kernel
theorem dX10_take_67 : decode cX10_take 67 = .ok (.invokevirtual 27, 3) := by decide +kernel
theorem dX10_take_70 : decode cX10_take 70 = .ok (.iconst 1, 1) := by decide +kernel
theorem dX10_take_71 : decode cX10_take 71 = .ok (.ireturn, 1) := by decide +kernel
theorem dX10_numbered_0 : decode cX10_numbered 0 = .ok (.aload_n 0, 1) := by decide +kernel
theorem dX10_numbered_1 : decode cX10_numbered 1 = .ok (.getfield 9, 3) := by decide +kernel
theorem dX10_numbered_4 : decode cX10_numbered 4 = .ok (.iload_n 1, 1) := by decide +kernel
theorem dX10_numbered_5 : decode cX10_numbered 5 = .ok (.invokestatic 31, 3) := by decide +kernel
theorem dX10_numbered_8 : decode cX10_numbered 8 = .ok (.istore_n 2, 1) := by decide +kernel
theorem dX10_numbered_9 : decode cX10_numbered 9 = .ok (.aload_n 0, 1) := by decide +kernel
theorem dX10_numbered_10 : decode cX10_numbered 10 = .ok (.getfield 15, 3) := by decide +kernel
theorem dX10_numbered_13 : decode cX10_numbered 13 = .ok (.iload_n 1, 1) := by decide +kernel
theorem dX10_numbered_14 : decode cX10_numbered 14 = .ok (.invokestatic 31, 3) := by decide +kernel
theorem dX10_numbered_17 : decode cX10_numbered 17 = .ok (.istore_n 3, 1) := by decide +kernel
theorem dX10_numbered_18 : decode cX10_numbered 18 = .ok (.aload_n 0, 1) := by decide +kernel
theorem dX10_numbered_19 : decode cX10_numbered 19 = .ok (.getfield 18, 3) := by decide +kernel
theorem dX10_numbered_22 : decode cX10_numbered 22 = .ok (.iload_n 1, 1) := by decide +kernel
theorem dX10_numbered_23 : decode cX10_numbered 23 = .ok (.invokestatic 31, 3) := by decide +kernel
theorem dX10_numbered_26 : decode cX10_numbered 26 = .ok (.istore 4, 2) := by decide +kernel
theorem dX10_numbered_28 : decode cX10_numbered 28 = .ok (.iload_n 2, 1) := by decide +kernel
theorem dX10_numbered_29 : decode cX10_numbered 29 = .ok (.ifCond .eq 31, 3) := by decide +kernel
theorem dX10_numbered_32 : decode cX10_numbered 32 = .ok (.iload_n 2, 1) := by decide +kernel
theorem dX10_numbered_33 : decode cX10_numbered 33 = .ok (.iload_n 1, 1) := by decide +kernel
theorem dX10_numbered_34 : decode cX10_numbered 34 = .ok (.invokestatic 35, 3) := by decide +kernel
theorem dX10_numbered_37 : decode cX10_numbered 37 = .ok (.istore 5, 2) := by decide +kernel
theorem dX10_numbered_39 : decode cX10_numbered 39 = .ok (.iload_n 1, 1) := by decide +kernel
theorem dX10_numbered_40 : decode cX10_numbered 40 = .ok (.iload_n 3, 1) := by decide +kernel
theorem dX10_numbered_41 : decode cX10_numbered 41 = .ok (.iload 5, 2) := by decide +kernel
theorem dX10_numbered_43 : decode cX10_numbered 43 = .ok (.imul, 1) := by decide +kernel
theorem dX10_numbered_44 : decode cX10_numbered 44 = .ok (.iload_n 1, 1) := by decide +kernel
theorem dX10_numbered_45 : decode cX10_numbered 45 = .ok (.invokestatic 31, 3) := by decide +kernel
theorem dX10_numbered_48 : decode cX10_numbered 48 = .ok (.imul, 1) := by decide +kernel
theorem dX10_numbered_49 : decode cX10_numbered 49 = .ok (.iload 4, 2) := by decide +kernel
theorem dX10_numbered_51 : decode cX10_numbered 51 = .ok (.iload 5, 2) := by decide +kernel
theorem dX10_numbered_53 : decode cX10_numbered 53 = .ok (.imul, 1) := by decide +kernel
theorem dX10_numbered_54 : decode cX10_numbered 54 = .ok (.iload_n 1, 1) := by decide +kernel
theorem dX10_numbered_55 : decode cX10_numbered 55 = .ok (.invokestatic 31, 3) := by decide +kernel
theorem dX10_numbered_58 : decode cX10_numbered 58 = .ok (.iadd, 1) := by decide +kernel
theorem dX10_numbered_59 : decode cX10_numbered 59 = .ok (.ireturn, 1) := by decide +kernel
theorem dX10_numbered_60 : decode cX10_numbered 60 = .ok (.iload_n 3, 1) := by decide +kernel
theorem dX10_numbered_61 : decode cX10_numbered 61 = .ok (.ifCond .eq 20, 3) := by decide +kernel
theorem dX10_numbered_64 : decode cX10_numbered 64 = .ok (.iload_n 1, 1) := by decide +kernel
theorem dX10_numbered_65 : decode cX10_numbered 65 = .ok (.iload_n 1, 1) := by decide +kernel
theorem dX10_numbered_66 : decode cX10_numbered 66 = .ok (.imul, 1) := by decide +kernel
theorem dX10_numbered_67 : decode cX10_numbered 67 = .ok (.iload 4, 2) := by decide +kernel
theorem dX10_numbered_69 : decode cX10_numbered 69 = .ok (.iload_n 3, 1) := by decide +kernel
theorem dX10_numbered_70 : decode cX10_numbered 70 = .ok (.iload_n 1, 1) := by decide +kernel
theorem dX10_numbered_71 : decode cX10_numbered 71 = .ok (.invokestatic 35, 3) := by decide +kernel
theorem dX10_numbered_74 : decode cX10_numbered 74 = .ok (.imul, 1) := by decide +kernel
theorem dX10_numbered_75 : decode cX10_numbered 75 = .ok (.iload_n 1, 1) := by decide +kernel
theorem dX10_numbered_76 : decode cX10_numbered 76 = .ok (.invokestatic 31, 3) := by decide +kernel
theorem dX10_numbered_79 : decode cX10_numbered 79 = .ok (.iadd, 1) := by decide +kernel
theorem dX10_numbered_80 : decode cX10_numbered 80 = .ok (.ireturn, 1) := by decide +kernel
theorem dX10_numbered_81 : decode cX10_numbered 81 = .ok (.iload 4, 2) := by decide +kernel
theorem dX10_numbered_83 : decode cX10_numbered 83 = .ok (.ifCond .eq 11, 3) := by decide +kernel
theorem dX10_numbered_86 : decode cX10_numbered 86 = .ok (.iload_n 1, 1) := by decide +kernel
theorem dX10_numbered_87 : decode cX10_numbered 87 = .ok (.iload_n 1, 1) := by decide +kernel
theorem dX10_numbered_88 : decode cX10_numbered 88 = .ok (.imul, 1) := by decide +kernel
theorem dX10_numbered_89 : decode cX10_numbered 89 = .ok (.iload_n 1, 1) := by decide +kernel
theorem dX10_numbered_90 : decode cX10_numbered 90 = .ok (.iadd, 1) := by decide +kernel
theorem dX10_numbered_91 : decode cX10_numbered 91 = .ok (.goto 4, 3) := by decide +kernel
theorem dX10_numbered_94 : decode cX10_numbered 94 = .ok (.iconst (-1), 1) := by decide +kernel
theorem dX10_numbered_95 : decode cX10_numbered 95 = .ok (.ireturn, 1) := by decide +kernel
theorem dX10_cross_0 : decode cX10_cross 0 = .ok (.aload_n 0, 1) := by decide +kernel
theorem dX10_cross_1 : decode cX10_cross 1 = .ok (.aload_n 1, 1) := by decide +kernel
theorem dX10_cross_2 : decode cX10_cross 2 = .ok (.getfield 15, 3) := by decide +kernel
theorem dX10_cross_5 : decode cX10_cross 5 = .ok (.aload_n 2, 1) := by decide +kernel
theorem dX10_cross_6 : decode cX10_cross 6 = .ok (.getfield 18, 3) := by decide +kernel
theorem dX10_cross_9 : decode cX10_cross 9 = .ok (.imul, 1) := by decide +kernel
theorem dX10_cross_10 : decode cX10_cross 10 = .ok (.aload_n 1, 1) := by decide +kernel
theorem dX10_cross_11 : decode cX10_cross 11 = .ok (.getfield 18, 3) := by decide +kernel
theorem dX10_cross_14 : decode cX10_cross 14 = .ok (.aload_n 2, 1) := by decide +kernel
theorem dX10_cross_15 : decode cX10_cross 15 = .ok (.getfield 15, 3) := by decide +kernel
theorem dX10_cross_18 : decode cX10_cross 18 = .ok (.imul, 1) := by decide +kernel
theorem dX10_cross_19 : decode cX10_cross 19 = .ok (.isub, 1) := by decide +kernel
theorem dX10_cross_20 : decode cX10_cross 20 = .ok (.aload_n 1, 1) := by decide +kernel
theorem dX10_cross_21 : decode cX10_cross 21 = .ok (.getfield 18, 3) := by decide +kernel
theorem dX10_cross_24 : decode cX10_cross 24 = .ok (.aload_n 2, 1) := by decide +kernel
theorem dX10_cross_25 : decode cX10_cross 25 = .ok (.getfield 9, 3) := by decide +kernel
theorem dX10_cross_28 : decode cX10_cross 28 = .ok (.imul, 1) := by decide +kernel
theorem dX10_cross_29 : decode cX10_cross 29 = .ok (.aload_n 1, 1) := by decide +kernel
theorem dX10_cross_30 : decode cX10_cross 30 = .ok (.getfield 9, 3) := by decide +kernel
theorem dX10_cross_33 : decode cX10_cross 33 = .ok (.aload_n 2, 1) := by decide +kernel
theorem dX10_cross_34 : decode cX10_cross 34 = .ok (.getfield 18, 3) := by decide +kernel
theorem dX10_cross_37 : decode cX10_cross 37 = .ok (.imul, 1) := by decide +kernel
theorem dX10_cross_38 : decode cX10_cross 38 = .ok (.isub, 1) := by decide +kernel
theorem dX10_cross_39 : decode cX10_cross 39 = .ok (.aload_n 1, 1) := by decide +kernel
theorem dX10_cross_40 : decode cX10_cross 40 = .ok (.getfield 9, 3) := by decide +kernel
theorem dX10_cross_43 : decode cX10_cross 43 = .ok (.aload_n 2, 1) := by decide +kernel
theorem dX10_cross_44 : decode cX10_cross 44 = .ok (.getfield 15, 3) := by decide +kernel
theorem dX10_cross_47 : decode cX10_cross 47 = .ok (.imul, 1) := by decide +kernel
theorem dX10_cross_48 : decode cX10_cross 48 = .ok (.aload_n 1, 1) := by decide +kernel
theorem dX10_cross_49 : decode cX10_cross 49 = .ok (.getfield 15, 3) := by decide +kernel
theorem dX10_cross_52 : decode cX10_cross 52 = .ok (.aload_n 2, 1) := by decide +kernel
theorem dX10_cross_53 : decode cX10_cross 53 = .ok (.getfield 9, 3) := by decide +kernel
theorem dX10_cross_56 : decode cX10_cross 56 = .ok (.imul, 1) := by decide +kernel
theorem dX10_cross_57 : decode cX10_cross 57 = .ok (.isub, 1) := by decide +kernel
theorem dX10_cross_58 : decode cX10_cross 58 = .ok (.invokevirtual 27, 3) := by decide +kernel
theorem dX10_cross_61 : decode cX10_cross 61 = .ok (.return_, 1) := by decide +kernel
theorem dX10_isOn_0 : decode cX10_isOn 0 = .ok (.aload_n 0, 1) := by decide +kernel
theorem dX10_isOn_1 : decode cX10_isOn 1 = .ok (.getfield 9, 3) := by decide +kernel
theorem dX10_isOn_4 : decode cX10_isOn 4 = .ok (.aload_n 1, 1) := by decide +kernel
theorem dX10_isOn_5 : decode cX10_isOn 5 = .ok (.getfield 9, 3) := by decide +kernel
theorem dX10_isOn_8 : decode cX10_isOn 8 = .ok (.imul, 1) := by decide +kernel
theorem dX10_isOn_9 : decode cX10_isOn 9 = .ok (.aload_n 0, 1) := by decide +kernel
theorem dX10_isOn_10 : decode cX10_isOn 10 = .ok (.getfield 15, 3) := by decide +kernel
theorem dX10_isOn_13 : decode cX10_isOn 13 = .ok (.aload_n 1, 1) := by decide +kernel
theorem dX10_isOn_14 : decode cX10_isOn 14 = .ok (.getfield 15, 3) := by decide +kernel
theorem dX10_isOn_17 : decode cX10_isOn 17 = .ok (.imul, 1) := by decide +kernel
theorem dX10_isOn_18 : decode cX10_isOn 18 = .ok (.iadd, 1) := by decide +kernel
theorem dX10_isOn_19 : decode cX10_isOn 19 = .ok (.aload_n 0, 1) := by decide +kernel
theorem dX10_isOn_20 : decode cX10_isOn 20 = .ok (.getfield 18, 3) := by decide +kernel
theorem dX10_isOn_23 : decode cX10_isOn 23 = .ok (.aload_n 1, 1) := by decide +kernel
theorem dX10_isOn_24 : decode cX10_isOn 24 = .ok (.getfield 18, 3) := by decide +kernel
theorem dX10_isOn_27 : decode cX10_isOn 27 = .ok (.imul, 1) := by decide +kernel
theorem dX10_isOn_28 : decode cX10_isOn 28 = .ok (.iadd, 1) := by decide +kernel
theorem dX10_isOn_29 : decode cX10_isOn 29 = .ok (.iload_n 2, 1) := by decide +kernel
theorem dX10_isOn_30 : decode cX10_isOn 30 = .ok (.invokestatic 31, 3) := by decide +kernel
theorem dX10_isOn_33 : decode cX10_isOn 33 = .ok (.ifCond .ne 7, 3) := by decide +kernel
theorem dX10_isOn_36 : decode cX10_isOn 36 = .ok (.iconst 1, 1) := by decide +kernel
theorem dX10_isOn_37 : decode cX10_isOn 37 = .ok (.goto 4, 3) := by decide +kernel
theorem dX10_isOn_40 : decode cX10_isOn 40 = .ok (.iconst 0, 1) := by decide +kernel
theorem dX10_isOn_41 : decode cX10_isOn 41 = .ok (.ireturn, 1) := by decide +kernel
theorem dJ9_floorMod_7cf53_0 : decode cJ9_floorMod_7cf53 0 = .ok (.iload_n 0, 1) := by decide +kernel
theorem dJ9_floorMod_7cf53_1 : decode cJ9_floorMod_7cf53 1 = .ok (.iload_n 1, 1) := by decide +kernel
theorem dJ9_floorMod_7cf53_2 : decode cJ9_floorMod_7cf53 2 = .ok (.irem, 1) := by decide +kernel
theorem dJ9_floorMod_7cf53_3 : decode cJ9_floorMod_7cf53 3 = .ok (.istore_n 2, 1) := by decide +kernel
theorem dJ9_floorMod_7cf53_4 : decode cJ9_floorMod_7cf53 4 = .ok (.iload_n 0, 1) := by decide +kernel
theorem dJ9_floorMod_7cf53_5 : decode cJ9_floorMod_7cf53 5 = .ok (.iload_n 1, 1) := by decide +kernel
theorem dJ9_floorMod_7cf53_6 : decode cJ9_floorMod_7cf53 6 = .ok (.ixor, 1) := by decide +kernel
theorem dJ9_floorMod_7cf53_7 : decode cJ9_floorMod_7cf53 7 = .ok (.ifCond .ge 11, 3) := by decide +kernel
theorem dJ9_floorMod_7cf53_10 : decode cJ9_floorMod_7cf53 10 = .ok (.iload_n 2, 1) := by decide +kernel
theorem dJ9_floorMod_7cf53_11 : decode cJ9_floorMod_7cf53 11 = .ok (.ifCond .eq 7, 3) := by decide +kernel
theorem dJ9_floorMod_7cf53_14 : decode cJ9_floorMod_7cf53 14 = .ok (.iload_n 2, 1) := by decide +kernel
theorem dJ9_floorMod_7cf53_15 : decode cJ9_floorMod_7cf53 15 = .ok (.iload_n 1, 1) := by decide +kernel
theorem dJ9_floorMod_7cf53_16 : decode cJ9_floorMod_7cf53 16 = .ok (.iadd, 1) := by decide +kernel
theorem dJ9_floorMod_7cf53_17 : decode cJ9_floorMod_7cf53 17 = .ok (.ireturn, 1) := by decide +kernel
theorem dJ9_floorMod_7cf53_18 : decode cJ9_floorMod_7cf53 18 = .ok (.iload_n 2, 1) := by decide +kernel
theorem dJ9_floorMod_7cf53_19 : decode cJ9_floorMod_7cf53 19 = .ok (.ireturn, 1) := by decide +kernel
theorem dJ9_min_7cf53_0 : decode cJ9_min_7cf53 0 = .ok (.iload_n 0, 1) := by decide +kernel
theorem dJ9_min_7cf53_1 : decode cJ9_min_7cf53 1 = .ok (.iload_n 1, 1) := by decide +kernel
theorem dJ9_min_7cf53_2 : decode cJ9_min_7cf53 2 = .ok (.if_icmp .gt 7, 3) := by decide +kernel
theorem dJ9_min_7cf53_5 : decode cJ9_min_7cf53 5 = .ok (.iload_n 0, 1) := by decide +kernel
theorem dJ9_min_7cf53_6 : decode cJ9_min_7cf53 6 = .ok (.goto 4, 3) := by decide +kernel
theorem dJ9_min_7cf53_9 : decode cJ9_min_7cf53 9 = .ok (.iload_n 1, 1) := by decide +kernel
theorem dJ9_min_7cf53_10 : decode cJ9_min_7cf53 10 = .ok (.ireturn, 1) := by decide +kernel
theorem dJ0_length_8abf5_0 : decode cJ0_length_8abf5 0 = .ok (.aload_n 0, 1) := by decide +kernel
theorem dJ0_length_8abf5_1 : decode cJ0_length_8abf5 1 = .ok (.getfield 9, 3) := by decide +kernel
theorem dJ0_length_8abf5_4 : decode cJ0_length_8abf5 4 = .ok (.arraylength, 1) := by decide +kernel
theorem dJ0_length_8abf5_5 : decode cJ0_length_8abf5 5 = .ok (.aload_n 0, 1) := by decide +kernel
theorem dJ0_length_8abf5_6 : decode cJ0_length_8abf5 6 = .ok (.invokevirtual 335, 3) := by decide +kernel
theorem dJ0_length_8abf5_9 : decode cJ0_length_8abf5 9 = .ok (.ishr, 1) := by decide +kernel
theorem dJ0_length_8abf5_10 : decode cJ0_length_8abf5 10 = .ok (.ireturn, 1) := by decide +kernel
theorem dJ0_charAt_5068e_0 : decode cJ0_charAt_5068e 0 = .ok (.aload_n 0, 1) := by decide +kernel
theorem dJ0_charAt_5068e_1 : decode cJ0_charAt_5068e 1 = .ok (.invokevirtual 492, 3) := by decide +kernel
theorem dJ0_charAt_5068e_4 : decode cJ0_charAt_5068e 4 = .ok (.ifCond .eq 12, 3) := by decide +kernel
theorem dJ0_charAt_5068e_7 : decode cJ0_charAt_5068e 7 = .ok (.aload_n 0, 1) := by decide +kernel
theorem dJ0_charAt_5068e_8 : decode cJ0_charAt_5068e 8 = .ok (.getfield 9, 3) := by decide +kernel
theorem dJ0_charAt_5068e_11 : decode cJ0_charAt_5068e 11 = .ok (.iload_n 1, 1) := by decide +kernel
theorem dJ0_charAt_5068e_12 : decode cJ0_charAt_5068e 12 = .ok (.invokestatic 495, 3) := by decide +kernel
theorem dJ0_charAt_5068e_15 : decode cJ0_charAt_5068e 15 = .ok (.ireturn, 1) := by decide +kernel
theorem dJ0_charAt_5068e_16 : decode cJ0_charAt_5068e 16 = .ok (.aload_n 0, 1) := by decide +kernel
theorem dJ0_charAt_5068e_17 : decode cJ0_charAt_5068e 17 = .ok (.getfield 9, 3) := by decide +kernel
theorem dJ0_charAt_5068e_20 : decode cJ0_charAt_5068e 20 = .ok (.iload_n 1, 1) := by decide +kernel
theorem dJ0_charAt_5068e_21 : decode cJ0_charAt_5068e 21 = .ok (.invokestatic 498, 3) := by decide +kernel
theorem dJ0_charAt_5068e_24 : decode cJ0_charAt_5068e 24 = .ok (.ireturn, 1) := by decide +kernel
theorem dJ0_coder_7d493_0 : decode cJ0_coder_7d493 0 = .ok (.getstatic 38, 3) := by decide +kernel
theorem dJ0_coder_7d493_3 : decode cJ0_coder_7d493 3 = .ok (.ifCond .eq 10, 3) := by decide +kernel
theorem dJ0_coder_7d493_6 : decode cJ0_coder_7d493 6 = .ok (.aload_n 0, 1) := by decide +kernel
theorem dJ0_coder_7d493_7 : decode cJ0_coder_7d493 7 = .ok (.getfield 15, 3) := by decide +kernel
theorem dJ0_coder_7d493_10 : decode cJ0_coder_7d493 10 = .ok (.goto 4, 3) := by decide +kernel
theorem dJ0_coder_7d493_13 : decode cJ0_coder_7d493 13 = .ok (.iconst 1, 1) := by decide +kernel
theorem dJ0_coder_7d493_14 : decode cJ0_coder_7d493 14 = .ok (.ireturn, 1) := by decide +kernel
theorem dJ0_isLatin1_aae02_0 : decode cJ0_isLatin1_aae02 0 = .ok (.getstatic 38, 3) := by decide +kernel
theorem dJ0_isLatin1_aae02_3 : decode cJ0_isLatin1_aae02 3 = .ok (.ifCond .eq 14, 3) := by decide +kernel
theorem dJ0_isLatin1_aae02_6 : decode cJ0_isLatin1_aae02 6 = .ok (.aload_n 0, 1) := by decide +kernel
theorem dJ0_isLatin1_aae02_7 : decode cJ0_isLatin1_aae02 7 = .ok (.getfield 15, 3) := by decide +kernel
theorem dJ0_isLatin1_aae02_10 : decode cJ0_isLatin1_aae02 10 = .ok (.ifCond .ne 7, 3) := by decide +kernel
theorem dJ0_isLatin1_aae02_13 : decode cJ0_isLatin1_aae02 13 = .ok (.iconst 1, 1) := by decide +kernel
theorem dJ0_isLatin1_aae02_14 : decode cJ0_isLatin1_aae02 14 = .ok (.goto 4, 3) := by decide +kernel
theorem dJ0_isLatin1_aae02_17 : decode cJ0_isLatin1_aae02 17 = .ok (.iconst 0, 1) := by decide +kernel
theorem dJ0_isLatin1_aae02_18 : decode cJ0_isLatin1_aae02 18 = .ok (.ireturn, 1) := by decide +kernel
theorem dJ0_checkIndex_df160_0 : decode cJ0_checkIndex_df160 0 = .ok (.iload_n 0, 1) := by decide +kernel
theorem dJ0_checkIndex_df160_1 : decode cJ0_checkIndex_df160 1 = .ok (.iload_n 1, 1) := by decide +kernel
theorem dJ0_checkIndex_df160_2 : decode cJ0_checkIndex_df160 2 = .ok (.getstatic 1053, 3) := by decide +kernel
theorem dJ0_checkIndex_df160_5 : decode cJ0_checkIndex_df160 5 = .ok (.invokestatic 1059, 3) := by decide +kernel
theorem dJ0_checkIndex_df160_8 : decode cJ0_checkIndex_df160 8 = .ok (.pop, 1) := by decide +kernel
theorem dJ0_checkIndex_df160_9 : decode cJ0_checkIndex_df160 9 = .ok (.return_, 1) := by decide +kernel
theorem dJ1_charAt_3b067_0 : decode cJ1_charAt_3b067 0 = .ok (.iload_n 1, 1) := by decide +kernel
theorem dJ1_charAt_3b067_1 : decode cJ1_charAt_3b067 1 = .ok (.aload_n 0, 1) := by decide +kernel
theorem dJ1_charAt_3b067_2 : decode cJ1_charAt_3b067 2 = .ok (.arraylength, 1) := by decide +kernel
theorem dJ1_charAt_3b067_3 : decode cJ1_charAt_3b067 3 = .ok (.invokestatic 9, 3) := by decide +kernel
theorem dJ1_charAt_3b067_6 : decode cJ1_charAt_3b067 6 = .ok (.aload_n 0, 1) := by decide +kernel
theorem dJ1_charAt_3b067_7 : decode cJ1_charAt_3b067 7 = .ok (.iload_n 1, 1) := by decide +kernel
theorem dJ1_charAt_3b067_8 : decode cJ1_charAt_3b067 8 = .ok (.baload, 1) := by decide +kernel
theorem dJ1_charAt_3b067_9 : decode cJ1_charAt_3b067 9 = .ok (.sipush 255, 3) := by decide +kernel
theorem dJ1_charAt_3b067_12 : decode cJ1_charAt_3b067 12 = .ok (.iand, 1) := by decide +kernel
theorem dJ1_charAt_3b067_13 : decode cJ1_charAt_3b067 13 = .ok (.i2c, 1) := by decide +kernel
theorem dJ1_charAt_3b067_14 : decode cJ1_charAt_3b067 14 = .ok (.ireturn, 1) := by decide +kernel
theorem dJ2_getChar_3b067_0 : decode cJ2_getChar_3b067 0 = .ok (.getstatic 44, 3) := by decide +kernel
theorem dJ2_getChar_3b067_3 : decode cJ2_getChar_3b067 3 = .ok (.ifCond .ne 25, 3) := by decide +kernel
theorem dJ2_getChar_3b067_6 : decode cJ2_getChar_3b067 6 = .ok (.iload_n 1, 1) := by decide +kernel
theorem dJ2_getChar_3b067_7 : decode cJ2_getChar_3b067 7 = .ok (.ifCond .lt 11, 3) := by decide +kernel
theorem dJ2_getChar_3b067_10 : decode cJ2_getChar_3b067 10 = .ok (.iload_n 1, 1) := by decide +kernel
theorem dJ2_getChar_3b067_11 : decode cJ2_getChar_3b067 11 = .ok (.aload_n 0, 1) := by decide +kernel
theorem dJ2_getChar_3b067_12 : decode cJ2_getChar_3b067 12 = .ok (.invokestatic 48, 3) := by decide +kernel
theorem dJ2_getChar_3b067_15 : decode cJ2_getChar_3b067 15 = .ok (.if_icmp .lt 13, 3) := by decide +kernel
theorem dJ2_getChar_3b067_18 : decode cJ2_getChar_3b067 18 = .ok (.new 52, 3) := by decide +kernel
theorem dJ2_getChar_3b067_21 : decode cJ2_getChar_3b067 21 = .ok (.dup, 1) := by decide +kernel
theorem dJ2_getChar_3b067_22 : decode cJ2_getChar_3b067 22 = .ok (.ldc 54, 2) := by decide +kernel
theorem dJ2_getChar_3b067_24 : decode cJ2_getChar_3b067 24 = .ok (.invokespecial 56, 3) := by decide +kernel
theorem dJ2_getChar_3b067_27 : decode cJ2_getChar_3b067 27 = .ok (.athrow, 1) := by decide +kernel
theorem dJ2_getChar_3b067_28 : decode cJ2_getChar_3b067 28 = .ok (.iload_n 1, 1) := by decide +kernel
theorem dJ2_getChar_3b067_29 : decode cJ2_getChar_3b067 29 = .ok (.iconst 1, 1) := by decide +kernel
theorem dJ2_getChar_3b067_30 : decode cJ2_getChar_3b067 30 = .ok (.ishl, 1) := by decide +kernel
theorem dJ2_getChar_3b067_31 : decode cJ2_getChar_3b067 31 = .ok (.istore_n 1, 1) := by decide +kernel
theorem dJ2_getChar_3b067_32 : decode cJ2_getChar_3b067 32 = .ok (.aload_n 0, 1) := by decide +kernel
theorem dJ2_getChar_3b067_33 : decode cJ2_getChar_3b067 33 = .ok (.iload_n 1, 1) := by decide +kernel
theorem dJ2_getChar_3b067_34 : decode cJ2_getChar_3b067 34 = .ok (.iinc 1 1, 3) := by decide +kernel
theorem dJ2_getChar_3b067_37 : decode cJ2_getChar_3b067 37 = .ok (.baload, 1) := by decide +kernel
theorem dJ2_getChar_3b067_38 : decode cJ2_getChar_3b067 38 = .ok (.sipush 255, 3) := by decide +kernel
theorem dJ2_getChar_3b067_41 : decode cJ2_getChar_3b067 41 = .ok (.iand, 1) := by decide +kernel
theorem dJ2_getChar_3b067_42 : decode cJ2_getChar_3b067 42 = .ok (.getstatic 59, 3) := by decide +kernel
theorem dJ2_getChar_3b067_45 : decode cJ2_getChar_3b067 45 = .ok (.ishl, 1) := by decide +kernel
theorem dJ2_getChar_3b067_46 : decode cJ2_getChar_3b067 46 = .ok (.aload_n 0, 1) := by decide +kernel
theorem dJ2_getChar_3b067_47 : decode cJ2_getChar_3b067 47 = .ok (.iload_n 1, 1) := by decide +kernel
theorem dJ2_getChar_3b067_48 : decode cJ2_getChar_3b067 48 = .ok (.baload, 1) := by decide +kernel
theorem dJ2_getChar_3b067_49 : decode cJ2_getChar_3b067 49 = .ok (.sipush 255, 3) := by decide +kernel
theorem dJ2_getChar_3b067_52 : decode cJ2_getChar_3b067 52 = .ok (.iand, 1) := by decide +kernel
theorem dJ2_getChar_3b067_53 : decode cJ2_getChar_3b067 53 = .ok (.getstatic 63, 3) := by decide +kernel
theorem dJ2_getChar_3b067_56 : decode cJ2_getChar_3b067 56 = .ok (.ishl, 1) := by decide +kernel
theorem dJ2_getChar_3b067_57 : decode cJ2_getChar_3b067 57 = .ok (.ior, 1) := by decide +kernel
theorem dJ2_getChar_3b067_58 : decode cJ2_getChar_3b067 58 = .ok (.i2c, 1) := by decide +kernel
theorem dJ2_getChar_3b067_59 : decode cJ2_getChar_3b067 59 = .ok (.ireturn, 1) := by decide +kernel
theorem dJ2_length_9d52b_0 : decode cJ2_length_9d52b 0 = .ok (.aload_n 0, 1) := by decide +kernel
theorem dJ2_length_9d52b_1 : decode cJ2_length_9d52b 1 = .ok (.arraylength, 1) := by decide +kernel
theorem dJ2_length_9d52b_2 : decode cJ2_length_9d52b 2 = .ok (.iconst 1, 1) := by decide +kernel
theorem dJ2_length_9d52b_3 : decode cJ2_length_9d52b 3 = .ok (.ishr, 1) := by decide +kernel
theorem dJ2_length_9d52b_4 : decode cJ2_length_9d52b 4 = .ok (.ireturn, 1) := by decide +kernel
theorem dJ2_charAt_3b067_0 : decode cJ2_charAt_3b067 0 = .ok (.iload_n 1, 1) := by decide +kernel
theorem dJ2_charAt_3b067_1 : decode cJ2_charAt_3b067 1 = .ok (.aload_n 0, 1) := by decide +kernel
theorem dJ2_charAt_3b067_2 : decode cJ2_charAt_3b067 2 = .ok (.invokestatic 67, 3) := by decide +kernel
theorem dJ2_charAt_3b067_5 : decode cJ2_charAt_3b067 5 = .ok (.aload_n 0, 1) := by decide +kernel
theorem dJ2_charAt_3b067_6 : decode cJ2_charAt_3b067 6 = .ok (.iload_n 1, 1) := by decide +kernel
theorem dJ2_charAt_3b067_7 : decode cJ2_charAt_3b067 7 = .ok (.invokestatic 71, 3) := by decide +kernel
theorem dJ2_charAt_3b067_10 : decode cJ2_charAt_3b067 10 = .ok (.ireturn, 1) := by decide +kernel
theorem dJ2_checkIndex_2214a_0 : decode cJ2_checkIndex_2214a 0 = .ok (.iload_n 0, 1) := by decide +kernel
theorem dJ2_checkIndex_2214a_1 : decode cJ2_checkIndex_2214a 1 = .ok (.aload_n 1, 1) := by decide +kernel
theorem dJ2_checkIndex_2214a_2 : decode cJ2_checkIndex_2214a 2 = .ok (.invokestatic 48, 3) := by decide +kernel
theorem dJ2_checkIndex_2214a_5 : decode cJ2_checkIndex_2214a 5 = .ok (.invokestatic 414, 3) := by decide +kernel
theorem dJ2_checkIndex_2214a_8 : decode cJ2_checkIndex_2214a 8 = .ok (.return_, 1) := by decide +kernel
theorem dJ3_checkIndex_8e157_0 : decode cJ3_checkIndex_8e157 0 = .ok (.iload_n 0, 1) := by decide +kernel
theorem dJ3_checkIndex_8e157_1 : decode cJ3_checkIndex_8e157 1 = .ok (.ifCond .lt 8, 3) := by decide +kernel
theorem dJ3_checkIndex_8e157_4 : decode cJ3_checkIndex_8e157 4 = .ok (.iload_n 0, 1) := by decide +kernel
theorem dJ3_checkIndex_8e157_5 : decode cJ3_checkIndex_8e157 5 = .ok (.iload_n 1, 1) := by decide +kernel
theorem dJ3_checkIndex_8e157_6 : decode cJ3_checkIndex_8e157 6 = .ok (.if_icmp .lt 10, 3) := by decide +kernel
theorem dJ3_checkIndex_8e157_9 : decode cJ3_checkIndex_8e157 9 = .ok (.aload_n 2, 1) := by decide +kernel
theorem dJ3_checkIndex_8e157_10 : decode cJ3_checkIndex_8e157 10 = .ok (.iload_n 0, 1) := by decide +kernel
theorem dJ3_checkIndex_8e157_11 : decode cJ3_checkIndex_8e157 11 = .ok (.iload_n 1, 1) := by decide +kernel
theorem dJ3_checkIndex_8e157_12 : decode cJ3_checkIndex_8e157 12 = .ok (.invokestatic 95, 3) := by decide +kernel
theorem dJ3_checkIndex_8e157_15 : decode cJ3_checkIndex_8e157 15 = .ok (.athrow, 1) := by decide +kernel
theorem dJ3_checkIndex_8e157_16 : decode cJ3_checkIndex_8e157 16 = .ok (.iload_n 0, 1) := by decide +kernel
theorem dJ3_checkIndex_8e157_17 : decode cJ3_checkIndex_8e157 17 = .ok (.ireturn, 1) := by decide +kernel
