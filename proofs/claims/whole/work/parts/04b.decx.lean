theorem dX0_init_0 : decode cX0_init 0 = .ok (.aload_n 0, 1) := by decide +kernel
theorem dX0_init_1 : decode cX0_init 1 = .ok (.invokespecial 3, 3) := by decide +kernel
theorem dX0_init_4 : decode cX0_init 4 = .ok (.aload_n 0, 1) := by decide +kernel
theorem dX0_init_5 : decode cX0_init 5 = .ok (.bipush 7, 2) := by decide +kernel
theorem dX0_init_7 : decode cX0_init 7 = .ok (.newarray .int, 2) := by decide +kernel
theorem dX0_init_9 : decode cX0_init 9 = .ok (.putfield 9, 3) := by decide +kernel
theorem dX0_init_12 : decode cX0_init 12 = .ok (.aload_n 0, 1) := by decide +kernel
theorem dX0_init_13 : decode cX0_init 13 = .ok (.bipush 6, 2) := by decide +kernel
theorem dX0_init_15 : decode cX0_init 15 = .ok (.newarray .int, 2) := by decide +kernel
theorem dX0_init_17 : decode cX0_init 17 = .ok (.putfield 15, 3) := by decide +kernel
theorem dX0_init_20 : decode cX0_init 20 = .ok (.aload_n 0, 1) := by decide +kernel
theorem dX0_init_21 : decode cX0_init 21 = .ok (.bipush 6, 2) := by decide +kernel
theorem dX0_init_23 : decode cX0_init 23 = .ok (.newarray .int, 2) := by decide +kernel
theorem dX0_init_25 : decode cX0_init 25 = .ok (.putfield 18, 3) := by decide +kernel
theorem dX0_init_28 : decode cX0_init 28 = .ok (.aload_n 0, 1) := by decide +kernel
theorem dX0_init_29 : decode cX0_init 29 = .ok (.bipush 6, 2) := by decide +kernel
theorem dX0_init_31 : decode cX0_init 31 = .ok (.newarray .int, 2) := by decide +kernel
theorem dX0_init_33 : decode cX0_init 33 = .ok (.putfield 21, 3) := by decide +kernel
theorem dX0_init_36 : decode cX0_init 36 = .ok (.aload_n 0, 1) := by decide +kernel
theorem dX0_init_37 : decode cX0_init 37 = .ok (.bipush 36, 2) := by decide +kernel
theorem dX0_init_39 : decode cX0_init 39 = .ok (.newarray .int, 2) := by decide +kernel
theorem dX0_init_41 : decode cX0_init 41 = .ok (.putfield 24, 3) := by decide +kernel
theorem dX0_init_44 : decode cX0_init 44 = .ok (.aload_n 0, 1) := by decide +kernel
theorem dX0_init_45 : decode cX0_init 45 = .ok (.bipush 60, 2) := by decide +kernel
theorem dX0_init_47 : decode cX0_init 47 = .ok (.newarray .int, 2) := by decide +kernel
theorem dX0_init_49 : decode cX0_init 49 = .ok (.putfield 27, 3) := by decide +kernel
theorem dX0_init_52 : decode cX0_init 52 = .ok (.aload_n 0, 1) := by decide +kernel
theorem dX0_init_53 : decode cX0_init 53 = .ok (.bipush 60, 2) := by decide +kernel
theorem dX0_init_55 : decode cX0_init 55 = .ok (.newarray .int, 2) := by decide +kernel
theorem dX0_init_57 : decode cX0_init 57 = .ok (.putfield 30, 3) := by decide +kernel
theorem dX0_init_60 : decode cX0_init 60 = .ok (.aload_n 0, 1) := by decide +kernel
theorem dX0_init_61 : decode cX0_init 61 = .ok (.bipush 60, 2) := by decide +kernel
theorem dX0_init_63 : decode cX0_init 63 = .ok (.newarray .int, 2) := by decide +kernel
theorem dX0_init_65 : decode cX0_init 65 = .ok (.putfield 33, 3) := by decide +kernel
theorem dX0_init_68 : decode cX0_init 68 = .ok (.return_, 1) := by decide +kernel
theorem dX0_begin_0 : decode cX0_begin 0 = .ok (.aload_n 0, 1) := by decide +kernel
theorem dX0_begin_1 : decode cX0_begin 1 = .ok (.aload_n 1, 1) := by decide +kernel
theorem dX0_begin_2 : decode cX0_begin 2 = .ok (.invokevirtual 36, 3) := by decide +kernel
theorem dX0_begin_5 : decode cX0_begin 5 = .ok (.aload_n 0, 1) := by decide +kernel
theorem dX0_begin_6 : decode cX0_begin 6 = .ok (.lconst 0, 1) := by decide +kernel
theorem dX0_begin_7 : decode cX0_begin 7 = .ok (.putfield 40, 3) := by decide +kernel
theorem dX0_begin_10 : decode cX0_begin 10 = .ok (.aload_n 0, 1) := by decide +kernel
theorem dX0_begin_11 : decode cX0_begin 11 = .ok (.getfield 18, 3) := by decide +kernel
theorem dX0_begin_14 : decode cX0_begin 14 = .ok (.iconst 0, 1) := by decide +kernel
theorem dX0_begin_15 : decode cX0_begin 15 = .ok (.invokestatic 44, 3) := by decide +kernel
theorem dX0_begin_18 : decode cX0_begin 18 = .ok (.aload_n 0, 1) := by decide +kernel
theorem dX0_begin_19 : decode cX0_begin 19 = .ok (.getfield 21, 3) := by decide +kernel
theorem dX0_begin_22 : decode cX0_begin 22 = .ok (.iconst 0, 1) := by decide +kernel
theorem dX0_begin_23 : decode cX0_begin 23 = .ok (.invokestatic 44, 3) := by decide +kernel
theorem dX0_begin_26 : decode cX0_begin 26 = .ok (.aload_n 1, 1) := by decide +kernel
theorem dX0_begin_27 : decode cX0_begin 27 = .ok (.getfield 50, 3) := by decide +kernel
theorem dX0_begin_30 : decode cX0_begin 30 = .ok (.iconst 0, 1) := by decide +kernel
theorem dX0_begin_31 : decode cX0_begin 31 = .ok (.aload_n 0, 1) := by decide +kernel
theorem dX0_begin_32 : decode cX0_begin 32 = .ok (.getfield 24, 3) := by decide +kernel
theorem dX0_begin_35 : decode cX0_begin 35 = .ok (.iconst 0, 1) := by decide +kernel
theorem dX0_begin_36 : decode cX0_begin 36 = .ok (.aload_n 0, 1) := by decide +kernel
theorem dX0_begin_37 : decode cX0_begin 37 = .ok (.getfield 24, 3) := by decide +kernel
theorem dX0_begin_40 : decode cX0_begin 40 = .ok (.arraylength, 1) := by decide +kernel
theorem dX0_begin_41 : decode cX0_begin 41 = .ok (.invokestatic 53, 3) := by decide +kernel
theorem dX0_begin_44 : decode cX0_begin 44 = .ok (.return_, 1) := by decide +kernel
theorem dX0_dawn_0 : decode cX0_dawn 0 = .ok (.aload_n 0, 1) := by decide +kernel
theorem dX0_dawn_1 : decode cX0_dawn 1 = .ok (.iconst 0, 1) := by decide +kernel
theorem dX0_dawn_2 : decode cX0_dawn 2 = .ok (.putfield 59, 3) := by decide +kernel
theorem dX0_dawn_5 : decode cX0_dawn 5 = .ok (.aload_n 0, 1) := by decide +kernel
theorem dX0_dawn_6 : decode cX0_dawn 6 = .ok (.iconst 0, 1) := by decide +kernel
theorem dX0_dawn_7 : decode cX0_dawn 7 = .ok (.putfield 63, 3) := by decide +kernel
theorem dX0_dawn_10 : decode cX0_dawn 10 = .ok (.aload_n 0, 1) := by decide +kernel
theorem dX0_dawn_11 : decode cX0_dawn 11 = .ok (.aload_n 1, 1) := by decide +kernel
theorem dX0_dawn_12 : decode cX0_dawn 12 = .ok (.getfield 66, 3) := by decide +kernel
theorem dX0_dawn_15 : decode cX0_dawn 15 = .ok (.putfield 69, 3) := by decide +kernel
theorem dX0_dawn_18 : decode cX0_dawn 18 = .ok (.aload_n 0, 1) := by decide +kernel
theorem dX0_dawn_19 : decode cX0_dawn 19 = .ok (.iconst 0, 1) := by decide +kernel
theorem dX0_dawn_20 : decode cX0_dawn 20 = .ok (.putfield 70, 3) := by decide +kernel
theorem dX0_dawn_23 : decode cX0_dawn 23 = .ok (.aload_n 0, 1) := by decide +kernel
theorem dX0_dawn_24 : decode cX0_dawn 24 = .ok (.getfield 15, 3) := by decide +kernel
theorem dX0_dawn_27 : decode cX0_dawn 27 = .ok (.iconst 0, 1) := by decide +kernel
theorem dX0_dawn_28 : decode cX0_dawn 28 = .ok (.invokestatic 44, 3) := by decide +kernel
theorem dX0_dawn_31 : decode cX0_dawn 31 = .ok (.aload_n 1, 1) := by decide +kernel
theorem dX0_dawn_32 : decode cX0_dawn 32 = .ok (.getfield 73, 3) := by decide +kernel
theorem dX0_dawn_35 : decode cX0_dawn 35 = .ok (.iconst 0, 1) := by decide +kernel
theorem dX0_dawn_36 : decode cX0_dawn 36 = .ok (.aload_n 0, 1) := by decide +kernel
theorem dX0_dawn_37 : decode cX0_dawn 37 = .ok (.getfield 9, 3) := by decide +kernel
theorem dX0_dawn_40 : decode cX0_dawn 40 = .ok (.iconst 0, 1) := by decide +kernel
theorem dX0_dawn_41 : decode cX0_dawn 41 = .ok (.aload_n 0, 1) := by decide +kernel
theorem dX0_dawn_42 : decode cX0_dawn 42 = .ok (.getfield 9, 3) := by decide +kernel
theorem dX0_dawn_45 : decode cX0_dawn 45 = .ok (.arraylength, 1) := by decide +kernel
theorem dX0_dawn_46 : decode cX0_dawn 46 = .ok (.invokestatic 53, 3) := by decide +kernel
theorem dX0_dawn_49 : decode cX0_dawn 49 = .ok (.return_, 1) := by decide +kernel
theorem dX0_copyFrom_0 : decode cX0_copyFrom 0 = .ok (.aload_n 0, 1) := by decide +kernel
theorem dX0_copyFrom_1 : decode cX0_copyFrom 1 = .ok (.aload_n 1, 1) := by decide +kernel
theorem dX0_copyFrom_2 : decode cX0_copyFrom 2 = .ok (.getfield 59, 3) := by decide +kernel
theorem dX0_copyFrom_5 : decode cX0_copyFrom 5 = .ok (.putfield 59, 3) := by decide +kernel
theorem dX0_copyFrom_8 : decode cX0_copyFrom 8 = .ok (.aload_n 0, 1) := by decide +kernel
theorem dX0_copyFrom_9 : decode cX0_copyFrom 9 = .ok (.aload_n 1, 1) := by decide +kernel
theorem dX0_copyFrom_10 : decode cX0_copyFrom 10 = .ok (.getfield 63, 3) := by decide +kernel
theorem dX0_copyFrom_13 : decode cX0_copyFrom 13 = .ok (.putfield 63, 3) := by decide +kernel
theorem dX0_copyFrom_16 : decode cX0_copyFrom 16 = .ok (.aload_n 0, 1) := by decide +kernel
theorem dX0_copyFrom_17 : decode cX0_copyFrom 17 = .ok (.aload_n 1, 1) := by decide +kernel
theorem dX0_copyFrom_18 : decode cX0_copyFrom 18 = .ok (.getfield 69, 3) := by decide +kernel
theorem dX0_copyFrom_21 : decode cX0_copyFrom 21 = .ok (.putfield 69, 3) := by decide +kernel
theorem dX0_copyFrom_24 : decode cX0_copyFrom 24 = .ok (.aload_n 0, 1) := by decide +kernel
theorem dX0_copyFrom_25 : decode cX0_copyFrom 25 = .ok (.aload_n 1, 1) := by decide +kernel
theorem dX0_copyFrom_26 : decode cX0_copyFrom 26 = .ok (.getfield 40, 3) := by decide +kernel
theorem dX0_copyFrom_29 : decode cX0_copyFrom 29 = .ok (.putfield 40, 3) := by decide +kernel
theorem dX0_copyFrom_32 : decode cX0_copyFrom 32 = .ok (.aload_n 0, 1) := by decide +kernel
theorem dX0_copyFrom_33 : decode cX0_copyFrom 33 = .ok (.aload_n 1, 1) := by decide +kernel
theorem dX0_copyFrom_34 : decode cX0_copyFrom 34 = .ok (.getfield 70, 3) := by decide +kernel
theorem dX0_copyFrom_37 : decode cX0_copyFrom 37 = .ok (.putfield 70, 3) := by decide +kernel
theorem dX0_copyFrom_40 : decode cX0_copyFrom 40 = .ok (.aload_n 1, 1) := by decide +kernel
theorem dX0_copyFrom_41 : decode cX0_copyFrom 41 = .ok (.getfield 9, 3) := by decide +kernel
theorem dX0_copyFrom_44 : decode cX0_copyFrom 44 = .ok (.iconst 0, 1) := by decide +kernel
theorem dX0_copyFrom_45 : decode cX0_copyFrom 45 = .ok (.aload_n 0, 1) := by decide +kernel
theorem dX0_copyFrom_46 : decode cX0_copyFrom 46 = .ok (.getfield 9, 3) := by decide +kernel
theorem dX0_copyFrom_49 : decode cX0_copyFrom 49 = .ok (.iconst 0, 1) := by decide +kernel
theorem dX0_copyFrom_50 : decode cX0_copyFrom 50 = .ok (.aload_n 0, 1) := by decide +kernel
theorem dX0_copyFrom_51 : decode cX0_copyFrom 51 = .ok (.getfield 9, 3) := by decide +kernel
theorem dX0_copyFrom_54 : decode cX0_copyFrom 54 = .ok (.arraylength, 1) := by decide +kernel
theorem dX0_copyFrom_55 : decode cX0_copyFrom 55 = .ok (.invokestatic 53, 3) := by decide +kernel
theorem dX0_copyFrom_58 : decode cX0_copyFrom 58 = .ok (.aload_n 1, 1) := by decide +kernel
theorem dX0_copyFrom_59 : decode cX0_copyFrom 59 = .ok (.getfield 15, 3) := by decide +kernel
theorem dX0_copyFrom_62 : decode cX0_copyFrom 62 = .ok (.iconst 0, 1) := by decide +kernel
theorem dX0_copyFrom_63 : decode cX0_copyFrom 63 = .ok (.aload_n 0, 1) := by decide +kernel
theorem dX0_copyFrom_64 : decode cX0_copyFrom 64 = .ok (.getfield 15, 3) := by decide +kernel
theorem dX0_copyFrom_67 : decode cX0_copyFrom 67 = .ok (.iconst 0, 1) := by decide +kernel
theorem dX0_copyFrom_68 : decode cX0_copyFrom 68 = .ok (.aload_n 0, 1) := by decide +kernel
theorem dX0_copyFrom_69 : decode cX0_copyFrom 69 = .ok (.getfield 15, 3) := by decide +kernel
theorem dX0_copyFrom_72 : decode cX0_copyFrom 72 = .ok (.arraylength, 1) := by decide +kernel
theorem dX0_copyFrom_73 : decode cX0_copyFrom 73 = .ok (.invokestatic 53, 3) := by decide +kernel
theorem dX0_copyFrom_76 : decode cX0_copyFrom 76 = .ok (.aload_n 1, 1) := by decide +kernel
theorem dX0_copyFrom_77 : decode cX0_copyFrom 77 = .ok (.getfield 18, 3) := by decide +kernel
theorem dX0_copyFrom_80 : decode cX0_copyFrom 80 = .ok (.iconst 0, 1) := by decide +kernel
theorem dX0_copyFrom_81 : decode cX0_copyFrom 81 = .ok (.aload_n 0, 1) := by decide +kernel
theorem dX0_copyFrom_82 : decode cX0_copyFrom 82 = .ok (.getfield 18, 3) := by decide +kernel
theorem dX0_copyFrom_85 : decode cX0_copyFrom 85 = .ok (.iconst 0, 1) := by decide +kernel
theorem dX0_copyFrom_86 : decode cX0_copyFrom 86 = .ok (.aload_n 0, 1) := by decide +kernel
theorem dX0_copyFrom_87 : decode cX0_copyFrom 87 = .ok (.getfield 18, 3) := by decide +kernel
theorem dX0_copyFrom_90 : decode cX0_copyFrom 90 = .ok (.arraylength, 1) := by decide +kernel
theorem dX0_copyFrom_91 : decode cX0_copyFrom 91 = .ok (.invokestatic 53, 3) := by decide +kernel
theorem dX0_copyFrom_94 : decode cX0_copyFrom 94 = .ok (.aload_n 1, 1) := by decide +kernel
theorem dX0_copyFrom_95 : decode cX0_copyFrom 95 = .ok (.getfield 21, 3) := by decide +kernel
theorem dX0_copyFrom_98 : decode cX0_copyFrom 98 = .ok (.iconst 0, 1) := by decide +kernel
theorem dX0_copyFrom_99 : decode cX0_copyFrom 99 = .ok (.aload_n 0, 1) := by decide +kernel
theorem dX0_copyFrom_100 : decode cX0_copyFrom 100 = .ok (.getfield 21, 3) := by decide +kernel
theorem dX0_copyFrom_103 : decode cX0_copyFrom 103 = .ok (.iconst 0, 1) := by decide +kernel
theorem dX0_copyFrom_104 : decode cX0_copyFrom 104 = .ok (.aload_n 0, 1) := by decide +kernel
theorem dX0_copyFrom_105 : decode cX0_copyFrom 105 = .ok (.getfield 21, 3) := by decide +kernel
theorem dX0_copyFrom_108 : decode cX0_copyFrom 108 = .ok (.arraylength, 1) := by decide +kernel
theorem dX0_copyFrom_109 : decode cX0_copyFrom 109 = .ok (.invokestatic 53, 3) := by decide +kernel
theorem dX0_copyFrom_112 : decode cX0_copyFrom 112 = .ok (.aload_n 1, 1) := by decide +kernel
theorem dX0_copyFrom_113 : decode cX0_copyFrom 113 = .ok (.getfield 24, 3) := by decide +kernel
theorem dX0_copyFrom_116 : decode cX0_copyFrom 116 = .ok (.iconst 0, 1) := by decide +kernel
theorem dX0_copyFrom_117 : decode cX0_copyFrom 117 = .ok (.aload_n 0, 1) := by decide +kernel
theorem dX0_copyFrom_118 : decode cX0_copyFrom 118 = .ok (.getfield 24, 3) := by decide +kernel
theorem dX0_copyFrom_121 : decode cX0_copyFrom 121 = .ok (.iconst 0, 1) := by decide +kernel
theorem dX0_copyFrom_122 : decode cX0_copyFrom 122 = .ok (.aload_n 0, 1) := by decide +kernel
theorem dX0_copyFrom_123 : decode cX0_copyFrom 123 = .ok (.getfield 24, 3) := by decide +kernel
theorem dX0_copyFrom_126 : decode cX0_copyFrom 126 = .ok (.arraylength, 1) := by decide +kernel
theorem dX0_copyFrom_127 : decode cX0_copyFrom 127 = .ok (.invokestatic 53, 3) := by decide +kernel
theorem dX0_copyFrom_130 : decode cX0_copyFrom 130 = .ok (.aload_n 1, 1) := by decide +kernel
theorem dX0_copyFrom_131 : decode cX0_copyFrom 131 = .ok (.getfield 27, 3) := by decide +kernel
theorem dX0_copyFrom_134 : decode cX0_copyFrom 134 = .ok (.iconst 0, 1) := by decide +kernel
theorem dX0_copyFrom_135 : decode cX0_copyFrom 135 = .ok (.aload_n 0, 1) := by decide +kernel
theorem dX0_copyFrom_136 : decode cX0_copyFrom 136 = .ok (.getfield 27, 3) := by decide +kernel
theorem dX0_copyFrom_139 : decode cX0_copyFrom 139 = .ok (.iconst 0, 1) := by decide +kernel
theorem dX0_copyFrom_140 : decode cX0_copyFrom 140 = .ok (.aload_n 0, 1) := by decide +kernel
theorem dX0_copyFrom_141 : decode cX0_copyFrom 141 = .ok (.getfield 70, 3) := by decide +kernel
theorem dX0_copyFrom_144 : decode cX0_copyFrom 144 = .ok (.invokestatic 53, 3) := by decide +kernel
theorem dX0_copyFrom_147 : decode cX0_copyFrom 147 = .ok (.aload_n 1, 1) := by decide +kernel
theorem dX0_copyFrom_148 : decode cX0_copyFrom 148 = .ok (.getfield 30, 3) := by decide +kernel
theorem dX0_copyFrom_151 : decode cX0_copyFrom 151 = .ok (.iconst 0, 1) := by decide +kernel
theorem dX0_copyFrom_152 : decode cX0_copyFrom 152 = .ok (.aload_n 0, 1) := by decide +kernel
theorem dX0_copyFrom_153 : decode cX0_copyFrom 153 = .ok (.getfield 30, 3) := by decide +kernel
theorem dX0_copyFrom_156 : decode cX0_copyFrom 156 = .ok (.iconst 0, 1) := by decide +kernel
theorem dX0_copyFrom_157 : decode cX0_copyFrom 157 = .ok (.aload_n 0, 1) := by decide +kernel
theorem dX0_copyFrom_158 : decode cX0_copyFrom 158 = .ok (.getfield 70, 3) := by decide +kernel
theorem dX0_copyFrom_161 : decode cX0_copyFrom 161 = .ok (.invokestatic 53, 3) := by decide +kernel
theorem dX0_copyFrom_164 : decode cX0_copyFrom 164 = .ok (.aload_n 1, 1) := by decide +kernel
theorem dX0_copyFrom_165 : decode cX0_copyFrom 165 = .ok (.getfield 33, 3) := by decide +kernel
theorem dX0_copyFrom_168 : decode cX0_copyFrom 168 = .ok (.iconst 0, 1) := by decide +kernel
theorem dX0_copyFrom_169 : decode cX0_copyFrom 169 = .ok (.aload_n 0, 1) := by decide +kernel
theorem dX0_copyFrom_170 : decode cX0_copyFrom 170 = .ok (.getfield 33, 3) := by decide +kernel
theorem dX0_copyFrom_173 : decode cX0_copyFrom 173 = .ok (.iconst 0, 1) := by decide +kernel
theorem dX0_copyFrom_174 : decode cX0_copyFrom 174 = .ok (.aload_n 0, 1) := by decide +kernel
theorem dX0_copyFrom_175 : decode cX0_copyFrom 175 = .ok (.getfield 70, 3) := by decide +kernel
theorem dX0_copyFrom_178 : decode cX0_copyFrom 178 = .ok (.invokestatic 53, 3) := by decide +kernel
theorem dX0_copyFrom_181 : decode cX0_copyFrom 181 = .ok (.return_, 1) := by decide +kernel
theorem dX0_balance_0 : decode cX0_balance 0 = .ok (.iconst 0, 1) := by decide +kernel
theorem dX0_balance_1 : decode cX0_balance 1 = .ok (.istore_n 2, 1) := by decide +kernel
theorem dX0_balance_2 : decode cX0_balance 2 = .ok (.iconst 0, 1) := by decide +kernel
theorem dX0_balance_3 : decode cX0_balance 3 = .ok (.istore_n 3, 1) := by decide +kernel
theorem dX0_balance_4 : decode cX0_balance 4 = .ok (.iload_n 3, 1) := by decide +kernel
theorem dX0_balance_5 : decode cX0_balance 5 = .ok (.bipush 6, 2) := by decide +kernel
theorem dX0_balance_7 : decode cX0_balance 7 = .ok (.if_icmp .ge 35, 3) := by decide +kernel
theorem dX0_balance_10 : decode cX0_balance 10 = .ok (.iload_n 2, 1) := by decide +kernel
theorem dX0_balance_11 : decode cX0_balance 11 = .ok (.aload_n 0, 1) := by decide +kernel
theorem dX0_balance_12 : decode cX0_balance 12 = .ok (.getfield 24, 3) := by decide +kernel
theorem dX0_balance_15 : decode cX0_balance 15 = .ok (.iload_n 1, 1) := by decide +kernel
theorem dX0_balance_16 : decode cX0_balance 16 = .ok (.bipush 6, 2) := by decide +kernel
theorem dX0_balance_18 : decode cX0_balance 18 = .ok (.imul, 1) := by decide +kernel
theorem dX0_balance_19 : decode cX0_balance 19 = .ok (.iload_n 3, 1) := by decide +kernel
theorem dX0_balance_20 : decode cX0_balance 20 = .ok (.iadd, 1) := by decide +kernel
theorem dX0_balance_21 : decode cX0_balance 21 = .ok (.iaload, 1) := by decide +kernel
theorem dX0_balance_22 : decode cX0_balance 22 = .ok (.aload_n 0, 1) := by decide +kernel
theorem dX0_balance_23 : decode cX0_balance 23 = .ok (.getfield 24, 3) := by decide +kernel
theorem dX0_balance_26 : decode cX0_balance 26 = .ok (.iload_n 3, 1) := by decide +kernel
theorem dX0_balance_27 : decode cX0_balance 27 = .ok (.bipush 6, 2) := by decide +kernel
theorem dX0_balance_29 : decode cX0_balance 29 = .ok (.imul, 1) := by decide +kernel
theorem dX0_balance_30 : decode cX0_balance 30 = .ok (.iload_n 1, 1) := by decide +kernel
theorem dX0_balance_31 : decode cX0_balance 31 = .ok (.iadd, 1) := by decide +kernel
theorem dX0_balance_32 : decode cX0_balance 32 = .ok (.iaload, 1) := by decide +kernel
theorem dX0_balance_33 : decode cX0_balance 33 = .ok (.isub, 1) := by decide +kernel
theorem dX0_balance_34 : decode cX0_balance 34 = .ok (.iadd, 1) := by decide +kernel
theorem dX0_balance_35 : decode cX0_balance 35 = .ok (.istore_n 2, 1) := by decide +kernel
theorem dX0_balance_36 : decode cX0_balance 36 = .ok (.iinc 3 1, 3) := by decide +kernel
theorem dX0_balance_39 : decode cX0_balance 39 = .ok (.goto (-35), 3) := by decide +kernel
theorem dX0_balance_42 : decode cX0_balance 42 = .ok (.iload_n 2, 1) := by decide +kernel
theorem dX0_balance_43 : decode cX0_balance 43 = .ok (.ireturn, 1) := by decide +kernel
theorem dX0_drawBelowFour_0 : decode cX0_drawBelowFour 0 = .ok (.aload_n 0, 1) := by decide +kernel
theorem dX0_drawBelowFour_1 : decode cX0_drawBelowFour 1 = .ok (.aload_n 0, 1) := by decide +kernel
theorem dX0_drawBelowFour_2 : decode cX0_drawBelowFour 2 = .ok (.getfield 40, 3) := by decide +kernel
theorem dX0_drawBelowFour_5 : decode cX0_drawBelowFour 5 = .ok (.ldc2_w 76, 3) := by decide +kernel
theorem dX0_drawBelowFour_8 : decode cX0_drawBelowFour 8 = .ok (.lmul, 1) := by decide +kernel
theorem dX0_drawBelowFour_9 : decode cX0_drawBelowFour 9 = .ok (.ldc2_w 78, 3) := by decide +kernel
theorem dX0_drawBelowFour_12 : decode cX0_drawBelowFour 12 = .ok (.ladd, 1) := by decide +kernel
theorem dX0_drawBelowFour_13 : decode cX0_drawBelowFour 13 = .ok (.ldc2_w 80, 3) := by decide +kernel
theorem dX0_drawBelowFour_16 : decode cX0_drawBelowFour 16 = .ok (.lrem, 1) := by decide +kernel
theorem dX0_drawBelowFour_17 : decode cX0_drawBelowFour 17 = .ok (.putfield 40, 3) := by decide +kernel
theorem dX0_drawBelowFour_20 : decode cX0_drawBelowFour 20 = .ok (.aload_n 0, 1) := by decide +kernel
theorem dX0_drawBelowFour_21 : decode cX0_drawBelowFour 21 = .ok (.getfield 40, 3) := by decide +kernel
theorem dX0_drawBelowFour_24 : decode cX0_drawBelowFour 24 = .ok (.ldc2_w 82, 3) := by decide +kernel
theorem dX0_drawBelowFour_27 : decode cX0_drawBelowFour 27 = .ok (.ldiv, 1) := by decide +kernel
theorem dX0_drawBelowFour_28 : decode cX0_drawBelowFour 28 = .ok (.ldc2_w 84, 3) := by decide +kernel
theorem dX0_drawBelowFour_31 : decode cX0_drawBelowFour 31 = .ok (.lrem, 1) := by decide +kernel
theorem dX0_drawBelowFour_32 : decode cX0_drawBelowFour 32 = .ok (.l2i, 1) := by decide +kernel
theorem dX0_drawBelowFour_33 : decode cX0_drawBelowFour 33 = .ok (.ireturn, 1) := by decide +kernel
theorem dX0_write_0 : decode cX0_write 0 = .ok (.iload_n 3, 1) := by decide +kernel
theorem dX0_write_1 : decode cX0_write 1 = .ok (.ifCond .le 52, 3) := by decide +kernel
theorem dX0_write_4 : decode cX0_write 4 = .ok (.aload_n 0, 1) := by decide +kernel
theorem dX0_write_5 : decode cX0_write 5 = .ok (.getfield 70, 3) := by decide +kernel
theorem dX0_write_8 : decode cX0_write 8 = .ok (.bipush 60, 2) := by decide +kernel
theorem dX0_write_10 : decode cX0_write 10 = .ok (.if_icmp .ge 43, 3) := by decide +kernel
theorem dX0_write_13 : decode cX0_write 13 = .ok (.aload_n 0, 1) := by decide +kernel
theorem dX0_write_14 : decode cX0_write 14 = .ok (.getfield 27, 3) := by decide +kernel
theorem dX0_write_17 : decode cX0_write 17 = .ok (.aload_n 0, 1) := by decide +kernel
theorem dX0_write_18 : decode cX0_write 18 = .ok (.getfield 70, 3) := by decide +kernel
theorem dX0_write_21 : decode cX0_write 21 = .ok (.iload_n 1, 1) := by decide +kernel
theorem dX0_write_22 : decode cX0_write 22 = .ok (.iastore, 1) := by decide +kernel
theorem dX0_write_23 : decode cX0_write 23 = .ok (.aload_n 0, 1) := by decide +kernel
theorem dX0_write_24 : decode cX0_write 24 = .ok (.getfield 30, 3) := by decide +kernel
theorem dX0_write_27 : decode cX0_write 27 = .ok (.aload_n 0, 1) := by decide +kernel
theorem dX0_write_28 : decode cX0_write 28 = .ok (.getfield 70, 3) := by decide +kernel
theorem dX0_write_31 : decode cX0_write 31 = .ok (.iload_n 2, 1) := by decide +kernel
theorem dX0_write_32 : decode cX0_write 32 = .ok (.iastore, 1) := by decide +kernel
theorem dX0_write_33 : decode cX0_write 33 = .ok (.aload_n 0, 1) := by decide +kernel
theorem dX0_write_34 : decode cX0_write 34 = .ok (.getfield 33, 3) := by decide +kernel
theorem dX0_write_37 : decode cX0_write 37 = .ok (.aload_n 0, 1) := by decide +kernel
theorem dX0_write_38 : decode cX0_write 38 = .ok (.getfield 70, 3) := by decide +kernel
theorem dX0_write_41 : decode cX0_write 41 = .ok (.iload_n 3, 1) := by decide +kernel
theorem dX0_write_42 : decode cX0_write 42 = .ok (.iastore, 1) := by decide +kernel
theorem dX0_write_43 : decode cX0_write 43 = .ok (.aload_n 0, 1) := by decide +kernel
theorem dX0_write_44 : decode cX0_write 44 = .ok (.dup, 1) := by decide +kernel
theorem dX0_write_45 : decode cX0_write 45 = .ok (.getfield 70, 3) := by decide +kernel
theorem dX0_write_48 : decode cX0_write 48 = .ok (.iconst 1, 1) := by decide +kernel
theorem dX0_write_49 : decode cX0_write 49 = .ok (.iadd, 1) := by decide +kernel
theorem dX0_write_50 : decode cX0_write 50 = .ok (.putfield 70, 3) := by decide +kernel
theorem dX0_write_53 : decode cX0_write 53 = .ok (.return_, 1) := by decide +kernel
theorem dX1_init_0 : decode cX1_init 0 = .ok (.aload_n 0, 1) := by decide +kernel
theorem dX1_init_1 : decode cX1_init 1 = .ok (.invokespecial 3, 3) := by decide +kernel
theorem dX1_init_4 : decode cX1_init 4 = .ok (.aload_n 0, 1) := by decide +kernel
theorem dX1_init_5 : decode cX1_init 5 = .ok (.bipush 7, 2) := by decide +kernel
theorem dX1_init_7 : decode cX1_init 7 = .ok (.newarray .int, 2) := by decide +kernel
theorem dX1_init_9 : decode cX1_init 9 = .ok (.putfield 9, 3) := by decide +kernel
theorem dX1_init_12 : decode cX1_init 12 = .ok (.aload_n 0, 1) := by decide +kernel
theorem dX1_init_13 : decode cX1_init 13 = .ok (.bipush 7, 2) := by decide +kernel
theorem dX1_init_15 : decode cX1_init 15 = .ok (.newarray .int, 2) := by decide +kernel
theorem dX1_init_17 : decode cX1_init 17 = .ok (.putfield 15, 3) := by decide +kernel
theorem dX1_init_20 : decode cX1_init 20 = .ok (.aload_n 0, 1) := by decide +kernel
theorem dX1_init_21 : decode cX1_init 21 = .ok (.aload_n 1, 1) := by decide +kernel
theorem dX1_init_22 : decode cX1_init 22 = .ok (.putfield 18, 3) := by decide +kernel
theorem dX1_init_25 : decode cX1_init 25 = .ok (.aload_n 0, 1) := by decide +kernel
theorem dX1_init_26 : decode cX1_init 26 = .ok (.aload_n 2, 1) := by decide +kernel
theorem dX1_init_27 : decode cX1_init 27 = .ok (.putfield 22, 3) := by decide +kernel
theorem dX1_init_30 : decode cX1_init 30 = .ok (.aload_n 0, 1) := by decide +kernel
theorem dX1_init_31 : decode cX1_init 31 = .ok (.aload_n 3, 1) := by decide +kernel
theorem dX1_init_32 : decode cX1_init 32 = .ok (.putfield 26, 3) := by decide +kernel
theorem dX1_init_35 : decode cX1_init 35 = .ok (.return_, 1) := by decide +kernel
theorem dX1_makeSure_0 : decode cX1_makeSure 0 = .ok (.aload_n 0, 1) := by decide +kernel
theorem dX1_makeSure_1 : decode cX1_makeSure 1 = .ok (.getfield 30, 3) := by decide +kernel
theorem dX1_makeSure_4 : decode cX1_makeSure 4 = .ok (.ifCond .eq 12, 3) := by decide +kernel
theorem dX1_makeSure_7 : decode cX1_makeSure 7 = .ok (.aload_n 0, 1) := by decide +kernel
theorem dX1_makeSure_8 : decode cX1_makeSure 8 = .ok (.getfield 34, 3) := by decide +kernel
theorem dX1_makeSure_11 : decode cX1_makeSure 11 = .ok (.iload_n 1, 1) := by decide +kernel
theorem dX1_makeSure_12 : decode cX1_makeSure 12 = .ok (.if_icmp .ne 4, 3) := by decide +kernel
theorem dX1_makeSure_15 : decode cX1_makeSure 15 = .ok (.return_, 1) := by decide +kernel
theorem dX1_makeSure_16 : decode cX1_makeSure 16 = .ok (.aload_n 0, 1) := by decide +kernel
theorem dX1_makeSure_17 : decode cX1_makeSure 17 = .ok (.iload_n 1, 1) := by decide +kernel
theorem dX1_makeSure_18 : decode cX1_makeSure 18 = .ok (.putfield 34, 3) := by decide +kernel
theorem dX1_makeSure_21 : decode cX1_makeSure 21 = .ok (.aload_n 0, 1) := by decide +kernel
theorem dX1_makeSure_22 : decode cX1_makeSure 22 = .ok (.iconst (-1), 1) := by decide +kernel
theorem dX1_makeSure_23 : decode cX1_makeSure 23 = .ok (.putfield 38, 3) := by decide +kernel
theorem dX1_makeSure_26 : decode cX1_makeSure 26 = .ok (.aload_n 0, 1) := by decide +kernel
theorem dX1_makeSure_27 : decode cX1_makeSure 27 = .ok (.iconst (-1), 1) := by decide +kernel
theorem dX1_makeSure_28 : decode cX1_makeSure 28 = .ok (.putfield 41, 3) := by decide +kernel
theorem dX1_makeSure_31 : decode cX1_makeSure 31 = .ok (.iconst 0, 1) := by decide +kernel
theorem dX1_makeSure_32 : decode cX1_makeSure 32 = .ok (.istore_n 2, 1) := by decide +kernel
theorem dX1_makeSure_33 : decode cX1_makeSure 33 = .ok (.iload_n 2, 1) := by decide +kernel
theorem dX1_makeSure_34 : decode cX1_makeSure 34 = .ok (.aload_n 0, 1) := by decide +kernel
theorem dX1_makeSure_35 : decode cX1_makeSure 35 = .ok (.getfield 22, 3) := by decide +kernel
theorem dX1_makeSure_38 : decode cX1_makeSure 38 = .ok (.getfield 44, 3) := by decide +kernel
theorem dX1_makeSure_41 : decode cX1_makeSure 41 = .ok (.if_icmp .ge 26, 3) := by decide +kernel
theorem dX1_makeSure_44 : decode cX1_makeSure 44 = .ok (.aload_n 0, 1) := by decide +kernel
theorem dX1_makeSure_45 : decode cX1_makeSure 45 = .ok (.iload_n 2, 1) := by decide +kernel
theorem dX1_makeSure_46 : decode cX1_makeSure 46 = .ok (.putfield 49, 3) := by decide +kernel
theorem dX1_makeSure_49 : decode cX1_makeSure 49 = .ok (.aload_n 0, 1) := by decide +kernel
theorem dX1_makeSure_50 : decode cX1_makeSure 50 = .ok (.iconst 0, 1) := by decide +kernel
theorem dX1_makeSure_51 : decode cX1_makeSure 51 = .ok (.iconst (-1), 1) := by decide +kernel
theorem dX1_makeSure_52 : decode cX1_makeSure 52 = .ok (.iconst 0, 1) := by decide +kernel
theorem dX1_makeSure_53 : decode cX1_makeSure 53 = .ok (.aload_n 0, 1) := by decide +kernel
theorem dX1_makeSure_54 : decode cX1_makeSure 54 = .ok (.getfield 34, 3) := by decide +kernel
theorem dX1_makeSure_57 : decode cX1_makeSure 57 = .ok (.iconst 0, 1) := by decide +kernel
theorem dX1_makeSure_58 : decode cX1_makeSure 58 = .ok (.invokevirtual 52, 3) := by decide +kernel
theorem dX1_makeSure_61 : decode cX1_makeSure 61 = .ok (.iinc 2 1, 3) := by decide +kernel
theorem dX1_makeSure_64 : decode cX1_makeSure 64 = .ok (.goto (-31), 3) := by decide +kernel
theorem dX1_makeSure_67 : decode cX1_makeSure 67 = .ok (.aload_n 0, 1) := by decide +kernel
theorem dX1_makeSure_68 : decode cX1_makeSure 68 = .ok (.iconst 1, 1) := by decide +kernel
theorem dX1_makeSure_69 : decode cX1_makeSure 69 = .ok (.putfield 30, 3) := by decide +kernel
theorem dX1_makeSure_72 : decode cX1_makeSure 72 = .ok (.return_, 1) := by decide +kernel
theorem dX1_holderOn_0 : decode cX1_holderOn 0 = .ok (.aload_n 0, 1) := by decide +kernel
theorem dX1_holderOn_1 : decode cX1_holderOn 1 = .ok (.getfield 38, 3) := by decide +kernel
theorem dX1_holderOn_4 : decode cX1_holderOn 4 = .ok (.iconst (-1), 1) := by decide +kernel
theorem dX1_holderOn_5 : decode cX1_holderOn 5 = .ok (.if_icmp .eq 22, 3) := by decide +kernel
theorem dX1_holderOn_8 : decode cX1_holderOn 8 = .ok (.iload_n 1, 1) := by decide +kernel
theorem dX1_holderOn_9 : decode cX1_holderOn 9 = .ok (.ifCond .lt 18, 3) := by decide +kernel
theorem dX1_holderOn_12 : decode cX1_holderOn 12 = .ok (.iload_n 1, 1) := by decide +kernel
theorem dX1_holderOn_13 : decode cX1_holderOn 13 = .ok (.aload_n 0, 1) := by decide +kernel
theorem dX1_holderOn_14 : decode cX1_holderOn 14 = .ok (.getfield 22, 3) := by decide +kernel
theorem dX1_holderOn_17 : decode cX1_holderOn 17 = .ok (.aload_n 0, 1) := by decide +kernel
theorem dX1_holderOn_18 : decode cX1_holderOn 18 = .ok (.getfield 38, 3) := by decide +kernel
theorem dX1_holderOn_21 : decode cX1_holderOn 21 = .ok (.invokevirtual 56, 3) := by decide +kernel
theorem dX1_holderOn_24 : decode cX1_holderOn 24 = .ok (.if_icmp .lt 5, 3) := by decide +kernel
theorem dX1_holderOn_27 : decode cX1_holderOn 27 = .ok (.iconst (-1), 1) := by decide +kernel
theorem dX1_holderOn_28 : decode cX1_holderOn 28 = .ok (.ireturn, 1) := by decide +kernel
theorem dX1_holderOn_29 : decode cX1_holderOn 29 = .ok (.aload_n 0, 1) := by decide +kernel
theorem dX1_holderOn_30 : decode cX1_holderOn 30 = .ok (.getfield 15, 3) := by decide +kernel
theorem dX1_holderOn_33 : decode cX1_holderOn 33 = .ok (.iload_n 1, 1) := by decide +kernel
theorem dX1_holderOn_34 : decode cX1_holderOn 34 = .ok (.iaload, 1) := by decide +kernel
theorem dX1_holderOn_35 : decode cX1_holderOn 35 = .ok (.ireturn, 1) := by decide +kernel
theorem dX1_tryWay_0 : decode cX1_tryWay 0 = .ok (.aload_n 0, 1) := by decide +kernel
theorem dX1_tryWay_1 : decode cX1_tryWay 1 = .ok (.getfield 22, 3) := by decide +kernel
theorem dX1_tryWay_4 : decode cX1_tryWay 4 = .ok (.aload_n 0, 1) := by decide +kernel
theorem dX1_tryWay_5 : decode cX1_tryWay 5 = .ok (.getfield 49, 3) := by decide +kernel
theorem dX1_tryWay_8 : decode cX1_tryWay 8 = .ok (.invokevirtual 56, 3) := by decide +kernel
theorem dX1_tryWay_11 : decode cX1_tryWay 11 = .ok (.istore 6, 2) := by decide +kernel
theorem dX1_tryWay_13 : decode cX1_tryWay 13 = .ok (.iload_n 1, 1) := by decide +kernel
theorem dX1_tryWay_14 : decode cX1_tryWay 14 = .ok (.iload 6, 2) := by decide +kernel
theorem dX1_tryWay_16 : decode cX1_tryWay 16 = .ok (.if_icmp .lt 4, 3) := by decide +kernel
theorem dX1_tryWay_19 : decode cX1_tryWay 19 = .ok (.return_, 1) := by decide +kernel
theorem dX1_tryWay_20 : decode cX1_tryWay 20 = .ok (.aload_n 0, 1) := by decide +kernel
theorem dX1_tryWay_21 : decode cX1_tryWay 21 = .ok (.getfield 22, 3) := by decide +kernel
theorem dX1_tryWay_24 : decode cX1_tryWay 24 = .ok (.aload_n 0, 1) := by decide +kernel
theorem dX1_tryWay_25 : decode cX1_tryWay 25 = .ok (.getfield 49, 3) := by decide +kernel
theorem dX1_tryWay_28 : decode cX1_tryWay 28 = .ok (.iload_n 1, 1) := by decide +kernel
theorem dX1_tryWay_29 : decode cX1_tryWay 29 = .ok (.invokevirtual 60, 3) := by decide +kernel
theorem dX1_tryWay_32 : decode cX1_tryWay 32 = .ok (.istore 7, 2) := by decide +kernel
theorem dX1_tryWay_34 : decode cX1_tryWay 34 = .ok (.aload_n 0, 1) := by decide +kernel
theorem dX1_tryWay_35 : decode cX1_tryWay 35 = .ok (.getfield 22, 3) := by decide +kernel
theorem dX1_tryWay_38 : decode cX1_tryWay 38 = .ok (.aload_n 0, 1) := by decide +kernel
theorem dX1_tryWay_39 : decode cX1_tryWay 39 = .ok (.getfield 49, 3) := by decide +kernel
theorem dX1_tryWay_42 : decode cX1_tryWay 42 = .ok (.iload_n 1, 1) := by decide +kernel
theorem dX1_tryWay_43 : decode cX1_tryWay 43 = .ok (.iconst 1, 1) := by decide +kernel
theorem dX1_tryWay_44 : decode cX1_tryWay 44 = .ok (.iadd, 1) := by decide +kernel
theorem dX1_tryWay_45 : decode cX1_tryWay 45 = .ok (.invokevirtual 60, 3) := by decide +kernel
theorem dX1_tryWay_48 : decode cX1_tryWay 48 = .ok (.istore 8, 2) := by decide +kernel
theorem dX1_tryWay_50 : decode cX1_tryWay 50 = .ok (.iconst 0, 1) := by decide +kernel
theorem dX1_tryWay_51 : decode cX1_tryWay 51 = .ok (.istore 9, 2) := by decide +kernel
theorem dX1_tryWay_53 : decode cX1_tryWay 53 = .ok (.iload 9, 2) := by decide +kernel
theorem dX1_tryWay_55 : decode cX1_tryWay 55 = .ok (.aload_n 0, 1) := by decide +kernel
theorem dX1_tryWay_56 : decode cX1_tryWay 56 = .ok (.getfield 18, 3) := by decide +kernel
theorem dX1_tryWay_59 : decode cX1_tryWay 59 = .ok (.getfield 64, 3) := by decide +kernel
theorem dX1_tryWay_62 : decode cX1_tryWay 62 = .ok (.if_icmp .ge 156, 3) := by decide +kernel
theorem dX1_tryWay_65 : decode cX1_tryWay 65 = .ok (.iload 9, 2) := by decide +kernel
theorem dX1_tryWay_67 : decode cX1_tryWay 67 = .ok (.iload_n 2, 1) := by decide +kernel
theorem dX1_tryWay_68 : decode cX1_tryWay 68 = .ok (.if_icmp .eq 15, 3) := by decide +kernel
theorem dX1_tryWay_71 : decode cX1_tryWay 71 = .ok (.iload_n 3, 1) := by decide +kernel
theorem dX1_tryWay_72 : decode cX1_tryWay 72 = .ok (.iload 9, 2) := by decide +kernel
theorem dX1_tryWay_74 : decode cX1_tryWay 74 = .ok (.ishr, 1) := by decide +kernel
theorem dX1_tryWay_75 : decode cX1_tryWay 75 = .ok (.iconst 1, 1) := by decide +kernel
theorem dX1_tryWay_76 : decode cX1_tryWay 76 = .ok (.iand, 1) := by decide +kernel
theorem dX1_tryWay_77 : decode cX1_tryWay 77 = .ok (.ifCond .eq 6, 3) := by decide +kernel
theorem dX1_tryWay_80 : decode cX1_tryWay 80 = .ok (.goto 132, 3) := by decide +kernel
theorem dX1_tryWay_83 : decode cX1_tryWay 83 = .ok (.aload_n 0, 1) := by decide +kernel
theorem dX1_tryWay_84 : decode cX1_tryWay 84 = .ok (.getfield 26, 3) := by decide +kernel
theorem dX1_tryWay_87 : decode cX1_tryWay 87 = .ok (.iload 4, 2) := by decide +kernel
theorem dX1_tryWay_89 : decode cX1_tryWay 89 = .ok (.aload_n 0, 1) := by decide +kernel
theorem dX1_tryWay_90 : decode cX1_tryWay 90 = .ok (.getfield 18, 3) := by decide +kernel
theorem dX1_tryWay_93 : decode cX1_tryWay 93 = .ok (.iload 9, 2) := by decide +kernel
theorem dX1_tryWay_95 : decode cX1_tryWay 95 = .ok (.invokevirtual 69, 3) := by decide +kernel
theorem dX1_tryWay_98 : decode cX1_tryWay 98 = .ok (.invokestatic 72, 3) := by decide +kernel
theorem dX1_tryWay_101 : decode cX1_tryWay 101 = .ok (.putfield 77, 3) := by decide +kernel
theorem dX1_tryWay_104 : decode cX1_tryWay 104 = .ok (.aload_n 0, 1) := by decide +kernel
theorem dX1_tryWay_105 : decode cX1_tryWay 105 = .ok (.getfield 26, 3) := by decide +kernel
theorem dX1_tryWay_108 : decode cX1_tryWay 108 = .ok (.iload 5, 2) := by decide +kernel
theorem dX1_tryWay_110 : decode cX1_tryWay 110 = .ok (.putfield 82, 3) := by decide +kernel
theorem dX1_tryWay_113 : decode cX1_tryWay 113 = .ok (.aload_n 0, 1) := by decide +kernel
theorem dX1_tryWay_114 : decode cX1_tryWay 114 = .ok (.getfield 26, 3) := by decide +kernel
theorem dX1_tryWay_117 : decode cX1_tryWay 117 = .ok (.iload 9, 2) := by decide +kernel
theorem dX1_tryWay_119 : decode cX1_tryWay 119 = .ok (.iload 7, 2) := by decide +kernel
theorem dX1_tryWay_121 : decode cX1_tryWay 121 = .ok (.iload 8, 2) := by decide +kernel
theorem dX1_tryWay_123 : decode cX1_tryWay 123 = .ok (.invokevirtual 85, 3) := by decide +kernel
theorem dX1_tryWay_126 : decode cX1_tryWay 126 = .ok (.aload_n 0, 1) := by decide +kernel
theorem dX1_tryWay_127 : decode cX1_tryWay 127 = .ok (.getfield 26, 3) := by decide +kernel
theorem dX1_tryWay_130 : decode cX1_tryWay 130 = .ok (.getfield 82, 3) := by decide +kernel
theorem dX1_tryWay_133 : decode cX1_tryWay 133 = .ok (.aload_n 0, 1) := by decide +kernel
theorem dX1_tryWay_134 : decode cX1_tryWay 134 = .ok (.getfield 18, 3) := by decide +kernel
theorem dX1_tryWay_137 : decode cX1_tryWay 137 = .ok (.getfield 89, 3) := by decide +kernel
theorem dX1_tryWay_140 : decode cX1_tryWay 140 = .ok (.if_icmp .le 6, 3) := by decide +kernel
theorem dX1_tryWay_143 : decode cX1_tryWay 143 = .ok (.goto 69, 3) := by decide +kernel
theorem dX1_tryWay_146 : decode cX1_tryWay 146 = .ok (.aload_n 0, 1) := by decide +kernel
theorem dX1_tryWay_147 : decode cX1_tryWay 147 = .ok (.getfield 9, 3) := by decide +kernel
theorem dX1_tryWay_150 : decode cX1_tryWay 150 = .ok (.iload_n 1, 1) := by decide +kernel
theorem dX1_tryWay_151 : decode cX1_tryWay 151 = .ok (.iload 9, 2) := by decide +kernel
theorem dX1_tryWay_153 : decode cX1_tryWay 153 = .ok (.iastore, 1) := by decide +kernel
theorem dX1_tryWay_154 : decode cX1_tryWay 154 = .ok (.iload_n 1, 1) := by decide +kernel
theorem dX1_tryWay_155 : decode cX1_tryWay 155 = .ok (.iconst 1, 1) := by decide +kernel
theorem dX1_tryWay_156 : decode cX1_tryWay 156 = .ok (.iadd, 1) := by decide +kernel
theorem dX1_tryWay_157 : decode cX1_tryWay 157 = .ok (.iload 6, 2) := by decide +kernel
theorem dX1_tryWay_159 : decode cX1_tryWay 159 = .ok (.if_icmp .ne 12, 3) := by decide +kernel
theorem dX1_tryWay_162 : decode cX1_tryWay 162 = .ok (.aload_n 0, 1) := by decide +kernel
theorem dX1_tryWay_163 : decode cX1_tryWay 163 = .ok (.iload 6, 2) := by decide +kernel
theorem dX1_tryWay_165 : decode cX1_tryWay 165 = .ok (.invokevirtual 92, 3) := by decide +kernel
theorem dX1_tryWay_168 : decode cX1_tryWay 168 = .ok (.goto 44, 3) := by decide +kernel
theorem dX1_tryWay_171 : decode cX1_tryWay 171 = .ok (.aload_n 0, 1) := by decide +kernel
theorem dX1_tryWay_172 : decode cX1_tryWay 172 = .ok (.getfield 26, 3) := by decide +kernel
theorem dX1_tryWay_175 : decode cX1_tryWay 175 = .ok (.iload 9, 2) := by decide +kernel
theorem dX1_tryWay_177 : decode cX1_tryWay 177 = .ok (.iload 8, 2) := by decide +kernel
theorem dX1_tryWay_179 : decode cX1_tryWay 179 = .ok (.invokevirtual 96, 3) := by decide +kernel
theorem dX1_tryWay_182 : decode cX1_tryWay 182 = .ok (.pop, 1) := by decide +kernel
theorem dX1_tryWay_183 : decode cX1_tryWay 183 = .ok (.aload_n 0, 1) := by decide +kernel
theorem dX1_tryWay_184 : decode cX1_tryWay 184 = .ok (.iload_n 1, 1) := by decide +kernel
theorem dX1_tryWay_185 : decode cX1_tryWay 185 = .ok (.iconst 1, 1) := by decide +kernel
theorem dX1_tryWay_186 : decode cX1_tryWay 186 = .ok (.iadd, 1) := by decide +kernel
theorem dX1_tryWay_187 : decode cX1_tryWay 187 = .ok (.iload 9, 2) := by decide +kernel
theorem dX1_tryWay_189 : decode cX1_tryWay 189 = .ok (.iload_n 3, 1) := by decide +kernel
theorem dX1_tryWay_190 : decode cX1_tryWay 190 = .ok (.iconst 1, 1) := by decide +kernel
theorem dX1_tryWay_191 : decode cX1_tryWay 191 = .ok (.iload 9, 2) := by decide +kernel
theorem dX1_tryWay_193 : decode cX1_tryWay 193 = .ok (.ishl, 1) := by decide +kernel
theorem dX1_tryWay_194 : decode cX1_tryWay 194 = .ok (.ior, 1) := by decide +kernel
theorem dX1_tryWay_195 : decode cX1_tryWay 195 = .ok (.aload_n 0, 1) := by decide +kernel
theorem dX1_tryWay_196 : decode cX1_tryWay 196 = .ok (.getfield 26, 3) := by decide +kernel
theorem dX1_tryWay_199 : decode cX1_tryWay 199 = .ok (.getfield 77, 3) := by decide +kernel
theorem dX1_tryWay_202 : decode cX1_tryWay 202 = .ok (.aload_n 0, 1) := by decide +kernel
theorem dX1_tryWay_203 : decode cX1_tryWay 203 = .ok (.getfield 26, 3) := by decide +kernel
theorem dX1_tryWay_206 : decode cX1_tryWay 206 = .ok (.getfield 82, 3) := by decide +kernel
theorem dX1_tryWay_209 : decode cX1_tryWay 209 = .ok (.invokevirtual 52, 3) := by decide +kernel
theorem dX1_tryWay_212 : decode cX1_tryWay 212 = .ok (.iinc 9 1, 3) := by decide +kernel
theorem dX1_tryWay_215 : decode cX1_tryWay 215 = .ok (.goto (-162), 3) := by decide +kernel
theorem dX1_tryWay_218 : decode cX1_tryWay 218 = .ok (.return_, 1) := by decide +kernel
theorem dX1_keepBetter_0 : decode cX1_keepBetter 0 = .ok (.aload_n 0, 1) := by decide +kernel
theorem dX1_keepBetter_1 : decode cX1_keepBetter 1 = .ok (.getfield 26, 3) := by decide +kernel
theorem dX1_keepBetter_4 : decode cX1_keepBetter 4 = .ok (.getfield 77, 3) := by decide +kernel
theorem dX1_keepBetter_7 : decode cX1_keepBetter 7 = .ok (.aload_n 0, 1) := by decide +kernel
theorem dX1_keepBetter_8 : decode cX1_keepBetter 8 = .ok (.getfield 41, 3) := by decide +kernel
theorem dX1_keepBetter_11 : decode cX1_keepBetter 11 = .ok (.if_icmp .le 36, 3) := by decide +kernel
theorem dX1_keepBetter_14 : decode cX1_keepBetter 14 = .ok (.aload_n 0, 1) := by decide +kernel
theorem dX1_keepBetter_15 : decode cX1_keepBetter 15 = .ok (.aload_n 0, 1) := by decide +kernel
theorem dX1_keepBetter_16 : decode cX1_keepBetter 16 = .ok (.getfield 26, 3) := by decide +kernel
theorem dX1_keepBetter_19 : decode cX1_keepBetter 19 = .ok (.getfield 77, 3) := by decide +kernel
theorem dX1_keepBetter_22 : decode cX1_keepBetter 22 = .ok (.putfield 41, 3) := by decide +kernel
theorem dX1_keepBetter_25 : decode cX1_keepBetter 25 = .ok (.aload_n 0, 1) := by decide +kernel
theorem dX1_keepBetter_26 : decode cX1_keepBetter 26 = .ok (.aload_n 0, 1) := by decide +kernel
theorem dX1_keepBetter_27 : decode cX1_keepBetter 27 = .ok (.getfield 49, 3) := by decide +kernel
theorem dX1_keepBetter_30 : decode cX1_keepBetter 30 = .ok (.putfield 38, 3) := by decide +kernel
theorem dX1_keepBetter_33 : decode cX1_keepBetter 33 = .ok (.aload_n 0, 1) := by decide +kernel
theorem dX1_keepBetter_34 : decode cX1_keepBetter 34 = .ok (.getfield 9, 3) := by decide +kernel
theorem dX1_keepBetter_37 : decode cX1_keepBetter 37 = .ok (.iconst 0, 1) := by decide +kernel
theorem dX1_keepBetter_38 : decode cX1_keepBetter 38 = .ok (.aload_n 0, 1) := by decide +kernel
theorem dX1_keepBetter_39 : decode cX1_keepBetter 39 = .ok (.getfield 15, 3) := by decide +kernel
theorem dX1_keepBetter_42 : decode cX1_keepBetter 42 = .ok (.iconst 0, 1) := by decide +kernel
theorem dX1_keepBetter_43 : decode cX1_keepBetter 43 = .ok (.iload_n 1, 1) := by decide +kernel
theorem dX1_keepBetter_44 : decode cX1_keepBetter 44 = .ok (.invokestatic 99, 3) := by decide +kernel
theorem dX1_keepBetter_47 : decode cX1_keepBetter 47 = .ok (.return_, 1) := by decide +kernel
theorem dX2_init_0 : decode cX2_init 0 = .ok (.aload_n 0, 1) := by decide +kernel
theorem dX2_init_1 : decode cX2_init 1 = .ok (.invokespecial 3, 3) := by decide +kernel
theorem dX2_init_4 : decode cX2_init 4 = .ok (.aload_n 0, 1) := by decide +kernel
theorem dX2_init_5 : decode cX2_init 5 = .ok (.sipush 1000, 3) := by decide +kernel
theorem dX2_init_8 : decode cX2_init 8 = .ok (.newarray .int, 2) := by decide +kernel
theorem dX2_init_10 : decode cX2_init 10 = .ok (.putfield 9, 3) := by decide +kernel
theorem dX2_init_13 : decode cX2_init 13 = .ok (.aload_n 0, 1) := by decide +kernel
theorem dX2_init_14 : decode cX2_init 14 = .ok (.bipush 64, 2) := by decide +kernel
theorem dX2_init_16 : decode cX2_init 16 = .ok (.newarray .int, 2) := by decide +kernel
theorem dX2_init_18 : decode cX2_init 18 = .ok (.putfield 15, 3) := by decide +kernel
theorem dX2_init_21 : decode cX2_init 21 = .ok (.aload_n 0, 1) := by decide +kernel
theorem dX2_init_22 : decode cX2_init 22 = .ok (.aload_n 1, 1) := by decide +kernel
theorem dX2_init_23 : decode cX2_init 23 = .ok (.putfield 18, 3) := by decide +kernel
theorem dX2_init_26 : decode cX2_init 26 = .ok (.return_, 1) := by decide +kernel
theorem dX2_made_0 : decode cX2_made 0 = .ok (.aload_n 0, 1) := by decide +kernel
theorem dX2_made_1 : decode cX2_made 1 = .ok (.getfield 9, 3) := by decide +kernel
theorem dX2_made_4 : decode cX2_made 4 = .ok (.aload_n 0, 1) := by decide +kernel
theorem dX2_made_5 : decode cX2_made 5 = .ok (.getfield 22, 3) := by decide +kernel
theorem dX2_made_8 : decode cX2_made 8 = .ok (.invokestatic 26, 3) := by decide +kernel
theorem dX2_made_11 : decode cX2_made 11 = .ok (.areturn, 1) := by decide +kernel
theorem dX2_readLaw_0 : decode cX2_readLaw 0 = .ok (.aload_n 0, 1) := by decide +kernel
theorem dX2_readLaw_1 : decode cX2_readLaw 1 = .ok (.iconst 0, 1) := by decide +kernel
theorem dX2_readLaw_2 : decode cX2_readLaw 2 = .ok (.putfield 22, 3) := by decide +kernel
theorem dX2_readLaw_5 : decode cX2_readLaw 5 = .ok (.aload_n 0, 1) := by decide +kernel
theorem dX2_readLaw_6 : decode cX2_readLaw 6 = .ok (.iconst 0, 1) := by decide +kernel
theorem dX2_readLaw_7 : decode cX2_readLaw 7 = .ok (.putfield 32, 3) := by decide +kernel
theorem dX2_readLaw_10 : decode cX2_readLaw 10 = .ok (.aload_n 0, 1) := by decide +kernel
theorem dX2_readLaw_11 : decode cX2_readLaw 11 = .ok (.iconst 0, 1) := by decide +kernel
theorem dX2_readLaw_12 : decode cX2_readLaw 12 = .ok (.putfield 35, 3) := by decide +kernel
theorem dX2_readLaw_15 : decode cX2_readLaw 15 = .ok (.aload_n 0, 1) := by decide +kernel
theorem dX2_readLaw_16 : decode cX2_readLaw 16 = .ok (.iconst 0, 1) := by decide +kernel
theorem dX2_readLaw_17 : decode cX2_readLaw 17 = .ok (.putfield 38, 3) := by decide +kernel
theorem dX2_readLaw_20 : decode cX2_readLaw 20 = .ok (.iconst 1, 1) := by decide +kernel
theorem dX2_readLaw_21 : decode cX2_readLaw 21 = .ok (.istore_n 2, 1) := by decide +kernel
theorem dX2_readLaw_22 : decode cX2_readLaw 22 = .ok (.iconst 0, 1) := by decide +kernel
theorem dX2_readLaw_23 : decode cX2_readLaw 23 = .ok (.istore_n 3, 1) := by decide +kernel
theorem dX2_readLaw_24 : decode cX2_readLaw 24 = .ok (.iload_n 3, 1) := by decide +kernel
theorem dX2_readLaw_25 : decode cX2_readLaw 25 = .ok (.sipush 1000, 3) := by decide +kernel
theorem dX2_readLaw_28 : decode cX2_readLaw 28 = .ok (.if_icmp .gt 123, 3) := by decide +kernel
theorem dX2_readLaw_31 : decode cX2_readLaw 31 = .ok (.aload_n 0, 1) := by decide +kernel
theorem dX2_readLaw_32 : decode cX2_readLaw 32 = .ok (.getfield 18, 3) := by decide +kernel
theorem dX2_readLaw_35 : decode cX2_readLaw 35 = .ok (.getfield 41, 3) := by decide +kernel
theorem dX2_readLaw_38 : decode cX2_readLaw 38 = .ok (.astore 4, 2) := by decide +kernel
theorem dX2_readLaw_40 : decode cX2_readLaw 40 = .ok (.iload_n 2, 1) := by decide +kernel
theorem dX2_readLaw_41 : decode cX2_readLaw 41 = .ok (.ifCond .eq 34, 3) := by decide +kernel
theorem dX2_readLaw_44 : decode cX2_readLaw 44 = .ok (.aload 4, 2) := by decide +kernel
theorem dX2_readLaw_46 : decode cX2_readLaw 46 = .ok (.iload_n 1, 1) := by decide +kernel
theorem dX2_readLaw_47 : decode cX2_readLaw 47 = .ok (.invokestatic 47, 3) := by decide +kernel
theorem dX2_readLaw_50 : decode cX2_readLaw 50 = .ok (.ifCond .ne 5, 3) := by decide +kernel
theorem dX2_readLaw_53 : decode cX2_readLaw 53 = .ok (.iconst 1, 1) := by decide +kernel
theorem dX2_readLaw_54 : decode cX2_readLaw 54 = .ok (.ireturn, 1) := by decide +kernel
theorem dX2_readLaw_55 : decode cX2_readLaw 55 = .ok (.aload_n 0, 1) := by decide +kernel
theorem dX2_readLaw_56 : decode cX2_readLaw 56 = .ok (.getfield 38, 3) := by decide +kernel
theorem dX2_readLaw_59 : decode cX2_readLaw 59 = .ok (.iconst 5, 1) := by decide +kernel
theorem dX2_readLaw_60 : decode cX2_readLaw 60 = .ok (.if_icmp .lt 5, 3) := by decide +kernel
theorem dX2_readLaw_63 : decode cX2_readLaw 63 = .ok (.iconst 5, 1) := by decide +kernel
theorem dX2_readLaw_64 : decode cX2_readLaw 64 = .ok (.ireturn, 1) := by decide +kernel
theorem dX2_readLaw_65 : decode cX2_readLaw 65 = .ok (.aload_n 0, 1) := by decide +kernel
theorem dX2_readLaw_66 : decode cX2_readLaw 66 = .ok (.aload 4, 2) := by decide +kernel
theorem dX2_readLaw_68 : decode cX2_readLaw 68 = .ok (.invokevirtual 53, 3) := by decide +kernel
theorem dX2_readLaw_71 : decode cX2_readLaw 71 = .ok (.istore_n 2, 1) := by decide +kernel
theorem dX2_readLaw_72 : decode cX2_readLaw 72 = .ok (.goto 66, 3) := by decide +kernel
theorem dX2_readLaw_75 : decode cX2_readLaw 75 = .ok (.aload 4, 2) := by decide +kernel
theorem dX2_readLaw_77 : decode cX2_readLaw 77 = .ok (.getstatic 57, 3) := by decide +kernel
theorem dX2_readLaw_80 : decode cX2_readLaw 80 = .ok (.if_acmp .ne 17, 3) := by decide +kernel
theorem dX2_readLaw_83 : decode cX2_readLaw 83 = .ok (.aload_n 0, 1) := by decide +kernel
theorem dX2_readLaw_84 : decode cX2_readLaw 84 = .ok (.getfield 35, 3) := by decide +kernel
theorem dX2_readLaw_87 : decode cX2_readLaw 87 = .ok (.ifCond .ne 10, 3) := by decide +kernel
theorem dX2_readLaw_90 : decode cX2_readLaw 90 = .ok (.aload_n 0, 1) := by decide +kernel
theorem dX2_readLaw_91 : decode cX2_readLaw 91 = .ok (.iconst 1, 1) := by decide +kernel
theorem dX2_readLaw_92 : decode cX2_readLaw 92 = .ok (.invokevirtual 62, 3) := by decide +kernel
theorem dX2_readLaw_95 : decode cX2_readLaw 95 = .ok (.iconst 0, 1) := by decide +kernel
theorem dX2_readLaw_96 : decode cX2_readLaw 96 = .ok (.ireturn, 1) := by decide +kernel
theorem dX2_readLaw_97 : decode cX2_readLaw 97 = .ok (.aload 4, 2) := by decide +kernel
theorem dX2_readLaw_99 : decode cX2_readLaw 99 = .ok (.getstatic 66, 3) := by decide +kernel
theorem dX2_readLaw_102 : decode cX2_readLaw 102 = .ok (.if_acmp .ne 17, 3) := by decide +kernel
theorem dX2_readLaw_105 : decode cX2_readLaw 105 = .ok (.aload_n 0, 1) := by decide +kernel
theorem dX2_readLaw_106 : decode cX2_readLaw 106 = .ok (.getfield 35, 3) := by decide +kernel
theorem dX2_readLaw_109 : decode cX2_readLaw 109 = .ok (.ifCond .le 10, 3) := by decide +kernel
theorem dX2_readLaw_112 : decode cX2_readLaw 112 = .ok (.aload_n 0, 1) := by decide +kernel
theorem dX2_readLaw_113 : decode cX2_readLaw 113 = .ok (.invokevirtual 69, 3) := by decide +kernel
theorem dX2_readLaw_116 : decode cX2_readLaw 116 = .ok (.goto 22, 3) := by decide +kernel
theorem dX2_readLaw_119 : decode cX2_readLaw 119 = .ok (.aload_n 0, 1) := by decide +kernel
theorem dX2_readLaw_120 : decode cX2_readLaw 120 = .ok (.aload 4, 2) := by decide +kernel
theorem dX2_readLaw_122 : decode cX2_readLaw 122 = .ok (.invokevirtual 72, 3) := by decide +kernel
theorem dX2_readLaw_125 : decode cX2_readLaw 125 = .ok (.invokevirtual 76, 3) := by decide +kernel
theorem dX2_readLaw_128 : decode cX2_readLaw 128 = .ok (.ifCond .eq 8, 3) := by decide +kernel
theorem dX2_readLaw_131 : decode cX2_readLaw 131 = .ok (.iconst 1, 1) := by decide +kernel
theorem dX2_readLaw_132 : decode cX2_readLaw 132 = .ok (.istore_n 2, 1) := by decide +kernel
theorem dX2_readLaw_133 : decode cX2_readLaw 133 = .ok (.goto 5, 3) := by decide +kernel
theorem dX2_readLaw_136 : decode cX2_readLaw 136 = .ok (.iconst 1, 1) := by decide +kernel
theorem dX2_readLaw_137 : decode cX2_readLaw 137 = .ok (.ireturn, 1) := by decide +kernel
theorem dX2_readLaw_138 : decode cX2_readLaw 138 = .ok (.aload_n 0, 1) := by decide +kernel
theorem dX2_readLaw_139 : decode cX2_readLaw 139 = .ok (.getfield 18, 3) := by decide +kernel
theorem dX2_readLaw_142 : decode cX2_readLaw 142 = .ok (.invokevirtual 80, 3) := by decide +kernel
theorem dX2_readLaw_145 : decode cX2_readLaw 145 = .ok (.iinc 3 1, 3) := by decide +kernel
theorem dX2_readLaw_148 : decode cX2_readLaw 148 = .ok (.goto (-124), 3) := by decide +kernel
theorem dX2_readLaw_151 : decode cX2_readLaw 151 = .ok (.iconst 1, 1) := by decide +kernel
theorem dX2_readLaw_152 : decode cX2_readLaw 152 = .ok (.ireturn, 1) := by decide +kernel
theorem dX2_beginsPart_0 : decode cX2_beginsPart 0 = .ok (.aload_n 0, 1) := by decide +kernel
theorem dX2_beginsPart_1 : decode cX2_beginsPart 1 = .ok (.getstatic 83, 3) := by decide +kernel
theorem dX2_beginsPart_4 : decode cX2_beginsPart 4 = .ok (.if_acmp .eq 17, 3) := by decide +kernel
theorem dX2_beginsPart_7 : decode cX2_beginsPart 7 = .ok (.aload_n 0, 1) := by decide +kernel
theorem dX2_beginsPart_8 : decode cX2_beginsPart 8 = .ok (.getstatic 86, 3) := by decide +kernel
theorem dX2_beginsPart_11 : decode cX2_beginsPart 11 = .ok (.if_acmp .eq 10, 3) := by decide +kernel
theorem dX2_beginsPart_14 : decode cX2_beginsPart 14 = .ok (.aload_n 0, 1) := by decide +kernel
theorem dX2_beginsPart_15 : decode cX2_beginsPart 15 = .ok (.getstatic 89, 3) := by decide +kernel
theorem dX2_beginsPart_18 : decode cX2_beginsPart 18 = .ok (.if_acmp .ne 5, 3) := by decide +kernel
theorem dX2_beginsPart_21 : decode cX2_beginsPart 21 = .ok (.iconst 1, 1) := by decide +kernel
theorem dX2_beginsPart_22 : decode cX2_beginsPart 22 = .ok (.ireturn, 1) := by decide +kernel
theorem dX2_beginsPart_23 : decode cX2_beginsPart 23 = .ok (.aload_n 0, 1) := by decide +kernel
theorem dX2_beginsPart_24 : decode cX2_beginsPart 24 = .ok (.invokevirtual 92, 3) := by decide +kernel
theorem dX2_beginsPart_27 : decode cX2_beginsPart 27 = .ok (.istore_n 2, 1) := by decide +kernel
theorem dX2_beginsPart_28 : decode cX2_beginsPart 28 = .ok (.iload_n 1, 1) := by decide +kernel
theorem dX2_beginsPart_29 : decode cX2_beginsPart 29 = .ok (.ifCond .eq 20, 3) := by decide +kernel
theorem dX2_beginsPart_32 : decode cX2_beginsPart 32 = .ok (.iload_n 2, 1) := by decide +kernel
theorem dX2_beginsPart_33 : decode cX2_beginsPart 33 = .ok (.ifCond .lt 12, 3) := by decide +kernel
theorem dX2_beginsPart_36 : decode cX2_beginsPart 36 = .ok (.iload_n 2, 1) := by decide +kernel
theorem dX2_beginsPart_37 : decode cX2_beginsPart 37 = .ok (.iconst 4, 1) := by decide +kernel
theorem dX2_beginsPart_38 : decode cX2_beginsPart 38 = .ok (.if_icmp .gt 7, 3) := by decide +kernel
theorem dX2_beginsPart_41 : decode cX2_beginsPart 41 = .ok (.iconst 1, 1) := by decide +kernel
theorem dX2_beginsPart_42 : decode cX2_beginsPart 42 = .ok (.goto 23, 3) := by decide +kernel
theorem dX2_beginsPart_45 : decode cX2_beginsPart 45 = .ok (.iconst 0, 1) := by decide +kernel
theorem dX2_beginsPart_46 : decode cX2_beginsPart 46 = .ok (.goto 19, 3) := by decide +kernel
theorem dX2_beginsPart_49 : decode cX2_beginsPart 49 = .ok (.iload_n 2, 1) := by decide +kernel
theorem dX2_beginsPart_50 : decode cX2_beginsPart 50 = .ok (.iconst 5, 1) := by decide +kernel
theorem dX2_beginsPart_51 : decode cX2_beginsPart 51 = .ok (.if_icmp .lt 13, 3) := by decide +kernel
theorem dX2_beginsPart_54 : decode cX2_beginsPart 54 = .ok (.iload_n 2, 1) := by decide +kernel
theorem dX2_beginsPart_55 : decode cX2_beginsPart 55 = .ok (.bipush 6, 2) := by decide +kernel
theorem dX2_beginsPart_57 : decode cX2_beginsPart 57 = .ok (.if_icmp .gt 7, 3) := by decide +kernel
theorem dX2_beginsPart_60 : decode cX2_beginsPart 60 = .ok (.iconst 1, 1) := by decide +kernel
theorem dX2_beginsPart_61 : decode cX2_beginsPart 61 = .ok (.goto 4, 3) := by decide +kernel
theorem dX2_beginsPart_64 : decode cX2_beginsPart 64 = .ok (.iconst 0, 1) := by decide +kernel
theorem dX2_beginsPart_65 : decode cX2_beginsPart 65 = .ok (.ireturn, 1) := by decide +kernel
theorem dX2_takePart_0 : decode cX2_takePart 0 = .ok (.aload_n 1, 1) := by decide +kernel
theorem dX2_takePart_1 : decode cX2_takePart 1 = .ok (.getstatic 86, 3) := by decide +kernel
theorem dX2_takePart_4 : decode cX2_takePart 4 = .ok (.if_acmp .eq 10, 3) := by decide +kernel
theorem dX2_takePart_7 : decode cX2_takePart 7 = .ok (.aload_n 1, 1) := by decide +kernel
theorem dX2_takePart_8 : decode cX2_takePart 8 = .ok (.getstatic 89, 3) := by decide +kernel
theorem dX2_takePart_11 : decode cX2_takePart 11 = .ok (.if_acmp .ne 44, 3) := by decide +kernel
theorem dX2_takePart_14 : decode cX2_takePart 14 = .ok (.aload_n 0, 1) := by decide +kernel
theorem dX2_takePart_15 : decode cX2_takePart 15 = .ok (.aload_n 1, 1) := by decide +kernel
theorem dX2_takePart_16 : decode cX2_takePart 16 = .ok (.getfield 95, 3) := by decide +kernel
theorem dX2_takePart_19 : decode cX2_takePart 19 = .ok (.invokevirtual 98, 3) := by decide +kernel
theorem dX2_takePart_22 : decode cX2_takePart 22 = .ok (.aload_n 0, 1) := by decide +kernel
theorem dX2_takePart_23 : decode cX2_takePart 23 = .ok (.dup, 1) := by decide +kernel
theorem dX2_takePart_24 : decode cX2_takePart 24 = .ok (.getfield 38, 3) := by decide +kernel
theorem dX2_takePart_27 : decode cX2_takePart 27 = .ok (.iconst 1, 1) := by decide +kernel
theorem dX2_takePart_28 : decode cX2_takePart 28 = .ok (.iadd, 1) := by decide +kernel
theorem dX2_takePart_29 : decode cX2_takePart 29 = .ok (.putfield 38, 3) := by decide +kernel
theorem dX2_takePart_32 : decode cX2_takePart 32 = .ok (.aload_n 0, 1) := by decide +kernel
theorem dX2_takePart_33 : decode cX2_takePart 33 = .ok (.dup, 1) := by decide +kernel
theorem dX2_takePart_34 : decode cX2_takePart 34 = .ok (.getfield 35, 3) := by decide +kernel
theorem dX2_takePart_37 : decode cX2_takePart 37 = .ok (.aload_n 1, 1) := by decide +kernel
theorem dX2_takePart_38 : decode cX2_takePart 38 = .ok (.getstatic 89, 3) := by decide +kernel
theorem dX2_takePart_41 : decode cX2_takePart 41 = .ok (.if_acmp .ne 7, 3) := by decide +kernel
theorem dX2_takePart_44 : decode cX2_takePart 44 = .ok (.iconst 1, 1) := by decide +kernel
theorem dX2_takePart_45 : decode cX2_takePart 45 = .ok (.goto 4, 3) := by decide +kernel
theorem dX2_takePart_48 : decode cX2_takePart 48 = .ok (.iconst 0, 1) := by decide +kernel
theorem dX2_takePart_49 : decode cX2_takePart 49 = .ok (.iadd, 1) := by decide +kernel
theorem dX2_takePart_50 : decode cX2_takePart 50 = .ok (.putfield 35, 3) := by decide +kernel
theorem dX2_takePart_53 : decode cX2_takePart 53 = .ok (.iconst 1, 1) := by decide +kernel
theorem dX2_takePart_54 : decode cX2_takePart 54 = .ok (.ireturn, 1) := by decide +kernel
theorem dX2_takePart_55 : decode cX2_takePart 55 = .ok (.aload_n 0, 1) := by decide +kernel
theorem dX2_takePart_56 : decode cX2_takePart 56 = .ok (.aload_n 1, 1) := by decide +kernel
theorem dX2_takePart_57 : decode cX2_takePart 57 = .ok (.getstatic 83, 3) := by decide +kernel
theorem dX2_takePart_60 : decode cX2_takePart 60 = .ok (.if_acmp .ne 13, 3) := by decide +kernel
theorem dX2_takePart_63 : decode cX2_takePart 63 = .ok (.aload_n 0, 1) := by decide +kernel
theorem dX2_takePart_64 : decode cX2_takePart 64 = .ok (.getfield 18, 3) := by decide +kernel
theorem dX2_takePart_67 : decode cX2_takePart 67 = .ok (.getfield 101, 3) := by decide +kernel
theorem dX2_takePart_70 : decode cX2_takePart 70 = .ok (.goto 11, 3) := by decide +kernel
theorem dX2_takePart_73 : decode cX2_takePart 73 = .ok (.sipush 10000, 3) := by decide +kernel
theorem dX2_takePart_76 : decode cX2_takePart 76 = .ok (.aload_n 1, 1) := by decide +kernel
theorem dX2_takePart_77 : decode cX2_takePart 77 = .ok (.invokevirtual 92, 3) := by decide +kernel
theorem dX2_takePart_80 : decode cX2_takePart 80 = .ok (.iadd, 1) := by decide +kernel
theorem dX2_takePart_81 : decode cX2_takePart 81 = .ok (.invokevirtual 102, 3) := by decide +kernel
theorem dX2_takePart_84 : decode cX2_takePart 84 = .ok (.aload_n 0, 1) := by decide +kernel
theorem dX2_takePart_85 : decode cX2_takePart 85 = .ok (.invokevirtual 105, 3) := by decide +kernel
theorem dX2_takePart_88 : decode cX2_takePart 88 = .ok (.iconst 0, 1) := by decide +kernel
theorem dX2_takePart_89 : decode cX2_takePart 89 = .ok (.ireturn, 1) := by decide +kernel
theorem dX2_takeClose_0 : decode cX2_takeClose 0 = .ok (.aload_n 0, 1) := by decide +kernel
theorem dX2_takeClose_1 : decode cX2_takeClose 1 = .ok (.iconst 1, 1) := by decide +kernel
theorem dX2_takeClose_2 : decode cX2_takeClose 2 = .ok (.invokevirtual 62, 3) := by decide +kernel
theorem dX2_takeClose_5 : decode cX2_takeClose 5 = .ok (.aload_n 0, 1) := by decide +kernel
theorem dX2_takeClose_6 : decode cX2_takeClose 6 = .ok (.dup, 1) := by decide +kernel
theorem dX2_takeClose_7 : decode cX2_takeClose 7 = .ok (.getfield 32, 3) := by decide +kernel
theorem dX2_takeClose_10 : decode cX2_takeClose 10 = .ok (.aload_n 0, 1) := by decide +kernel
theorem dX2_takeClose_11 : decode cX2_takeClose 11 = .ok (.getfield 32, 3) := by decide +kernel
theorem dX2_takeClose_14 : decode cX2_takeClose 14 = .ok (.ifCond .le 7, 3) := by decide +kernel
theorem dX2_takeClose_17 : decode cX2_takeClose 17 = .ok (.iconst 1, 1) := by decide +kernel
theorem dX2_takeClose_18 : decode cX2_takeClose 18 = .ok (.goto 4, 3) := by decide +kernel
theorem dX2_takeClose_21 : decode cX2_takeClose 21 = .ok (.iconst 0, 1) := by decide +kernel
theorem dX2_takeClose_22 : decode cX2_takeClose 22 = .ok (.isub, 1) := by decide +kernel
theorem dX2_takeClose_23 : decode cX2_takeClose 23 = .ok (.putfield 32, 3) := by decide +kernel
theorem dX2_takeClose_26 : decode cX2_takeClose 26 = .ok (.aload_n 0, 1) := by decide +kernel
theorem dX2_takeClose_27 : decode cX2_takeClose 27 = .ok (.dup, 1) := by decide +kernel
theorem dX2_takeClose_28 : decode cX2_takeClose 28 = .ok (.getfield 35, 3) := by decide +kernel
theorem dX2_takeClose_31 : decode cX2_takeClose 31 = .ok (.iconst 1, 1) := by decide +kernel
theorem dX2_takeClose_32 : decode cX2_takeClose 32 = .ok (.isub, 1) := by decide +kernel
theorem dX2_takeClose_33 : decode cX2_takeClose 33 = .ok (.putfield 35, 3) := by decide +kernel
theorem dX2_takeClose_36 : decode cX2_takeClose 36 = .ok (.aload_n 0, 1) := by decide +kernel
theorem dX2_takeClose_37 : decode cX2_takeClose 37 = .ok (.dup, 1) := by decide +kernel
theorem dX2_takeClose_38 : decode cX2_takeClose 38 = .ok (.getfield 38, 3) := by decide +kernel
theorem dX2_takeClose_41 : decode cX2_takeClose 41 = .ok (.iconst 1, 1) := by decide +kernel
theorem dX2_takeClose_42 : decode cX2_takeClose 42 = .ok (.isub, 1) := by decide +kernel
theorem dX2_takeClose_43 : decode cX2_takeClose 43 = .ok (.putfield 38, 3) := by decide +kernel
theorem dX2_takeClose_46 : decode cX2_takeClose 46 = .ok (.aload_n 0, 1) := by decide +kernel
theorem dX2_takeClose_47 : decode cX2_takeClose 47 = .ok (.invokevirtual 105, 3) := by decide +kernel
theorem dX2_takeClose_50 : decode cX2_takeClose 50 = .ok (.return_, 1) := by decide +kernel
theorem dX2_takeJoiner_0 : decode cX2_takeJoiner 0 = .ok (.iload_n 1, 1) := by decide +kernel
theorem dX2_takeJoiner_1 : decode cX2_takeJoiner 1 = .ok (.iconst (-1), 1) := by decide +kernel
theorem dX2_takeJoiner_2 : decode cX2_takeJoiner 2 = .ok (.if_icmp .ne 5, 3) := by decide +kernel
theorem dX2_takeJoiner_5 : decode cX2_takeJoiner 5 = .ok (.iconst 0, 1) := by decide +kernel
theorem dX2_takeJoiner_6 : decode cX2_takeJoiner 6 = .ok (.ireturn, 1) := by decide +kernel
theorem dX2_takeJoiner_7 : decode cX2_takeJoiner 7 = .ok (.iload_n 1, 1) := by decide +kernel
theorem dX2_takeJoiner_8 : decode cX2_takeJoiner 8 = .ok (.invokestatic 108, 3) := by decide +kernel
theorem dX2_takeJoiner_11 : decode cX2_takeJoiner 11 = .ok (.istore_n 2, 1) := by decide +kernel
theorem dX2_takeJoiner_12 : decode cX2_takeJoiner 12 = .ok (.aload_n 0, 1) := by decide +kernel
theorem dX2_takeJoiner_13 : decode cX2_takeJoiner 13 = .ok (.iload_n 2, 1) := by decide +kernel
theorem dX2_takeJoiner_14 : decode cX2_takeJoiner 14 = .ok (.iconst 2, 1) := by decide +kernel
theorem dX2_takeJoiner_15 : decode cX2_takeJoiner 15 = .ok (.if_icmp .ne 9, 3) := by decide +kernel
theorem dX2_takeJoiner_18 : decode cX2_takeJoiner 18 = .ok (.iload_n 2, 1) := by decide +kernel
theorem dX2_takeJoiner_19 : decode cX2_takeJoiner 19 = .ok (.iconst 1, 1) := by decide +kernel
theorem dX2_takeJoiner_20 : decode cX2_takeJoiner 20 = .ok (.iadd, 1) := by decide +kernel
theorem dX2_takeJoiner_21 : decode cX2_takeJoiner 21 = .ok (.goto 4, 3) := by decide +kernel
theorem dX2_takeJoiner_24 : decode cX2_takeJoiner 24 = .ok (.iload_n 2, 1) := by decide +kernel
theorem dX2_takeJoiner_25 : decode cX2_takeJoiner 25 = .ok (.invokevirtual 62, 3) := by decide +kernel
theorem dX2_takeJoiner_28 : decode cX2_takeJoiner 28 = .ok (.iload_n 2, 1) := by decide +kernel
theorem dX2_takeJoiner_29 : decode cX2_takeJoiner 29 = .ok (.iconst 2, 1) := by decide +kernel
theorem dX2_takeJoiner_30 : decode cX2_takeJoiner 30 = .ok (.if_icmp .ne 30, 3) := by decide +kernel
theorem dX2_takeJoiner_33 : decode cX2_takeJoiner 33 = .ok (.aload_n 0, 1) := by decide +kernel
theorem dX2_takeJoiner_34 : decode cX2_takeJoiner 34 = .ok (.getfield 32, 3) := by decide +kernel
theorem dX2_takeJoiner_37 : decode cX2_takeJoiner 37 = .ok (.ifCond .le 23, 3) := by decide +kernel
theorem dX2_takeJoiner_40 : decode cX2_takeJoiner 40 = .ok (.aload_n 0, 1) := by decide +kernel
theorem dX2_takeJoiner_41 : decode cX2_takeJoiner 41 = .ok (.getfield 15, 3) := by decide +kernel
theorem dX2_takeJoiner_44 : decode cX2_takeJoiner 44 = .ok (.aload_n 0, 1) := by decide +kernel
theorem dX2_takeJoiner_45 : decode cX2_takeJoiner 45 = .ok (.getfield 32, 3) := by decide +kernel
theorem dX2_takeJoiner_48 : decode cX2_takeJoiner 48 = .ok (.iconst 1, 1) := by decide +kernel
theorem dX2_takeJoiner_49 : decode cX2_takeJoiner 49 = .ok (.isub, 1) := by decide +kernel
theorem dX2_takeJoiner_50 : decode cX2_takeJoiner 50 = .ok (.iaload, 1) := by decide +kernel
theorem dX2_takeJoiner_51 : decode cX2_takeJoiner 51 = .ok (.invokestatic 108, 3) := by decide +kernel
theorem dX2_takeJoiner_54 : decode cX2_takeJoiner 54 = .ok (.iload_n 2, 1) := by decide +kernel
theorem dX2_takeJoiner_55 : decode cX2_takeJoiner 55 = .ok (.if_icmp .ne 5, 3) := by decide +kernel
theorem dX2_takeJoiner_58 : decode cX2_takeJoiner 58 = .ok (.iconst 0, 1) := by decide +kernel
theorem dX2_takeJoiner_59 : decode cX2_takeJoiner 59 = .ok (.ireturn, 1) := by decide +kernel
theorem dX2_takeJoiner_60 : decode cX2_takeJoiner 60 = .ok (.aload_n 0, 1) := by decide +kernel
theorem dX2_takeJoiner_61 : decode cX2_takeJoiner 61 = .ok (.iload_n 1, 1) := by decide +kernel
theorem dX2_takeJoiner_62 : decode cX2_takeJoiner 62 = .ok (.invokevirtual 98, 3) := by decide +kernel
theorem dX2_takeJoiner_65 : decode cX2_takeJoiner 65 = .ok (.iconst 1, 1) := by decide +kernel
theorem dX2_takeJoiner_66 : decode cX2_takeJoiner 66 = .ok (.ireturn, 1) := by decide +kernel
theorem dX2_release_0 : decode cX2_release 0 = .ok (.aload_n 0, 1) := by decide +kernel
theorem dX2_release_1 : decode cX2_release 1 = .ok (.getfield 32, 3) := by decide +kernel
theorem dX2_release_4 : decode cX2_release 4 = .ok (.ifCond .le 47, 3) := by decide +kernel
theorem dX2_release_7 : decode cX2_release 7 = .ok (.aload_n 0, 1) := by decide +kernel
theorem dX2_release_8 : decode cX2_release 8 = .ok (.getfield 15, 3) := by decide +kernel
theorem dX2_release_11 : decode cX2_release 11 = .ok (.aload_n 0, 1) := by decide +kernel
theorem dX2_release_12 : decode cX2_release 12 = .ok (.getfield 32, 3) := by decide +kernel
theorem dX2_release_15 : decode cX2_release 15 = .ok (.iconst 1, 1) := by decide +kernel
theorem dX2_release_16 : decode cX2_release 16 = .ok (.isub, 1) := by decide +kernel
theorem dX2_release_17 : decode cX2_release 17 = .ok (.iaload, 1) := by decide +kernel
theorem dX2_release_18 : decode cX2_release 18 = .ok (.invokestatic 108, 3) := by decide +kernel
theorem dX2_release_21 : decode cX2_release 21 = .ok (.iload_n 1, 1) := by decide +kernel
theorem dX2_release_22 : decode cX2_release 22 = .ok (.if_icmp .lt 29, 3) := by decide +kernel
theorem dX2_release_25 : decode cX2_release 25 = .ok (.aload_n 0, 1) := by decide +kernel
theorem dX2_release_26 : decode cX2_release 26 = .ok (.dup, 1) := by decide +kernel
theorem dX2_release_27 : decode cX2_release 27 = .ok (.getfield 32, 3) := by decide +kernel
theorem dX2_release_30 : decode cX2_release 30 = .ok (.iconst 1, 1) := by decide +kernel
theorem dX2_release_31 : decode cX2_release 31 = .ok (.isub, 1) := by decide +kernel
theorem dX2_release_32 : decode cX2_release 32 = .ok (.putfield 32, 3) := by decide +kernel
theorem dX2_release_35 : decode cX2_release 35 = .ok (.aload_n 0, 1) := by decide +kernel
theorem dX2_release_36 : decode cX2_release 36 = .ok (.aload_n 0, 1) := by decide +kernel
theorem dX2_release_37 : decode cX2_release 37 = .ok (.getfield 15, 3) := by decide +kernel
theorem dX2_release_40 : decode cX2_release 40 = .ok (.aload_n 0, 1) := by decide +kernel
theorem dX2_release_41 : decode cX2_release 41 = .ok (.getfield 32, 3) := by decide +kernel
theorem dX2_release_44 : decode cX2_release 44 = .ok (.iaload, 1) := by decide +kernel
theorem dX2_release_45 : decode cX2_release 45 = .ok (.invokevirtual 102, 3) := by decide +kernel
theorem dX2_release_48 : decode cX2_release 48 = .ok (.goto (-48), 3) := by decide +kernel
theorem dX2_release_51 : decode cX2_release 51 = .ok (.return_, 1) := by decide +kernel
theorem dX2_releaseNots_0 : decode cX2_releaseNots 0 = .ok (.aload_n 0, 1) := by decide +kernel
theorem dX2_releaseNots_1 : decode cX2_releaseNots 1 = .ok (.getfield 32, 3) := by decide +kernel
theorem dX2_releaseNots_4 : decode cX2_releaseNots 4 = .ok (.ifCond .le 48, 3) := by decide +kernel
theorem dX2_releaseNots_7 : decode cX2_releaseNots 7 = .ok (.aload_n 0, 1) := by decide +kernel
theorem dX2_releaseNots_8 : decode cX2_releaseNots 8 = .ok (.getfield 15, 3) := by decide +kernel
theorem dX2_releaseNots_11 : decode cX2_releaseNots 11 = .ok (.aload_n 0, 1) := by decide +kernel
theorem dX2_releaseNots_12 : decode cX2_releaseNots 12 = .ok (.getfield 32, 3) := by decide +kernel
theorem dX2_releaseNots_15 : decode cX2_releaseNots 15 = .ok (.iconst 1, 1) := by decide +kernel
theorem dX2_releaseNots_16 : decode cX2_releaseNots 16 = .ok (.isub, 1) := by decide +kernel
theorem dX2_releaseNots_17 : decode cX2_releaseNots 17 = .ok (.iaload, 1) := by decide +kernel
theorem dX2_releaseNots_18 : decode cX2_releaseNots 18 = .ok (.bipush (-2), 2) := by decide +kernel
theorem dX2_releaseNots_20 : decode cX2_releaseNots 20 = .ok (.if_icmp .ne 32, 3) := by decide +kernel
theorem dX2_releaseNots_23 : decode cX2_releaseNots 23 = .ok (.aload_n 0, 1) := by decide +kernel
theorem dX2_releaseNots_24 : decode cX2_releaseNots 24 = .ok (.dup, 1) := by decide +kernel
theorem dX2_releaseNots_25 : decode cX2_releaseNots 25 = .ok (.getfield 32, 3) := by decide +kernel
theorem dX2_releaseNots_28 : decode cX2_releaseNots 28 = .ok (.iconst 1, 1) := by decide +kernel
theorem dX2_releaseNots_29 : decode cX2_releaseNots 29 = .ok (.isub, 1) := by decide +kernel
theorem dX2_releaseNots_30 : decode cX2_releaseNots 30 = .ok (.putfield 32, 3) := by decide +kernel
theorem dX2_releaseNots_33 : decode cX2_releaseNots 33 = .ok (.aload_n 0, 1) := by decide +kernel
theorem dX2_releaseNots_34 : decode cX2_releaseNots 34 = .ok (.dup, 1) := by decide +kernel
theorem dX2_releaseNots_35 : decode cX2_releaseNots 35 = .ok (.getfield 38, 3) := by decide +kernel
theorem dX2_releaseNots_38 : decode cX2_releaseNots 38 = .ok (.iconst 1, 1) := by decide +kernel
theorem dX2_releaseNots_39 : decode cX2_releaseNots 39 = .ok (.isub, 1) := by decide +kernel
theorem dX2_releaseNots_40 : decode cX2_releaseNots 40 = .ok (.putfield 38, 3) := by decide +kernel
theorem dX2_releaseNots_43 : decode cX2_releaseNots 43 = .ok (.aload_n 0, 1) := by decide +kernel
theorem dX2_releaseNots_44 : decode cX2_releaseNots 44 = .ok (.bipush (-2), 2) := by decide +kernel
theorem dX2_releaseNots_46 : decode cX2_releaseNots 46 = .ok (.invokevirtual 102, 3) := by decide +kernel
theorem dX2_releaseNots_49 : decode cX2_releaseNots 49 = .ok (.goto (-49), 3) := by decide +kernel
theorem dX2_releaseNots_52 : decode cX2_releaseNots 52 = .ok (.return_, 1) := by decide +kernel
theorem dX2_await_0 : decode cX2_await 0 = .ok (.aload_n 0, 1) := by decide +kernel
theorem dX2_await_1 : decode cX2_await 1 = .ok (.getfield 32, 3) := by decide +kernel
theorem dX2_await_4 : decode cX2_await 4 = .ok (.bipush 64, 2) := by decide +kernel
theorem dX2_await_6 : decode cX2_await 6 = .ok (.if_icmp .ge 23, 3) := by decide +kernel
theorem dX2_await_9 : decode cX2_await 9 = .ok (.aload_n 0, 1) := by decide +kernel
theorem dX2_await_10 : decode cX2_await 10 = .ok (.getfield 15, 3) := by decide +kernel
theorem dX2_await_13 : decode cX2_await 13 = .ok (.aload_n 0, 1) := by decide +kernel
theorem dX2_await_14 : decode cX2_await 14 = .ok (.getfield 32, 3) := by decide +kernel
theorem dX2_await_17 : decode cX2_await 17 = .ok (.iload_n 1, 1) := by decide +kernel
theorem dX2_await_18 : decode cX2_await 18 = .ok (.iastore, 1) := by decide +kernel
theorem dX2_await_19 : decode cX2_await 19 = .ok (.aload_n 0, 1) := by decide +kernel
theorem dX2_await_20 : decode cX2_await 20 = .ok (.dup, 1) := by decide +kernel
theorem dX2_await_21 : decode cX2_await 21 = .ok (.getfield 32, 3) := by decide +kernel
theorem dX2_await_24 : decode cX2_await 24 = .ok (.iconst 1, 1) := by decide +kernel
theorem dX2_await_25 : decode cX2_await 25 = .ok (.iadd, 1) := by decide +kernel
theorem dX2_await_26 : decode cX2_await 26 = .ok (.putfield 32, 3) := by decide +kernel
theorem dX2_await_29 : decode cX2_await 29 = .ok (.return_, 1) := by decide +kernel
theorem dX2_write_0 : decode cX2_write 0 = .ok (.aload_n 0, 1) := by decide +kernel
theorem dX2_write_1 : decode cX2_write 1 = .ok (.getfield 22, 3) := by decide +kernel
theorem dX2_write_4 : decode cX2_write 4 = .ok (.sipush 1000, 3) := by decide +kernel
theorem dX2_write_7 : decode cX2_write 7 = .ok (.if_icmp .ge 23, 3) := by decide +kernel
theorem dX2_write_10 : decode cX2_write 10 = .ok (.aload_n 0, 1) := by decide +kernel
theorem dX2_write_11 : decode cX2_write 11 = .ok (.getfield 9, 3) := by decide +kernel
theorem dX2_write_14 : decode cX2_write 14 = .ok (.aload_n 0, 1) := by decide +kernel
theorem dX2_write_15 : decode cX2_write 15 = .ok (.getfield 22, 3) := by decide +kernel
theorem dX2_write_18 : decode cX2_write 18 = .ok (.iload_n 1, 1) := by decide +kernel
theorem dX2_write_19 : decode cX2_write 19 = .ok (.iastore, 1) := by decide +kernel
theorem dX2_write_20 : decode cX2_write 20 = .ok (.aload_n 0, 1) := by decide +kernel
theorem dX2_write_21 : decode cX2_write 21 = .ok (.dup, 1) := by decide +kernel
theorem dX2_write_22 : decode cX2_write 22 = .ok (.getfield 22, 3) := by decide +kernel
theorem dX2_write_25 : decode cX2_write 25 = .ok (.iconst 1, 1) := by decide +kernel
theorem dX2_write_26 : decode cX2_write 26 = .ok (.iadd, 1) := by decide +kernel
theorem dX2_write_27 : decode cX2_write 27 = .ok (.putfield 22, 3) := by decide +kernel
theorem dX2_write_30 : decode cX2_write 30 = .ok (.return_, 1) := by decide +kernel
theorem dX2_rank_0 : decode cX2_rank 0 = .ok (.iload_n 0, 1) := by decide +kernel
theorem dX2_rank_1 : decode cX2_rank 1 = .ok (.tableswitch 51 (-9) (-3) #[49, 49, 47, 47, 45, 45, 43], 43) := by decide +kernel
theorem dX2_rank_44 : decode cX2_rank 44 = .ok (.iconst 4, 1) := by decide +kernel
theorem dX2_rank_45 : decode cX2_rank 45 = .ok (.ireturn, 1) := by decide +kernel
theorem dX2_rank_46 : decode cX2_rank 46 = .ok (.iconst 3, 1) := by decide +kernel
theorem dX2_rank_47 : decode cX2_rank 47 = .ok (.ireturn, 1) := by decide +kernel
theorem dX2_rank_48 : decode cX2_rank 48 = .ok (.iconst 2, 1) := by decide +kernel
theorem dX2_rank_49 : decode cX2_rank 49 = .ok (.ireturn, 1) := by decide +kernel
theorem dX2_rank_50 : decode cX2_rank 50 = .ok (.iconst 1, 1) := by decide +kernel
theorem dX2_rank_51 : decode cX2_rank 51 = .ok (.ireturn, 1) := by decide +kernel
theorem dX2_rank_52 : decode cX2_rank 52 = .ok (.iconst 0, 1) := by decide +kernel
theorem dX2_rank_53 : decode cX2_rank 53 = .ok (.ireturn, 1) := by decide +kernel
theorem dX2_valueOf_0 : decode cX2_valueOf 0 = .ok (.iconst 0, 1) := by decide +kernel
theorem dX2_valueOf_1 : decode cX2_valueOf 1 = .ok (.istore_n 3, 1) := by decide +kernel
theorem dX2_valueOf_2 : decode cX2_valueOf 2 = .ok (.iconst 0, 1) := by decide +kernel
theorem dX2_valueOf_3 : decode cX2_valueOf 3 = .ok (.istore 4, 2) := by decide +kernel
theorem dX2_valueOf_5 : decode cX2_valueOf 5 = .ok (.iload 4, 2) := by decide +kernel
theorem dX2_valueOf_7 : decode cX2_valueOf 7 = .ok (.aload_n 0, 1) := by decide +kernel
theorem dX2_valueOf_8 : decode cX2_valueOf 8 = .ok (.arraylength, 1) := by decide +kernel
theorem dX2_valueOf_9 : decode cX2_valueOf 9 = .ok (.if_icmp .ge 125, 3) := by decide +kernel
theorem dX2_valueOf_12 : decode cX2_valueOf 12 = .ok (.aload_n 0, 1) := by decide +kernel
theorem dX2_valueOf_13 : decode cX2_valueOf 13 = .ok (.iload 4, 2) := by decide +kernel
theorem dX2_valueOf_15 : decode cX2_valueOf 15 = .ok (.iaload, 1) := by decide +kernel
theorem dX2_valueOf_16 : decode cX2_valueOf 16 = .ok (.istore 5, 2) := by decide +kernel
theorem dX2_valueOf_18 : decode cX2_valueOf 18 = .ok (.iload 5, 2) := by decide +kernel
theorem dX2_valueOf_20 : decode cX2_valueOf 20 = .ok (.ifCond .lt 50, 3) := by decide +kernel
theorem dX2_valueOf_23 : decode cX2_valueOf 23 = .ok (.iload_n 3, 1) := by decide +kernel
theorem dX2_valueOf_24 : decode cX2_valueOf 24 = .ok (.aload_n 2, 1) := by decide +kernel
theorem dX2_valueOf_25 : decode cX2_valueOf 25 = .ok (.arraylength, 1) := by decide +kernel
theorem dX2_valueOf_26 : decode cX2_valueOf 26 = .ok (.if_icmp .ge 102, 3) := by decide +kernel
theorem dX2_valueOf_29 : decode cX2_valueOf 29 = .ok (.iload 5, 2) := by decide +kernel
theorem dX2_valueOf_31 : decode cX2_valueOf 31 = .ok (.sipush 10000, 3) := by decide +kernel
theorem dX2_valueOf_34 : decode cX2_valueOf 34 = .ok (.isub, 1) := by decide +kernel
theorem dX2_valueOf_35 : decode cX2_valueOf 35 = .ok (.aload_n 1, 1) := by decide +kernel
theorem dX2_valueOf_36 : decode cX2_valueOf 36 = .ok (.arraylength, 1) := by decide +kernel
theorem dX2_valueOf_37 : decode cX2_valueOf 37 = .ok (.if_icmp .ge 91, 3) := by decide +kernel
theorem dX2_valueOf_40 : decode cX2_valueOf 40 = .ok (.aload_n 2, 1) := by decide +kernel
theorem dX2_valueOf_41 : decode cX2_valueOf 41 = .ok (.iload_n 3, 1) := by decide +kernel
theorem dX2_valueOf_42 : decode cX2_valueOf 42 = .ok (.iload 5, 2) := by decide +kernel
theorem dX2_valueOf_44 : decode cX2_valueOf 44 = .ok (.sipush 10000, 3) := by decide +kernel
theorem dX2_valueOf_47 : decode cX2_valueOf 47 = .ok (.if_icmp .ge 8, 3) := by decide +kernel
theorem dX2_valueOf_50 : decode cX2_valueOf 50 = .ok (.iload 5, 2) := by decide +kernel
theorem dX2_valueOf_52 : decode cX2_valueOf 52 = .ok (.goto 11, 3) := by decide +kernel
theorem dX2_valueOf_55 : decode cX2_valueOf 55 = .ok (.aload_n 1, 1) := by decide +kernel
theorem dX2_valueOf_56 : decode cX2_valueOf 56 = .ok (.iload 5, 2) := by decide +kernel
theorem dX2_valueOf_58 : decode cX2_valueOf 58 = .ok (.sipush 10000, 3) := by decide +kernel
theorem dX2_valueOf_61 : decode cX2_valueOf 61 = .ok (.isub, 1) := by decide +kernel
theorem dX2_valueOf_62 : decode cX2_valueOf 62 = .ok (.iaload, 1) := by decide +kernel
theorem dX2_valueOf_63 : decode cX2_valueOf 63 = .ok (.iastore, 1) := by decide +kernel
theorem dX2_valueOf_64 : decode cX2_valueOf 64 = .ok (.iinc 3 1, 3) := by decide +kernel
theorem dX2_valueOf_67 : decode cX2_valueOf 67 = .ok (.goto 61, 3) := by decide +kernel
theorem dX2_valueOf_70 : decode cX2_valueOf 70 = .ok (.iload 5, 2) := by decide +kernel
theorem dX2_valueOf_72 : decode cX2_valueOf 72 = .ok (.bipush (-2), 2) := by decide +kernel
theorem dX2_valueOf_74 : decode cX2_valueOf 74 = .ok (.if_icmp .ne 28, 3) := by decide +kernel
theorem dX2_valueOf_77 : decode cX2_valueOf 77 = .ok (.iload_n 3, 1) := by decide +kernel
theorem dX2_valueOf_78 : decode cX2_valueOf 78 = .ok (.ifCond .le 50, 3) := by decide +kernel
theorem dX2_valueOf_81 : decode cX2_valueOf 81 = .ok (.aload_n 2, 1) := by decide +kernel
theorem dX2_valueOf_82 : decode cX2_valueOf 82 = .ok (.iload_n 3, 1) := by decide +kernel
theorem dX2_valueOf_83 : decode cX2_valueOf 83 = .ok (.iconst 1, 1) := by decide +kernel
theorem dX2_valueOf_84 : decode cX2_valueOf 84 = .ok (.isub, 1) := by decide +kernel
theorem dX2_valueOf_85 : decode cX2_valueOf 85 = .ok (.aload_n 2, 1) := by decide +kernel
theorem dX2_valueOf_86 : decode cX2_valueOf 86 = .ok (.iload_n 3, 1) := by decide +kernel
theorem dX2_valueOf_87 : decode cX2_valueOf 87 = .ok (.iconst 1, 1) := by decide +kernel
theorem dX2_valueOf_88 : decode cX2_valueOf 88 = .ok (.isub, 1) := by decide +kernel
theorem dX2_valueOf_89 : decode cX2_valueOf 89 = .ok (.iaload, 1) := by decide +kernel
theorem dX2_valueOf_90 : decode cX2_valueOf 90 = .ok (.ifCond .ne 7, 3) := by decide +kernel
theorem dX2_valueOf_93 : decode cX2_valueOf 93 = .ok (.iconst 1, 1) := by decide +kernel
theorem dX2_valueOf_94 : decode cX2_valueOf 94 = .ok (.goto 4, 3) := by decide +kernel
theorem dX2_valueOf_97 : decode cX2_valueOf 97 = .ok (.iconst 0, 1) := by decide +kernel
theorem dX2_valueOf_98 : decode cX2_valueOf 98 = .ok (.iastore, 1) := by decide +kernel
theorem dX2_valueOf_99 : decode cX2_valueOf 99 = .ok (.goto 29, 3) := by decide +kernel
theorem dX2_valueOf_102 : decode cX2_valueOf 102 = .ok (.iload_n 3, 1) := by decide +kernel
theorem dX2_valueOf_103 : decode cX2_valueOf 103 = .ok (.iconst 1, 1) := by decide +kernel
theorem dX2_valueOf_104 : decode cX2_valueOf 104 = .ok (.if_icmp .le 24, 3) := by decide +kernel
theorem dX2_valueOf_107 : decode cX2_valueOf 107 = .ok (.iinc 3 (-1), 3) := by decide +kernel
theorem dX2_valueOf_110 : decode cX2_valueOf 110 = .ok (.aload_n 2, 1) := by decide +kernel
theorem dX2_valueOf_111 : decode cX2_valueOf 111 = .ok (.iload_n 3, 1) := by decide +kernel
theorem dX2_valueOf_112 : decode cX2_valueOf 112 = .ok (.iconst 1, 1) := by decide +kernel
theorem dX2_valueOf_113 : decode cX2_valueOf 113 = .ok (.isub, 1) := by decide +kernel
theorem dX2_valueOf_114 : decode cX2_valueOf 114 = .ok (.iload 5, 2) := by decide +kernel
theorem dX2_valueOf_116 : decode cX2_valueOf 116 = .ok (.aload_n 2, 1) := by decide +kernel
theorem dX2_valueOf_117 : decode cX2_valueOf 117 = .ok (.iload_n 3, 1) := by decide +kernel
theorem dX2_valueOf_118 : decode cX2_valueOf 118 = .ok (.iconst 1, 1) := by decide +kernel
theorem dX2_valueOf_119 : decode cX2_valueOf 119 = .ok (.isub, 1) := by decide +kernel
theorem dX2_valueOf_120 : decode cX2_valueOf 120 = .ok (.iaload, 1) := by decide +kernel
theorem dX2_valueOf_121 : decode cX2_valueOf 121 = .ok (.aload_n 2, 1) := by decide +kernel
theorem dX2_valueOf_122 : decode cX2_valueOf 122 = .ok (.iload_n 3, 1) := by decide +kernel
theorem dX2_valueOf_123 : decode cX2_valueOf 123 = .ok (.iaload, 1) := by decide +kernel
theorem dX2_valueOf_124 : decode cX2_valueOf 124 = .ok (.invokestatic 112, 3) := by decide +kernel
theorem dX2_valueOf_127 : decode cX2_valueOf 127 = .ok (.iastore, 1) := by decide +kernel
theorem dX2_valueOf_128 : decode cX2_valueOf 128 = .ok (.iinc 4 1, 3) := by decide +kernel
theorem dX2_valueOf_131 : decode cX2_valueOf 131 = .ok (.goto (-126), 3) := by decide +kernel
theorem dX2_valueOf_134 : decode cX2_valueOf 134 = .ok (.iload_n 3, 1) := by decide +kernel
theorem dX2_valueOf_135 : decode cX2_valueOf 135 = .ok (.ifCond .le 9, 3) := by decide +kernel
theorem dX2_valueOf_138 : decode cX2_valueOf 138 = .ok (.aload_n 2, 1) := by decide +kernel
theorem dX2_valueOf_139 : decode cX2_valueOf 139 = .ok (.iconst 0, 1) := by decide +kernel
theorem dX2_valueOf_140 : decode cX2_valueOf 140 = .ok (.iaload, 1) := by decide +kernel
theorem dX2_valueOf_141 : decode cX2_valueOf 141 = .ok (.goto 4, 3) := by decide +kernel
theorem dX2_valueOf_144 : decode cX2_valueOf 144 = .ok (.iconst 0, 1) := by decide +kernel
theorem dX2_valueOf_145 : decode cX2_valueOf 145 = .ok (.ireturn, 1) := by decide +kernel
theorem dX2_joined_0 : decode cX2_joined 0 = .ok (.iload_n 0, 1) := by decide +kernel
theorem dX2_joined_1 : decode cX2_joined 1 = .ok (.tableswitch 87 (-8) (-3) #[73, 62, 51, 47, 43, 39], 39) := by decide +kernel
theorem dX2_joined_40 : decode cX2_joined 40 = .ok (.iload_n 1, 1) := by decide +kernel
theorem dX2_joined_41 : decode cX2_joined 41 = .ok (.iload_n 2, 1) := by decide +kernel
theorem dX2_joined_42 : decode cX2_joined 42 = .ok (.imul, 1) := by decide +kernel
theorem dX2_joined_43 : decode cX2_joined 43 = .ok (.ireturn, 1) := by decide +kernel
theorem dX2_joined_44 : decode cX2_joined 44 = .ok (.iload_n 1, 1) := by decide +kernel
theorem dX2_joined_45 : decode cX2_joined 45 = .ok (.iload_n 2, 1) := by decide +kernel
theorem dX2_joined_46 : decode cX2_joined 46 = .ok (.iadd, 1) := by decide +kernel
theorem dX2_joined_47 : decode cX2_joined 47 = .ok (.ireturn, 1) := by decide +kernel
theorem dX2_joined_48 : decode cX2_joined 48 = .ok (.iload_n 1, 1) := by decide +kernel
theorem dX2_joined_49 : decode cX2_joined 49 = .ok (.iload_n 2, 1) := by decide +kernel
theorem dX2_joined_50 : decode cX2_joined 50 = .ok (.isub, 1) := by decide +kernel
theorem dX2_joined_51 : decode cX2_joined 51 = .ok (.ireturn, 1) := by decide +kernel
theorem dX2_joined_52 : decode cX2_joined 52 = .ok (.iload_n 1, 1) := by decide +kernel
theorem dX2_joined_53 : decode cX2_joined 53 = .ok (.iload_n 2, 1) := by decide +kernel
theorem dX2_joined_54 : decode cX2_joined 54 = .ok (.if_icmp .ge 7, 3) := by decide +kernel
theorem dX2_joined_57 : decode cX2_joined 57 = .ok (.iconst 1, 1) := by decide +kernel
theorem dX2_joined_58 : decode cX2_joined 58 = .ok (.goto 4, 3) := by decide +kernel
theorem dX2_joined_61 : decode cX2_joined 61 = .ok (.iconst 0, 1) := by decide +kernel
theorem dX2_joined_62 : decode cX2_joined 62 = .ok (.ireturn, 1) := by decide +kernel
theorem dX2_joined_63 : decode cX2_joined 63 = .ok (.iload_n 1, 1) := by decide +kernel
theorem dX2_joined_64 : decode cX2_joined 64 = .ok (.iload_n 2, 1) := by decide +kernel
theorem dX2_joined_65 : decode cX2_joined 65 = .ok (.if_icmp .ne 7, 3) := by decide +kernel
theorem dX2_joined_68 : decode cX2_joined 68 = .ok (.iconst 1, 1) := by decide +kernel
theorem dX2_joined_69 : decode cX2_joined 69 = .ok (.goto 4, 3) := by decide +kernel
theorem dX2_joined_72 : decode cX2_joined 72 = .ok (.iconst 0, 1) := by decide +kernel
theorem dX2_joined_73 : decode cX2_joined 73 = .ok (.ireturn, 1) := by decide +kernel
theorem dX2_joined_74 : decode cX2_joined 74 = .ok (.iload_n 1, 1) := by decide +kernel
theorem dX2_joined_75 : decode cX2_joined 75 = .ok (.ifCond .eq 11, 3) := by decide +kernel
theorem dX2_joined_78 : decode cX2_joined 78 = .ok (.iload_n 2, 1) := by decide +kernel
theorem dX2_joined_79 : decode cX2_joined 79 = .ok (.ifCond .eq 7, 3) := by decide +kernel
theorem dX2_joined_82 : decode cX2_joined 82 = .ok (.iconst 1, 1) := by decide +kernel
theorem dX2_joined_83 : decode cX2_joined 83 = .ok (.goto 4, 3) := by decide +kernel
theorem dX2_joined_86 : decode cX2_joined 86 = .ok (.iconst 0, 1) := by decide +kernel
theorem dX2_joined_87 : decode cX2_joined 87 = .ok (.ireturn, 1) := by decide +kernel
theorem dX2_joined_88 : decode cX2_joined 88 = .ok (.iload_n 1, 1) := by decide +kernel
theorem dX2_joined_89 : decode cX2_joined 89 = .ok (.ifCond .ne 7, 3) := by decide +kernel
theorem dX2_joined_92 : decode cX2_joined 92 = .ok (.iload_n 2, 1) := by decide +kernel
theorem dX2_joined_93 : decode cX2_joined 93 = .ok (.ifCond .eq 7, 3) := by decide +kernel
theorem dX2_joined_96 : decode cX2_joined 96 = .ok (.iconst 1, 1) := by decide +kernel
theorem dX2_joined_97 : decode cX2_joined 97 = .ok (.goto 4, 3) := by decide +kernel
theorem dX2_joined_100 : decode cX2_joined 100 = .ok (.iconst 0, 1) := by decide +kernel
theorem dX2_joined_101 : decode cX2_joined 101 = .ok (.ireturn, 1) := by decide +kernel
theorem dX3_init_0 : decode cX3_init 0 = .ok (.aload_n 0, 1) := by decide +kernel
theorem dX3_init_1 : decode cX3_init 1 = .ok (.invokespecial 3, 3) := by decide +kernel
theorem dX3_init_4 : decode cX3_init 4 = .ok (.aload_n 0, 1) := by decide +kernel
theorem dX3_init_5 : decode cX3_init 5 = .ok (.bipush 7, 2) := by decide +kernel
theorem dX3_init_7 : decode cX3_init 7 = .ok (.newarray .int, 2) := by decide +kernel
theorem dX3_init_9 : decode cX3_init 9 = .ok (.putfield 9, 3) := by decide +kernel
theorem dX3_init_12 : decode cX3_init 12 = .ok (.aload_n 0, 1) := by decide +kernel
theorem dX3_init_13 : decode cX3_init 13 = .ok (.bipush 7, 2) := by decide +kernel
theorem dX3_init_15 : decode cX3_init 15 = .ok (.newarray .int, 2) := by decide +kernel
theorem dX3_init_17 : decode cX3_init 17 = .ok (.putfield 15, 3) := by decide +kernel
theorem dX3_init_20 : decode cX3_init 20 = .ok (.aload_n 0, 1) := by decide +kernel
theorem dX3_init_21 : decode cX3_init 21 = .ok (.bipush 49, 2) := by decide +kernel
theorem dX3_init_23 : decode cX3_init 23 = .ok (.newarray .int, 2) := by decide +kernel
theorem dX3_init_25 : decode cX3_init 25 = .ok (.putfield 18, 3) := by decide +kernel
theorem dX3_init_28 : decode cX3_init 28 = .ok (.aload_n 0, 1) := by decide +kernel
theorem dX3_init_29 : decode cX3_init 29 = .ok (.bipush 49, 2) := by decide +kernel
theorem dX3_init_31 : decode cX3_init 31 = .ok (.newarray .int, 2) := by decide +kernel
theorem dX3_init_33 : decode cX3_init 33 = .ok (.putfield 21, 3) := by decide +kernel
theorem dX3_init_36 : decode cX3_init 36 = .ok (.aload_n 0, 1) := by decide +kernel
theorem dX3_init_37 : decode cX3_init 37 = .ok (.bipush 6, 2) := by decide +kernel
theorem dX3_init_39 : decode cX3_init 39 = .ok (.newarray .int, 2) := by decide +kernel
theorem dX3_init_41 : decode cX3_init 41 = .ok (.putfield 24, 3) := by decide +kernel
theorem dX3_init_44 : decode cX3_init 44 = .ok (.aload_n 0, 1) := by decide +kernel
theorem dX3_init_45 : decode cX3_init 45 = .ok (.bipush 6, 2) := by decide +kernel
theorem dX3_init_47 : decode cX3_init 47 = .ok (.newarray .int, 2) := by decide +kernel
theorem dX3_init_49 : decode cX3_init 49 = .ok (.putfield 27, 3) := by decide +kernel
theorem dX3_init_52 : decode cX3_init 52 = .ok (.aload_n 0, 1) := by decide +kernel
theorem dX3_init_53 : decode cX3_init 53 = .ok (.bipush 6, 2) := by decide +kernel
theorem dX3_init_55 : decode cX3_init 55 = .ok (.newarray .int, 2) := by decide +kernel
theorem dX3_init_57 : decode cX3_init 57 = .ok (.putfield 30, 3) := by decide +kernel
theorem dX3_init_60 : decode cX3_init 60 = .ok (.aload_n 0, 1) := by decide +kernel
theorem dX3_init_61 : decode cX3_init 61 = .ok (.bipush 6, 2) := by decide +kernel
theorem dX3_init_63 : decode cX3_init 63 = .ok (.newarray .int, 2) := by decide +kernel
theorem dX3_init_65 : decode cX3_init 65 = .ok (.putfield 33, 3) := by decide +kernel
theorem dX3_init_68 : decode cX3_init 68 = .ok (.aload_n 0, 1) := by decide +kernel
theorem dX3_init_69 : decode cX3_init 69 = .ok (.bipush 36, 2) := by decide +kernel
theorem dX3_init_71 : decode cX3_init 71 = .ok (.newarray .int, 2) := by decide +kernel
theorem dX3_init_73 : decode cX3_init 73 = .ok (.putfield 36, 3) := by decide +kernel
theorem dX3_init_76 : decode cX3_init 76 = .ok (.aload_n 0, 1) := by decide +kernel
theorem dX3_init_77 : decode cX3_init 77 = .ok (.getstatic 39, 3) := by decide +kernel
theorem dX3_init_80 : decode cX3_init 80 = .ok (.putfield 42, 3) := by decide +kernel
theorem dX3_init_83 : decode cX3_init 83 = .ok (.aload_n 0, 1) := by decide +kernel
theorem dX3_init_84 : decode cX3_init 84 = .ok (.getstatic 45, 3) := by decide +kernel
theorem dX3_init_87 : decode cX3_init 87 = .ok (.putfield 48, 3) := by decide +kernel
theorem dX3_init_90 : decode cX3_init 90 = .ok (.aload_n 0, 1) := by decide +kernel
theorem dX3_init_91 : decode cX3_init 91 = .ok (.bipush 99, 2) := by decide +kernel
theorem dX3_init_93 : decode cX3_init 93 = .ok (.putfield 51, 3) := by decide +kernel
theorem dX3_init_96 : decode cX3_init 96 = .ok (.aload_n 0, 1) := by decide +kernel
theorem dX3_init_97 : decode cX3_init 97 = .ok (.bipush 60, 2) := by decide +kernel
theorem dX3_init_99 : decode cX3_init 99 = .ok (.putfield 55, 3) := by decide +kernel
theorem dX3_init_102 : decode cX3_init 102 = .ok (.aload_n 0, 1) := by decide +kernel
theorem dX3_init_103 : decode cX3_init 103 = .ok (.sipush 360, 3) := by decide +kernel
theorem dX3_init_106 : decode cX3_init 106 = .ok (.putfield 58, 3) := by decide +kernel
theorem dX3_init_109 : decode cX3_init 109 = .ok (.return_, 1) := by decide +kernel
theorem dX3_clear_0 : decode cX3_clear 0 = .ok (.aload_n 0, 1) := by decide +kernel
theorem dX3_clear_1 : decode cX3_clear 1 = .ok (.iconst 0, 1) := by decide +kernel
theorem dX3_clear_2 : decode cX3_clear 2 = .ok (.putfield 61, 3) := by decide +kernel
theorem dX3_clear_5 : decode cX3_clear 5 = .ok (.aload_n 0, 1) := by decide +kernel
theorem dX3_clear_6 : decode cX3_clear 6 = .ok (.iconst 0, 1) := by decide +kernel
theorem dX3_clear_7 : decode cX3_clear 7 = .ok (.putfield 64, 3) := by decide +kernel
theorem dX3_clear_10 : decode cX3_clear 10 = .ok (.aload_n 0, 1) := by decide +kernel
theorem dX3_clear_11 : decode cX3_clear 11 = .ok (.iconst 0, 1) := by decide +kernel
theorem dX3_clear_12 : decode cX3_clear 12 = .ok (.putfield 67, 3) := by decide +kernel
theorem dX3_clear_15 : decode cX3_clear 15 = .ok (.aload_n 0, 1) := by decide +kernel
theorem dX3_clear_16 : decode cX3_clear 16 = .ok (.getfield 18, 3) := by decide +kernel
theorem dX3_clear_19 : decode cX3_clear 19 = .ok (.iconst 0, 1) := by decide +kernel
theorem dX3_clear_20 : decode cX3_clear 20 = .ok (.invokestatic 70, 3) := by decide +kernel
theorem dX3_clear_23 : decode cX3_clear 23 = .ok (.aload_n 0, 1) := by decide +kernel
theorem dX3_clear_24 : decode cX3_clear 24 = .ok (.getfield 36, 3) := by decide +kernel
theorem dX3_clear_27 : decode cX3_clear 27 = .ok (.iconst 0, 1) := by decide +kernel
theorem dX3_clear_28 : decode cX3_clear 28 = .ok (.invokestatic 70, 3) := by decide +kernel
theorem dX3_clear_31 : decode cX3_clear 31 = .ok (.aload_n 0, 1) := by decide +kernel
theorem dX3_clear_32 : decode cX3_clear 32 = .ok (.getstatic 39, 3) := by decide +kernel
theorem dX3_clear_35 : decode cX3_clear 35 = .ok (.putfield 42, 3) := by decide +kernel
theorem dX3_clear_38 : decode cX3_clear 38 = .ok (.aload_n 0, 1) := by decide +kernel
theorem dX3_clear_39 : decode cX3_clear 39 = .ok (.getstatic 45, 3) := by decide +kernel
theorem dX3_clear_42 : decode cX3_clear 42 = .ok (.putfield 48, 3) := by decide +kernel
theorem dX3_clear_45 : decode cX3_clear 45 = .ok (.aload_n 0, 1) := by decide +kernel
theorem dX3_clear_46 : decode cX3_clear 46 = .ok (.bipush 99, 2) := by decide +kernel
theorem dX3_clear_48 : decode cX3_clear 48 = .ok (.putfield 51, 3) := by decide +kernel
theorem dX3_clear_51 : decode cX3_clear 51 = .ok (.aload_n 0, 1) := by decide +kernel
theorem dX3_clear_52 : decode cX3_clear 52 = .ok (.bipush 60, 2) := by decide +kernel
theorem dX3_clear_54 : decode cX3_clear 54 = .ok (.putfield 55, 3) := by decide +kernel
theorem dX3_clear_57 : decode cX3_clear 57 = .ok (.aload_n 0, 1) := by decide +kernel
theorem dX3_clear_58 : decode cX3_clear 58 = .ok (.sipush 360, 3) := by decide +kernel
theorem dX3_clear_61 : decode cX3_clear 61 = .ok (.putfield 58, 3) := by decide +kernel
theorem dX3_clear_64 : decode cX3_clear 64 = .ok (.return_, 1) := by decide +kernel
theorem dX3_copyFrom_0 : decode cX3_copyFrom 0 = .ok (.aload_n 0, 1) := by decide +kernel
theorem dX3_copyFrom_1 : decode cX3_copyFrom 1 = .ok (.aload_n 1, 1) := by decide +kernel
theorem dX3_copyFrom_2 : decode cX3_copyFrom 2 = .ok (.getfield 61, 3) := by decide +kernel
theorem dX3_copyFrom_5 : decode cX3_copyFrom 5 = .ok (.putfield 61, 3) := by decide +kernel
theorem dX3_copyFrom_8 : decode cX3_copyFrom 8 = .ok (.aload_n 0, 1) := by decide +kernel
theorem dX3_copyFrom_9 : decode cX3_copyFrom 9 = .ok (.aload_n 1, 1) := by decide +kernel
theorem dX3_copyFrom_10 : decode cX3_copyFrom 10 = .ok (.getfield 64, 3) := by decide +kernel
theorem dX3_copyFrom_13 : decode cX3_copyFrom 13 = .ok (.putfield 64, 3) := by decide +kernel
theorem dX3_copyFrom_16 : decode cX3_copyFrom 16 = .ok (.aload_n 0, 1) := by decide +kernel
theorem dX3_copyFrom_17 : decode cX3_copyFrom 17 = .ok (.aload_n 1, 1) := by decide +kernel
theorem dX3_copyFrom_18 : decode cX3_copyFrom 18 = .ok (.getfield 67, 3) := by decide +kernel
theorem dX3_copyFrom_21 : decode cX3_copyFrom 21 = .ok (.putfield 67, 3) := by decide +kernel
theorem dX3_copyFrom_24 : decode cX3_copyFrom 24 = .ok (.aload_n 1, 1) := by decide +kernel
theorem dX3_copyFrom_25 : decode cX3_copyFrom 25 = .ok (.getfield 9, 3) := by decide +kernel
theorem dX3_copyFrom_28 : decode cX3_copyFrom 28 = .ok (.iconst 0, 1) := by decide +kernel
theorem dX3_copyFrom_29 : decode cX3_copyFrom 29 = .ok (.aload_n 0, 1) := by decide +kernel
theorem dX3_copyFrom_30 : decode cX3_copyFrom 30 = .ok (.getfield 9, 3) := by decide +kernel
theorem dX3_copyFrom_33 : decode cX3_copyFrom 33 = .ok (.iconst 0, 1) := by decide +kernel
theorem dX3_copyFrom_34 : decode cX3_copyFrom 34 = .ok (.aload_n 0, 1) := by decide +kernel
theorem dX3_copyFrom_35 : decode cX3_copyFrom 35 = .ok (.getfield 9, 3) := by decide +kernel
theorem dX3_copyFrom_38 : decode cX3_copyFrom 38 = .ok (.arraylength, 1) := by decide +kernel
theorem dX3_copyFrom_39 : decode cX3_copyFrom 39 = .ok (.invokestatic 76, 3) := by decide +kernel
theorem dX3_copyFrom_42 : decode cX3_copyFrom 42 = .ok (.aload_n 1, 1) := by decide +kernel
theorem dX3_copyFrom_43 : decode cX3_copyFrom 43 = .ok (.getfield 15, 3) := by decide +kernel
theorem dX3_copyFrom_46 : decode cX3_copyFrom 46 = .ok (.iconst 0, 1) := by decide +kernel
theorem dX3_copyFrom_47 : decode cX3_copyFrom 47 = .ok (.aload_n 0, 1) := by decide +kernel
theorem dX3_copyFrom_48 : decode cX3_copyFrom 48 = .ok (.getfield 15, 3) := by decide +kernel
theorem dX3_copyFrom_51 : decode cX3_copyFrom 51 = .ok (.iconst 0, 1) := by decide +kernel
theorem dX3_copyFrom_52 : decode cX3_copyFrom 52 = .ok (.aload_n 0, 1) := by decide +kernel
theorem dX3_copyFrom_53 : decode cX3_copyFrom 53 = .ok (.getfield 15, 3) := by decide +kernel
theorem dX3_copyFrom_56 : decode cX3_copyFrom 56 = .ok (.arraylength, 1) := by decide +kernel
theorem dX3_copyFrom_57 : decode cX3_copyFrom 57 = .ok (.invokestatic 76, 3) := by decide +kernel
theorem dX3_copyFrom_60 : decode cX3_copyFrom 60 = .ok (.aload_n 1, 1) := by decide +kernel
theorem dX3_copyFrom_61 : decode cX3_copyFrom 61 = .ok (.getfield 18, 3) := by decide +kernel
theorem dX3_copyFrom_64 : decode cX3_copyFrom 64 = .ok (.iconst 0, 1) := by decide +kernel
theorem dX3_copyFrom_65 : decode cX3_copyFrom 65 = .ok (.aload_n 0, 1) := by decide +kernel
theorem dX3_copyFrom_66 : decode cX3_copyFrom 66 = .ok (.getfield 18, 3) := by decide +kernel
theorem dX3_copyFrom_69 : decode cX3_copyFrom 69 = .ok (.iconst 0, 1) := by decide +kernel
theorem dX3_copyFrom_70 : decode cX3_copyFrom 70 = .ok (.aload_n 0, 1) := by decide +kernel
theorem dX3_copyFrom_71 : decode cX3_copyFrom 71 = .ok (.getfield 18, 3) := by decide +kernel
theorem dX3_copyFrom_74 : decode cX3_copyFrom 74 = .ok (.arraylength, 1) := by decide +kernel
theorem dX3_copyFrom_75 : decode cX3_copyFrom 75 = .ok (.invokestatic 76, 3) := by decide +kernel
theorem dX3_copyFrom_78 : decode cX3_copyFrom 78 = .ok (.aload_n 1, 1) := by decide +kernel
theorem dX3_copyFrom_79 : decode cX3_copyFrom 79 = .ok (.getfield 21, 3) := by decide +kernel
theorem dX3_copyFrom_82 : decode cX3_copyFrom 82 = .ok (.iconst 0, 1) := by decide +kernel
theorem dX3_copyFrom_83 : decode cX3_copyFrom 83 = .ok (.aload_n 0, 1) := by decide +kernel
theorem dX3_copyFrom_84 : decode cX3_copyFrom 84 = .ok (.getfield 21, 3) := by decide +kernel
theorem dX3_copyFrom_87 : decode cX3_copyFrom 87 = .ok (.iconst 0, 1) := by decide +kernel
theorem dX3_copyFrom_88 : decode cX3_copyFrom 88 = .ok (.aload_n 0, 1) := by decide +kernel
theorem dX3_copyFrom_89 : decode cX3_copyFrom 89 = .ok (.getfield 21, 3) := by decide +kernel
theorem dX3_copyFrom_92 : decode cX3_copyFrom 92 = .ok (.arraylength, 1) := by decide +kernel
theorem dX3_copyFrom_93 : decode cX3_copyFrom 93 = .ok (.invokestatic 76, 3) := by decide +kernel
theorem dX3_copyFrom_96 : decode cX3_copyFrom 96 = .ok (.aload_n 1, 1) := by decide +kernel
theorem dX3_copyFrom_97 : decode cX3_copyFrom 97 = .ok (.getfield 24, 3) := by decide +kernel
theorem dX3_copyFrom_100 : decode cX3_copyFrom 100 = .ok (.iconst 0, 1) := by decide +kernel
theorem dX3_copyFrom_101 : decode cX3_copyFrom 101 = .ok (.aload_n 0, 1) := by decide +kernel
theorem dX3_copyFrom_102 : decode cX3_copyFrom 102 = .ok (.getfield 24, 3) := by decide +kernel
theorem dX3_copyFrom_105 : decode cX3_copyFrom 105 = .ok (.iconst 0, 1) := by decide +kernel
theorem dX3_copyFrom_106 : decode cX3_copyFrom 106 = .ok (.aload_n 0, 1) := by decide +kernel
theorem dX3_copyFrom_107 : decode cX3_copyFrom 107 = .ok (.getfield 24, 3) := by decide +kernel
theorem dX3_copyFrom_110 : decode cX3_copyFrom 110 = .ok (.arraylength, 1) := by decide +kernel
theorem dX3_copyFrom_111 : decode cX3_copyFrom 111 = .ok (.invokestatic 76, 3) := by decide +kernel
theorem dX3_copyFrom_114 : decode cX3_copyFrom 114 = .ok (.aload_n 1, 1) := by decide +kernel
theorem dX3_copyFrom_115 : decode cX3_copyFrom 115 = .ok (.getfield 27, 3) := by decide +kernel
theorem dX3_copyFrom_118 : decode cX3_copyFrom 118 = .ok (.iconst 0, 1) := by decide +kernel
theorem dX3_copyFrom_119 : decode cX3_copyFrom 119 = .ok (.aload_n 0, 1) := by decide +kernel
theorem dX3_copyFrom_120 : decode cX3_copyFrom 120 = .ok (.getfield 27, 3) := by decide +kernel
theorem dX3_copyFrom_123 : decode cX3_copyFrom 123 = .ok (.iconst 0, 1) := by decide +kernel
theorem dX3_copyFrom_124 : decode cX3_copyFrom 124 = .ok (.aload_n 0, 1) := by decide +kernel
theorem dX3_copyFrom_125 : decode cX3_copyFrom 125 = .ok (.getfield 27, 3) := by decide +kernel
theorem dX3_copyFrom_128 : decode cX3_copyFrom 128 = .ok (.arraylength, 1) := by decide +kernel
theorem dX3_copyFrom_129 : decode cX3_copyFrom 129 = .ok (.invokestatic 76, 3) := by decide +kernel
theorem dX3_copyFrom_132 : decode cX3_copyFrom 132 = .ok (.aload_n 1, 1) := by decide +kernel
theorem dX3_copyFrom_133 : decode cX3_copyFrom 133 = .ok (.getfield 30, 3) := by decide +kernel
theorem dX3_copyFrom_136 : decode cX3_copyFrom 136 = .ok (.iconst 0, 1) := by decide +kernel
theorem dX3_copyFrom_137 : decode cX3_copyFrom 137 = .ok (.aload_n 0, 1) := by decide +kernel
theorem dX3_copyFrom_138 : decode cX3_copyFrom 138 = .ok (.getfield 30, 3) := by decide +kernel
theorem dX3_copyFrom_141 : decode cX3_copyFrom 141 = .ok (.iconst 0, 1) := by decide +kernel
theorem dX3_copyFrom_142 : decode cX3_copyFrom 142 = .ok (.aload_n 0, 1) := by decide +kernel
theorem dX3_copyFrom_143 : decode cX3_copyFrom 143 = .ok (.getfield 30, 3) := by decide +kernel
theorem dX3_copyFrom_146 : decode cX3_copyFrom 146 = .ok (.arraylength, 1) := by decide +kernel
theorem dX3_copyFrom_147 : decode cX3_copyFrom 147 = .ok (.invokestatic 76, 3) := by decide +kernel
theorem dX3_copyFrom_150 : decode cX3_copyFrom 150 = .ok (.aload_n 1, 1) := by decide +kernel
theorem dX3_copyFrom_151 : decode cX3_copyFrom 151 = .ok (.getfield 33, 3) := by decide +kernel
theorem dX3_copyFrom_154 : decode cX3_copyFrom 154 = .ok (.iconst 0, 1) := by decide +kernel
theorem dX3_copyFrom_155 : decode cX3_copyFrom 155 = .ok (.aload_n 0, 1) := by decide +kernel
theorem dX3_copyFrom_156 : decode cX3_copyFrom 156 = .ok (.getfield 33, 3) := by decide +kernel
theorem dX3_copyFrom_159 : decode cX3_copyFrom 159 = .ok (.iconst 0, 1) := by decide +kernel
theorem dX3_copyFrom_160 : decode cX3_copyFrom 160 = .ok (.aload_n 0, 1) := by decide +kernel
theorem dX3_copyFrom_161 : decode cX3_copyFrom 161 = .ok (.getfield 33, 3) := by decide +kernel
theorem dX3_copyFrom_164 : decode cX3_copyFrom 164 = .ok (.arraylength, 1) := by decide +kernel
theorem dX3_copyFrom_165 : decode cX3_copyFrom 165 = .ok (.invokestatic 76, 3) := by decide +kernel
theorem dX3_copyFrom_168 : decode cX3_copyFrom 168 = .ok (.aload_n 1, 1) := by decide +kernel
theorem dX3_copyFrom_169 : decode cX3_copyFrom 169 = .ok (.getfield 36, 3) := by decide +kernel
theorem dX3_copyFrom_172 : decode cX3_copyFrom 172 = .ok (.iconst 0, 1) := by decide +kernel
theorem dX3_copyFrom_173 : decode cX3_copyFrom 173 = .ok (.aload_n 0, 1) := by decide +kernel
theorem dX3_copyFrom_174 : decode cX3_copyFrom 174 = .ok (.getfield 36, 3) := by decide +kernel
theorem dX3_copyFrom_177 : decode cX3_copyFrom 177 = .ok (.iconst 0, 1) := by decide +kernel
theorem dX3_copyFrom_178 : decode cX3_copyFrom 178 = .ok (.aload_n 0, 1) := by decide +kernel
theorem dX3_copyFrom_179 : decode cX3_copyFrom 179 = .ok (.getfield 36, 3) := by decide +kernel
theorem dX3_copyFrom_182 : decode cX3_copyFrom 182 = .ok (.arraylength, 1) := by decide +kernel
theorem dX3_copyFrom_183 : decode cX3_copyFrom 183 = .ok (.invokestatic 76, 3) := by decide +kernel
theorem dX3_copyFrom_186 : decode cX3_copyFrom 186 = .ok (.aload_n 0, 1) := by decide +kernel
theorem dX3_copyFrom_187 : decode cX3_copyFrom 187 = .ok (.aload_n 1, 1) := by decide +kernel
theorem dX3_copyFrom_188 : decode cX3_copyFrom 188 = .ok (.getfield 42, 3) := by decide +kernel
theorem dX3_copyFrom_191 : decode cX3_copyFrom 191 = .ok (.putfield 42, 3) := by decide +kernel
theorem dX3_copyFrom_194 : decode cX3_copyFrom 194 = .ok (.aload_n 0, 1) := by decide +kernel
theorem dX3_copyFrom_195 : decode cX3_copyFrom 195 = .ok (.aload_n 1, 1) := by decide +kernel
theorem dX3_copyFrom_196 : decode cX3_copyFrom 196 = .ok (.getfield 48, 3) := by decide +kernel
theorem dX3_copyFrom_199 : decode cX3_copyFrom 199 = .ok (.putfield 48, 3) := by decide +kernel
theorem dX3_copyFrom_202 : decode cX3_copyFrom 202 = .ok (.aload_n 0, 1) := by decide +kernel
theorem dX3_copyFrom_203 : decode cX3_copyFrom 203 = .ok (.aload_n 1, 1) := by decide +kernel
theorem dX3_copyFrom_204 : decode cX3_copyFrom 204 = .ok (.getfield 51, 3) := by decide +kernel
theorem dX3_copyFrom_207 : decode cX3_copyFrom 207 = .ok (.putfield 51, 3) := by decide +kernel
theorem dX3_copyFrom_210 : decode cX3_copyFrom 210 = .ok (.aload_n 0, 1) := by decide +kernel
theorem dX3_copyFrom_211 : decode cX3_copyFrom 211 = .ok (.aload_n 1, 1) := by decide +kernel
theorem dX3_copyFrom_212 : decode cX3_copyFrom 212 = .ok (.getfield 55, 3) := by decide +kernel
theorem dX3_copyFrom_215 : decode cX3_copyFrom 215 = .ok (.putfield 55, 3) := by decide +kernel
theorem dX3_copyFrom_218 : decode cX3_copyFrom 218 = .ok (.aload_n 0, 1) := by decide +kernel
theorem dX3_copyFrom_219 : decode cX3_copyFrom 219 = .ok (.aload_n 1, 1) := by decide +kernel
theorem dX3_copyFrom_220 : decode cX3_copyFrom 220 = .ok (.getfield 58, 3) := by decide +kernel
theorem dX3_copyFrom_223 : decode cX3_copyFrom 223 = .ok (.putfield 58, 3) := by decide +kernel
theorem dX3_copyFrom_226 : decode cX3_copyFrom 226 = .ok (.return_, 1) := by decide +kernel
theorem dX3_hasStation_0 : decode cX3_hasStation 0 = .ok (.iload_n 1, 1) := by decide +kernel
theorem dX3_hasStation_1 : decode cX3_hasStation 1 = .ok (.ifCond .lt 15, 3) := by decide +kernel
theorem dX3_hasStation_4 : decode cX3_hasStation 4 = .ok (.iload_n 1, 1) := by decide +kernel
theorem dX3_hasStation_5 : decode cX3_hasStation 5 = .ok (.aload_n 0, 1) := by decide +kernel
theorem dX3_hasStation_6 : decode cX3_hasStation 6 = .ok (.getfield 61, 3) := by decide +kernel
theorem dX3_hasStation_9 : decode cX3_hasStation 9 = .ok (.if_icmp .ge 7, 3) := by decide +kernel
theorem dX3_hasStation_12 : decode cX3_hasStation 12 = .ok (.iconst 1, 1) := by decide +kernel
theorem dX3_hasStation_13 : decode cX3_hasStation 13 = .ok (.goto 4, 3) := by decide +kernel
theorem dX3_hasStation_16 : decode cX3_hasStation 16 = .ok (.iconst 0, 1) := by decide +kernel
theorem dX3_hasStation_17 : decode cX3_hasStation 17 = .ok (.ireturn, 1) := by decide +kernel
theorem dX3_hasCarrier_0 : decode cX3_hasCarrier 0 = .ok (.iload_n 1, 1) := by decide +kernel
theorem dX3_hasCarrier_1 : decode cX3_hasCarrier 1 = .ok (.ifCond .lt 15, 3) := by decide +kernel
theorem dX3_hasCarrier_4 : decode cX3_hasCarrier 4 = .ok (.iload_n 1, 1) := by decide +kernel
theorem dX3_hasCarrier_5 : decode cX3_hasCarrier 5 = .ok (.aload_n 0, 1) := by decide +kernel
theorem dX3_hasCarrier_6 : decode cX3_hasCarrier 6 = .ok (.getfield 67, 3) := by decide +kernel
theorem dX3_hasCarrier_9 : decode cX3_hasCarrier 9 = .ok (.if_icmp .ge 7, 3) := by decide +kernel
theorem dX3_hasCarrier_12 : decode cX3_hasCarrier 12 = .ok (.iconst 1, 1) := by decide +kernel
theorem dX3_hasCarrier_13 : decode cX3_hasCarrier 13 = .ok (.goto 4, 3) := by decide +kernel
theorem dX3_hasCarrier_16 : decode cX3_hasCarrier 16 = .ok (.iconst 0, 1) := by decide +kernel
theorem dX3_hasCarrier_17 : decode cX3_hasCarrier 17 = .ok (.ireturn, 1) := by decide +kernel
theorem dX3_hasWay_0 : decode cX3_hasWay 0 = .ok (.aload_n 0, 1) := by decide +kernel
theorem dX3_hasWay_1 : decode cX3_hasWay 1 = .ok (.getfield 18, 3) := by decide +kernel
theorem dX3_hasWay_4 : decode cX3_hasWay 4 = .ok (.iload_n 1, 1) := by decide +kernel
theorem dX3_hasWay_5 : decode cX3_hasWay 5 = .ok (.bipush 7, 2) := by decide +kernel
theorem dX3_hasWay_7 : decode cX3_hasWay 7 = .ok (.imul, 1) := by decide +kernel
theorem dX3_hasWay_8 : decode cX3_hasWay 8 = .ok (.iload_n 2, 1) := by decide +kernel
theorem dX3_hasWay_9 : decode cX3_hasWay 9 = .ok (.iadd, 1) := by decide +kernel
theorem dX3_hasWay_10 : decode cX3_hasWay 10 = .ok (.iaload, 1) := by decide +kernel
theorem dX3_hasWay_11 : decode cX3_hasWay 11 = .ok (.ifCond .le 7, 3) := by decide +kernel
theorem dX3_hasWay_14 : decode cX3_hasWay 14 = .ok (.iconst 1, 1) := by decide +kernel
theorem dX3_hasWay_15 : decode cX3_hasWay 15 = .ok (.goto 4, 3) := by decide +kernel
theorem dX3_hasWay_18 : decode cX3_hasWay 18 = .ok (.iconst 0, 1) := by decide +kernel
theorem dX3_hasWay_19 : decode cX3_hasWay 19 = .ok (.ireturn, 1) := by decide +kernel
theorem dX3_tellWay_0 : decode cX3_tellWay 0 = .ok (.aload_n 0, 1) := by decide +kernel
theorem dX3_tellWay_1 : decode cX3_tellWay 1 = .ok (.getfield 18, 3) := by decide +kernel
theorem dX3_tellWay_4 : decode cX3_tellWay 4 = .ok (.iload_n 1, 1) := by decide +kernel
theorem dX3_tellWay_5 : decode cX3_tellWay 5 = .ok (.bipush 7, 2) := by decide +kernel
theorem dX3_tellWay_7 : decode cX3_tellWay 7 = .ok (.imul, 1) := by decide +kernel
theorem dX3_tellWay_8 : decode cX3_tellWay 8 = .ok (.iload_n 2, 1) := by decide +kernel
theorem dX3_tellWay_9 : decode cX3_tellWay 9 = .ok (.iadd, 1) := by decide +kernel
theorem dX3_tellWay_10 : decode cX3_tellWay 10 = .ok (.iload_n 3, 1) := by decide +kernel
theorem dX3_tellWay_11 : decode cX3_tellWay 11 = .ok (.iastore, 1) := by decide +kernel
theorem dX3_tellWay_12 : decode cX3_tellWay 12 = .ok (.aload_n 0, 1) := by decide +kernel
theorem dX3_tellWay_13 : decode cX3_tellWay 13 = .ok (.getfield 18, 3) := by decide +kernel
theorem dX3_tellWay_16 : decode cX3_tellWay 16 = .ok (.iload_n 2, 1) := by decide +kernel
theorem dX3_tellWay_17 : decode cX3_tellWay 17 = .ok (.bipush 7, 2) := by decide +kernel
theorem dX3_tellWay_19 : decode cX3_tellWay 19 = .ok (.imul, 1) := by decide +kernel
theorem dX3_tellWay_20 : decode cX3_tellWay 20 = .ok (.iload_n 1, 1) := by decide +kernel
theorem dX3_tellWay_21 : decode cX3_tellWay 21 = .ok (.iadd, 1) := by decide +kernel
theorem dX3_tellWay_22 : decode cX3_tellWay 22 = .ok (.iload_n 3, 1) := by decide +kernel
theorem dX3_tellWay_23 : decode cX3_tellWay 23 = .ok (.iastore, 1) := by decide +kernel
theorem dX3_tellWay_24 : decode cX3_tellWay 24 = .ok (.aload_n 0, 1) := by decide +kernel
theorem dX3_tellWay_25 : decode cX3_tellWay 25 = .ok (.getfield 21, 3) := by decide +kernel
theorem dX3_tellWay_28 : decode cX3_tellWay 28 = .ok (.iload_n 1, 1) := by decide +kernel
theorem dX3_tellWay_29 : decode cX3_tellWay 29 = .ok (.bipush 7, 2) := by decide +kernel
theorem dX3_tellWay_31 : decode cX3_tellWay 31 = .ok (.imul, 1) := by decide +kernel
theorem dX3_tellWay_32 : decode cX3_tellWay 32 = .ok (.iload_n 2, 1) := by decide +kernel
theorem dX3_tellWay_33 : decode cX3_tellWay 33 = .ok (.iadd, 1) := by decide +kernel
theorem dX3_tellWay_34 : decode cX3_tellWay 34 = .ok (.iload 4, 2) := by decide +kernel
theorem dX3_tellWay_36 : decode cX3_tellWay 36 = .ok (.iastore, 1) := by decide +kernel
theorem dX3_tellWay_37 : decode cX3_tellWay 37 = .ok (.aload_n 0, 1) := by decide +kernel
theorem dX3_tellWay_38 : decode cX3_tellWay 38 = .ok (.getfield 21, 3) := by decide +kernel
theorem dX3_tellWay_41 : decode cX3_tellWay 41 = .ok (.iload_n 2, 1) := by decide +kernel
theorem dX3_tellWay_42 : decode cX3_tellWay 42 = .ok (.bipush 7, 2) := by decide +kernel
theorem dX3_tellWay_44 : decode cX3_tellWay 44 = .ok (.imul, 1) := by decide +kernel
theorem dX3_tellWay_45 : decode cX3_tellWay 45 = .ok (.iload_n 1, 1) := by decide +kernel
theorem dX3_tellWay_46 : decode cX3_tellWay 46 = .ok (.iadd, 1) := by decide +kernel
theorem dX3_tellWay_47 : decode cX3_tellWay 47 = .ok (.iload 4, 2) := by decide +kernel
theorem dX3_tellWay_49 : decode cX3_tellWay 49 = .ok (.iastore, 1) := by decide +kernel
theorem dX3_tellWay_50 : decode cX3_tellWay 50 = .ok (.aload_n 0, 1) := by decide +kernel
theorem dX3_tellWay_51 : decode cX3_tellWay 51 = .ok (.dup, 1) := by decide +kernel
theorem dX3_tellWay_52 : decode cX3_tellWay 52 = .ok (.getfield 64, 3) := by decide +kernel
theorem dX3_tellWay_55 : decode cX3_tellWay 55 = .ok (.iconst 1, 1) := by decide +kernel
theorem dX3_tellWay_56 : decode cX3_tellWay 56 = .ok (.iadd, 1) := by decide +kernel
theorem dX3_tellWay_57 : decode cX3_tellWay 57 = .ok (.putfield 64, 3) := by decide +kernel
theorem dX3_tellWay_60 : decode cX3_tellWay 60 = .ok (.return_, 1) := by decide +kernel
theorem dX3_holds_0 : decode cX3_holds 0 = .ok (.aload_n 0, 1) := by decide +kernel
theorem dX3_holds_1 : decode cX3_holds 1 = .ok (.getfield 24, 3) := by decide +kernel
theorem dX3_holds_4 : decode cX3_holds 4 = .ok (.iload_n 1, 1) := by decide +kernel
theorem dX3_holds_5 : decode cX3_holds 5 = .ok (.iaload, 1) := by decide +kernel
theorem dX3_holds_6 : decode cX3_holds 6 = .ok (.iconst 2, 1) := by decide +kernel
theorem dX3_holds_7 : decode cX3_holds 7 = .ok (.if_icmp .ne 14, 3) := by decide +kernel
theorem dX3_holds_10 : decode cX3_holds 10 = .ok (.iconst 2, 1) := by decide +kernel
theorem dX3_holds_11 : decode cX3_holds 11 = .ok (.aload_n 0, 1) := by decide +kernel
theorem dX3_holds_12 : decode cX3_holds 12 = .ok (.getfield 27, 3) := by decide +kernel
theorem dX3_holds_15 : decode cX3_holds 15 = .ok (.iload_n 1, 1) := by decide +kernel
theorem dX3_holds_16 : decode cX3_holds 16 = .ok (.iaload, 1) := by decide +kernel
theorem dX3_holds_17 : decode cX3_holds 17 = .ok (.imul, 1) := by decide +kernel
theorem dX3_holds_18 : decode cX3_holds 18 = .ok (.goto 9, 3) := by decide +kernel
theorem dX3_holds_21 : decode cX3_holds 21 = .ok (.aload_n 0, 1) := by decide +kernel
theorem dX3_holds_22 : decode cX3_holds 22 = .ok (.getfield 27, 3) := by decide +kernel
theorem dX3_holds_25 : decode cX3_holds 25 = .ok (.iload_n 1, 1) := by decide +kernel
theorem dX3_holds_26 : decode cX3_holds 26 = .ok (.iaload, 1) := by decide +kernel
theorem dX3_holds_27 : decode cX3_holds 27 = .ok (.ireturn, 1) := by decide +kernel
theorem dX4_init_0 : decode cX4_init 0 = .ok (.aload_n 0, 1) := by decide +kernel
theorem dX4_init_1 : decode cX4_init 1 = .ok (.invokespecial 3, 3) := by decide +kernel
theorem dX4_init_4 : decode cX4_init 4 = .ok (.aload_n 0, 1) := by decide +kernel
theorem dX4_init_5 : decode cX4_init 5 = .ok (.sipush 726, 3) := by decide +kernel
theorem dX4_init_8 : decode cX4_init 8 = .ok (.newarray .int, 2) := by decide +kernel
theorem dX4_init_10 : decode cX4_init 10 = .ok (.putfield 11, 3) := by decide +kernel
theorem dX4_init_13 : decode cX4_init 13 = .ok (.aload_n 0, 1) := by decide +kernel
theorem dX4_init_14 : decode cX4_init 14 = .ok (.sipush 1407, 3) := by decide +kernel
theorem dX4_init_17 : decode cX4_init 17 = .ok (.newarray .int, 2) := by decide +kernel
theorem dX4_init_19 : decode cX4_init 19 = .ok (.putfield 15, 3) := by decide +kernel
theorem dX4_init_22 : decode cX4_init 22 = .ok (.aload_n 0, 1) := by decide +kernel
theorem dX4_init_23 : decode cX4_init 23 = .ok (.bipush 6, 2) := by decide +kernel
theorem dX4_init_25 : decode cX4_init 25 = .ok (.newarray .int, 2) := by decide +kernel
theorem dX4_init_27 : decode cX4_init 27 = .ok (.putfield 18, 3) := by decide +kernel
theorem dX4_init_30 : decode cX4_init 30 = .ok (.aload_n 0, 1) := by decide +kernel
theorem dX4_init_31 : decode cX4_init 31 = .ok (.bipush 6, 2) := by decide +kernel
theorem dX4_init_33 : decode cX4_init 33 = .ok (.newarray .int, 2) := by decide +kernel
theorem dX4_init_35 : decode cX4_init 35 = .ok (.putfield 21, 3) := by decide +kernel
theorem dX4_init_38 : decode cX4_init 38 = .ok (.aload_n 0, 1) := by decide +kernel
theorem dX4_init_39 : decode cX4_init 39 = .ok (.aload_n 1, 1) := by decide +kernel
theorem dX4_init_40 : decode cX4_init 40 = .ok (.putfield 24, 3) := by decide +kernel
theorem dX4_init_43 : decode cX4_init 43 = .ok (.aload_n 0, 1) := by decide +kernel
theorem dX4_init_44 : decode cX4_init 44 = .ok (.aload_n 2, 1) := by decide +kernel
theorem dX4_init_45 : decode cX4_init 45 = .ok (.putfield 28, 3) := by decide +kernel
theorem dX4_init_48 : decode cX4_init 48 = .ok (.aload_n 0, 1) := by decide +kernel
theorem dX4_init_49 : decode cX4_init 49 = .ok (.aload_n 3, 1) := by decide +kernel
theorem dX4_init_50 : decode cX4_init 50 = .ok (.putfield 32, 3) := by decide +kernel
theorem dX4_init_53 : decode cX4_init 53 = .ok (.return_, 1) := by decide +kernel
theorem dX4_findBest_0 : decode cX4_findBest 0 = .ok (.aload_n 0, 1) := by decide +kernel
theorem dX4_findBest_1 : decode cX4_findBest 1 = .ok (.iconst (-1), 1) := by decide +kernel
theorem dX4_findBest_2 : decode cX4_findBest 2 = .ok (.putfield 36, 3) := by decide +kernel
theorem dX4_findBest_5 : decode cX4_findBest 5 = .ok (.aload_n 0, 1) := by decide +kernel
theorem dX4_findBest_6 : decode cX4_findBest 6 = .ok (.iconst (-1), 1) := by decide +kernel
theorem dX4_findBest_7 : decode cX4_findBest 7 = .ok (.putfield 40, 3) := by decide +kernel
theorem dX4_findBest_10 : decode cX4_findBest 10 = .ok (.iconst 0, 1) := by decide +kernel
theorem dX4_findBest_11 : decode cX4_findBest 11 = .ok (.istore_n 3, 1) := by decide +kernel
theorem dX4_findBest_12 : decode cX4_findBest 12 = .ok (.iload_n 3, 1) := by decide +kernel
theorem dX4_findBest_13 : decode cX4_findBest 13 = .ok (.aload_n 0, 1) := by decide +kernel
theorem dX4_findBest_14 : decode cX4_findBest 14 = .ok (.getfield 28, 3) := by decide +kernel
theorem dX4_findBest_17 : decode cX4_findBest 17 = .ok (.getfield 43, 3) := by decide +kernel
theorem dX4_findBest_20 : decode cX4_findBest 20 = .ok (.if_icmp .ge 67, 3) := by decide +kernel
theorem dX4_findBest_23 : decode cX4_findBest 23 = .ok (.aload_n 0, 1) := by decide +kernel
theorem dX4_findBest_24 : decode cX4_findBest 24 = .ok (.getfield 32, 3) := by decide +kernel
theorem dX4_findBest_27 : decode cX4_findBest 27 = .ok (.iload_n 1, 1) := by decide +kernel
theorem dX4_findBest_28 : decode cX4_findBest 28 = .ok (.iload_n 3, 1) := by decide +kernel
theorem dX4_findBest_29 : decode cX4_findBest 29 = .ok (.iload_n 2, 1) := by decide +kernel
theorem dX4_findBest_30 : decode cX4_findBest 30 = .ok (.iconst 0, 1) := by decide +kernel
theorem dX4_findBest_31 : decode cX4_findBest 31 = .ok (.invokevirtual 48, 3) := by decide +kernel
theorem dX4_findBest_34 : decode cX4_findBest 34 = .ok (.aload_n 0, 1) := by decide +kernel
theorem dX4_findBest_35 : decode cX4_findBest 35 = .ok (.getfield 32, 3) := by decide +kernel
theorem dX4_findBest_38 : decode cX4_findBest 38 = .ok (.getfield 54, 3) := by decide +kernel
theorem dX4_findBest_41 : decode cX4_findBest 41 = .ok (.aload_n 0, 1) := by decide +kernel
theorem dX4_findBest_42 : decode cX4_findBest 42 = .ok (.getfield 24, 3) := by decide +kernel
theorem dX4_findBest_45 : decode cX4_findBest 45 = .ok (.getfield 57, 3) := by decide +kernel
theorem dX4_findBest_48 : decode cX4_findBest 48 = .ok (.if_icmp .gt 33, 3) := by decide +kernel
theorem dX4_findBest_51 : decode cX4_findBest 51 = .ok (.aload_n 0, 1) := by decide +kernel
theorem dX4_findBest_52 : decode cX4_findBest 52 = .ok (.getfield 32, 3) := by decide +kernel
theorem dX4_findBest_55 : decode cX4_findBest 55 = .ok (.getfield 62, 3) := by decide +kernel
theorem dX4_findBest_58 : decode cX4_findBest 58 = .ok (.aload_n 0, 1) := by decide +kernel
theorem dX4_findBest_59 : decode cX4_findBest 59 = .ok (.getfield 40, 3) := by decide +kernel
theorem dX4_findBest_62 : decode cX4_findBest 62 = .ok (.if_icmp .le 19, 3) := by decide +kernel
theorem dX4_findBest_65 : decode cX4_findBest 65 = .ok (.aload_n 0, 1) := by decide +kernel
theorem dX4_findBest_66 : decode cX4_findBest 66 = .ok (.iload_n 3, 1) := by decide +kernel
theorem dX4_findBest_67 : decode cX4_findBest 67 = .ok (.putfield 36, 3) := by decide +kernel
theorem dX4_findBest_70 : decode cX4_findBest 70 = .ok (.aload_n 0, 1) := by decide +kernel
theorem dX4_findBest_71 : decode cX4_findBest 71 = .ok (.aload_n 0, 1) := by decide +kernel
theorem dX4_findBest_72 : decode cX4_findBest 72 = .ok (.getfield 32, 3) := by decide +kernel
theorem dX4_findBest_75 : decode cX4_findBest 75 = .ok (.getfield 62, 3) := by decide +kernel
theorem dX4_findBest_78 : decode cX4_findBest 78 = .ok (.putfield 40, 3) := by decide +kernel
theorem dX4_findBest_81 : decode cX4_findBest 81 = .ok (.iinc 3 1, 3) := by decide +kernel
theorem dX4_findBest_84 : decode cX4_findBest 84 = .ok (.goto (-72), 3) := by decide +kernel
theorem dX4_findBest_87 : decode cX4_findBest 87 = .ok (.return_, 1) := by decide +kernel
theorem dX4_makeSure_0 : decode cX4_makeSure 0 = .ok (.aload_n 0, 1) := by decide +kernel
theorem dX4_makeSure_1 : decode cX4_makeSure 1 = .ok (.getfield 65, 3) := by decide +kernel
theorem dX4_makeSure_4 : decode cX4_makeSure 4 = .ok (.ifCond .eq 4, 3) := by decide +kernel
theorem dX4_makeSure_7 : decode cX4_makeSure 7 = .ok (.return_, 1) := by decide +kernel
theorem dX4_makeSure_8 : decode cX4_makeSure 8 = .ok (.aload_n 0, 1) := by decide +kernel
theorem dX4_makeSure_9 : decode cX4_makeSure 9 = .ok (.getfield 15, 3) := by decide +kernel
theorem dX4_makeSure_12 : decode cX4_makeSure 12 = .ok (.iconst 0, 1) := by decide +kernel
theorem dX4_makeSure_13 : decode cX4_makeSure 13 = .ok (.invokestatic 69, 3) := by decide +kernel
theorem dX4_makeSure_16 : decode cX4_makeSure 16 = .ok (.aload_n 0, 1) := by decide +kernel
theorem dX4_makeSure_17 : decode cX4_makeSure 17 = .ok (.getfield 24, 3) := by decide +kernel
theorem dX4_makeSure_20 : decode cX4_makeSure 20 = .ok (.getfield 75, 3) := by decide +kernel
theorem dX4_makeSure_23 : decode cX4_makeSure 23 = .ok (.iconst 1, 1) := by decide +kernel
theorem dX4_makeSure_24 : decode cX4_makeSure 24 = .ok (.isub, 1) := by decide +kernel
theorem dX4_makeSure_25 : decode cX4_makeSure 25 = .ok (.istore_n 1, 1) := by decide +kernel
theorem dX4_makeSure_26 : decode cX4_makeSure 26 = .ok (.iload_n 1, 1) := by decide +kernel
theorem dX4_makeSure_27 : decode cX4_makeSure 27 = .ok (.ifCond .lt 19, 3) := by decide +kernel
theorem dX4_makeSure_30 : decode cX4_makeSure 30 = .ok (.aload_n 0, 1) := by decide +kernel
theorem dX4_makeSure_31 : decode cX4_makeSure 31 = .ok (.iload_n 1, 1) := by decide +kernel
theorem dX4_makeSure_32 : decode cX4_makeSure 32 = .ok (.invokevirtual 78, 3) := by decide +kernel
theorem dX4_makeSure_35 : decode cX4_makeSure 35 = .ok (.aload_n 0, 1) := by decide +kernel
theorem dX4_makeSure_36 : decode cX4_makeSure 36 = .ok (.iload_n 1, 1) := by decide +kernel
theorem dX4_makeSure_37 : decode cX4_makeSure 37 = .ok (.invokevirtual 82, 3) := by decide +kernel
theorem dX4_makeSure_40 : decode cX4_makeSure 40 = .ok (.iinc 1 (-1), 3) := by decide +kernel
theorem dX4_makeSure_43 : decode cX4_makeSure 43 = .ok (.goto (-17), 3) := by decide +kernel
theorem dX4_makeSure_46 : decode cX4_makeSure 46 = .ok (.aload_n 0, 1) := by decide +kernel
theorem dX4_makeSure_47 : decode cX4_makeSure 47 = .ok (.aload_n 0, 1) := by decide +kernel
theorem dX4_makeSure_48 : decode cX4_makeSure 48 = .ok (.getfield 15, 3) := by decide +kernel
theorem dX4_makeSure_51 : decode cX4_makeSure 51 = .ok (.aload_n 0, 1) := by decide +kernel
theorem dX4_makeSure_52 : decode cX4_makeSure 52 = .ok (.getfield 24, 3) := by decide +kernel
theorem dX4_makeSure_55 : decode cX4_makeSure 55 = .ok (.getfield 85, 3) := by decide +kernel
theorem dX4_makeSure_58 : decode cX4_makeSure 58 = .ok (.iaload, 1) := by decide +kernel
theorem dX4_makeSure_59 : decode cX4_makeSure 59 = .ok (.putfield 88, 3) := by decide +kernel
theorem dX4_makeSure_62 : decode cX4_makeSure 62 = .ok (.aload_n 0, 1) := by decide +kernel
theorem dX4_makeSure_63 : decode cX4_makeSure 63 = .ok (.invokevirtual 91, 3) := by decide +kernel
theorem dX4_makeSure_66 : decode cX4_makeSure 66 = .ok (.aload_n 0, 1) := by decide +kernel
theorem dX4_makeSure_67 : decode cX4_makeSure 67 = .ok (.iconst 1, 1) := by decide +kernel
theorem dX4_makeSure_68 : decode cX4_makeSure 68 = .ok (.putfield 65, 3) := by decide +kernel
theorem dX4_makeSure_71 : decode cX4_makeSure 71 = .ok (.return_, 1) := by decide +kernel
theorem dX4_mostLoad_0 : decode cX4_mostLoad 0 = .ok (.aload_n 0, 1) := by decide +kernel
theorem dX4_mostLoad_1 : decode cX4_mostLoad 1 = .ok (.getfield 24, 3) := by decide +kernel
theorem dX4_mostLoad_4 : decode cX4_mostLoad 4 = .ok (.iload_n 1, 1) := by decide +kernel
theorem dX4_mostLoad_5 : decode cX4_mostLoad 5 = .ok (.invokevirtual 94, 3) := by decide +kernel
theorem dX4_mostLoad_8 : decode cX4_mostLoad 8 = .ok (.iload_n 2, 1) := by decide +kernel
theorem dX4_mostLoad_9 : decode cX4_mostLoad 9 = .ok (.invokestatic 98, 3) := by decide +kernel
theorem dX4_mostLoad_12 : decode cX4_mostLoad 12 = .ok (.ireturn, 1) := by decide +kernel
theorem dX4_weighLoads_0 : decode cX4_weighLoads 0 = .ok (.aload_n 0, 1) := by decide +kernel
theorem dX4_weighLoads_1 : decode cX4_weighLoads 1 = .ok (.getfield 11, 3) := by decide +kernel
theorem dX4_weighLoads_4 : decode cX4_weighLoads 4 = .ok (.iload_n 1, 1) := by decide +kernel
theorem dX4_weighLoads_5 : decode cX4_weighLoads 5 = .ok (.bipush 121, 2) := by decide +kernel
theorem dX4_weighLoads_7 : decode cX4_weighLoads 7 = .ok (.imul, 1) := by decide +kernel
theorem dX4_weighLoads_8 : decode cX4_weighLoads 8 = .ok (.iconst 0, 1) := by decide +kernel
theorem dX4_weighLoads_9 : decode cX4_weighLoads 9 = .ok (.iastore, 1) := by decide +kernel
theorem dX4_weighLoads_10 : decode cX4_weighLoads 10 = .ok (.iconst 1, 1) := by decide +kernel
theorem dX4_weighLoads_11 : decode cX4_weighLoads 11 = .ok (.istore_n 2, 1) := by decide +kernel
theorem dX4_weighLoads_12 : decode cX4_weighLoads 12 = .ok (.iload_n 2, 1) := by decide +kernel
theorem dX4_weighLoads_13 : decode cX4_weighLoads 13 = .ok (.aload_n 0, 1) := by decide +kernel
theorem dX4_weighLoads_14 : decode cX4_weighLoads 14 = .ok (.iload_n 1, 1) := by decide +kernel
theorem dX4_weighLoads_15 : decode cX4_weighLoads 15 = .ok (.aload_n 0, 1) := by decide +kernel
theorem dX4_weighLoads_16 : decode cX4_weighLoads 16 = .ok (.getfield 24, 3) := by decide +kernel
theorem dX4_weighLoads_19 : decode cX4_weighLoads 19 = .ok (.getfield 85, 3) := by decide +kernel
theorem dX4_weighLoads_22 : decode cX4_weighLoads 22 = .ok (.invokevirtual 104, 3) := by decide +kernel
theorem dX4_weighLoads_25 : decode cX4_weighLoads 25 = .ok (.if_icmp .gt 30, 3) := by decide +kernel
theorem dX4_weighLoads_28 : decode cX4_weighLoads 28 = .ok (.aload_n 0, 1) := by decide +kernel
theorem dX4_weighLoads_29 : decode cX4_weighLoads 29 = .ok (.iload_n 1, 1) := by decide +kernel
theorem dX4_weighLoads_30 : decode cX4_weighLoads 30 = .ok (.iload_n 2, 1) := by decide +kernel
theorem dX4_weighLoads_31 : decode cX4_weighLoads 31 = .ok (.invokevirtual 107, 3) := by decide +kernel
theorem dX4_weighLoads_34 : decode cX4_weighLoads 34 = .ok (.aload_n 0, 1) := by decide +kernel
theorem dX4_weighLoads_35 : decode cX4_weighLoads 35 = .ok (.getfield 11, 3) := by decide +kernel
theorem dX4_weighLoads_38 : decode cX4_weighLoads 38 = .ok (.iload_n 1, 1) := by decide +kernel
theorem dX4_weighLoads_39 : decode cX4_weighLoads 39 = .ok (.bipush 121, 2) := by decide +kernel
theorem dX4_weighLoads_41 : decode cX4_weighLoads 41 = .ok (.imul, 1) := by decide +kernel
theorem dX4_weighLoads_42 : decode cX4_weighLoads 42 = .ok (.iload_n 2, 1) := by decide +kernel
theorem dX4_weighLoads_43 : decode cX4_weighLoads 43 = .ok (.iadd, 1) := by decide +kernel
theorem dX4_weighLoads_44 : decode cX4_weighLoads 44 = .ok (.aload_n 0, 1) := by decide +kernel
theorem dX4_weighLoads_45 : decode cX4_weighLoads 45 = .ok (.getfield 40, 3) := by decide +kernel
theorem dX4_weighLoads_48 : decode cX4_weighLoads 48 = .ok (.iastore, 1) := by decide +kernel
theorem dX4_weighLoads_49 : decode cX4_weighLoads 49 = .ok (.iinc 2 1, 3) := by decide +kernel
theorem dX4_weighLoads_52 : decode cX4_weighLoads 52 = .ok (.goto (-40), 3) := by decide +kernel
theorem dX4_weighLoads_55 : decode cX4_weighLoads 55 = .ok (.return_, 1) := by decide +kernel
theorem dX4_weighSprings_0 : decode cX4_weighSprings 0 = .ok (.iconst 0, 1) := by decide +kernel
theorem dX4_weighSprings_1 : decode cX4_weighSprings 1 = .ok (.istore_n 2, 1) := by decide +kernel
theorem dX4_weighSprings_2 : decode cX4_weighSprings 2 = .ok (.iload_n 2, 1) := by decide +kernel
theorem dX4_weighSprings_3 : decode cX4_weighSprings 3 = .ok (.aload_n 0, 1) := by decide +kernel
theorem dX4_weighSprings_4 : decode cX4_weighSprings 4 = .ok (.getfield 24, 3) := by decide +kernel
theorem dX4_weighSprings_7 : decode cX4_weighSprings 7 = .ok (.getfield 85, 3) := by decide +kernel
theorem dX4_weighSprings_10 : decode cX4_weighSprings 10 = .ok (.if_icmp .gt 57, 3) := by decide +kernel
theorem dX4_weighSprings_13 : decode cX4_weighSprings 13 = .ok (.iconst 0, 1) := by decide +kernel
theorem dX4_weighSprings_14 : decode cX4_weighSprings 14 = .ok (.istore_n 3, 1) := by decide +kernel
theorem dX4_weighSprings_15 : decode cX4_weighSprings 15 = .ok (.iconst 0, 1) := by decide +kernel
theorem dX4_weighSprings_16 : decode cX4_weighSprings 16 = .ok (.istore 4, 2) := by decide +kernel
theorem dX4_weighSprings_18 : decode cX4_weighSprings 18 = .ok (.iload 4, 2) := by decide +kernel
theorem dX4_weighSprings_20 : decode cX4_weighSprings 20 = .ok (.aload_n 0, 1) := by decide +kernel
theorem dX4_weighSprings_21 : decode cX4_weighSprings 21 = .ok (.iload_n 1, 1) := by decide +kernel
theorem dX4_weighSprings_22 : decode cX4_weighSprings 22 = .ok (.iload_n 2, 1) := by decide +kernel
theorem dX4_weighSprings_23 : decode cX4_weighSprings 23 = .ok (.invokevirtual 104, 3) := by decide +kernel
theorem dX4_weighSprings_26 : decode cX4_weighSprings 26 = .ok (.if_icmp .gt 22, 3) := by decide +kernel
theorem dX4_weighSprings_29 : decode cX4_weighSprings 29 = .ok (.iload_n 3, 1) := by decide +kernel
theorem dX4_weighSprings_30 : decode cX4_weighSprings 30 = .ok (.aload_n 0, 1) := by decide +kernel
theorem dX4_weighSprings_31 : decode cX4_weighSprings 31 = .ok (.iload_n 1, 1) := by decide +kernel
theorem dX4_weighSprings_32 : decode cX4_weighSprings 32 = .ok (.iload 4, 2) := by decide +kernel
theorem dX4_weighSprings_34 : decode cX4_weighSprings 34 = .ok (.iload_n 2, 1) := by decide +kernel
theorem dX4_weighSprings_35 : decode cX4_weighSprings 35 = .ok (.invokevirtual 111, 3) := by decide +kernel
theorem dX4_weighSprings_38 : decode cX4_weighSprings 38 = .ok (.invokestatic 115, 3) := by decide +kernel
theorem dX4_weighSprings_41 : decode cX4_weighSprings 41 = .ok (.istore_n 3, 1) := by decide +kernel
theorem dX4_weighSprings_42 : decode cX4_weighSprings 42 = .ok (.iinc 4 1, 3) := by decide +kernel
theorem dX4_weighSprings_45 : decode cX4_weighSprings 45 = .ok (.goto (-27), 3) := by decide +kernel
theorem dX4_weighSprings_48 : decode cX4_weighSprings 48 = .ok (.aload_n 0, 1) := by decide +kernel
theorem dX4_weighSprings_49 : decode cX4_weighSprings 49 = .ok (.getfield 15, 3) := by decide +kernel
theorem dX4_weighSprings_52 : decode cX4_weighSprings 52 = .ok (.iload_n 1, 1) := by decide +kernel
theorem dX4_weighSprings_53 : decode cX4_weighSprings 53 = .ok (.sipush 201, 3) := by decide +kernel
theorem dX4_weighSprings_56 : decode cX4_weighSprings 56 = .ok (.imul, 1) := by decide +kernel
theorem dX4_weighSprings_57 : decode cX4_weighSprings 57 = .ok (.iload_n 2, 1) := by decide +kernel
theorem dX4_weighSprings_58 : decode cX4_weighSprings 58 = .ok (.iadd, 1) := by decide +kernel
theorem dX4_weighSprings_59 : decode cX4_weighSprings 59 = .ok (.iload_n 3, 1) := by decide +kernel
theorem dX4_weighSprings_60 : decode cX4_weighSprings 60 = .ok (.iastore, 1) := by decide +kernel
theorem dX4_weighSprings_61 : decode cX4_weighSprings 61 = .ok (.iinc 2 1, 3) := by decide +kernel
theorem dX4_weighSprings_64 : decode cX4_weighSprings 64 = .ok (.goto (-62), 3) := by decide +kernel
theorem dX4_weighSprings_67 : decode cX4_weighSprings 67 = .ok (.return_, 1) := by decide +kernel
theorem dX4_brought_0 : decode cX4_brought 0 = .ok (.aload_n 0, 1) := by decide +kernel
theorem dX4_brought_1 : decode cX4_brought 1 = .ok (.getfield 11, 3) := by decide +kernel
theorem dX4_brought_4 : decode cX4_brought 4 = .ok (.iload_n 1, 1) := by decide +kernel
theorem dX4_brought_5 : decode cX4_brought 5 = .ok (.bipush 121, 2) := by decide +kernel
theorem dX4_brought_7 : decode cX4_brought 7 = .ok (.imul, 1) := by decide +kernel
theorem dX4_brought_8 : decode cX4_brought 8 = .ok (.iload_n 2, 1) := by decide +kernel
theorem dX4_brought_9 : decode cX4_brought 9 = .ok (.iadd, 1) := by decide +kernel
theorem dX4_brought_10 : decode cX4_brought 10 = .ok (.iaload, 1) := by decide +kernel
theorem dX4_brought_11 : decode cX4_brought 11 = .ok (.istore 4, 2) := by decide +kernel
theorem dX4_brought_13 : decode cX4_brought 13 = .ok (.iload 4, 2) := by decide +kernel
theorem dX4_brought_15 : decode cX4_brought 15 = .ok (.iconst (-1), 1) := by decide +kernel
theorem dX4_brought_16 : decode cX4_brought 16 = .ok (.if_icmp .ne 7, 3) := by decide +kernel
theorem dX4_brought_19 : decode cX4_brought 19 = .ok (.iconst (-1), 1) := by decide +kernel
theorem dX4_brought_20 : decode cX4_brought 20 = .ok (.goto 22, 3) := by decide +kernel
theorem dX4_brought_23 : decode cX4_brought 23 = .ok (.iload 4, 2) := by decide +kernel
theorem dX4_brought_25 : decode cX4_brought 25 = .ok (.aload_n 0, 1) := by decide +kernel
theorem dX4_brought_26 : decode cX4_brought 26 = .ok (.getfield 15, 3) := by decide +kernel
theorem dX4_brought_29 : decode cX4_brought 29 = .ok (.iload_n 1, 1) := by decide +kernel
theorem dX4_brought_30 : decode cX4_brought 30 = .ok (.iconst 1, 1) := by decide +kernel
theorem dX4_brought_31 : decode cX4_brought 31 = .ok (.iadd, 1) := by decide +kernel
theorem dX4_brought_32 : decode cX4_brought 32 = .ok (.sipush 201, 3) := by decide +kernel
theorem dX4_brought_35 : decode cX4_brought 35 = .ok (.imul, 1) := by decide +kernel
theorem dX4_brought_36 : decode cX4_brought 36 = .ok (.iload_n 3, 1) := by decide +kernel
theorem dX4_brought_37 : decode cX4_brought 37 = .ok (.iadd, 1) := by decide +kernel
theorem dX4_brought_38 : decode cX4_brought 38 = .ok (.iload_n 2, 1) := by decide +kernel
theorem dX4_brought_39 : decode cX4_brought 39 = .ok (.isub, 1) := by decide +kernel
theorem dX4_brought_40 : decode cX4_brought 40 = .ok (.iaload, 1) := by decide +kernel
theorem dX4_brought_41 : decode cX4_brought 41 = .ok (.iadd, 1) := by decide +kernel
theorem dX4_brought_42 : decode cX4_brought 42 = .ok (.ireturn, 1) := by decide +kernel
theorem dX4_choose_0 : decode cX4_choose 0 = .ok (.aload_n 0, 1) := by decide +kernel
theorem dX4_choose_1 : decode cX4_choose 1 = .ok (.getfield 24, 3) := by decide +kernel
theorem dX4_choose_4 : decode cX4_choose 4 = .ok (.getfield 85, 3) := by decide +kernel
theorem dX4_choose_7 : decode cX4_choose 7 = .ok (.istore_n 1, 1) := by decide +kernel
theorem dX4_choose_8 : decode cX4_choose 8 = .ok (.iconst 0, 1) := by decide +kernel
theorem dX4_choose_9 : decode cX4_choose 9 = .ok (.istore_n 2, 1) := by decide +kernel
theorem dX4_choose_10 : decode cX4_choose 10 = .ok (.iload_n 2, 1) := by decide +kernel
theorem dX4_choose_11 : decode cX4_choose 11 = .ok (.aload_n 0, 1) := by decide +kernel
theorem dX4_choose_12 : decode cX4_choose 12 = .ok (.getfield 24, 3) := by decide +kernel
theorem dX4_choose_15 : decode cX4_choose 15 = .ok (.getfield 75, 3) := by decide +kernel
theorem dX4_choose_18 : decode cX4_choose 18 = .ok (.if_icmp .ge 54, 3) := by decide +kernel
theorem dX4_choose_21 : decode cX4_choose 21 = .ok (.aload_n 0, 1) := by decide +kernel
theorem dX4_choose_22 : decode cX4_choose 22 = .ok (.iload_n 2, 1) := by decide +kernel
theorem dX4_choose_23 : decode cX4_choose 23 = .ok (.iload_n 1, 1) := by decide +kernel
theorem dX4_choose_24 : decode cX4_choose 24 = .ok (.invokevirtual 118, 3) := by decide +kernel
theorem dX4_choose_27 : decode cX4_choose 27 = .ok (.istore_n 3, 1) := by decide +kernel
theorem dX4_choose_28 : decode cX4_choose 28 = .ok (.aload_n 0, 1) := by decide +kernel
theorem dX4_choose_29 : decode cX4_choose 29 = .ok (.getfield 18, 3) := by decide +kernel
theorem dX4_choose_32 : decode cX4_choose 32 = .ok (.iload_n 2, 1) := by decide +kernel
theorem dX4_choose_33 : decode cX4_choose 33 = .ok (.iload_n 3, 1) := by decide +kernel
theorem dX4_choose_34 : decode cX4_choose 34 = .ok (.iastore, 1) := by decide +kernel
theorem dX4_choose_35 : decode cX4_choose 35 = .ok (.aload_n 0, 1) := by decide +kernel
theorem dX4_choose_36 : decode cX4_choose 36 = .ok (.getfield 21, 3) := by decide +kernel
theorem dX4_choose_39 : decode cX4_choose 39 = .ok (.iload_n 2, 1) := by decide +kernel
theorem dX4_choose_40 : decode cX4_choose 40 = .ok (.iconst (-1), 1) := by decide +kernel
theorem dX4_choose_41 : decode cX4_choose 41 = .ok (.iastore, 1) := by decide +kernel
theorem dX4_choose_42 : decode cX4_choose 42 = .ok (.iload_n 3, 1) := by decide +kernel
theorem dX4_choose_43 : decode cX4_choose 43 = .ok (.ifCond .le 19, 3) := by decide +kernel
theorem dX4_choose_46 : decode cX4_choose 46 = .ok (.aload_n 0, 1) := by decide +kernel
theorem dX4_choose_47 : decode cX4_choose 47 = .ok (.iload_n 2, 1) := by decide +kernel
theorem dX4_choose_48 : decode cX4_choose 48 = .ok (.iload_n 3, 1) := by decide +kernel
theorem dX4_choose_49 : decode cX4_choose 49 = .ok (.invokevirtual 107, 3) := by decide +kernel
theorem dX4_choose_52 : decode cX4_choose 52 = .ok (.aload_n 0, 1) := by decide +kernel
theorem dX4_choose_53 : decode cX4_choose 53 = .ok (.getfield 21, 3) := by decide +kernel
theorem dX4_choose_56 : decode cX4_choose 56 = .ok (.iload_n 2, 1) := by decide +kernel
theorem dX4_choose_57 : decode cX4_choose 57 = .ok (.aload_n 0, 1) := by decide +kernel
theorem dX4_choose_58 : decode cX4_choose 58 = .ok (.getfield 36, 3) := by decide +kernel
theorem dX4_choose_61 : decode cX4_choose 61 = .ok (.iastore, 1) := by decide +kernel
theorem dX4_choose_62 : decode cX4_choose 62 = .ok (.iload_n 1, 1) := by decide +kernel
theorem dX4_choose_63 : decode cX4_choose 63 = .ok (.iload_n 3, 1) := by decide +kernel
theorem dX4_choose_64 : decode cX4_choose 64 = .ok (.isub, 1) := by decide +kernel
theorem dX4_choose_65 : decode cX4_choose 65 = .ok (.istore_n 1, 1) := by decide +kernel
theorem dX4_choose_66 : decode cX4_choose 66 = .ok (.iinc 2 1, 3) := by decide +kernel
theorem dX4_choose_69 : decode cX4_choose 69 = .ok (.goto (-59), 3) := by decide +kernel
theorem dX4_choose_72 : decode cX4_choose 72 = .ok (.return_, 1) := by decide +kernel
theorem dX4_leastLoad_0 : decode cX4_leastLoad 0 = .ok (.iconst 0, 1) := by decide +kernel
theorem dX4_leastLoad_1 : decode cX4_leastLoad 1 = .ok (.istore_n 3, 1) := by decide +kernel
theorem dX4_leastLoad_2 : decode cX4_leastLoad 2 = .ok (.iload_n 3, 1) := by decide +kernel
theorem dX4_leastLoad_3 : decode cX4_leastLoad 3 = .ok (.aload_n 0, 1) := by decide +kernel
theorem dX4_leastLoad_4 : decode cX4_leastLoad 4 = .ok (.iload_n 1, 1) := by decide +kernel
theorem dX4_leastLoad_5 : decode cX4_leastLoad 5 = .ok (.iload_n 2, 1) := by decide +kernel
theorem dX4_leastLoad_6 : decode cX4_leastLoad 6 = .ok (.invokevirtual 104, 3) := by decide +kernel
theorem dX4_leastLoad_9 : decode cX4_leastLoad 9 = .ok (.if_icmp .gt 33, 3) := by decide +kernel
theorem dX4_leastLoad_12 : decode cX4_leastLoad 12 = .ok (.aload_n 0, 1) := by decide +kernel
theorem dX4_leastLoad_13 : decode cX4_leastLoad 13 = .ok (.iload_n 1, 1) := by decide +kernel
theorem dX4_leastLoad_14 : decode cX4_leastLoad 14 = .ok (.iload_n 3, 1) := by decide +kernel
theorem dX4_leastLoad_15 : decode cX4_leastLoad 15 = .ok (.iload_n 2, 1) := by decide +kernel
theorem dX4_leastLoad_16 : decode cX4_leastLoad 16 = .ok (.invokevirtual 111, 3) := by decide +kernel
theorem dX4_leastLoad_19 : decode cX4_leastLoad 19 = .ok (.aload_n 0, 1) := by decide +kernel
theorem dX4_leastLoad_20 : decode cX4_leastLoad 20 = .ok (.getfield 15, 3) := by decide +kernel
theorem dX4_leastLoad_23 : decode cX4_leastLoad 23 = .ok (.iload_n 1, 1) := by decide +kernel
theorem dX4_leastLoad_24 : decode cX4_leastLoad 24 = .ok (.sipush 201, 3) := by decide +kernel
theorem dX4_leastLoad_27 : decode cX4_leastLoad 27 = .ok (.imul, 1) := by decide +kernel
theorem dX4_leastLoad_28 : decode cX4_leastLoad 28 = .ok (.iload_n 2, 1) := by decide +kernel
theorem dX4_leastLoad_29 : decode cX4_leastLoad 29 = .ok (.iadd, 1) := by decide +kernel
theorem dX4_leastLoad_30 : decode cX4_leastLoad 30 = .ok (.iaload, 1) := by decide +kernel
theorem dX4_leastLoad_31 : decode cX4_leastLoad 31 = .ok (.if_icmp .ne 5, 3) := by decide +kernel
theorem dX4_leastLoad_34 : decode cX4_leastLoad 34 = .ok (.iload_n 3, 1) := by decide +kernel
theorem dX4_leastLoad_35 : decode cX4_leastLoad 35 = .ok (.ireturn, 1) := by decide +kernel
theorem dX4_leastLoad_36 : decode cX4_leastLoad 36 = .ok (.iinc 3 1, 3) := by decide +kernel
theorem dX4_leastLoad_39 : decode cX4_leastLoad 39 = .ok (.goto (-37), 3) := by decide +kernel
theorem dX4_leastLoad_42 : decode cX4_leastLoad 42 = .ok (.iconst 0, 1) := by decide +kernel
theorem dX4_leastLoad_43 : decode cX4_leastLoad 43 = .ok (.ireturn, 1) := by decide +kernel
theorem dX5_init_0 : decode cX5_init 0 = .ok (.aload_n 0, 1) := by decide +kernel
theorem dX5_init_1 : decode cX5_init 1 = .ok (.invokespecial 3, 3) := by decide +kernel
theorem dX5_init_4 : decode cX5_init 4 = .ok (.aload_n 0, 1) := by decide +kernel
theorem dX5_init_5 : decode cX5_init 5 = .ok (.bipush 7, 2) := by decide +kernel
theorem dX5_init_7 : decode cX5_init 7 = .ok (.newarray .long, 2) := by decide +kernel
theorem dX5_init_9 : decode cX5_init 9 = .ok (.putfield 9, 3) := by decide +kernel
theorem dX5_init_12 : decode cX5_init 12 = .ok (.aload_n 0, 1) := by decide +kernel
theorem dX5_init_13 : decode cX5_init 13 = .ok (.bipush 6, 2) := by decide +kernel
theorem dX5_init_15 : decode cX5_init 15 = .ok (.newarray .long, 2) := by decide +kernel
theorem dX5_init_17 : decode cX5_init 17 = .ok (.putfield 15, 3) := by decide +kernel
theorem dX5_init_20 : decode cX5_init 20 = .ok (.aload_n 0, 1) := by decide +kernel
theorem dX5_init_21 : decode cX5_init 21 = .ok (.new 18, 3) := by decide +kernel
theorem dX5_init_24 : decode cX5_init 24 = .ok (.dup, 1) := by decide +kernel
theorem dX5_init_25 : decode cX5_init 25 = .ok (.invokespecial 20, 3) := by decide +kernel
theorem dX5_init_28 : decode cX5_init 28 = .ok (.putfield 21, 3) := by decide +kernel
theorem dX5_init_31 : decode cX5_init 31 = .ok (.aload_n 0, 1) := by decide +kernel
theorem dX5_init_32 : decode cX5_init 32 = .ok (.aload_n 1, 1) := by decide +kernel
theorem dX5_init_33 : decode cX5_init 33 = .ok (.putfield 25, 3) := by decide +kernel
theorem dX5_init_36 : decode cX5_init 36 = .ok (.aload_n 0, 1) := by decide +kernel
theorem dX5_init_37 : decode cX5_init 37 = .ok (.new 29, 3) := by decide +kernel
theorem dX5_init_40 : decode cX5_init 40 = .ok (.dup, 1) := by decide +kernel
theorem dX5_init_41 : decode cX5_init 41 = .ok (.aload_n 1, 1) := by decide +kernel
theorem dX5_init_42 : decode cX5_init 42 = .ok (.invokespecial 31, 3) := by decide +kernel
theorem dX5_init_45 : decode cX5_init 45 = .ok (.putfield 34, 3) := by decide +kernel
theorem dX5_init_48 : decode cX5_init 48 = .ok (.return_, 1) := by decide +kernel
theorem dX5_readAll_0 : decode cX5_readAll 0 = .ok (.aload_n 0, 1) := by decide +kernel
theorem dX5_readAll_1 : decode cX5_readAll 1 = .ok (.getfield 21, 3) := by decide +kernel
theorem dX5_readAll_4 : decode cX5_readAll 4 = .ok (.invokevirtual 38, 3) := by decide +kernel
theorem dX5_readAll_7 : decode cX5_readAll 7 = .ok (.aload_n 0, 1) := by decide +kernel
theorem dX5_readAll_8 : decode cX5_readAll 8 = .ok (.iconst 0, 1) := by decide +kernel
theorem dX5_readAll_9 : decode cX5_readAll 9 = .ok (.putfield 41, 3) := by decide +kernel
theorem dX5_readAll_12 : decode cX5_readAll 12 = .ok (.aload_n 0, 1) := by decide +kernel
theorem dX5_readAll_13 : decode cX5_readAll 13 = .ok (.iconst 0, 1) := by decide +kernel
theorem dX5_readAll_14 : decode cX5_readAll 14 = .ok (.putfield 45, 3) := by decide +kernel
theorem dX5_readAll_17 : decode cX5_readAll 17 = .ok (.aload_n 0, 1) := by decide +kernel
theorem dX5_readAll_18 : decode cX5_readAll 18 = .ok (.getfield 25, 3) := by decide +kernel
theorem dX5_readAll_21 : decode cX5_readAll 21 = .ok (.invokevirtual 48, 3) := by decide +kernel
theorem dX5_readAll_24 : decode cX5_readAll 24 = .ok (.iconst 0, 1) := by decide +kernel
theorem dX5_readAll_25 : decode cX5_readAll 25 = .ok (.istore_n 1, 1) := by decide +kernel
theorem dX5_readAll_26 : decode cX5_readAll 26 = .ok (.iload_n 1, 1) := by decide +kernel
theorem dX5_readAll_27 : decode cX5_readAll 27 = .ok (.sipush 1000, 3) := by decide +kernel
theorem dX5_readAll_30 : decode cX5_readAll 30 = .ok (.if_icmp .ge 179, 3) := by decide +kernel
theorem dX5_readAll_33 : decode cX5_readAll 33 = .ok (.aload_n 0, 1) := by decide +kernel
theorem dX5_readAll_34 : decode cX5_readAll 34 = .ok (.getfield 25, 3) := by decide +kernel
theorem dX5_readAll_37 : decode cX5_readAll 37 = .ok (.getfield 53, 3) := by decide +kernel
theorem dX5_readAll_40 : decode cX5_readAll 40 = .ok (.getstatic 57, 3) := by decide +kernel
theorem dX5_readAll_43 : decode cX5_readAll 43 = .ok (.if_acmp .eq 166, 3) := by decide +kernel
theorem dX5_readAll_46 : decode cX5_readAll 46 = .ok (.aload_n 0, 1) := by decide +kernel
theorem dX5_readAll_47 : decode cX5_readAll 47 = .ok (.getfield 25, 3) := by decide +kernel
theorem dX5_readAll_50 : decode cX5_readAll 50 = .ok (.getfield 53, 3) := by decide +kernel
theorem dX5_readAll_53 : decode cX5_readAll 53 = .ok (.astore_n 2, 1) := by decide +kernel
theorem dX5_readAll_54 : decode cX5_readAll 54 = .ok (.aload_n 2, 1) := by decide +kernel
theorem dX5_readAll_55 : decode cX5_readAll 55 = .ok (.getstatic 62, 3) := by decide +kernel
theorem dX5_readAll_58 : decode cX5_readAll 58 = .ok (.if_acmp .ne 11, 3) := by decide +kernel
theorem dX5_readAll_61 : decode cX5_readAll 61 = .ok (.aload_n 0, 1) := by decide +kernel
theorem dX5_readAll_62 : decode cX5_readAll 62 = .ok (.invokevirtual 65, 3) := by decide +kernel
theorem dX5_readAll_65 : decode cX5_readAll 65 = .ok (.istore_n 3, 1) := by decide +kernel
theorem dX5_readAll_66 : decode cX5_readAll 66 = .ok (.goto 118, 3) := by decide +kernel
theorem dX5_readAll_69 : decode cX5_readAll 69 = .ok (.aload_n 2, 1) := by decide +kernel
theorem dX5_readAll_70 : decode cX5_readAll 70 = .ok (.getstatic 69, 3) := by decide +kernel
theorem dX5_readAll_73 : decode cX5_readAll 73 = .ok (.if_acmp .ne 11, 3) := by decide +kernel
theorem dX5_readAll_76 : decode cX5_readAll 76 = .ok (.aload_n 0, 1) := by decide +kernel
theorem dX5_readAll_77 : decode cX5_readAll 77 = .ok (.invokevirtual 72, 3) := by decide +kernel
theorem dX5_readAll_80 : decode cX5_readAll 80 = .ok (.istore_n 3, 1) := by decide +kernel
theorem dX5_readAll_81 : decode cX5_readAll 81 = .ok (.goto 103, 3) := by decide +kernel
theorem dX5_readAll_84 : decode cX5_readAll 84 = .ok (.aload_n 2, 1) := by decide +kernel
theorem dX5_readAll_85 : decode cX5_readAll 85 = .ok (.getstatic 75, 3) := by decide +kernel
theorem dX5_readAll_88 : decode cX5_readAll 88 = .ok (.if_acmp .ne 11, 3) := by decide +kernel
theorem dX5_readAll_91 : decode cX5_readAll 91 = .ok (.aload_n 0, 1) := by decide +kernel
theorem dX5_readAll_92 : decode cX5_readAll 92 = .ok (.invokevirtual 78, 3) := by decide +kernel
theorem dX5_readAll_95 : decode cX5_readAll 95 = .ok (.istore_n 3, 1) := by decide +kernel
theorem dX5_readAll_96 : decode cX5_readAll 96 = .ok (.goto 88, 3) := by decide +kernel
theorem dX5_readAll_99 : decode cX5_readAll 99 = .ok (.aload_n 2, 1) := by decide +kernel
theorem dX5_readAll_100 : decode cX5_readAll 100 = .ok (.getstatic 81, 3) := by decide +kernel
theorem dX5_readAll_103 : decode cX5_readAll 103 = .ok (.if_acmp .ne 11, 3) := by decide +kernel
theorem dX5_readAll_106 : decode cX5_readAll 106 = .ok (.aload_n 0, 1) := by decide +kernel
theorem dX5_readAll_107 : decode cX5_readAll 107 = .ok (.invokevirtual 84, 3) := by decide +kernel
theorem dX5_readAll_110 : decode cX5_readAll 110 = .ok (.istore_n 3, 1) := by decide +kernel
theorem dX5_readAll_111 : decode cX5_readAll 111 = .ok (.goto 73, 3) := by decide +kernel
theorem dX5_readAll_114 : decode cX5_readAll 114 = .ok (.aload_n 2, 1) := by decide +kernel
theorem dX5_readAll_115 : decode cX5_readAll 115 = .ok (.getstatic 87, 3) := by decide +kernel
theorem dX5_readAll_118 : decode cX5_readAll 118 = .ok (.if_acmp .eq 10, 3) := by decide +kernel
theorem dX5_readAll_121 : decode cX5_readAll 121 = .ok (.aload_n 2, 1) := by decide +kernel
theorem dX5_readAll_122 : decode cX5_readAll 122 = .ok (.getstatic 90, 3) := by decide +kernel
theorem dX5_readAll_125 : decode cX5_readAll 125 = .ok (.if_acmp .ne 23, 3) := by decide +kernel
theorem dX5_readAll_128 : decode cX5_readAll 128 = .ok (.aload_n 0, 1) := by decide +kernel
theorem dX5_readAll_129 : decode cX5_readAll 129 = .ok (.aload_n 2, 1) := by decide +kernel
theorem dX5_readAll_130 : decode cX5_readAll 130 = .ok (.getstatic 87, 3) := by decide +kernel
theorem dX5_readAll_133 : decode cX5_readAll 133 = .ok (.if_acmp .ne 7, 3) := by decide +kernel
theorem dX5_readAll_136 : decode cX5_readAll 136 = .ok (.iconst 1, 1) := by decide +kernel
theorem dX5_readAll_137 : decode cX5_readAll 137 = .ok (.goto 4, 3) := by decide +kernel
theorem dX5_readAll_140 : decode cX5_readAll 140 = .ok (.iconst 0, 1) := by decide +kernel
theorem dX5_readAll_141 : decode cX5_readAll 141 = .ok (.invokevirtual 93, 3) := by decide +kernel
theorem dX5_readAll_144 : decode cX5_readAll 144 = .ok (.istore_n 3, 1) := by decide +kernel
theorem dX5_readAll_145 : decode cX5_readAll 145 = .ok (.goto 39, 3) := by decide +kernel
theorem dX5_readAll_148 : decode cX5_readAll 148 = .ok (.aload_n 2, 1) := by decide +kernel
theorem dX5_readAll_149 : decode cX5_readAll 149 = .ok (.getstatic 97, 3) := by decide +kernel
theorem dX5_readAll_152 : decode cX5_readAll 152 = .ok (.if_acmp .eq 17, 3) := by decide +kernel
theorem dX5_readAll_155 : decode cX5_readAll 155 = .ok (.aload_n 2, 1) := by decide +kernel
theorem dX5_readAll_156 : decode cX5_readAll 156 = .ok (.getstatic 100, 3) := by decide +kernel
theorem dX5_readAll_159 : decode cX5_readAll 159 = .ok (.if_acmp .eq 10, 3) := by decide +kernel
theorem dX5_readAll_162 : decode cX5_readAll 162 = .ok (.aload_n 2, 1) := by decide +kernel
theorem dX5_readAll_163 : decode cX5_readAll 163 = .ok (.getstatic 103, 3) := by decide +kernel
theorem dX5_readAll_166 : decode cX5_readAll 166 = .ok (.if_acmp .ne 12, 3) := by decide +kernel
theorem dX5_readAll_169 : decode cX5_readAll 169 = .ok (.aload_n 0, 1) := by decide +kernel
theorem dX5_readAll_170 : decode cX5_readAll 170 = .ok (.aload_n 2, 1) := by decide +kernel
theorem dX5_readAll_171 : decode cX5_readAll 171 = .ok (.invokevirtual 106, 3) := by decide +kernel
theorem dX5_readAll_174 : decode cX5_readAll 174 = .ok (.istore_n 3, 1) := by decide +kernel
theorem dX5_readAll_175 : decode cX5_readAll 175 = .ok (.goto 9, 3) := by decide +kernel
theorem dX5_readAll_178 : decode cX5_readAll 178 = .ok (.aload_n 0, 1) := by decide +kernel
theorem dX5_readAll_179 : decode cX5_readAll 179 = .ok (.iconst 1, 1) := by decide +kernel
theorem dX5_readAll_180 : decode cX5_readAll 180 = .ok (.invokevirtual 110, 3) := by decide +kernel
theorem dX5_readAll_183 : decode cX5_readAll 183 = .ok (.istore_n 3, 1) := by decide +kernel
theorem dX5_readAll_184 : decode cX5_readAll 184 = .ok (.iload_n 3, 1) := by decide +kernel
theorem dX5_readAll_185 : decode cX5_readAll 185 = .ok (.ifCond .eq 13, 3) := by decide +kernel
theorem dX5_readAll_188 : decode cX5_readAll 188 = .ok (.aload_n 0, 1) := by decide +kernel
theorem dX5_readAll_189 : decode cX5_readAll 189 = .ok (.getstatic 114, 3) := by decide +kernel
theorem dX5_readAll_192 : decode cX5_readAll 192 = .ok (.invokevirtual 117, 3) := by decide +kernel
theorem dX5_readAll_195 : decode cX5_readAll 195 = .ok (.ifCond .ne 8, 3) := by decide +kernel
theorem dX5_readAll_198 : decode cX5_readAll 198 = .ok (.aload_n 0, 1) := by decide +kernel
theorem dX5_readAll_199 : decode cX5_readAll 199 = .ok (.getfield 41, 3) := by decide +kernel
theorem dX5_readAll_202 : decode cX5_readAll 202 = .ok (.ireturn, 1) := by decide +kernel
theorem dX5_readAll_203 : decode cX5_readAll 203 = .ok (.iinc 1 1, 3) := by decide +kernel
theorem dX5_readAll_206 : decode cX5_readAll 206 = .ok (.goto (-180), 3) := by decide +kernel
theorem dX5_readAll_209 : decode cX5_readAll 209 = .ok (.iconst 0, 1) := by decide +kernel
theorem dX5_readAll_210 : decode cX5_readAll 210 = .ok (.ireturn, 1) := by decide +kernel
theorem dX5_readStation_0 : decode cX5_readStation 0 = .ok (.aload_n 0, 1) := by decide +kernel
theorem dX5_readStation_1 : decode cX5_readStation 1 = .ok (.getfield 21, 3) := by decide +kernel
theorem dX5_readStation_4 : decode cX5_readStation 4 = .ok (.getfield 120, 3) := by decide +kernel
theorem dX5_readStation_7 : decode cX5_readStation 7 = .ok (.istore_n 1, 1) := by decide +kernel
theorem dX5_readStation_8 : decode cX5_readStation 8 = .ok (.iload_n 1, 1) := by decide +kernel
theorem dX5_readStation_9 : decode cX5_readStation 9 = .ok (.bipush 7, 2) := by decide +kernel
theorem dX5_readStation_11 : decode cX5_readStation 11 = .ok (.if_icmp .lt 9, 3) := by decide +kernel
theorem dX5_readStation_14 : decode cX5_readStation 14 = .ok (.aload_n 0, 1) := by decide +kernel
theorem dX5_readStation_15 : decode cX5_readStation 15 = .ok (.iconst 5, 1) := by decide +kernel
theorem dX5_readStation_16 : decode cX5_readStation 16 = .ok (.invokevirtual 110, 3) := by decide +kernel
theorem dX5_readStation_19 : decode cX5_readStation 19 = .ok (.ireturn, 1) := by decide +kernel
theorem dX5_readStation_20 : decode cX5_readStation 20 = .ok (.aload_n 0, 1) := by decide +kernel
theorem dX5_readStation_21 : decode cX5_readStation 21 = .ok (.getfield 25, 3) := by decide +kernel
theorem dX5_readStation_24 : decode cX5_readStation 24 = .ok (.invokevirtual 123, 3) := by decide +kernel
theorem dX5_readStation_27 : decode cX5_readStation 27 = .ok (.aload_n 0, 1) := by decide +kernel
theorem dX5_readStation_28 : decode cX5_readStation 28 = .ok (.invokevirtual 126, 3) := by decide +kernel
theorem dX5_readStation_31 : decode cX5_readStation 31 = .ok (.ifCond .ne 5, 3) := by decide +kernel
theorem dX5_readStation_34 : decode cX5_readStation 34 = .ok (.iconst 0, 1) := by decide +kernel
theorem dX5_readStation_35 : decode cX5_readStation 35 = .ok (.ireturn, 1) := by decide +kernel
theorem dX5_readStation_36 : decode cX5_readStation 36 = .ok (.aload_n 0, 1) := by decide +kernel
theorem dX5_readStation_37 : decode cX5_readStation 37 = .ok (.getfield 9, 3) := by decide +kernel
theorem dX5_readStation_40 : decode cX5_readStation 40 = .ok (.iload_n 1, 1) := by decide +kernel
theorem dX5_readStation_41 : decode cX5_readStation 41 = .ok (.aload_n 0, 1) := by decide +kernel
theorem dX5_readStation_42 : decode cX5_readStation 42 = .ok (.getfield 25, 3) := by decide +kernel
theorem dX5_readStation_45 : decode cX5_readStation 45 = .ok (.getfield 129, 3) := by decide +kernel
theorem dX5_readStation_48 : decode cX5_readStation 48 = .ok (.lastore, 1) := by decide +kernel
theorem dX5_readStation_49 : decode cX5_readStation 49 = .ok (.aload_n 0, 1) := by decide +kernel
theorem dX5_readStation_50 : decode cX5_readStation 50 = .ok (.getfield 25, 3) := by decide +kernel
theorem dX5_readStation_53 : decode cX5_readStation 53 = .ok (.invokevirtual 123, 3) := by decide +kernel
theorem dX5_readStation_56 : decode cX5_readStation 56 = .ok (.aload_n 0, 1) := by decide +kernel
theorem dX5_readStation_57 : decode cX5_readStation 57 = .ok (.getstatic 133, 3) := by decide +kernel
theorem dX5_readStation_60 : decode cX5_readStation 60 = .ok (.invokevirtual 117, 3) := by decide +kernel
theorem dX5_readStation_63 : decode cX5_readStation 63 = .ok (.ifCond .eq 13, 3) := by decide +kernel
theorem dX5_readStation_66 : decode cX5_readStation 66 = .ok (.aload_n 0, 1) := by decide +kernel
theorem dX5_readStation_67 : decode cX5_readStation 67 = .ok (.iconst 0, 1) := by decide +kernel
theorem dX5_readStation_68 : decode cX5_readStation 68 = .ok (.bipush 99, 2) := by decide +kernel
theorem dX5_readStation_70 : decode cX5_readStation 70 = .ok (.invokevirtual 136, 3) := by decide +kernel
theorem dX5_readStation_73 : decode cX5_readStation 73 = .ok (.ifCond .ne 5, 3) := by decide +kernel
theorem dX5_readStation_76 : decode cX5_readStation 76 = .ok (.iconst 0, 1) := by decide +kernel
theorem dX5_readStation_77 : decode cX5_readStation 77 = .ok (.ireturn, 1) := by decide +kernel
theorem dX5_readStation_78 : decode cX5_readStation 78 = .ok (.aload_n 0, 1) := by decide +kernel
theorem dX5_readStation_79 : decode cX5_readStation 79 = .ok (.getfield 21, 3) := by decide +kernel
theorem dX5_readStation_82 : decode cX5_readStation 82 = .ok (.getfield 140, 3) := by decide +kernel
theorem dX5_readStation_85 : decode cX5_readStation 85 = .ok (.iload_n 1, 1) := by decide +kernel
theorem dX5_readStation_86 : decode cX5_readStation 86 = .ok (.aload_n 0, 1) := by decide +kernel
theorem dX5_readStation_87 : decode cX5_readStation 87 = .ok (.getfield 144, 3) := by decide +kernel
theorem dX5_readStation_90 : decode cX5_readStation 90 = .ok (.iastore, 1) := by decide +kernel
theorem dX5_readStation_91 : decode cX5_readStation 91 = .ok (.aload_n 0, 1) := by decide +kernel
theorem dX5_readStation_92 : decode cX5_readStation 92 = .ok (.getstatic 147, 3) := by decide +kernel
theorem dX5_readStation_95 : decode cX5_readStation 95 = .ok (.invokevirtual 117, 3) := by decide +kernel
theorem dX5_readStation_98 : decode cX5_readStation 98 = .ok (.ifCond .eq 13, 3) := by decide +kernel
theorem dX5_readStation_101 : decode cX5_readStation 101 = .ok (.aload_n 0, 1) := by decide +kernel
theorem dX5_readStation_102 : decode cX5_readStation 102 = .ok (.iconst 0, 1) := by decide +kernel
theorem dX5_readStation_103 : decode cX5_readStation 103 = .ok (.bipush 9, 2) := by decide +kernel
theorem dX5_readStation_105 : decode cX5_readStation 105 = .ok (.invokevirtual 136, 3) := by decide +kernel
theorem dX5_readStation_108 : decode cX5_readStation 108 = .ok (.ifCond .ne 5, 3) := by decide +kernel
theorem dX5_readStation_111 : decode cX5_readStation 111 = .ok (.iconst 0, 1) := by decide +kernel
theorem dX5_readStation_112 : decode cX5_readStation 112 = .ok (.ireturn, 1) := by decide +kernel
theorem dX5_readStation_113 : decode cX5_readStation 113 = .ok (.aload_n 0, 1) := by decide +kernel
theorem dX5_readStation_114 : decode cX5_readStation 114 = .ok (.getfield 21, 3) := by decide +kernel
theorem dX5_readStation_117 : decode cX5_readStation 117 = .ok (.getfield 150, 3) := by decide +kernel
theorem dX5_readStation_120 : decode cX5_readStation 120 = .ok (.iload_n 1, 1) := by decide +kernel
theorem dX5_readStation_121 : decode cX5_readStation 121 = .ok (.aload_n 0, 1) := by decide +kernel
theorem dX5_readStation_122 : decode cX5_readStation 122 = .ok (.getfield 144, 3) := by decide +kernel
theorem dX5_readStation_125 : decode cX5_readStation 125 = .ok (.iastore, 1) := by decide +kernel
theorem dX5_readStation_126 : decode cX5_readStation 126 = .ok (.aload_n 0, 1) := by decide +kernel
theorem dX5_readStation_127 : decode cX5_readStation 127 = .ok (.getfield 21, 3) := by decide +kernel
theorem dX5_readStation_130 : decode cX5_readStation 130 = .ok (.dup, 1) := by decide +kernel
theorem dX5_readStation_131 : decode cX5_readStation 131 = .ok (.getfield 120, 3) := by decide +kernel
theorem dX5_readStation_134 : decode cX5_readStation 134 = .ok (.iconst 1, 1) := by decide +kernel
theorem dX5_readStation_135 : decode cX5_readStation 135 = .ok (.iadd, 1) := by decide +kernel
theorem dX5_readStation_136 : decode cX5_readStation 136 = .ok (.putfield 120, 3) := by decide +kernel
theorem dX5_readStation_139 : decode cX5_readStation 139 = .ok (.iconst 1, 1) := by decide +kernel
theorem dX5_readStation_140 : decode cX5_readStation 140 = .ok (.ireturn, 1) := by decide +kernel
theorem dX5_readWay_0 : decode cX5_readWay 0 = .ok (.aload_n 0, 1) := by decide +kernel
theorem dX5_readWay_1 : decode cX5_readWay 1 = .ok (.getfield 21, 3) := by decide +kernel
theorem dX5_readWay_4 : decode cX5_readWay 4 = .ok (.getfield 153, 3) := by decide +kernel
theorem dX5_readWay_7 : decode cX5_readWay 7 = .ok (.bipush 12, 2) := by decide +kernel
theorem dX5_readWay_9 : decode cX5_readWay 9 = .ok (.if_icmp .lt 9, 3) := by decide +kernel
theorem dX5_readWay_12 : decode cX5_readWay 12 = .ok (.aload_n 0, 1) := by decide +kernel
theorem dX5_readWay_13 : decode cX5_readWay 13 = .ok (.iconst 5, 1) := by decide +kernel
theorem dX5_readWay_14 : decode cX5_readWay 14 = .ok (.invokevirtual 110, 3) := by decide +kernel
theorem dX5_readWay_17 : decode cX5_readWay 17 = .ok (.ireturn, 1) := by decide +kernel
theorem dX5_readWay_18 : decode cX5_readWay 18 = .ok (.aload_n 0, 1) := by decide +kernel
theorem dX5_readWay_19 : decode cX5_readWay 19 = .ok (.getfield 25, 3) := by decide +kernel
theorem dX5_readWay_22 : decode cX5_readWay 22 = .ok (.invokevirtual 123, 3) := by decide +kernel
theorem dX5_readWay_25 : decode cX5_readWay 25 = .ok (.aload_n 0, 1) := by decide +kernel
theorem dX5_readWay_26 : decode cX5_readWay 26 = .ok (.aload_n 0, 1) := by decide +kernel
theorem dX5_readWay_27 : decode cX5_readWay 27 = .ok (.getfield 9, 3) := by decide +kernel
theorem dX5_readWay_30 : decode cX5_readWay 30 = .ok (.aload_n 0, 1) := by decide +kernel
theorem dX5_readWay_31 : decode cX5_readWay 31 = .ok (.getfield 21, 3) := by decide +kernel
theorem dX5_readWay_34 : decode cX5_readWay 34 = .ok (.getfield 120, 3) := by decide +kernel
theorem dX5_readWay_37 : decode cX5_readWay 37 = .ok (.invokevirtual 156, 3) := by decide +kernel
theorem dX5_readWay_40 : decode cX5_readWay 40 = .ok (.ifCond .ne 5, 3) := by decide +kernel
theorem dX5_readWay_43 : decode cX5_readWay 43 = .ok (.iconst 0, 1) := by decide +kernel
theorem dX5_readWay_44 : decode cX5_readWay 44 = .ok (.ireturn, 1) := by decide +kernel
theorem dX5_readWay_45 : decode cX5_readWay 45 = .ok (.aload_n 0, 1) := by decide +kernel
theorem dX5_readWay_46 : decode cX5_readWay 46 = .ok (.getfield 144, 3) := by decide +kernel
theorem dX5_readWay_49 : decode cX5_readWay 49 = .ok (.istore_n 1, 1) := by decide +kernel
theorem dX5_readWay_50 : decode cX5_readWay 50 = .ok (.aload_n 0, 1) := by decide +kernel
theorem dX5_readWay_51 : decode cX5_readWay 51 = .ok (.aload_n 0, 1) := by decide +kernel
theorem dX5_readWay_52 : decode cX5_readWay 52 = .ok (.getfield 9, 3) := by decide +kernel
theorem dX5_readWay_55 : decode cX5_readWay 55 = .ok (.aload_n 0, 1) := by decide +kernel
theorem dX5_readWay_56 : decode cX5_readWay 56 = .ok (.getfield 21, 3) := by decide +kernel
theorem dX5_readWay_59 : decode cX5_readWay 59 = .ok (.getfield 120, 3) := by decide +kernel
theorem dX5_readWay_62 : decode cX5_readWay 62 = .ok (.invokevirtual 160, 3) := by decide +kernel
theorem dX5_readWay_65 : decode cX5_readWay 65 = .ok (.ifCond .ne 5, 3) := by decide +kernel
theorem dX5_readWay_68 : decode cX5_readWay 68 = .ok (.iconst 0, 1) := by decide +kernel
theorem dX5_readWay_69 : decode cX5_readWay 69 = .ok (.ireturn, 1) := by decide +kernel
theorem dX5_readWay_70 : decode cX5_readWay 70 = .ok (.aload_n 0, 1) := by decide +kernel
theorem dX5_readWay_71 : decode cX5_readWay 71 = .ok (.aload_n 0, 1) := by decide +kernel
theorem dX5_readWay_72 : decode cX5_readWay 72 = .ok (.getfield 9, 3) := by decide +kernel
theorem dX5_readWay_75 : decode cX5_readWay 75 = .ok (.aload_n 0, 1) := by decide +kernel
theorem dX5_readWay_76 : decode cX5_readWay 76 = .ok (.getfield 21, 3) := by decide +kernel
theorem dX5_readWay_79 : decode cX5_readWay 79 = .ok (.getfield 120, 3) := by decide +kernel
theorem dX5_readWay_82 : decode cX5_readWay 82 = .ok (.invokevirtual 163, 3) := by decide +kernel
theorem dX5_readWay_85 : decode cX5_readWay 85 = .ok (.istore_n 2, 1) := by decide +kernel
theorem dX5_readWay_86 : decode cX5_readWay 86 = .ok (.iload_n 1, 1) := by decide +kernel
theorem dX5_readWay_87 : decode cX5_readWay 87 = .ok (.iload_n 2, 1) := by decide +kernel
theorem dX5_readWay_88 : decode cX5_readWay 88 = .ok (.if_icmp .eq 15, 3) := by decide +kernel
theorem dX5_readWay_91 : decode cX5_readWay 91 = .ok (.aload_n 0, 1) := by decide +kernel
theorem dX5_readWay_92 : decode cX5_readWay 92 = .ok (.getfield 21, 3) := by decide +kernel
theorem dX5_readWay_95 : decode cX5_readWay 95 = .ok (.iload_n 1, 1) := by decide +kernel
theorem dX5_readWay_96 : decode cX5_readWay 96 = .ok (.iload_n 2, 1) := by decide +kernel
theorem dX5_readWay_97 : decode cX5_readWay 97 = .ok (.invokevirtual 167, 3) := by decide +kernel
theorem dX5_readWay_100 : decode cX5_readWay 100 = .ok (.ifCond .eq 9, 3) := by decide +kernel
theorem dX5_readWay_103 : decode cX5_readWay 103 = .ok (.aload_n 0, 1) := by decide +kernel
theorem dX5_readWay_104 : decode cX5_readWay 104 = .ok (.iconst 3, 1) := by decide +kernel
theorem dX5_readWay_105 : decode cX5_readWay 105 = .ok (.invokevirtual 110, 3) := by decide +kernel
theorem dX5_readWay_108 : decode cX5_readWay 108 = .ok (.ireturn, 1) := by decide +kernel
theorem dX5_readWay_109 : decode cX5_readWay 109 = .ok (.aload_n 0, 1) := by decide +kernel
theorem dX5_readWay_110 : decode cX5_readWay 110 = .ok (.getfield 25, 3) := by decide +kernel
theorem dX5_readWay_113 : decode cX5_readWay 113 = .ok (.invokevirtual 123, 3) := by decide +kernel
theorem dX5_readWay_116 : decode cX5_readWay 116 = .ok (.aload_n 0, 1) := by decide +kernel
theorem dX5_readWay_117 : decode cX5_readWay 117 = .ok (.getstatic 170, 3) := by decide +kernel
theorem dX5_readWay_120 : decode cX5_readWay 120 = .ok (.invokevirtual 117, 3) := by decide +kernel
theorem dX5_readWay_123 : decode cX5_readWay 123 = .ok (.ifCond .eq 13, 3) := by decide +kernel
theorem dX5_readWay_126 : decode cX5_readWay 126 = .ok (.aload_n 0, 1) := by decide +kernel
theorem dX5_readWay_127 : decode cX5_readWay 127 = .ok (.iconst 1, 1) := by decide +kernel
theorem dX5_readWay_128 : decode cX5_readWay 128 = .ok (.bipush 99, 2) := by decide +kernel
theorem dX5_readWay_130 : decode cX5_readWay 130 = .ok (.invokevirtual 136, 3) := by decide +kernel
theorem dX5_readWay_133 : decode cX5_readWay 133 = .ok (.ifCond .ne 5, 3) := by decide +kernel
theorem dX5_readWay_136 : decode cX5_readWay 136 = .ok (.iconst 0, 1) := by decide +kernel
theorem dX5_readWay_137 : decode cX5_readWay 137 = .ok (.ireturn, 1) := by decide +kernel
theorem dX5_readWay_138 : decode cX5_readWay 138 = .ok (.aload_n 0, 1) := by decide +kernel
theorem dX5_readWay_139 : decode cX5_readWay 139 = .ok (.getfield 144, 3) := by decide +kernel
theorem dX5_readWay_142 : decode cX5_readWay 142 = .ok (.istore_n 3, 1) := by decide +kernel
theorem dX5_readWay_143 : decode cX5_readWay 143 = .ok (.aload_n 0, 1) := by decide +kernel
theorem dX5_readWay_144 : decode cX5_readWay 144 = .ok (.getstatic 173, 3) := by decide +kernel
theorem dX5_readWay_147 : decode cX5_readWay 147 = .ok (.invokevirtual 117, 3) := by decide +kernel
theorem dX5_readWay_150 : decode cX5_readWay 150 = .ok (.ifCond .eq 13, 3) := by decide +kernel
theorem dX5_readWay_153 : decode cX5_readWay 153 = .ok (.aload_n 0, 1) := by decide +kernel
theorem dX5_readWay_154 : decode cX5_readWay 154 = .ok (.iconst 0, 1) := by decide +kernel
theorem dX5_readWay_155 : decode cX5_readWay 155 = .ok (.bipush 9, 2) := by decide +kernel
theorem dX5_readWay_157 : decode cX5_readWay 157 = .ok (.invokevirtual 136, 3) := by decide +kernel
theorem dX5_readWay_160 : decode cX5_readWay 160 = .ok (.ifCond .ne 5, 3) := by decide +kernel
theorem dX5_readWay_163 : decode cX5_readWay 163 = .ok (.iconst 0, 1) := by decide +kernel
theorem dX5_readWay_164 : decode cX5_readWay 164 = .ok (.ireturn, 1) := by decide +kernel
theorem dX5_readWay_165 : decode cX5_readWay 165 = .ok (.aload_n 0, 1) := by decide +kernel
theorem dX5_readWay_166 : decode cX5_readWay 166 = .ok (.getfield 21, 3) := by decide +kernel
theorem dX5_readWay_169 : decode cX5_readWay 169 = .ok (.iload_n 1, 1) := by decide +kernel
theorem dX5_readWay_170 : decode cX5_readWay 170 = .ok (.iload_n 2, 1) := by decide +kernel
theorem dX5_readWay_171 : decode cX5_readWay 171 = .ok (.iload_n 3, 1) := by decide +kernel
theorem dX5_readWay_172 : decode cX5_readWay 172 = .ok (.aload_n 0, 1) := by decide +kernel
theorem dX5_readWay_173 : decode cX5_readWay 173 = .ok (.getfield 144, 3) := by decide +kernel
theorem dX5_readWay_176 : decode cX5_readWay 176 = .ok (.invokevirtual 176, 3) := by decide +kernel
theorem dX5_readWay_179 : decode cX5_readWay 179 = .ok (.iconst 1, 1) := by decide +kernel
theorem dX5_readWay_180 : decode cX5_readWay 180 = .ok (.ireturn, 1) := by decide +kernel
theorem dX5_readCarrier_0 : decode cX5_readCarrier 0 = .ok (.aload_n 0, 1) := by decide +kernel
theorem dX5_readCarrier_1 : decode cX5_readCarrier 1 = .ok (.getfield 21, 3) := by decide +kernel
theorem dX5_readCarrier_4 : decode cX5_readCarrier 4 = .ok (.getfield 180, 3) := by decide +kernel
theorem dX5_readCarrier_7 : decode cX5_readCarrier 7 = .ok (.istore_n 1, 1) := by decide +kernel
theorem dX5_readCarrier_8 : decode cX5_readCarrier 8 = .ok (.iload_n 1, 1) := by decide +kernel
theorem dX5_readCarrier_9 : decode cX5_readCarrier 9 = .ok (.bipush 6, 2) := by decide +kernel
theorem dX5_readCarrier_11 : decode cX5_readCarrier 11 = .ok (.if_icmp .lt 9, 3) := by decide +kernel
theorem dX5_readCarrier_14 : decode cX5_readCarrier 14 = .ok (.aload_n 0, 1) := by decide +kernel
theorem dX5_readCarrier_15 : decode cX5_readCarrier 15 = .ok (.iconst 5, 1) := by decide +kernel
theorem dX5_readCarrier_16 : decode cX5_readCarrier 16 = .ok (.invokevirtual 110, 3) := by decide +kernel
theorem dX5_readCarrier_19 : decode cX5_readCarrier 19 = .ok (.ireturn, 1) := by decide +kernel
theorem dX5_readCarrier_20 : decode cX5_readCarrier 20 = .ok (.aload_n 0, 1) := by decide +kernel
theorem dX5_readCarrier_21 : decode cX5_readCarrier 21 = .ok (.getfield 25, 3) := by decide +kernel
theorem dX5_readCarrier_24 : decode cX5_readCarrier 24 = .ok (.invokevirtual 123, 3) := by decide +kernel
theorem dX5_readCarrier_27 : decode cX5_readCarrier 27 = .ok (.aload_n 0, 1) := by decide +kernel
theorem dX5_readCarrier_28 : decode cX5_readCarrier 28 = .ok (.invokevirtual 126, 3) := by decide +kernel
theorem dX5_readCarrier_31 : decode cX5_readCarrier 31 = .ok (.ifCond .ne 5, 3) := by decide +kernel
theorem dX5_readCarrier_34 : decode cX5_readCarrier 34 = .ok (.iconst 0, 1) := by decide +kernel
theorem dX5_readCarrier_35 : decode cX5_readCarrier 35 = .ok (.ireturn, 1) := by decide +kernel
theorem dX5_readCarrier_36 : decode cX5_readCarrier 36 = .ok (.aload_n 0, 1) := by decide +kernel
theorem dX5_readCarrier_37 : decode cX5_readCarrier 37 = .ok (.getfield 15, 3) := by decide +kernel
theorem dX5_readCarrier_40 : decode cX5_readCarrier 40 = .ok (.iload_n 1, 1) := by decide +kernel
theorem dX5_readCarrier_41 : decode cX5_readCarrier 41 = .ok (.aload_n 0, 1) := by decide +kernel
theorem dX5_readCarrier_42 : decode cX5_readCarrier 42 = .ok (.getfield 25, 3) := by decide +kernel
theorem dX5_readCarrier_45 : decode cX5_readCarrier 45 = .ok (.getfield 129, 3) := by decide +kernel
theorem dX5_readCarrier_48 : decode cX5_readCarrier 48 = .ok (.lastore, 1) := by decide +kernel
theorem dX5_readCarrier_49 : decode cX5_readCarrier 49 = .ok (.aload_n 0, 1) := by decide +kernel
theorem dX5_readCarrier_50 : decode cX5_readCarrier 50 = .ok (.getfield 25, 3) := by decide +kernel
theorem dX5_readCarrier_53 : decode cX5_readCarrier 53 = .ok (.invokevirtual 123, 3) := by decide +kernel
theorem dX5_readCarrier_56 : decode cX5_readCarrier 56 = .ok (.aload_n 0, 1) := by decide +kernel
theorem dX5_readCarrier_57 : decode cX5_readCarrier 57 = .ok (.getfield 25, 3) := by decide +kernel
theorem dX5_readCarrier_60 : decode cX5_readCarrier 60 = .ok (.getfield 53, 3) := by decide +kernel
theorem dX5_readCarrier_63 : decode cX5_readCarrier 63 = .ok (.getfield 183, 3) := by decide +kernel
theorem dX5_readCarrier_66 : decode cX5_readCarrier 66 = .ok (.iconst 1, 1) := by decide +kernel
theorem dX5_readCarrier_67 : decode cX5_readCarrier 67 = .ok (.if_icmp .eq 9, 3) := by decide +kernel
theorem dX5_readCarrier_70 : decode cX5_readCarrier 70 = .ok (.aload_n 0, 1) := by decide +kernel
theorem dX5_readCarrier_71 : decode cX5_readCarrier 71 = .ok (.iconst 1, 1) := by decide +kernel
theorem dX5_readCarrier_72 : decode cX5_readCarrier 72 = .ok (.invokevirtual 110, 3) := by decide +kernel
theorem dX5_readCarrier_75 : decode cX5_readCarrier 75 = .ok (.ireturn, 1) := by decide +kernel
theorem dX5_readCarrier_76 : decode cX5_readCarrier 76 = .ok (.aload_n 0, 1) := by decide +kernel
theorem dX5_readCarrier_77 : decode cX5_readCarrier 77 = .ok (.getfield 21, 3) := by decide +kernel
theorem dX5_readCarrier_80 : decode cX5_readCarrier 80 = .ok (.getfield 186, 3) := by decide +kernel
theorem dX5_readCarrier_83 : decode cX5_readCarrier 83 = .ok (.iload_n 1, 1) := by decide +kernel
theorem dX5_readCarrier_84 : decode cX5_readCarrier 84 = .ok (.aload_n 0, 1) := by decide +kernel
theorem dX5_readCarrier_85 : decode cX5_readCarrier 85 = .ok (.getfield 25, 3) := by decide +kernel
theorem dX5_readCarrier_88 : decode cX5_readCarrier 88 = .ok (.getfield 53, 3) := by decide +kernel
theorem dX5_readCarrier_91 : decode cX5_readCarrier 91 = .ok (.getfield 189, 3) := by decide +kernel
theorem dX5_readCarrier_94 : decode cX5_readCarrier 94 = .ok (.iastore, 1) := by decide +kernel
theorem dX5_readCarrier_95 : decode cX5_readCarrier 95 = .ok (.aload_n 0, 1) := by decide +kernel
theorem dX5_readCarrier_96 : decode cX5_readCarrier 96 = .ok (.getfield 25, 3) := by decide +kernel
theorem dX5_readCarrier_99 : decode cX5_readCarrier 99 = .ok (.invokevirtual 123, 3) := by decide +kernel
theorem dX5_readCarrier_102 : decode cX5_readCarrier 102 = .ok (.aload_n 0, 1) := by decide +kernel
theorem dX5_readCarrier_103 : decode cX5_readCarrier 103 = .ok (.getstatic 192, 3) := by decide +kernel
theorem dX5_readCarrier_106 : decode cX5_readCarrier 106 = .ok (.invokevirtual 117, 3) := by decide +kernel
theorem dX5_readCarrier_109 : decode cX5_readCarrier 109 = .ok (.ifCond .eq 13, 3) := by decide +kernel
theorem dX5_readCarrier_112 : decode cX5_readCarrier 112 = .ok (.aload_n 0, 1) := by decide +kernel
theorem dX5_readCarrier_113 : decode cX5_readCarrier 113 = .ok (.iconst 1, 1) := by decide +kernel
theorem dX5_readCarrier_114 : decode cX5_readCarrier 114 = .ok (.bipush 60, 2) := by decide +kernel
theorem dX5_readCarrier_116 : decode cX5_readCarrier 116 = .ok (.invokevirtual 136, 3) := by decide +kernel
theorem dX5_readCarrier_119 : decode cX5_readCarrier 119 = .ok (.ifCond .ne 5, 3) := by decide +kernel
theorem dX5_readCarrier_122 : decode cX5_readCarrier 122 = .ok (.iconst 0, 1) := by decide +kernel
theorem dX5_readCarrier_123 : decode cX5_readCarrier 123 = .ok (.ireturn, 1) := by decide +kernel
theorem dX5_readCarrier_124 : decode cX5_readCarrier 124 = .ok (.aload_n 0, 1) := by decide +kernel
theorem dX5_readCarrier_125 : decode cX5_readCarrier 125 = .ok (.getfield 21, 3) := by decide +kernel
theorem dX5_readCarrier_128 : decode cX5_readCarrier 128 = .ok (.getfield 195, 3) := by decide +kernel
theorem dX5_readCarrier_131 : decode cX5_readCarrier 131 = .ok (.iload_n 1, 1) := by decide +kernel
theorem dX5_readCarrier_132 : decode cX5_readCarrier 132 = .ok (.aload_n 0, 1) := by decide +kernel
theorem dX5_readCarrier_133 : decode cX5_readCarrier 133 = .ok (.getfield 144, 3) := by decide +kernel
theorem dX5_readCarrier_136 : decode cX5_readCarrier 136 = .ok (.iastore, 1) := by decide +kernel
theorem dX5_readCarrier_137 : decode cX5_readCarrier 137 = .ok (.aload_n 0, 1) := by decide +kernel
theorem dX5_readCarrier_138 : decode cX5_readCarrier 138 = .ok (.getstatic 198, 3) := by decide +kernel
theorem dX5_readCarrier_141 : decode cX5_readCarrier 141 = .ok (.invokevirtual 117, 3) := by decide +kernel
theorem dX5_readCarrier_144 : decode cX5_readCarrier 144 = .ok (.ifCond .eq 13, 3) := by decide +kernel
theorem dX5_readCarrier_147 : decode cX5_readCarrier 147 = .ok (.aload_n 0, 1) := by decide +kernel
theorem dX5_readCarrier_148 : decode cX5_readCarrier 148 = .ok (.iconst 0, 1) := by decide +kernel
theorem dX5_readCarrier_149 : decode cX5_readCarrier 149 = .ok (.bipush 20, 2) := by decide +kernel
theorem dX5_readCarrier_151 : decode cX5_readCarrier 151 = .ok (.invokevirtual 136, 3) := by decide +kernel
theorem dX5_readCarrier_154 : decode cX5_readCarrier 154 = .ok (.ifCond .ne 5, 3) := by decide +kernel
theorem dX5_readCarrier_157 : decode cX5_readCarrier 157 = .ok (.iconst 0, 1) := by decide +kernel
theorem dX5_readCarrier_158 : decode cX5_readCarrier 158 = .ok (.ireturn, 1) := by decide +kernel
theorem dX5_readCarrier_159 : decode cX5_readCarrier 159 = .ok (.aload_n 0, 1) := by decide +kernel
theorem dX5_readCarrier_160 : decode cX5_readCarrier 160 = .ok (.getfield 21, 3) := by decide +kernel
theorem dX5_readCarrier_163 : decode cX5_readCarrier 163 = .ok (.getfield 201, 3) := by decide +kernel
theorem dX5_readCarrier_166 : decode cX5_readCarrier 166 = .ok (.iload_n 1, 1) := by decide +kernel
theorem dX5_readCarrier_167 : decode cX5_readCarrier 167 = .ok (.aload_n 0, 1) := by decide +kernel
theorem dX5_readCarrier_168 : decode cX5_readCarrier 168 = .ok (.getfield 144, 3) := by decide +kernel
theorem dX5_readCarrier_171 : decode cX5_readCarrier 171 = .ok (.iastore, 1) := by decide +kernel
theorem dX5_readCarrier_172 : decode cX5_readCarrier 172 = .ok (.aload_n 0, 1) := by decide +kernel
theorem dX5_readCarrier_173 : decode cX5_readCarrier 173 = .ok (.getstatic 204, 3) := by decide +kernel
theorem dX5_readCarrier_176 : decode cX5_readCarrier 176 = .ok (.invokevirtual 117, 3) := by decide +kernel
theorem dX5_readCarrier_179 : decode cX5_readCarrier 179 = .ok (.ifCond .eq 13, 3) := by decide +kernel
theorem dX5_readCarrier_182 : decode cX5_readCarrier 182 = .ok (.aload_n 0, 1) := by decide +kernel
theorem dX5_readCarrier_183 : decode cX5_readCarrier 183 = .ok (.iconst 0, 1) := by decide +kernel
theorem dX5_readCarrier_184 : decode cX5_readCarrier 184 = .ok (.bipush 9, 2) := by decide +kernel
theorem dX5_readCarrier_186 : decode cX5_readCarrier 186 = .ok (.invokevirtual 136, 3) := by decide +kernel
theorem dX5_readCarrier_189 : decode cX5_readCarrier 189 = .ok (.ifCond .ne 5, 3) := by decide +kernel
theorem dX5_readCarrier_192 : decode cX5_readCarrier 192 = .ok (.iconst 0, 1) := by decide +kernel
theorem dX5_readCarrier_193 : decode cX5_readCarrier 193 = .ok (.ireturn, 1) := by decide +kernel
theorem dX5_readCarrier_194 : decode cX5_readCarrier 194 = .ok (.aload_n 0, 1) := by decide +kernel
theorem dX5_readCarrier_195 : decode cX5_readCarrier 195 = .ok (.getfield 21, 3) := by decide +kernel
theorem dX5_readCarrier_198 : decode cX5_readCarrier 198 = .ok (.getfield 207, 3) := by decide +kernel
theorem dX5_readCarrier_201 : decode cX5_readCarrier 201 = .ok (.iload_n 1, 1) := by decide +kernel
theorem dX5_readCarrier_202 : decode cX5_readCarrier 202 = .ok (.aload_n 0, 1) := by decide +kernel
theorem dX5_readCarrier_203 : decode cX5_readCarrier 203 = .ok (.getfield 144, 3) := by decide +kernel
theorem dX5_readCarrier_206 : decode cX5_readCarrier 206 = .ok (.iastore, 1) := by decide +kernel
theorem dX5_readCarrier_207 : decode cX5_readCarrier 207 = .ok (.aload_n 0, 1) := by decide +kernel
theorem dX5_readCarrier_208 : decode cX5_readCarrier 208 = .ok (.getfield 21, 3) := by decide +kernel
theorem dX5_readCarrier_211 : decode cX5_readCarrier 211 = .ok (.dup, 1) := by decide +kernel
theorem dX5_readCarrier_212 : decode cX5_readCarrier 212 = .ok (.getfield 180, 3) := by decide +kernel
theorem dX5_readCarrier_215 : decode cX5_readCarrier 215 = .ok (.iconst 1, 1) := by decide +kernel
theorem dX5_readCarrier_216 : decode cX5_readCarrier 216 = .ok (.iadd, 1) := by decide +kernel
theorem dX5_readCarrier_217 : decode cX5_readCarrier 217 = .ok (.putfield 180, 3) := by decide +kernel
theorem dX5_readCarrier_220 : decode cX5_readCarrier 220 = .ok (.iconst 1, 1) := by decide +kernel
theorem dX5_readCarrier_221 : decode cX5_readCarrier 221 = .ok (.ireturn, 1) := by decide +kernel
theorem dX5_readOwes_0 : decode cX5_readOwes 0 = .ok (.aload_n 0, 1) := by decide +kernel
theorem dX5_readOwes_1 : decode cX5_readOwes 1 = .ok (.getfield 25, 3) := by decide +kernel
theorem dX5_readOwes_4 : decode cX5_readOwes 4 = .ok (.invokevirtual 123, 3) := by decide +kernel
theorem dX5_readOwes_7 : decode cX5_readOwes 7 = .ok (.aload_n 0, 1) := by decide +kernel
theorem dX5_readOwes_8 : decode cX5_readOwes 8 = .ok (.aload_n 0, 1) := by decide +kernel
theorem dX5_readOwes_9 : decode cX5_readOwes 9 = .ok (.getfield 15, 3) := by decide +kernel
theorem dX5_readOwes_12 : decode cX5_readOwes 12 = .ok (.aload_n 0, 1) := by decide +kernel
theorem dX5_readOwes_13 : decode cX5_readOwes 13 = .ok (.getfield 21, 3) := by decide +kernel
theorem dX5_readOwes_16 : decode cX5_readOwes 16 = .ok (.getfield 180, 3) := by decide +kernel
theorem dX5_readOwes_19 : decode cX5_readOwes 19 = .ok (.invokevirtual 156, 3) := by decide +kernel
theorem dX5_readOwes_22 : decode cX5_readOwes 22 = .ok (.ifCond .ne 5, 3) := by decide +kernel
theorem dX5_readOwes_25 : decode cX5_readOwes 25 = .ok (.iconst 0, 1) := by decide +kernel
theorem dX5_readOwes_26 : decode cX5_readOwes 26 = .ok (.ireturn, 1) := by decide +kernel
theorem dX5_readOwes_27 : decode cX5_readOwes 27 = .ok (.aload_n 0, 1) := by decide +kernel
theorem dX5_readOwes_28 : decode cX5_readOwes 28 = .ok (.getfield 144, 3) := by decide +kernel
theorem dX5_readOwes_31 : decode cX5_readOwes 31 = .ok (.istore_n 1, 1) := by decide +kernel
theorem dX5_readOwes_32 : decode cX5_readOwes 32 = .ok (.aload_n 0, 1) := by decide +kernel
theorem dX5_readOwes_33 : decode cX5_readOwes 33 = .ok (.aload_n 0, 1) := by decide +kernel
theorem dX5_readOwes_34 : decode cX5_readOwes 34 = .ok (.getfield 15, 3) := by decide +kernel
theorem dX5_readOwes_37 : decode cX5_readOwes 37 = .ok (.aload_n 0, 1) := by decide +kernel
theorem dX5_readOwes_38 : decode cX5_readOwes 38 = .ok (.getfield 21, 3) := by decide +kernel
theorem dX5_readOwes_41 : decode cX5_readOwes 41 = .ok (.getfield 180, 3) := by decide +kernel
theorem dX5_readOwes_44 : decode cX5_readOwes 44 = .ok (.invokevirtual 160, 3) := by decide +kernel
theorem dX5_readOwes_47 : decode cX5_readOwes 47 = .ok (.ifCond .ne 5, 3) := by decide +kernel
theorem dX5_readOwes_50 : decode cX5_readOwes 50 = .ok (.iconst 0, 1) := by decide +kernel
theorem dX5_readOwes_51 : decode cX5_readOwes 51 = .ok (.ireturn, 1) := by decide +kernel
theorem dX5_readOwes_52 : decode cX5_readOwes 52 = .ok (.aload_n 0, 1) := by decide +kernel
theorem dX5_readOwes_53 : decode cX5_readOwes 53 = .ok (.aload_n 0, 1) := by decide +kernel
theorem dX5_readOwes_54 : decode cX5_readOwes 54 = .ok (.getfield 15, 3) := by decide +kernel
theorem dX5_readOwes_57 : decode cX5_readOwes 57 = .ok (.aload_n 0, 1) := by decide +kernel
theorem dX5_readOwes_58 : decode cX5_readOwes 58 = .ok (.getfield 21, 3) := by decide +kernel
theorem dX5_readOwes_61 : decode cX5_readOwes 61 = .ok (.getfield 180, 3) := by decide +kernel
theorem dX5_readOwes_64 : decode cX5_readOwes 64 = .ok (.invokevirtual 163, 3) := by decide +kernel
theorem dX5_readOwes_67 : decode cX5_readOwes 67 = .ok (.istore_n 2, 1) := by decide +kernel
theorem dX5_readOwes_68 : decode cX5_readOwes 68 = .ok (.iload_n 1, 1) := by decide +kernel
theorem dX5_readOwes_69 : decode cX5_readOwes 69 = .ok (.bipush 6, 2) := by decide +kernel
theorem dX5_readOwes_71 : decode cX5_readOwes 71 = .ok (.imul, 1) := by decide +kernel
theorem dX5_readOwes_72 : decode cX5_readOwes 72 = .ok (.iload_n 2, 1) := by decide +kernel
theorem dX5_readOwes_73 : decode cX5_readOwes 73 = .ok (.iadd, 1) := by decide +kernel
theorem dX5_readOwes_74 : decode cX5_readOwes 74 = .ok (.istore_n 3, 1) := by decide +kernel
theorem dX5_readOwes_75 : decode cX5_readOwes 75 = .ok (.iload_n 1, 1) := by decide +kernel
theorem dX5_readOwes_76 : decode cX5_readOwes 76 = .ok (.iload_n 2, 1) := by decide +kernel
theorem dX5_readOwes_77 : decode cX5_readOwes 77 = .ok (.if_icmp .eq 15, 3) := by decide +kernel
theorem dX5_readOwes_80 : decode cX5_readOwes 80 = .ok (.aload_n 0, 1) := by decide +kernel
theorem dX5_readOwes_81 : decode cX5_readOwes 81 = .ok (.getfield 21, 3) := by decide +kernel
theorem dX5_readOwes_84 : decode cX5_readOwes 84 = .ok (.getfield 210, 3) := by decide +kernel
theorem dX5_readOwes_87 : decode cX5_readOwes 87 = .ok (.iload_n 3, 1) := by decide +kernel
theorem dX5_readOwes_88 : decode cX5_readOwes 88 = .ok (.iaload, 1) := by decide +kernel
theorem dX5_readOwes_89 : decode cX5_readOwes 89 = .ok (.ifCond .le 9, 3) := by decide +kernel
theorem dX5_readOwes_92 : decode cX5_readOwes 92 = .ok (.aload_n 0, 1) := by decide +kernel
theorem dX5_readOwes_93 : decode cX5_readOwes 93 = .ok (.iconst 3, 1) := by decide +kernel
theorem dX5_readOwes_94 : decode cX5_readOwes 94 = .ok (.invokevirtual 110, 3) := by decide +kernel
theorem dX5_readOwes_97 : decode cX5_readOwes 97 = .ok (.ireturn, 1) := by decide +kernel
theorem dX5_readOwes_98 : decode cX5_readOwes 98 = .ok (.aload_n 0, 1) := by decide +kernel
theorem dX5_readOwes_99 : decode cX5_readOwes 99 = .ok (.getfield 25, 3) := by decide +kernel
theorem dX5_readOwes_102 : decode cX5_readOwes 102 = .ok (.invokevirtual 123, 3) := by decide +kernel
theorem dX5_readOwes_105 : decode cX5_readOwes 105 = .ok (.aload_n 0, 1) := by decide +kernel
theorem dX5_readOwes_106 : decode cX5_readOwes 106 = .ok (.iconst 1, 1) := by decide +kernel
theorem dX5_readOwes_107 : decode cX5_readOwes 107 = .ok (.bipush 99, 2) := by decide +kernel
theorem dX5_readOwes_109 : decode cX5_readOwes 109 = .ok (.invokevirtual 136, 3) := by decide +kernel
theorem dX5_readOwes_112 : decode cX5_readOwes 112 = .ok (.ifCond .ne 5, 3) := by decide +kernel
theorem dX5_readOwes_115 : decode cX5_readOwes 115 = .ok (.iconst 0, 1) := by decide +kernel
theorem dX5_readOwes_116 : decode cX5_readOwes 116 = .ok (.ireturn, 1) := by decide +kernel
theorem dX5_readOwes_117 : decode cX5_readOwes 117 = .ok (.aload_n 0, 1) := by decide +kernel
theorem dX5_readOwes_118 : decode cX5_readOwes 118 = .ok (.getfield 21, 3) := by decide +kernel
theorem dX5_readOwes_121 : decode cX5_readOwes 121 = .ok (.getfield 210, 3) := by decide +kernel
theorem dX5_readOwes_124 : decode cX5_readOwes 124 = .ok (.iload_n 3, 1) := by decide +kernel
theorem dX5_readOwes_125 : decode cX5_readOwes 125 = .ok (.aload_n 0, 1) := by decide +kernel
theorem dX5_readOwes_126 : decode cX5_readOwes 126 = .ok (.getfield 144, 3) := by decide +kernel
theorem dX5_readOwes_129 : decode cX5_readOwes 129 = .ok (.iastore, 1) := by decide +kernel
theorem dX5_readOwes_130 : decode cX5_readOwes 130 = .ok (.iconst 1, 1) := by decide +kernel
theorem dX5_readOwes_131 : decode cX5_readOwes 131 = .ok (.ireturn, 1) := by decide +kernel
theorem dX5_readLaw_0 : decode cX5_readLaw 0 = .ok (.aload_n 0, 1) := by decide +kernel
theorem dX5_readLaw_1 : decode cX5_readLaw 1 = .ok (.iload_n 1, 1) := by decide +kernel
theorem dX5_readLaw_2 : decode cX5_readLaw 2 = .ok (.ifCond .eq 7, 3) := by decide +kernel
theorem dX5_readLaw_5 : decode cX5_readLaw 5 = .ok (.iconst 1, 1) := by decide +kernel
theorem dX5_readLaw_6 : decode cX5_readLaw 6 = .ok (.goto 4, 3) := by decide +kernel
theorem dX5_readLaw_9 : decode cX5_readLaw 9 = .ok (.iconst 2, 1) := by decide +kernel
theorem dX5_readLaw_10 : decode cX5_readLaw 10 = .ok (.invokevirtual 213, 3) := by decide +kernel
theorem dX5_readLaw_13 : decode cX5_readLaw 13 = .ok (.ifCond .ne 5, 3) := by decide +kernel
theorem dX5_readLaw_16 : decode cX5_readLaw 16 = .ok (.iconst 0, 1) := by decide +kernel
theorem dX5_readLaw_17 : decode cX5_readLaw 17 = .ok (.ireturn, 1) := by decide +kernel
theorem dX5_readLaw_18 : decode cX5_readLaw 18 = .ok (.aload_n 0, 1) := by decide +kernel
theorem dX5_readLaw_19 : decode cX5_readLaw 19 = .ok (.getfield 25, 3) := by decide +kernel
theorem dX5_readLaw_22 : decode cX5_readLaw 22 = .ok (.invokevirtual 123, 3) := by decide +kernel
theorem dX5_readLaw_25 : decode cX5_readLaw 25 = .ok (.aload_n 0, 1) := by decide +kernel
theorem dX5_readLaw_26 : decode cX5_readLaw 26 = .ok (.getfield 34, 3) := by decide +kernel
theorem dX5_readLaw_29 : decode cX5_readLaw 29 = .ok (.iload_n 1, 1) := by decide +kernel
theorem dX5_readLaw_30 : decode cX5_readLaw 30 = .ok (.invokevirtual 216, 3) := by decide +kernel
theorem dX5_readLaw_33 : decode cX5_readLaw 33 = .ok (.istore_n 2, 1) := by decide +kernel
theorem dX5_readLaw_34 : decode cX5_readLaw 34 = .ok (.iload_n 2, 1) := by decide +kernel
theorem dX5_readLaw_35 : decode cX5_readLaw 35 = .ok (.ifCond .eq 9, 3) := by decide +kernel
theorem dX5_readLaw_38 : decode cX5_readLaw 38 = .ok (.aload_n 0, 1) := by decide +kernel
theorem dX5_readLaw_39 : decode cX5_readLaw 39 = .ok (.iload_n 2, 1) := by decide +kernel
theorem dX5_readLaw_40 : decode cX5_readLaw 40 = .ok (.invokevirtual 110, 3) := by decide +kernel
theorem dX5_readLaw_43 : decode cX5_readLaw 43 = .ok (.ireturn, 1) := by decide +kernel
theorem dX5_readLaw_44 : decode cX5_readLaw 44 = .ok (.iload_n 1, 1) := by decide +kernel
theorem dX5_readLaw_45 : decode cX5_readLaw 45 = .ok (.ifCond .eq 20, 3) := by decide +kernel
theorem dX5_readLaw_48 : decode cX5_readLaw 48 = .ok (.aload_n 0, 1) := by decide +kernel
theorem dX5_readLaw_49 : decode cX5_readLaw 49 = .ok (.getfield 21, 3) := by decide +kernel
theorem dX5_readLaw_52 : decode cX5_readLaw 52 = .ok (.aload_n 0, 1) := by decide +kernel
theorem dX5_readLaw_53 : decode cX5_readLaw 53 = .ok (.getfield 34, 3) := by decide +kernel
theorem dX5_readLaw_56 : decode cX5_readLaw 56 = .ok (.invokevirtual 219, 3) := by decide +kernel
theorem dX5_readLaw_59 : decode cX5_readLaw 59 = .ok (.putfield 223, 3) := by decide +kernel
theorem dX5_readLaw_62 : decode cX5_readLaw 62 = .ok (.goto 17, 3) := by decide +kernel
theorem dX5_readLaw_65 : decode cX5_readLaw 65 = .ok (.aload_n 0, 1) := by decide +kernel
theorem dX5_readLaw_66 : decode cX5_readLaw 66 = .ok (.getfield 21, 3) := by decide +kernel
theorem dX5_readLaw_69 : decode cX5_readLaw 69 = .ok (.aload_n 0, 1) := by decide +kernel
theorem dX5_readLaw_70 : decode cX5_readLaw 70 = .ok (.getfield 34, 3) := by decide +kernel
theorem dX5_readLaw_73 : decode cX5_readLaw 73 = .ok (.invokevirtual 219, 3) := by decide +kernel
theorem dX5_readLaw_76 : decode cX5_readLaw 76 = .ok (.putfield 226, 3) := by decide +kernel
theorem dX5_readLaw_79 : decode cX5_readLaw 79 = .ok (.iconst 1, 1) := by decide +kernel
theorem dX5_readLaw_80 : decode cX5_readLaw 80 = .ok (.ireturn, 1) := by decide +kernel
theorem dX5_readSetting_0 : decode cX5_readSetting 0 = .ok (.aload_n 0, 1) := by decide +kernel
theorem dX5_readSetting_1 : decode cX5_readSetting 1 = .ok (.aload_n 1, 1) := by decide +kernel
theorem dX5_readSetting_2 : decode cX5_readSetting 2 = .ok (.getstatic 97, 3) := by decide +kernel
theorem dX5_readSetting_5 : decode cX5_readSetting 5 = .ok (.if_acmp .ne 7, 3) := by decide +kernel
theorem dX5_readSetting_8 : decode cX5_readSetting 8 = .ok (.iconst 4, 1) := by decide +kernel
theorem dX5_readSetting_9 : decode cX5_readSetting 9 = .ok (.goto 17, 3) := by decide +kernel
theorem dX5_readSetting_12 : decode cX5_readSetting 12 = .ok (.aload_n 1, 1) := by decide +kernel
theorem dX5_readSetting_13 : decode cX5_readSetting 13 = .ok (.getstatic 100, 3) := by decide +kernel
theorem dX5_readSetting_16 : decode cX5_readSetting 16 = .ok (.if_acmp .ne 8, 3) := by decide +kernel
theorem dX5_readSetting_19 : decode cX5_readSetting 19 = .ok (.bipush 8, 2) := by decide +kernel
theorem dX5_readSetting_21 : decode cX5_readSetting 21 = .ok (.goto 5, 3) := by decide +kernel
theorem dX5_readSetting_24 : decode cX5_readSetting 24 = .ok (.bipush 16, 2) := by decide +kernel
theorem dX5_readSetting_26 : decode cX5_readSetting 26 = .ok (.invokevirtual 213, 3) := by decide +kernel
theorem dX5_readSetting_29 : decode cX5_readSetting 29 = .ok (.ifCond .ne 5, 3) := by decide +kernel
theorem dX5_readSetting_32 : decode cX5_readSetting 32 = .ok (.iconst 0, 1) := by decide +kernel
theorem dX5_readSetting_33 : decode cX5_readSetting 33 = .ok (.ireturn, 1) := by decide +kernel
theorem dX5_readSetting_34 : decode cX5_readSetting 34 = .ok (.aload_n 0, 1) := by decide +kernel
theorem dX5_readSetting_35 : decode cX5_readSetting 35 = .ok (.getfield 25, 3) := by decide +kernel
theorem dX5_readSetting_38 : decode cX5_readSetting 38 = .ok (.invokevirtual 123, 3) := by decide +kernel
theorem dX5_readSetting_41 : decode cX5_readSetting 41 = .ok (.aload_n 1, 1) := by decide +kernel
theorem dX5_readSetting_42 : decode cX5_readSetting 42 = .ok (.getstatic 103, 3) := by decide +kernel
theorem dX5_readSetting_45 : decode cX5_readSetting 45 = .ok (.if_acmp .ne 7, 3) := by decide +kernel
theorem dX5_readSetting_48 : decode cX5_readSetting 48 = .ok (.iconst 1, 1) := by decide +kernel
theorem dX5_readSetting_49 : decode cX5_readSetting 49 = .ok (.goto 4, 3) := by decide +kernel
theorem dX5_readSetting_52 : decode cX5_readSetting 52 = .ok (.iconst 0, 1) := by decide +kernel
theorem dX5_readSetting_53 : decode cX5_readSetting 53 = .ok (.istore_n 2, 1) := by decide +kernel
theorem dX5_readSetting_54 : decode cX5_readSetting 54 = .ok (.aload_n 1, 1) := by decide +kernel
theorem dX5_readSetting_55 : decode cX5_readSetting 55 = .ok (.getstatic 97, 3) := by decide +kernel
theorem dX5_readSetting_58 : decode cX5_readSetting 58 = .ok (.if_acmp .ne 8, 3) := by decide +kernel
theorem dX5_readSetting_61 : decode cX5_readSetting 61 = .ok (.bipush 99, 2) := by decide +kernel
theorem dX5_readSetting_63 : decode cX5_readSetting 63 = .ok (.goto 19, 3) := by decide +kernel
theorem dX5_readSetting_66 : decode cX5_readSetting 66 = .ok (.aload_n 1, 1) := by decide +kernel
theorem dX5_readSetting_67 : decode cX5_readSetting 67 = .ok (.getstatic 100, 3) := by decide +kernel
theorem dX5_readSetting_70 : decode cX5_readSetting 70 = .ok (.if_acmp .ne 9, 3) := by decide +kernel
theorem dX5_readSetting_73 : decode cX5_readSetting 73 = .ok (.sipush 200, 3) := by decide +kernel
theorem dX5_readSetting_76 : decode cX5_readSetting 76 = .ok (.goto 6, 3) := by decide +kernel
theorem dX5_readSetting_79 : decode cX5_readSetting 79 = .ok (.sipush 999, 3) := by decide +kernel
theorem dX5_readSetting_82 : decode cX5_readSetting 82 = .ok (.istore_n 3, 1) := by decide +kernel
theorem dX5_readSetting_83 : decode cX5_readSetting 83 = .ok (.aload_n 0, 1) := by decide +kernel
theorem dX5_readSetting_84 : decode cX5_readSetting 84 = .ok (.iload_n 2, 1) := by decide +kernel
theorem dX5_readSetting_85 : decode cX5_readSetting 85 = .ok (.iload_n 3, 1) := by decide +kernel
theorem dX5_readSetting_86 : decode cX5_readSetting 86 = .ok (.invokevirtual 136, 3) := by decide +kernel
theorem dX5_readSetting_89 : decode cX5_readSetting 89 = .ok (.ifCond .ne 5, 3) := by decide +kernel
theorem dX5_readSetting_92 : decode cX5_readSetting 92 = .ok (.iconst 0, 1) := by decide +kernel
theorem dX5_readSetting_93 : decode cX5_readSetting 93 = .ok (.ireturn, 1) := by decide +kernel
theorem dX5_readSetting_94 : decode cX5_readSetting 94 = .ok (.aload_n 1, 1) := by decide +kernel
theorem dX5_readSetting_95 : decode cX5_readSetting 95 = .ok (.getstatic 97, 3) := by decide +kernel
theorem dX5_readSetting_98 : decode cX5_readSetting 98 = .ok (.if_acmp .ne 17, 3) := by decide +kernel
theorem dX5_readSetting_101 : decode cX5_readSetting 101 = .ok (.aload_n 0, 1) := by decide +kernel
theorem dX5_readSetting_102 : decode cX5_readSetting 102 = .ok (.getfield 21, 3) := by decide +kernel
theorem dX5_readSetting_105 : decode cX5_readSetting 105 = .ok (.aload_n 0, 1) := by decide +kernel
theorem dX5_readSetting_106 : decode cX5_readSetting 106 = .ok (.getfield 144, 3) := by decide +kernel
theorem dX5_readSetting_109 : decode cX5_readSetting 109 = .ok (.putfield 229, 3) := by decide +kernel
theorem dX5_readSetting_112 : decode cX5_readSetting 112 = .ok (.goto 35, 3) := by decide +kernel
theorem dX5_readSetting_115 : decode cX5_readSetting 115 = .ok (.aload_n 1, 1) := by decide +kernel
theorem dX5_readSetting_116 : decode cX5_readSetting 116 = .ok (.getstatic 100, 3) := by decide +kernel
theorem dX5_readSetting_119 : decode cX5_readSetting 119 = .ok (.if_acmp .ne 17, 3) := by decide +kernel
theorem dX5_readSetting_122 : decode cX5_readSetting 122 = .ok (.aload_n 0, 1) := by decide +kernel
theorem dX5_readSetting_123 : decode cX5_readSetting 123 = .ok (.getfield 21, 3) := by decide +kernel
theorem dX5_readSetting_126 : decode cX5_readSetting 126 = .ok (.aload_n 0, 1) := by decide +kernel
theorem dX5_readSetting_127 : decode cX5_readSetting 127 = .ok (.getfield 144, 3) := by decide +kernel
theorem dX5_readSetting_130 : decode cX5_readSetting 130 = .ok (.putfield 232, 3) := by decide +kernel
theorem dX5_readSetting_133 : decode cX5_readSetting 133 = .ok (.goto 14, 3) := by decide +kernel
theorem dX5_readSetting_136 : decode cX5_readSetting 136 = .ok (.aload_n 0, 1) := by decide +kernel
theorem dX5_readSetting_137 : decode cX5_readSetting 137 = .ok (.getfield 21, 3) := by decide +kernel
theorem dX5_readSetting_140 : decode cX5_readSetting 140 = .ok (.aload_n 0, 1) := by decide +kernel
theorem dX5_readSetting_141 : decode cX5_readSetting 141 = .ok (.getfield 144, 3) := by decide +kernel
theorem dX5_readSetting_144 : decode cX5_readSetting 144 = .ok (.putfield 235, 3) := by decide +kernel
theorem dX5_readSetting_147 : decode cX5_readSetting 147 = .ok (.iconst 1, 1) := by decide +kernel
theorem dX5_readSetting_148 : decode cX5_readSetting 148 = .ok (.ireturn, 1) := by decide +kernel
theorem dX5_wrong_0 : decode cX5_wrong 0 = .ok (.aload_n 0, 1) := by decide +kernel
theorem dX5_wrong_1 : decode cX5_wrong 1 = .ok (.iload_n 1, 1) := by decide +kernel
theorem dX5_wrong_2 : decode cX5_wrong 2 = .ok (.bipush 16, 2) := by decide +kernel
theorem dX5_wrong_4 : decode cX5_wrong 4 = .ok (.aload_n 0, 1) := by decide +kernel
theorem dX5_wrong_5 : decode cX5_wrong 5 = .ok (.getfield 25, 3) := by decide +kernel
theorem dX5_wrong_8 : decode cX5_wrong 8 = .ok (.getfield 238, 3) := by decide +kernel
theorem dX5_wrong_11 : decode cX5_wrong 11 = .ok (.imul, 1) := by decide +kernel
theorem dX5_wrong_12 : decode cX5_wrong 12 = .ok (.iadd, 1) := by decide +kernel
theorem dX5_wrong_13 : decode cX5_wrong 13 = .ok (.putfield 41, 3) := by decide +kernel
theorem dX5_wrong_16 : decode cX5_wrong 16 = .ok (.iconst 0, 1) := by decide +kernel
theorem dX5_wrong_17 : decode cX5_wrong 17 = .ok (.ireturn, 1) := by decide +kernel
theorem dX5_isFirst_0 : decode cX5_isFirst 0 = .ok (.aload_n 0, 1) := by decide +kernel
theorem dX5_isFirst_1 : decode cX5_isFirst 1 = .ok (.getfield 45, 3) := by decide +kernel
theorem dX5_isFirst_4 : decode cX5_isFirst 4 = .ok (.iload_n 1, 1) := by decide +kernel
theorem dX5_isFirst_5 : decode cX5_isFirst 5 = .ok (.iand, 1) := by decide +kernel
theorem dX5_isFirst_6 : decode cX5_isFirst 6 = .ok (.ifCond .eq 9, 3) := by decide +kernel
theorem dX5_isFirst_9 : decode cX5_isFirst 9 = .ok (.aload_n 0, 1) := by decide +kernel
theorem dX5_isFirst_10 : decode cX5_isFirst 10 = .ok (.iconst 3, 1) := by decide +kernel
theorem dX5_isFirst_11 : decode cX5_isFirst 11 = .ok (.invokevirtual 110, 3) := by decide +kernel
theorem dX5_isFirst_14 : decode cX5_isFirst 14 = .ok (.ireturn, 1) := by decide +kernel
theorem dX5_isFirst_15 : decode cX5_isFirst 15 = .ok (.aload_n 0, 1) := by decide +kernel
theorem dX5_isFirst_16 : decode cX5_isFirst 16 = .ok (.dup, 1) := by decide +kernel
theorem dX5_isFirst_17 : decode cX5_isFirst 17 = .ok (.getfield 45, 3) := by decide +kernel
theorem dX5_isFirst_20 : decode cX5_isFirst 20 = .ok (.iload_n 1, 1) := by decide +kernel
theorem dX5_isFirst_21 : decode cX5_isFirst 21 = .ok (.ior, 1) := by decide +kernel
theorem dX5_isFirst_22 : decode cX5_isFirst 22 = .ok (.putfield 45, 3) := by decide +kernel
theorem dX5_isFirst_25 : decode cX5_isFirst 25 = .ok (.iconst 1, 1) := by decide +kernel
theorem dX5_isFirst_26 : decode cX5_isFirst 26 = .ok (.ireturn, 1) := by decide +kernel
theorem dX5_take_0 : decode cX5_take 0 = .ok (.aload_n 0, 1) := by decide +kernel
theorem dX5_take_1 : decode cX5_take 1 = .ok (.getfield 25, 3) := by decide +kernel
theorem dX5_take_4 : decode cX5_take 4 = .ok (.getfield 53, 3) := by decide +kernel
theorem dX5_take_7 : decode cX5_take 7 = .ok (.aload_n 1, 1) := by decide +kernel
theorem dX5_take_8 : decode cX5_take 8 = .ok (.if_acmp .eq 9, 3) := by decide +kernel
theorem dX5_take_11 : decode cX5_take 11 = .ok (.aload_n 0, 1) := by decide +kernel
theorem dX5_take_12 : decode cX5_take 12 = .ok (.iconst 1, 1) := by decide +kernel
theorem dX5_take_13 : decode cX5_take 13 = .ok (.invokevirtual 110, 3) := by decide +kernel
theorem dX5_take_16 : decode cX5_take 16 = .ok (.ireturn, 1) := by decide +kernel
theorem dX5_take_17 : decode cX5_take 17 = .ok (.aload_n 0, 1) := by decide +kernel
theorem dX5_take_18 : decode cX5_take 18 = .ok (.getfield 25, 3) := by decide +kernel
theorem dX5_take_21 : decode cX5_take 21 = .ok (.invokevirtual 123, 3) := by decide +kernel
theorem dX5_take_24 : decode cX5_take 24 = .ok (.iconst 1, 1) := by decide +kernel
theorem dX5_take_25 : decode cX5_take 25 = .ok (.ireturn, 1) := by decide +kernel
theorem dX5_takeNumber_0 : decode cX5_takeNumber 0 = .ok (.aload_n 0, 1) := by decide +kernel
theorem dX5_takeNumber_1 : decode cX5_takeNumber 1 = .ok (.getfield 25, 3) := by decide +kernel
theorem dX5_takeNumber_4 : decode cX5_takeNumber 4 = .ok (.getfield 53, 3) := by decide +kernel
theorem dX5_takeNumber_7 : decode cX5_takeNumber 7 = .ok (.getstatic 241, 3) := by decide +kernel
theorem dX5_takeNumber_10 : decode cX5_takeNumber 10 = .ok (.if_acmp .eq 9, 3) := by decide +kernel
theorem dX5_takeNumber_13 : decode cX5_takeNumber 13 = .ok (.aload_n 0, 1) := by decide +kernel
theorem dX5_takeNumber_14 : decode cX5_takeNumber 14 = .ok (.iconst 1, 1) := by decide +kernel
theorem dX5_takeNumber_15 : decode cX5_takeNumber 15 = .ok (.invokevirtual 110, 3) := by decide +kernel
theorem dX5_takeNumber_18 : decode cX5_takeNumber 18 = .ok (.ireturn, 1) := by decide +kernel
theorem dX5_takeNumber_19 : decode cX5_takeNumber 19 = .ok (.aload_n 0, 1) := by decide +kernel
theorem dX5_takeNumber_20 : decode cX5_takeNumber 20 = .ok (.getfield 25, 3) := by decide +kernel
theorem dX5_takeNumber_23 : decode cX5_takeNumber 23 = .ok (.getfield 244, 3) := by decide +kernel
theorem dX5_takeNumber_26 : decode cX5_takeNumber 26 = .ok (.iload_n 1, 1) := by decide +kernel
theorem dX5_takeNumber_27 : decode cX5_takeNumber 27 = .ok (.if_icmp .lt 14, 3) := by decide +kernel
theorem dX5_takeNumber_30 : decode cX5_takeNumber 30 = .ok (.aload_n 0, 1) := by decide +kernel
theorem dX5_takeNumber_31 : decode cX5_takeNumber 31 = .ok (.getfield 25, 3) := by decide +kernel
theorem dX5_takeNumber_34 : decode cX5_takeNumber 34 = .ok (.getfield 244, 3) := by decide +kernel
theorem dX5_takeNumber_37 : decode cX5_takeNumber 37 = .ok (.iload_n 2, 1) := by decide +kernel
theorem dX5_takeNumber_38 : decode cX5_takeNumber 38 = .ok (.if_icmp .le 9, 3) := by decide +kernel
theorem dX5_takeNumber_41 : decode cX5_takeNumber 41 = .ok (.aload_n 0, 1) := by decide +kernel
theorem dX5_takeNumber_42 : decode cX5_takeNumber 42 = .ok (.iconst 4, 1) := by decide +kernel
theorem dX5_takeNumber_43 : decode cX5_takeNumber 43 = .ok (.invokevirtual 110, 3) := by decide +kernel
theorem dX5_takeNumber_46 : decode cX5_takeNumber 46 = .ok (.ireturn, 1) := by decide +kernel
theorem dX5_takeNumber_47 : decode cX5_takeNumber 47 = .ok (.aload_n 0, 1) := by decide +kernel
theorem dX5_takeNumber_48 : decode cX5_takeNumber 48 = .ok (.aload_n 0, 1) := by decide +kernel
theorem dX5_takeNumber_49 : decode cX5_takeNumber 49 = .ok (.getfield 25, 3) := by decide +kernel
theorem dX5_takeNumber_52 : decode cX5_takeNumber 52 = .ok (.getfield 244, 3) := by decide +kernel
theorem dX5_takeNumber_55 : decode cX5_takeNumber 55 = .ok (.putfield 144, 3) := by decide +kernel
theorem dX5_takeNumber_58 : decode cX5_takeNumber 58 = .ok (.aload_n 0, 1) := by decide +kernel
theorem dX5_takeNumber_59 : decode cX5_takeNumber 59 = .ok (.getfield 25, 3) := by decide +kernel
theorem dX5_takeNumber_62 : decode cX5_takeNumber 62 = .ok (.invokevirtual 123, 3) := by decide +kernel
theorem dX5_takeNumber_65 : decode cX5_takeNumber 65 = .ok (.iconst 1, 1) := by decide +kernel
theorem dX5_takeNumber_66 : decode cX5_takeNumber 66 = .ok (.ireturn, 1) := by decide +kernel
theorem dX5_takeTold_0 : decode cX5_takeTold 0 = .ok (.aload_n 0, 1) := by decide +kernel
theorem dX5_takeTold_1 : decode cX5_takeTold 1 = .ok (.aload_n 1, 1) := by decide +kernel
theorem dX5_takeTold_2 : decode cX5_takeTold 2 = .ok (.iload_n 2, 1) := by decide +kernel
theorem dX5_takeTold_3 : decode cX5_takeTold 3 = .ok (.invokevirtual 160, 3) := by decide +kernel
theorem dX5_takeTold_6 : decode cX5_takeTold 6 = .ok (.ifCond .ne 5, 3) := by decide +kernel
theorem dX5_takeTold_9 : decode cX5_takeTold 9 = .ok (.iconst 0, 1) := by decide +kernel
theorem dX5_takeTold_10 : decode cX5_takeTold 10 = .ok (.ireturn, 1) := by decide +kernel
theorem dX5_takeTold_11 : decode cX5_takeTold 11 = .ok (.aload_n 0, 1) := by decide +kernel
theorem dX5_takeTold_12 : decode cX5_takeTold 12 = .ok (.aload_n 0, 1) := by decide +kernel
theorem dX5_takeTold_13 : decode cX5_takeTold 13 = .ok (.aload_n 1, 1) := by decide +kernel
theorem dX5_takeTold_14 : decode cX5_takeTold 14 = .ok (.iload_n 2, 1) := by decide +kernel
theorem dX5_takeTold_15 : decode cX5_takeTold 15 = .ok (.invokevirtual 163, 3) := by decide +kernel
theorem dX5_takeTold_18 : decode cX5_takeTold 18 = .ok (.putfield 144, 3) := by decide +kernel
theorem dX5_takeTold_21 : decode cX5_takeTold 21 = .ok (.aload_n 0, 1) := by decide +kernel
theorem dX5_takeTold_22 : decode cX5_takeTold 22 = .ok (.getfield 25, 3) := by decide +kernel
theorem dX5_takeTold_25 : decode cX5_takeTold 25 = .ok (.invokevirtual 123, 3) := by decide +kernel
theorem dX5_takeTold_28 : decode cX5_takeTold 28 = .ok (.iconst 1, 1) := by decide +kernel
theorem dX5_takeTold_29 : decode cX5_takeTold 29 = .ok (.ireturn, 1) := by decide +kernel
theorem dX5_isTold_0 : decode cX5_isTold 0 = .ok (.aload_n 0, 1) := by decide +kernel
theorem dX5_isTold_1 : decode cX5_isTold 1 = .ok (.getfield 25, 3) := by decide +kernel
theorem dX5_isTold_4 : decode cX5_isTold 4 = .ok (.getfield 53, 3) := by decide +kernel
theorem dX5_isTold_7 : decode cX5_isTold 7 = .ok (.invokevirtual 245, 3) := by decide +kernel
theorem dX5_isTold_10 : decode cX5_isTold 10 = .ok (.ifCond .ne 9, 3) := by decide +kernel
theorem dX5_isTold_13 : decode cX5_isTold 13 = .ok (.aload_n 0, 1) := by decide +kernel
theorem dX5_isTold_14 : decode cX5_isTold 14 = .ok (.iconst 1, 1) := by decide +kernel
theorem dX5_isTold_15 : decode cX5_isTold 15 = .ok (.invokevirtual 110, 3) := by decide +kernel
theorem dX5_isTold_18 : decode cX5_isTold 18 = .ok (.ireturn, 1) := by decide +kernel
theorem dX5_isTold_19 : decode cX5_isTold 19 = .ok (.aload_n 0, 1) := by decide +kernel
theorem dX5_isTold_20 : decode cX5_isTold 20 = .ok (.aload_n 1, 1) := by decide +kernel
theorem dX5_isTold_21 : decode cX5_isTold 21 = .ok (.iload_n 2, 1) := by decide +kernel
theorem dX5_isTold_22 : decode cX5_isTold 22 = .ok (.invokevirtual 163, 3) := by decide +kernel
theorem dX5_isTold_25 : decode cX5_isTold 25 = .ok (.iconst (-1), 1) := by decide +kernel
theorem dX5_isTold_26 : decode cX5_isTold 26 = .ok (.if_icmp .ne 9, 3) := by decide +kernel
theorem dX5_isTold_29 : decode cX5_isTold 29 = .ok (.aload_n 0, 1) := by decide +kernel
theorem dX5_isTold_30 : decode cX5_isTold 30 = .ok (.iconst 2, 1) := by decide +kernel
theorem dX5_isTold_31 : decode cX5_isTold 31 = .ok (.invokevirtual 110, 3) := by decide +kernel
theorem dX5_isTold_34 : decode cX5_isTold 34 = .ok (.ireturn, 1) := by decide +kernel
theorem dX5_isTold_35 : decode cX5_isTold 35 = .ok (.iconst 1, 1) := by decide +kernel
theorem dX5_isTold_36 : decode cX5_isTold 36 = .ok (.ireturn, 1) := by decide +kernel
theorem dX5_isNewName_0 : decode cX5_isNewName 0 = .ok (.aload_n 0, 1) := by decide +kernel
theorem dX5_isNewName_1 : decode cX5_isNewName 1 = .ok (.getfield 25, 3) := by decide +kernel
theorem dX5_isNewName_4 : decode cX5_isNewName 4 = .ok (.getfield 53, 3) := by decide +kernel
theorem dX5_isNewName_7 : decode cX5_isNewName 7 = .ok (.invokevirtual 245, 3) := by decide +kernel
theorem dX5_isNewName_10 : decode cX5_isNewName 10 = .ok (.ifCond .ne 9, 3) := by decide +kernel
theorem dX5_isNewName_13 : decode cX5_isNewName 13 = .ok (.aload_n 0, 1) := by decide +kernel
theorem dX5_isNewName_14 : decode cX5_isNewName 14 = .ok (.iconst 1, 1) := by decide +kernel
theorem dX5_isNewName_15 : decode cX5_isNewName 15 = .ok (.invokevirtual 110, 3) := by decide +kernel
theorem dX5_isNewName_18 : decode cX5_isNewName 18 = .ok (.ireturn, 1) := by decide +kernel
theorem dX5_isNewName_19 : decode cX5_isNewName 19 = .ok (.aload_n 0, 1) := by decide +kernel
theorem dX5_isNewName_20 : decode cX5_isNewName 20 = .ok (.aload_n 0, 1) := by decide +kernel
theorem dX5_isNewName_21 : decode cX5_isNewName 21 = .ok (.getfield 9, 3) := by decide +kernel
theorem dX5_isNewName_24 : decode cX5_isNewName 24 = .ok (.aload_n 0, 1) := by decide +kernel
theorem dX5_isNewName_25 : decode cX5_isNewName 25 = .ok (.getfield 21, 3) := by decide +kernel
theorem dX5_isNewName_28 : decode cX5_isNewName 28 = .ok (.getfield 120, 3) := by decide +kernel
theorem dX5_isNewName_31 : decode cX5_isNewName 31 = .ok (.invokevirtual 163, 3) := by decide +kernel
theorem dX5_isNewName_34 : decode cX5_isNewName 34 = .ok (.iconst (-1), 1) := by decide +kernel
theorem dX5_isNewName_35 : decode cX5_isNewName 35 = .ok (.if_icmp .ne 22, 3) := by decide +kernel
theorem dX5_isNewName_38 : decode cX5_isNewName 38 = .ok (.aload_n 0, 1) := by decide +kernel
theorem dX5_isNewName_39 : decode cX5_isNewName 39 = .ok (.aload_n 0, 1) := by decide +kernel
theorem dX5_isNewName_40 : decode cX5_isNewName 40 = .ok (.getfield 15, 3) := by decide +kernel
theorem dX5_isNewName_43 : decode cX5_isNewName 43 = .ok (.aload_n 0, 1) := by decide +kernel
theorem dX5_isNewName_44 : decode cX5_isNewName 44 = .ok (.getfield 21, 3) := by decide +kernel
theorem dX5_isNewName_47 : decode cX5_isNewName 47 = .ok (.getfield 180, 3) := by decide +kernel
theorem dX5_isNewName_50 : decode cX5_isNewName 50 = .ok (.invokevirtual 163, 3) := by decide +kernel
theorem dX5_isNewName_53 : decode cX5_isNewName 53 = .ok (.iconst (-1), 1) := by decide +kernel
theorem dX5_isNewName_54 : decode cX5_isNewName 54 = .ok (.if_icmp .eq 9, 3) := by decide +kernel
theorem dX5_isNewName_57 : decode cX5_isNewName 57 = .ok (.aload_n 0, 1) := by decide +kernel
theorem dX5_isNewName_58 : decode cX5_isNewName 58 = .ok (.iconst 3, 1) := by decide +kernel
theorem dX5_isNewName_59 : decode cX5_isNewName 59 = .ok (.invokevirtual 110, 3) := by decide +kernel
theorem dX5_isNewName_62 : decode cX5_isNewName 62 = .ok (.ireturn, 1) := by decide +kernel
theorem dX5_isNewName_63 : decode cX5_isNewName 63 = .ok (.iconst 1, 1) := by decide +kernel
theorem dX5_isNewName_64 : decode cX5_isNewName 64 = .ok (.ireturn, 1) := by decide +kernel
theorem dX5_placeOf_0 : decode cX5_placeOf 0 = .ok (.iconst 0, 1) := by decide +kernel
theorem dX5_placeOf_1 : decode cX5_placeOf 1 = .ok (.istore_n 3, 1) := by decide +kernel
theorem dX5_placeOf_2 : decode cX5_placeOf 2 = .ok (.iload_n 3, 1) := by decide +kernel
theorem dX5_placeOf_3 : decode cX5_placeOf 3 = .ok (.iload_n 2, 1) := by decide +kernel
theorem dX5_placeOf_4 : decode cX5_placeOf 4 = .ok (.if_icmp .ge 31, 3) := by decide +kernel
theorem dX5_placeOf_7 : decode cX5_placeOf 7 = .ok (.iload_n 3, 1) := by decide +kernel
theorem dX5_placeOf_8 : decode cX5_placeOf 8 = .ok (.aload_n 1, 1) := by decide +kernel
theorem dX5_placeOf_9 : decode cX5_placeOf 9 = .ok (.arraylength, 1) := by decide +kernel
theorem dX5_placeOf_10 : decode cX5_placeOf 10 = .ok (.if_icmp .ge 25, 3) := by decide +kernel
theorem dX5_placeOf_13 : decode cX5_placeOf 13 = .ok (.aload_n 1, 1) := by decide +kernel
theorem dX5_placeOf_14 : decode cX5_placeOf 14 = .ok (.iload_n 3, 1) := by decide +kernel
theorem dX5_placeOf_15 : decode cX5_placeOf 15 = .ok (.laload, 1) := by decide +kernel
theorem dX5_placeOf_16 : decode cX5_placeOf 16 = .ok (.aload_n 0, 1) := by decide +kernel
theorem dX5_placeOf_17 : decode cX5_placeOf 17 = .ok (.getfield 25, 3) := by decide +kernel
theorem dX5_placeOf_20 : decode cX5_placeOf 20 = .ok (.getfield 129, 3) := by decide +kernel
theorem dX5_placeOf_23 : decode cX5_placeOf 23 = .ok (.lcmp, 1) := by decide +kernel
theorem dX5_placeOf_24 : decode cX5_placeOf 24 = .ok (.ifCond .ne 5, 3) := by decide +kernel
theorem dX5_placeOf_27 : decode cX5_placeOf 27 = .ok (.iload_n 3, 1) := by decide +kernel
theorem dX5_placeOf_28 : decode cX5_placeOf 28 = .ok (.ireturn, 1) := by decide +kernel
theorem dX5_placeOf_29 : decode cX5_placeOf 29 = .ok (.iinc 3 1, 3) := by decide +kernel
theorem dX5_placeOf_32 : decode cX5_placeOf 32 = .ok (.goto (-30), 3) := by decide +kernel
theorem dX5_placeOf_35 : decode cX5_placeOf 35 = .ok (.iconst (-1), 1) := by decide +kernel
theorem dX5_placeOf_36 : decode cX5_placeOf 36 = .ok (.ireturn, 1) := by decide +kernel
theorem dX6_init_0 : decode cX6_init 0 = .ok (.aload_n 0, 1) := by decide +kernel
theorem dX6_init_1 : decode cX6_init 1 = .ok (.invokespecial 3, 3) := by decide +kernel
theorem dX6_init_4 : decode cX6_init 4 = .ok (.aload_n 0, 1) := by decide +kernel
theorem dX6_init_5 : decode cX6_init 5 = .ok (.sipush 259, 3) := by decide +kernel
theorem dX6_init_8 : decode cX6_init 8 = .ok (.newarray .int, 2) := by decide +kernel
theorem dX6_init_10 : decode cX6_init 10 = .ok (.putfield 11, 3) := by decide +kernel
theorem dX6_init_13 : decode cX6_init 13 = .ok (.aload_n 0, 1) := by decide +kernel
theorem dX6_init_14 : decode cX6_init 14 = .ok (.bipush 37, 2) := by decide +kernel
theorem dX6_init_16 : decode cX6_init 16 = .ok (.newarray .int, 2) := by decide +kernel
theorem dX6_init_18 : decode cX6_init 18 = .ok (.putfield 15, 3) := by decide +kernel
theorem dX6_init_21 : decode cX6_init 21 = .ok (.aload_n 0, 1) := by decide +kernel
theorem dX6_init_22 : decode cX6_init 22 = .ok (.bipush 7, 2) := by decide +kernel
theorem dX6_init_24 : decode cX6_init 24 = .ok (.newarray .int, 2) := by decide +kernel
theorem dX6_init_26 : decode cX6_init 26 = .ok (.putfield 18, 3) := by decide +kernel
theorem dX6_init_29 : decode cX6_init 29 = .ok (.return_, 1) := by decide +kernel
theorem dX6_find_0 : decode cX6_find 0 = .ok (.aload_n 0, 1) := by decide +kernel
theorem dX6_find_1 : decode cX6_find 1 = .ok (.iconst 0, 1) := by decide +kernel
theorem dX6_find_2 : decode cX6_find 2 = .ok (.putfield 21, 3) := by decide +kernel
theorem dX6_find_5 : decode cX6_find 5 = .ok (.aload_n 1, 1) := by decide +kernel
theorem dX6_find_6 : decode cX6_find 6 = .ok (.getfield 25, 3) := by decide +kernel
theorem dX6_find_9 : decode cX6_find 9 = .ok (.ifCond .le 17, 3) := by decide +kernel
theorem dX6_find_12 : decode cX6_find 12 = .ok (.aload_n 0, 1) := by decide +kernel
theorem dX6_find_13 : decode cX6_find 13 = .ok (.getfield 18, 3) := by decide +kernel
theorem dX6_find_16 : decode cX6_find 16 = .ok (.iconst 0, 1) := by decide +kernel
theorem dX6_find_17 : decode cX6_find 17 = .ok (.iconst 0, 1) := by decide +kernel
theorem dX6_find_18 : decode cX6_find 18 = .ok (.iastore, 1) := by decide +kernel
theorem dX6_find_19 : decode cX6_find 19 = .ok (.aload_n 0, 1) := by decide +kernel
theorem dX6_find_20 : decode cX6_find 20 = .ok (.aload_n 1, 1) := by decide +kernel
theorem dX6_find_21 : decode cX6_find 21 = .ok (.iconst 0, 1) := by decide +kernel
theorem dX6_find_22 : decode cX6_find 22 = .ok (.iconst 1, 1) := by decide +kernel
theorem dX6_find_23 : decode cX6_find 23 = .ok (.invokevirtual 30, 3) := by decide +kernel
theorem dX6_find_26 : decode cX6_find 26 = .ok (.return_, 1) := by decide +kernel
theorem dX6_goOn_0 : decode cX6_goOn 0 = .ok (.aload_n 0, 1) := by decide +kernel
theorem dX6_goOn_1 : decode cX6_goOn 1 = .ok (.getfield 18, 3) := by decide +kernel
theorem dX6_goOn_4 : decode cX6_goOn 4 = .ok (.iload_n 2, 1) := by decide +kernel
theorem dX6_goOn_5 : decode cX6_goOn 5 = .ok (.iaload, 1) := by decide +kernel
theorem dX6_goOn_6 : decode cX6_goOn 6 = .ok (.istore 4, 2) := by decide +kernel
theorem dX6_goOn_8 : decode cX6_goOn 8 = .ok (.iload 4, 2) := by decide +kernel
theorem dX6_goOn_10 : decode cX6_goOn 10 = .ok (.aload_n 1, 1) := by decide +kernel
theorem dX6_goOn_11 : decode cX6_goOn 11 = .ok (.getfield 25, 3) := by decide +kernel
theorem dX6_goOn_14 : decode cX6_goOn 14 = .ok (.iconst 1, 1) := by decide +kernel
theorem dX6_goOn_15 : decode cX6_goOn 15 = .ok (.isub, 1) := by decide +kernel
theorem dX6_goOn_16 : decode cX6_goOn 16 = .ok (.if_icmp .ne 9, 3) := by decide +kernel
theorem dX6_goOn_19 : decode cX6_goOn 19 = .ok (.aload_n 0, 1) := by decide +kernel
theorem dX6_goOn_20 : decode cX6_goOn 20 = .ok (.iload_n 2, 1) := by decide +kernel
theorem dX6_goOn_21 : decode cX6_goOn 21 = .ok (.invokevirtual 34, 3) := by decide +kernel
theorem dX6_goOn_24 : decode cX6_goOn 24 = .ok (.return_, 1) := by decide +kernel
theorem dX6_goOn_25 : decode cX6_goOn 25 = .ok (.iload_n 2, 1) := by decide +kernel
theorem dX6_goOn_26 : decode cX6_goOn 26 = .ok (.iconst 1, 1) := by decide +kernel
theorem dX6_goOn_27 : decode cX6_goOn 27 = .ok (.iadd, 1) := by decide +kernel
theorem dX6_goOn_28 : decode cX6_goOn 28 = .ok (.bipush 7, 2) := by decide +kernel
theorem dX6_goOn_30 : decode cX6_goOn 30 = .ok (.if_icmp .lt 4, 3) := by decide +kernel
theorem dX6_goOn_33 : decode cX6_goOn 33 = .ok (.return_, 1) := by decide +kernel
theorem dX6_goOn_34 : decode cX6_goOn 34 = .ok (.iconst 0, 1) := by decide +kernel
theorem dX6_goOn_35 : decode cX6_goOn 35 = .ok (.istore 5, 2) := by decide +kernel
theorem dX6_goOn_37 : decode cX6_goOn 37 = .ok (.iload 5, 2) := by decide +kernel
theorem dX6_goOn_39 : decode cX6_goOn 39 = .ok (.aload_n 1, 1) := by decide +kernel
theorem dX6_goOn_40 : decode cX6_goOn 40 = .ok (.getfield 25, 3) := by decide +kernel
theorem dX6_goOn_43 : decode cX6_goOn 43 = .ok (.if_icmp .ge 53, 3) := by decide +kernel
theorem dX6_goOn_46 : decode cX6_goOn 46 = .ok (.iload_n 3, 1) := by decide +kernel
theorem dX6_goOn_47 : decode cX6_goOn 47 = .ok (.iload 5, 2) := by decide +kernel
theorem dX6_goOn_49 : decode cX6_goOn 49 = .ok (.ishr, 1) := by decide +kernel
theorem dX6_goOn_50 : decode cX6_goOn 50 = .ok (.iconst 1, 1) := by decide +kernel
theorem dX6_goOn_51 : decode cX6_goOn 51 = .ok (.iand, 1) := by decide +kernel
theorem dX6_goOn_52 : decode cX6_goOn 52 = .ok (.ifCond .ne 38, 3) := by decide +kernel
theorem dX6_goOn_55 : decode cX6_goOn 55 = .ok (.aload_n 1, 1) := by decide +kernel
theorem dX6_goOn_56 : decode cX6_goOn 56 = .ok (.iload 4, 2) := by decide +kernel
theorem dX6_goOn_58 : decode cX6_goOn 58 = .ok (.iload 5, 2) := by decide +kernel
theorem dX6_goOn_60 : decode cX6_goOn 60 = .ok (.invokevirtual 38, 3) := by decide +kernel
theorem dX6_goOn_63 : decode cX6_goOn 63 = .ok (.ifCond .eq 27, 3) := by decide +kernel
theorem dX6_goOn_66 : decode cX6_goOn 66 = .ok (.aload_n 0, 1) := by decide +kernel
theorem dX6_goOn_67 : decode cX6_goOn 67 = .ok (.getfield 18, 3) := by decide +kernel
theorem dX6_goOn_70 : decode cX6_goOn 70 = .ok (.iload_n 2, 1) := by decide +kernel
theorem dX6_goOn_71 : decode cX6_goOn 71 = .ok (.iconst 1, 1) := by decide +kernel
theorem dX6_goOn_72 : decode cX6_goOn 72 = .ok (.iadd, 1) := by decide +kernel
theorem dX6_goOn_73 : decode cX6_goOn 73 = .ok (.iload 5, 2) := by decide +kernel
theorem dX6_goOn_75 : decode cX6_goOn 75 = .ok (.iastore, 1) := by decide +kernel
theorem dX6_goOn_76 : decode cX6_goOn 76 = .ok (.aload_n 0, 1) := by decide +kernel
theorem dX6_goOn_77 : decode cX6_goOn 77 = .ok (.aload_n 1, 1) := by decide +kernel
theorem dX6_goOn_78 : decode cX6_goOn 78 = .ok (.iload_n 2, 1) := by decide +kernel
theorem dX6_goOn_79 : decode cX6_goOn 79 = .ok (.iconst 1, 1) := by decide +kernel
theorem dX6_goOn_80 : decode cX6_goOn 80 = .ok (.iadd, 1) := by decide +kernel
theorem dX6_goOn_81 : decode cX6_goOn 81 = .ok (.iload_n 3, 1) := by decide +kernel
theorem dX6_goOn_82 : decode cX6_goOn 82 = .ok (.iconst 1, 1) := by decide +kernel
theorem dX6_goOn_83 : decode cX6_goOn 83 = .ok (.iload 5, 2) := by decide +kernel
theorem dX6_goOn_85 : decode cX6_goOn 85 = .ok (.ishl, 1) := by decide +kernel
theorem dX6_goOn_86 : decode cX6_goOn 86 = .ok (.ior, 1) := by decide +kernel
theorem dX6_goOn_87 : decode cX6_goOn 87 = .ok (.invokevirtual 30, 3) := by decide +kernel
theorem dX6_goOn_90 : decode cX6_goOn 90 = .ok (.iinc 5 1, 3) := by decide +kernel
theorem dX6_goOn_93 : decode cX6_goOn 93 = .ok (.goto (-56), 3) := by decide +kernel
theorem dX6_goOn_96 : decode cX6_goOn 96 = .ok (.return_, 1) := by decide +kernel
theorem dX6_keep_0 : decode cX6_keep 0 = .ok (.aload_n 0, 1) := by decide +kernel
theorem dX6_keep_1 : decode cX6_keep 1 = .ok (.getfield 21, 3) := by decide +kernel
theorem dX6_keep_4 : decode cX6_keep 4 = .ok (.bipush 37, 2) := by decide +kernel
theorem dX6_keep_6 : decode cX6_keep 6 = .ok (.if_icmp .ge 45, 3) := by decide +kernel
theorem dX6_keep_9 : decode cX6_keep 9 = .ok (.aload_n 0, 1) := by decide +kernel
theorem dX6_keep_10 : decode cX6_keep 10 = .ok (.getfield 18, 3) := by decide +kernel
theorem dX6_keep_13 : decode cX6_keep 13 = .ok (.iconst 0, 1) := by decide +kernel
theorem dX6_keep_14 : decode cX6_keep 14 = .ok (.aload_n 0, 1) := by decide +kernel
theorem dX6_keep_15 : decode cX6_keep 15 = .ok (.getfield 11, 3) := by decide +kernel
theorem dX6_keep_18 : decode cX6_keep 18 = .ok (.aload_n 0, 1) := by decide +kernel
theorem dX6_keep_19 : decode cX6_keep 19 = .ok (.getfield 21, 3) := by decide +kernel
theorem dX6_keep_22 : decode cX6_keep 22 = .ok (.bipush 7, 2) := by decide +kernel
theorem dX6_keep_24 : decode cX6_keep 24 = .ok (.imul, 1) := by decide +kernel
theorem dX6_keep_25 : decode cX6_keep 25 = .ok (.iload_n 1, 1) := by decide +kernel
theorem dX6_keep_26 : decode cX6_keep 26 = .ok (.iconst 1, 1) := by decide +kernel
theorem dX6_keep_27 : decode cX6_keep 27 = .ok (.iadd, 1) := by decide +kernel
theorem dX6_keep_28 : decode cX6_keep 28 = .ok (.invokestatic 42, 3) := by decide +kernel
theorem dX6_keep_31 : decode cX6_keep 31 = .ok (.aload_n 0, 1) := by decide +kernel
theorem dX6_keep_32 : decode cX6_keep 32 = .ok (.getfield 15, 3) := by decide +kernel
theorem dX6_keep_35 : decode cX6_keep 35 = .ok (.aload_n 0, 1) := by decide +kernel
theorem dX6_keep_36 : decode cX6_keep 36 = .ok (.getfield 21, 3) := by decide +kernel
theorem dX6_keep_39 : decode cX6_keep 39 = .ok (.iload_n 1, 1) := by decide +kernel
theorem dX6_keep_40 : decode cX6_keep 40 = .ok (.iastore, 1) := by decide +kernel
theorem dX6_keep_41 : decode cX6_keep 41 = .ok (.aload_n 0, 1) := by decide +kernel
theorem dX6_keep_42 : decode cX6_keep 42 = .ok (.dup, 1) := by decide +kernel
theorem dX6_keep_43 : decode cX6_keep 43 = .ok (.getfield 21, 3) := by decide +kernel
theorem dX6_keep_46 : decode cX6_keep 46 = .ok (.iconst 1, 1) := by decide +kernel
theorem dX6_keep_47 : decode cX6_keep 47 = .ok (.iadd, 1) := by decide +kernel
theorem dX6_keep_48 : decode cX6_keep 48 = .ok (.putfield 21, 3) := by decide +kernel
theorem dX6_keep_51 : decode cX6_keep 51 = .ok (.return_, 1) := by decide +kernel
theorem dX6_has_0 : decode cX6_has 0 = .ok (.iload_n 1, 1) := by decide +kernel
theorem dX6_has_1 : decode cX6_has 1 = .ok (.ifCond .lt 15, 3) := by decide +kernel
theorem dX6_has_4 : decode cX6_has 4 = .ok (.iload_n 1, 1) := by decide +kernel
theorem dX6_has_5 : decode cX6_has 5 = .ok (.aload_n 0, 1) := by decide +kernel
theorem dX6_has_6 : decode cX6_has 6 = .ok (.getfield 21, 3) := by decide +kernel
theorem dX6_has_9 : decode cX6_has 9 = .ok (.if_icmp .ge 7, 3) := by decide +kernel
theorem dX6_has_12 : decode cX6_has 12 = .ok (.iconst 1, 1) := by decide +kernel
theorem dX6_has_13 : decode cX6_has 13 = .ok (.goto 4, 3) := by decide +kernel
theorem dX6_has_16 : decode cX6_has 16 = .ok (.iconst 0, 1) := by decide +kernel
theorem dX6_has_17 : decode cX6_has 17 = .ok (.ireturn, 1) := by decide +kernel
theorem dX6_lastOf_0 : decode cX6_lastOf 0 = .ok (.aload_n 0, 1) := by decide +kernel
theorem dX6_lastOf_1 : decode cX6_lastOf 1 = .ok (.getfield 15, 3) := by decide +kernel
theorem dX6_lastOf_4 : decode cX6_lastOf 4 = .ok (.iload_n 1, 1) := by decide +kernel
theorem dX6_lastOf_5 : decode cX6_lastOf 5 = .ok (.iaload, 1) := by decide +kernel
theorem dX6_lastOf_6 : decode cX6_lastOf 6 = .ok (.ireturn, 1) := by decide +kernel
theorem dX6_stationAt_0 : decode cX6_stationAt 0 = .ok (.aload_n 0, 1) := by decide +kernel
theorem dX6_stationAt_1 : decode cX6_stationAt 1 = .ok (.getfield 11, 3) := by decide +kernel
theorem dX6_stationAt_4 : decode cX6_stationAt 4 = .ok (.iload_n 1, 1) := by decide +kernel
theorem dX6_stationAt_5 : decode cX6_stationAt 5 = .ok (.bipush 7, 2) := by decide +kernel
theorem dX6_stationAt_7 : decode cX6_stationAt 7 = .ok (.imul, 1) := by decide +kernel
theorem dX6_stationAt_8 : decode cX6_stationAt 8 = .ok (.iload_n 2, 1) := by decide +kernel
theorem dX6_stationAt_9 : decode cX6_stationAt 9 = .ok (.iadd, 1) := by decide +kernel
theorem dX6_stationAt_10 : decode cX6_stationAt 10 = .ok (.iaload, 1) := by decide +kernel
theorem dX6_stationAt_11 : decode cX6_stationAt 11 = .ok (.ireturn, 1) := by decide +kernel
theorem dX7_init_0 : decode cX7_init 0 = .ok (.aload_n 0, 1) := by decide +kernel
theorem dX7_init_1 : decode cX7_init 1 = .ok (.invokespecial 3, 3) := by decide +kernel
theorem dX7_init_4 : decode cX7_init 4 = .ok (.aload_n 0, 1) := by decide +kernel
theorem dX7_init_5 : decode cX7_init 5 = .ok (.bipush 6, 2) := by decide +kernel
theorem dX7_init_7 : decode cX7_init 7 = .ok (.newarray .int, 2) := by decide +kernel
theorem dX7_init_9 : decode cX7_init 9 = .ok (.putfield 9, 3) := by decide +kernel
theorem dX7_init_12 : decode cX7_init 12 = .ok (.aload_n 0, 1) := by decide +kernel
theorem dX7_init_13 : decode cX7_init 13 = .ok (.bipush 64, 2) := by decide +kernel
theorem dX7_init_15 : decode cX7_init 15 = .ok (.newarray .int, 2) := by decide +kernel
theorem dX7_init_17 : decode cX7_init 17 = .ok (.putfield 15, 3) := by decide +kernel
theorem dX7_init_20 : decode cX7_init 20 = .ok (.aload_n 0, 1) := by decide +kernel
theorem dX7_init_21 : decode cX7_init 21 = .ok (.bipush 64, 2) := by decide +kernel
theorem dX7_init_23 : decode cX7_init 23 = .ok (.newarray .int, 2) := by decide +kernel
theorem dX7_init_25 : decode cX7_init 25 = .ok (.putfield 18, 3) := by decide +kernel
theorem dX7_init_28 : decode cX7_init 28 = .ok (.return_, 1) := by decide +kernel
theorem dX7_judge_0 : decode cX7_judge 0 = .ok (.iconst 1, 1) := by decide +kernel
theorem dX7_judge_1 : decode cX7_judge 1 = .ok (.aload_n 1, 1) := by decide +kernel
theorem dX7_judge_2 : decode cX7_judge 2 = .ok (.getfield 21, 3) := by decide +kernel
theorem dX7_judge_5 : decode cX7_judge 5 = .ok (.ishl, 1) := by decide +kernel
theorem dX7_judge_6 : decode cX7_judge 6 = .ok (.iconst 1, 1) := by decide +kernel
theorem dX7_judge_7 : decode cX7_judge 7 = .ok (.isub, 1) := by decide +kernel
theorem dX7_judge_8 : decode cX7_judge 8 = .ok (.istore_n 3, 1) := by decide +kernel
theorem dX7_judge_9 : decode cX7_judge 9 = .ok (.aload_n 0, 1) := by decide +kernel
theorem dX7_judge_10 : decode cX7_judge 10 = .ok (.iconst 0, 1) := by decide +kernel
theorem dX7_judge_11 : decode cX7_judge 11 = .ok (.putfield 27, 3) := by decide +kernel
theorem dX7_judge_14 : decode cX7_judge 14 = .ok (.aload_n 0, 1) := by decide +kernel
theorem dX7_judge_15 : decode cX7_judge 15 = .ok (.iload_n 3, 1) := by decide +kernel
theorem dX7_judge_16 : decode cX7_judge 16 = .ok (.putfield 30, 3) := by decide +kernel
theorem dX7_judge_19 : decode cX7_judge 19 = .ok (.aload_n 0, 1) := by decide +kernel
theorem dX7_judge_20 : decode cX7_judge 20 = .ok (.getfield 9, 3) := by decide +kernel
theorem dX7_judge_23 : decode cX7_judge 23 = .ok (.iconst 0, 1) := by decide +kernel
theorem dX7_judge_24 : decode cX7_judge 24 = .ok (.invokestatic 33, 3) := by decide +kernel
theorem dX7_judge_27 : decode cX7_judge 27 = .ok (.iconst 0, 1) := by decide +kernel
theorem dX7_judge_28 : decode cX7_judge 28 = .ok (.istore 4, 2) := by decide +kernel
theorem dX7_judge_30 : decode cX7_judge 30 = .ok (.iload 4, 2) := by decide +kernel
theorem dX7_judge_32 : decode cX7_judge 32 = .ok (.iload_n 3, 1) := by decide +kernel
theorem dX7_judge_33 : decode cX7_judge 33 = .ok (.if_icmp .gt 75, 3) := by decide +kernel
theorem dX7_judge_36 : decode cX7_judge 36 = .ok (.aload_n 1, 1) := by decide +kernel
theorem dX7_judge_37 : decode cX7_judge 37 = .ok (.iload 4, 2) := by decide +kernel
theorem dX7_judge_39 : decode cX7_judge 39 = .ok (.invokestatic 39, 3) := by decide +kernel
theorem dX7_judge_42 : decode cX7_judge 42 = .ok (.iload_n 2, 1) := by decide +kernel
theorem dX7_judge_43 : decode cX7_judge 43 = .ok (.if_icmp .ne 59, 3) := by decide +kernel
theorem dX7_judge_46 : decode cX7_judge 46 = .ok (.aload_n 0, 1) := by decide +kernel
theorem dX7_judge_47 : decode cX7_judge 47 = .ok (.dup, 1) := by decide +kernel
theorem dX7_judge_48 : decode cX7_judge 48 = .ok (.getfield 27, 3) := by decide +kernel
theorem dX7_judge_51 : decode cX7_judge 51 = .ok (.iconst 1, 1) := by decide +kernel
theorem dX7_judge_52 : decode cX7_judge 52 = .ok (.iadd, 1) := by decide +kernel
theorem dX7_judge_53 : decode cX7_judge 53 = .ok (.putfield 27, 3) := by decide +kernel
theorem dX7_judge_56 : decode cX7_judge 56 = .ok (.aload_n 0, 1) := by decide +kernel
theorem dX7_judge_57 : decode cX7_judge 57 = .ok (.dup, 1) := by decide +kernel
theorem dX7_judge_58 : decode cX7_judge 58 = .ok (.getfield 30, 3) := by decide +kernel
theorem dX7_judge_61 : decode cX7_judge 61 = .ok (.iload 4, 2) := by decide +kernel
theorem dX7_judge_63 : decode cX7_judge 63 = .ok (.iand, 1) := by decide +kernel
theorem dX7_judge_64 : decode cX7_judge 64 = .ok (.putfield 30, 3) := by decide +kernel
theorem dX7_judge_67 : decode cX7_judge 67 = .ok (.iconst 0, 1) := by decide +kernel
theorem dX7_judge_68 : decode cX7_judge 68 = .ok (.istore 5, 2) := by decide +kernel
theorem dX7_judge_70 : decode cX7_judge 70 = .ok (.iload 5, 2) := by decide +kernel
theorem dX7_judge_72 : decode cX7_judge 72 = .ok (.aload_n 1, 1) := by decide +kernel
theorem dX7_judge_73 : decode cX7_judge 73 = .ok (.getfield 21, 3) := by decide +kernel
theorem dX7_judge_76 : decode cX7_judge 76 = .ok (.if_icmp .ge 26, 3) := by decide +kernel
theorem dX7_judge_79 : decode cX7_judge 79 = .ok (.aload_n 0, 1) := by decide +kernel
theorem dX7_judge_80 : decode cX7_judge 80 = .ok (.getfield 9, 3) := by decide +kernel
theorem dX7_judge_83 : decode cX7_judge 83 = .ok (.iload 5, 2) := by decide +kernel
theorem dX7_judge_85 : decode cX7_judge 85 = .ok (.dup2, 1) := by decide +kernel
theorem dX7_judge_86 : decode cX7_judge 86 = .ok (.iaload, 1) := by decide +kernel
theorem dX7_judge_87 : decode cX7_judge 87 = .ok (.iload 4, 2) := by decide +kernel
theorem dX7_judge_89 : decode cX7_judge 89 = .ok (.iload 5, 2) := by decide +kernel
theorem dX7_judge_91 : decode cX7_judge 91 = .ok (.ishr, 1) := by decide +kernel
theorem dX7_judge_92 : decode cX7_judge 92 = .ok (.iconst 1, 1) := by decide +kernel
theorem dX7_judge_93 : decode cX7_judge 93 = .ok (.iand, 1) := by decide +kernel
theorem dX7_judge_94 : decode cX7_judge 94 = .ok (.iadd, 1) := by decide +kernel
theorem dX7_judge_95 : decode cX7_judge 95 = .ok (.iastore, 1) := by decide +kernel
theorem dX7_judge_96 : decode cX7_judge 96 = .ok (.iinc 5 1, 3) := by decide +kernel
theorem dX7_judge_99 : decode cX7_judge 99 = .ok (.goto (-29), 3) := by decide +kernel
theorem dX7_judge_102 : decode cX7_judge 102 = .ok (.iinc 4 1, 3) := by decide +kernel
theorem dX7_judge_105 : decode cX7_judge 105 = .ok (.goto (-75), 3) := by decide +kernel
theorem dX7_judge_108 : decode cX7_judge 108 = .ok (.aload_n 0, 1) := by decide +kernel
theorem dX7_judge_109 : decode cX7_judge 109 = .ok (.getfield 27, 3) := by decide +kernel
theorem dX7_judge_112 : decode cX7_judge 112 = .ok (.ifCond .ne 8, 3) := by decide +kernel
theorem dX7_judge_115 : decode cX7_judge 115 = .ok (.aload_n 0, 1) := by decide +kernel
theorem dX7_judge_116 : decode cX7_judge 116 = .ok (.iconst 0, 1) := by decide +kernel
theorem dX7_judge_117 : decode cX7_judge 117 = .ok (.putfield 30, 3) := by decide +kernel
theorem dX7_judge_120 : decode cX7_judge 120 = .ok (.return_, 1) := by decide +kernel
theorem dX7_thirstOf_0 : decode cX7_thirstOf 0 = .ok (.iconst 0, 1) := by decide +kernel
theorem dX7_thirstOf_1 : decode cX7_thirstOf 1 = .ok (.istore_n 2, 1) := by decide +kernel
theorem dX7_thirstOf_2 : decode cX7_thirstOf 2 = .ok (.iconst 0, 1) := by decide +kernel
theorem dX7_thirstOf_3 : decode cX7_thirstOf 3 = .ok (.istore_n 3, 1) := by decide +kernel
theorem dX7_thirstOf_4 : decode cX7_thirstOf 4 = .ok (.iload_n 3, 1) := by decide +kernel
theorem dX7_thirstOf_5 : decode cX7_thirstOf 5 = .ok (.aload_n 0, 1) := by decide +kernel
theorem dX7_thirstOf_6 : decode cX7_thirstOf 6 = .ok (.getfield 21, 3) := by decide +kernel
theorem dX7_thirstOf_9 : decode cX7_thirstOf 9 = .ok (.if_icmp .ge 26, 3) := by decide +kernel
theorem dX7_thirstOf_12 : decode cX7_thirstOf 12 = .ok (.iload_n 1, 1) := by decide +kernel
theorem dX7_thirstOf_13 : decode cX7_thirstOf 13 = .ok (.iload_n 3, 1) := by decide +kernel
theorem dX7_thirstOf_14 : decode cX7_thirstOf 14 = .ok (.ishr, 1) := by decide +kernel
theorem dX7_thirstOf_15 : decode cX7_thirstOf 15 = .ok (.iconst 1, 1) := by decide +kernel
theorem dX7_thirstOf_16 : decode cX7_thirstOf 16 = .ok (.iand, 1) := by decide +kernel
theorem dX7_thirstOf_17 : decode cX7_thirstOf 17 = .ok (.ifCond .eq 12, 3) := by decide +kernel
theorem dX7_thirstOf_20 : decode cX7_thirstOf 20 = .ok (.iload_n 2, 1) := by decide +kernel
theorem dX7_thirstOf_21 : decode cX7_thirstOf 21 = .ok (.aload_n 0, 1) := by decide +kernel
theorem dX7_thirstOf_22 : decode cX7_thirstOf 22 = .ok (.getfield 43, 3) := by decide +kernel
theorem dX7_thirstOf_25 : decode cX7_thirstOf 25 = .ok (.iload_n 3, 1) := by decide +kernel
theorem dX7_thirstOf_26 : decode cX7_thirstOf 26 = .ok (.iaload, 1) := by decide +kernel
theorem dX7_thirstOf_27 : decode cX7_thirstOf 27 = .ok (.iadd, 1) := by decide +kernel
theorem dX7_thirstOf_28 : decode cX7_thirstOf 28 = .ok (.istore_n 2, 1) := by decide +kernel
theorem dX7_thirstOf_29 : decode cX7_thirstOf 29 = .ok (.iinc 3 1, 3) := by decide +kernel
theorem dX7_thirstOf_32 : decode cX7_thirstOf 32 = .ok (.goto (-28), 3) := by decide +kernel
theorem dX7_thirstOf_35 : decode cX7_thirstOf 35 = .ok (.iload_n 2, 1) := by decide +kernel
theorem dX7_thirstOf_36 : decode cX7_thirstOf 36 = .ok (.ireturn, 1) := by decide +kernel
theorem dX7_inLowestTerms_0 : decode cX7_inLowestTerms 0 = .ok (.aload_n 0, 1) := by decide +kernel
theorem dX7_inLowestTerms_1 : decode cX7_inLowestTerms 1 = .ok (.getfield 9, 3) := by decide +kernel
theorem dX7_inLowestTerms_4 : decode cX7_inLowestTerms 4 = .ok (.iload_n 1, 1) := by decide +kernel
theorem dX7_inLowestTerms_5 : decode cX7_inLowestTerms 5 = .ok (.iaload, 1) := by decide +kernel
theorem dX7_inLowestTerms_6 : decode cX7_inLowestTerms 6 = .ok (.istore_n 3, 1) := by decide +kernel
theorem dX7_inLowestTerms_7 : decode cX7_inLowestTerms 7 = .ok (.aload_n 0, 1) := by decide +kernel
theorem dX7_inLowestTerms_8 : decode cX7_inLowestTerms 8 = .ok (.getfield 27, 3) := by decide +kernel
theorem dX7_inLowestTerms_11 : decode cX7_inLowestTerms 11 = .ok (.istore 4, 2) := by decide +kernel
theorem dX7_inLowestTerms_13 : decode cX7_inLowestTerms 13 = .ok (.iload 4, 2) := by decide +kernel
theorem dX7_inLowestTerms_15 : decode cX7_inLowestTerms 15 = .ok (.iconst 1, 1) := by decide +kernel
theorem dX7_inLowestTerms_16 : decode cX7_inLowestTerms 16 = .ok (.if_icmp .le 26, 3) := by decide +kernel
theorem dX7_inLowestTerms_19 : decode cX7_inLowestTerms 19 = .ok (.iload_n 3, 1) := by decide +kernel
theorem dX7_inLowestTerms_20 : decode cX7_inLowestTerms 20 = .ok (.iload 4, 2) := by decide +kernel
theorem dX7_inLowestTerms_22 : decode cX7_inLowestTerms 22 = .ok (.irem, 1) := by decide +kernel
theorem dX7_inLowestTerms_23 : decode cX7_inLowestTerms 23 = .ok (.ifCond .ne 13, 3) := by decide +kernel
theorem dX7_inLowestTerms_26 : decode cX7_inLowestTerms 26 = .ok (.aload_n 0, 1) := by decide +kernel
theorem dX7_inLowestTerms_27 : decode cX7_inLowestTerms 27 = .ok (.getfield 27, 3) := by decide +kernel
theorem dX7_inLowestTerms_30 : decode cX7_inLowestTerms 30 = .ok (.iload 4, 2) := by decide +kernel
theorem dX7_inLowestTerms_32 : decode cX7_inLowestTerms 32 = .ok (.irem, 1) := by decide +kernel
theorem dX7_inLowestTerms_33 : decode cX7_inLowestTerms 33 = .ok (.ifCond .eq 9, 3) := by decide +kernel
theorem dX7_inLowestTerms_36 : decode cX7_inLowestTerms 36 = .ok (.iinc 4 (-1), 3) := by decide +kernel
theorem dX7_inLowestTerms_39 : decode cX7_inLowestTerms 39 = .ok (.goto (-26), 3) := by decide +kernel
theorem dX7_inLowestTerms_42 : decode cX7_inLowestTerms 42 = .ok (.iload 4, 2) := by decide +kernel
theorem dX7_inLowestTerms_44 : decode cX7_inLowestTerms 44 = .ok (.iconst 1, 1) := by decide +kernel
theorem dX7_inLowestTerms_45 : decode cX7_inLowestTerms 45 = .ok (.if_icmp .ge 5, 3) := by decide +kernel
theorem dX7_inLowestTerms_48 : decode cX7_inLowestTerms 48 = .ok (.iconst (-1), 1) := by decide +kernel
theorem dX7_inLowestTerms_49 : decode cX7_inLowestTerms 49 = .ok (.ireturn, 1) := by decide +kernel
theorem dX7_inLowestTerms_50 : decode cX7_inLowestTerms 50 = .ok (.iload_n 2, 1) := by decide +kernel
theorem dX7_inLowestTerms_51 : decode cX7_inLowestTerms 51 = .ok (.ifCond .eq 7, 3) := by decide +kernel
theorem dX7_inLowestTerms_54 : decode cX7_inLowestTerms 54 = .ok (.iload_n 3, 1) := by decide +kernel
theorem dX7_inLowestTerms_55 : decode cX7_inLowestTerms 55 = .ok (.goto 7, 3) := by decide +kernel
theorem dX7_inLowestTerms_58 : decode cX7_inLowestTerms 58 = .ok (.aload_n 0, 1) := by decide +kernel
theorem dX7_inLowestTerms_59 : decode cX7_inLowestTerms 59 = .ok (.getfield 27, 3) := by decide +kernel
theorem dX7_inLowestTerms_62 : decode cX7_inLowestTerms 62 = .ok (.iload 4, 2) := by decide +kernel
theorem dX7_inLowestTerms_64 : decode cX7_inLowestTerms 64 = .ok (.idiv, 1) := by decide +kernel
theorem dX7_inLowestTerms_65 : decode cX7_inLowestTerms 65 = .ok (.ireturn, 1) := by decide +kernel
theorem dX7_fewestPayments_0 : decode cX7_fewestPayments 0 = .ok (.iconst 1, 1) := by decide +kernel
theorem dX7_fewestPayments_1 : decode cX7_fewestPayments 1 = .ok (.aload_n 1, 1) := by decide +kernel
theorem dX7_fewestPayments_2 : decode cX7_fewestPayments 2 = .ok (.getfield 21, 3) := by decide +kernel
theorem dX7_fewestPayments_5 : decode cX7_fewestPayments 5 = .ok (.ishl, 1) := by decide +kernel
theorem dX7_fewestPayments_6 : decode cX7_fewestPayments 6 = .ok (.iconst 1, 1) := by decide +kernel
theorem dX7_fewestPayments_7 : decode cX7_fewestPayments 7 = .ok (.isub, 1) := by decide +kernel
theorem dX7_fewestPayments_8 : decode cX7_fewestPayments 8 = .ok (.istore_n 3, 1) := by decide +kernel
theorem dX7_fewestPayments_9 : decode cX7_fewestPayments 9 = .ok (.aload_n 0, 1) := by decide +kernel
theorem dX7_fewestPayments_10 : decode cX7_fewestPayments 10 = .ok (.getfield 15, 3) := by decide +kernel
theorem dX7_fewestPayments_13 : decode cX7_fewestPayments 13 = .ok (.iconst 0, 1) := by decide +kernel
theorem dX7_fewestPayments_14 : decode cX7_fewestPayments 14 = .ok (.iconst 0, 1) := by decide +kernel
theorem dX7_fewestPayments_15 : decode cX7_fewestPayments 15 = .ok (.iastore, 1) := by decide +kernel
theorem dX7_fewestPayments_16 : decode cX7_fewestPayments 16 = .ok (.aload_n 0, 1) := by decide +kernel
theorem dX7_fewestPayments_17 : decode cX7_fewestPayments 17 = .ok (.getfield 18, 3) := by decide +kernel
theorem dX7_fewestPayments_20 : decode cX7_fewestPayments 20 = .ok (.iconst 0, 1) := by decide +kernel
theorem dX7_fewestPayments_21 : decode cX7_fewestPayments 21 = .ok (.iconst 0, 1) := by decide +kernel
theorem dX7_fewestPayments_22 : decode cX7_fewestPayments 22 = .ok (.iastore, 1) := by decide +kernel
theorem dX7_fewestPayments_23 : decode cX7_fewestPayments 23 = .ok (.iconst 1, 1) := by decide +kernel
theorem dX7_fewestPayments_24 : decode cX7_fewestPayments 24 = .ok (.istore 4, 2) := by decide +kernel
theorem dX7_fewestPayments_26 : decode cX7_fewestPayments 26 = .ok (.iload 4, 2) := by decide +kernel
theorem dX7_fewestPayments_28 : decode cX7_fewestPayments 28 = .ok (.iload_n 3, 1) := by decide +kernel
theorem dX7_fewestPayments_29 : decode cX7_fewestPayments 29 = .ok (.if_icmp .gt 111, 3) := by decide +kernel
theorem dX7_fewestPayments_32 : decode cX7_fewestPayments 32 = .ok (.iconst 0, 1) := by decide +kernel
theorem dX7_fewestPayments_33 : decode cX7_fewestPayments 33 = .ok (.istore 5, 2) := by decide +kernel
theorem dX7_fewestPayments_35 : decode cX7_fewestPayments 35 = .ok (.iconst 0, 1) := by decide +kernel
theorem dX7_fewestPayments_36 : decode cX7_fewestPayments 36 = .ok (.istore 6, 2) := by decide +kernel
theorem dX7_fewestPayments_38 : decode cX7_fewestPayments 38 = .ok (.iload 6, 2) := by decide +kernel
theorem dX7_fewestPayments_40 : decode cX7_fewestPayments 40 = .ok (.aload_n 1, 1) := by decide +kernel
theorem dX7_fewestPayments_41 : decode cX7_fewestPayments 41 = .ok (.getfield 21, 3) := by decide +kernel
theorem dX7_fewestPayments_44 : decode cX7_fewestPayments 44 = .ok (.if_icmp .ge 64, 3) := by decide +kernel
theorem dX7_fewestPayments_47 : decode cX7_fewestPayments 47 = .ok (.iconst 1, 1) := by decide +kernel
theorem dX7_fewestPayments_48 : decode cX7_fewestPayments 48 = .ok (.iload 6, 2) := by decide +kernel
theorem dX7_fewestPayments_50 : decode cX7_fewestPayments 50 = .ok (.ishl, 1) := by decide +kernel
theorem dX7_fewestPayments_51 : decode cX7_fewestPayments 51 = .ok (.istore 7, 2) := by decide +kernel
theorem dX7_fewestPayments_53 : decode cX7_fewestPayments 53 = .ok (.iload 4, 2) := by decide +kernel
theorem dX7_fewestPayments_55 : decode cX7_fewestPayments 55 = .ok (.iload 7, 2) := by decide +kernel
theorem dX7_fewestPayments_57 : decode cX7_fewestPayments 57 = .ok (.iand, 1) := by decide +kernel
theorem dX7_fewestPayments_58 : decode cX7_fewestPayments 58 = .ok (.ifCond .eq 44, 3) := by decide +kernel
theorem dX7_fewestPayments_61 : decode cX7_fewestPayments 61 = .ok (.aload_n 0, 1) := by decide +kernel
theorem dX7_fewestPayments_62 : decode cX7_fewestPayments 62 = .ok (.getfield 15, 3) := by decide +kernel
theorem dX7_fewestPayments_65 : decode cX7_fewestPayments 65 = .ok (.iload 4, 2) := by decide +kernel
theorem dX7_fewestPayments_67 : decode cX7_fewestPayments 67 = .ok (.aload_n 0, 1) := by decide +kernel
theorem dX7_fewestPayments_68 : decode cX7_fewestPayments 68 = .ok (.getfield 15, 3) := by decide +kernel
theorem dX7_fewestPayments_71 : decode cX7_fewestPayments 71 = .ok (.iload 4, 2) := by decide +kernel
theorem dX7_fewestPayments_73 : decode cX7_fewestPayments 73 = .ok (.iload 7, 2) := by decide +kernel
theorem dX7_fewestPayments_75 : decode cX7_fewestPayments 75 = .ok (.ixor, 1) := by decide +kernel
theorem dX7_fewestPayments_76 : decode cX7_fewestPayments 76 = .ok (.iaload, 1) := by decide +kernel
theorem dX7_fewestPayments_77 : decode cX7_fewestPayments 77 = .ok (.aload_n 2, 1) := by decide +kernel
theorem dX7_fewestPayments_78 : decode cX7_fewestPayments 78 = .ok (.iload 6, 2) := by decide +kernel
theorem dX7_fewestPayments_80 : decode cX7_fewestPayments 80 = .ok (.invokevirtual 46, 3) := by decide +kernel
theorem dX7_fewestPayments_83 : decode cX7_fewestPayments 83 = .ok (.iadd, 1) := by decide +kernel
theorem dX7_fewestPayments_84 : decode cX7_fewestPayments 84 = .ok (.iastore, 1) := by decide +kernel
theorem dX7_fewestPayments_85 : decode cX7_fewestPayments 85 = .ok (.iload 5, 2) := by decide +kernel
theorem dX7_fewestPayments_87 : decode cX7_fewestPayments 87 = .ok (.aload_n 0, 1) := by decide +kernel
theorem dX7_fewestPayments_88 : decode cX7_fewestPayments 88 = .ok (.getfield 18, 3) := by decide +kernel
theorem dX7_fewestPayments_91 : decode cX7_fewestPayments 91 = .ok (.iload 4, 2) := by decide +kernel
theorem dX7_fewestPayments_93 : decode cX7_fewestPayments 93 = .ok (.iload 7, 2) := by decide +kernel
theorem dX7_fewestPayments_95 : decode cX7_fewestPayments 95 = .ok (.ixor, 1) := by decide +kernel
theorem dX7_fewestPayments_96 : decode cX7_fewestPayments 96 = .ok (.iaload, 1) := by decide +kernel
theorem dX7_fewestPayments_97 : decode cX7_fewestPayments 97 = .ok (.invokestatic 52, 3) := by decide +kernel
theorem dX7_fewestPayments_100 : decode cX7_fewestPayments 100 = .ok (.istore 5, 2) := by decide +kernel
theorem dX7_fewestPayments_102 : decode cX7_fewestPayments 102 = .ok (.iinc 6 1, 3) := by decide +kernel
theorem dX7_fewestPayments_105 : decode cX7_fewestPayments 105 = .ok (.goto (-67), 3) := by decide +kernel
theorem dX7_fewestPayments_108 : decode cX7_fewestPayments 108 = .ok (.aload_n 0, 1) := by decide +kernel
theorem dX7_fewestPayments_109 : decode cX7_fewestPayments 109 = .ok (.getfield 18, 3) := by decide +kernel
theorem dX7_fewestPayments_112 : decode cX7_fewestPayments 112 = .ok (.iload 4, 2) := by decide +kernel
theorem dX7_fewestPayments_114 : decode cX7_fewestPayments 114 = .ok (.aload_n 0, 1) := by decide +kernel
theorem dX7_fewestPayments_115 : decode cX7_fewestPayments 115 = .ok (.getfield 15, 3) := by decide +kernel
theorem dX7_fewestPayments_118 : decode cX7_fewestPayments 118 = .ok (.iload 4, 2) := by decide +kernel
theorem dX7_fewestPayments_120 : decode cX7_fewestPayments 120 = .ok (.iaload, 1) := by decide +kernel
theorem dX7_fewestPayments_121 : decode cX7_fewestPayments 121 = .ok (.ifCond .ne 10, 3) := by decide +kernel
theorem dX7_fewestPayments_124 : decode cX7_fewestPayments 124 = .ok (.iload 5, 2) := by decide +kernel
theorem dX7_fewestPayments_126 : decode cX7_fewestPayments 126 = .ok (.iconst 1, 1) := by decide +kernel
theorem dX7_fewestPayments_127 : decode cX7_fewestPayments 127 = .ok (.iadd, 1) := by decide +kernel
theorem dX7_fewestPayments_128 : decode cX7_fewestPayments 128 = .ok (.goto 5, 3) := by decide +kernel
theorem dX7_fewestPayments_131 : decode cX7_fewestPayments 131 = .ok (.iload 5, 2) := by decide +kernel
theorem dX7_fewestPayments_133 : decode cX7_fewestPayments 133 = .ok (.iastore, 1) := by decide +kernel
theorem dX7_fewestPayments_134 : decode cX7_fewestPayments 134 = .ok (.iinc 4 1, 3) := by decide +kernel
theorem dX7_fewestPayments_137 : decode cX7_fewestPayments 137 = .ok (.goto (-111), 3) := by decide +kernel
theorem dX7_fewestPayments_140 : decode cX7_fewestPayments 140 = .ok (.aload_n 1, 1) := by decide +kernel
theorem dX7_fewestPayments_141 : decode cX7_fewestPayments 141 = .ok (.getfield 21, 3) := by decide +kernel
theorem dX7_fewestPayments_144 : decode cX7_fewestPayments 144 = .ok (.aload_n 0, 1) := by decide +kernel
theorem dX7_fewestPayments_145 : decode cX7_fewestPayments 145 = .ok (.getfield 18, 3) := by decide +kernel
theorem dX7_fewestPayments_148 : decode cX7_fewestPayments 148 = .ok (.iload_n 3, 1) := by decide +kernel
theorem dX7_fewestPayments_149 : decode cX7_fewestPayments 149 = .ok (.iaload, 1) := by decide +kernel
theorem dX7_fewestPayments_150 : decode cX7_fewestPayments 150 = .ok (.isub, 1) := by decide +kernel
theorem dX7_fewestPayments_151 : decode cX7_fewestPayments 151 = .ok (.ireturn, 1) := by decide +kernel
theorem dX8_init_0 : decode cX8_init 0 = .ok (.aload_n 0, 1) := by decide +kernel
theorem dX8_init_1 : decode cX8_init 1 = .ok (.invokespecial 3, 3) := by decide +kernel
theorem dX8_init_4 : decode cX8_init 4 = .ok (.aload_n 0, 1) := by decide +kernel
theorem dX8_init_5 : decode cX8_init 5 = .ok (.sipush 1000, 3) := by decide +kernel
theorem dX8_init_8 : decode cX8_init 8 = .ok (.newarray .byte, 2) := by decide +kernel
theorem dX8_init_10 : decode cX8_init 10 = .ok (.putfield 9, 3) := by decide +kernel
theorem dX8_init_13 : decode cX8_init 13 = .ok (.aload_n 0, 1) := by decide +kernel
theorem dX8_init_14 : decode cX8_init 14 = .ok (.getstatic 15, 3) := by decide +kernel
theorem dX8_init_17 : decode cX8_init 17 = .ok (.putfield 21, 3) := by decide +kernel
theorem dX8_init_20 : decode cX8_init 20 = .ok (.return_, 1) := by decide +kernel
theorem dX8_addEight_0 : decode cX8_addEight 0 = .ok (.bipush 56, 2) := by decide +kernel
theorem dX8_addEight_2 : decode cX8_addEight 2 = .ok (.istore_n 3, 1) := by decide +kernel
theorem dX8_addEight_3 : decode cX8_addEight 3 = .ok (.iload_n 3, 1) := by decide +kernel
theorem dX8_addEight_4 : decode cX8_addEight 4 = .ok (.ifCond .lt 84, 3) := by decide +kernel
theorem dX8_addEight_7 : decode cX8_addEight 7 = .ok (.lload_n 1, 1) := by decide +kernel
theorem dX8_addEight_8 : decode cX8_addEight 8 = .ok (.iload_n 3, 1) := by decide +kernel
theorem dX8_addEight_9 : decode cX8_addEight 9 = .ok (.lushr, 1) := by decide +kernel
theorem dX8_addEight_10 : decode cX8_addEight 10 = .ok (.l2i, 1) := by decide +kernel
theorem dX8_addEight_11 : decode cX8_addEight 11 = .ok (.sipush 255, 3) := by decide +kernel
theorem dX8_addEight_14 : decode cX8_addEight 14 = .ok (.iand, 1) := by decide +kernel
theorem dX8_addEight_15 : decode cX8_addEight 15 = .ok (.istore 4, 2) := by decide +kernel
theorem dX8_addEight_17 : decode cX8_addEight 17 = .ok (.iload 4, 2) := by decide +kernel
theorem dX8_addEight_19 : decode cX8_addEight 19 = .ok (.bipush 10, 2) := by decide +kernel
theorem dX8_addEight_21 : decode cX8_addEight 21 = .ok (.if_icmp .eq 17, 3) := by decide +kernel
theorem dX8_addEight_24 : decode cX8_addEight 24 = .ok (.iload 4, 2) := by decide +kernel
theorem dX8_addEight_26 : decode cX8_addEight 26 = .ok (.bipush 32, 2) := by decide +kernel
theorem dX8_addEight_28 : decode cX8_addEight 28 = .ok (.if_icmp .lt 14, 3) := by decide +kernel
theorem dX8_addEight_31 : decode cX8_addEight 31 = .ok (.iload 4, 2) := by decide +kernel
theorem dX8_addEight_33 : decode cX8_addEight 33 = .ok (.bipush 126, 2) := by decide +kernel
theorem dX8_addEight_35 : decode cX8_addEight 35 = .ok (.if_icmp .gt 7, 3) := by decide +kernel
theorem dX8_addEight_38 : decode cX8_addEight 38 = .ok (.iconst 1, 1) := by decide +kernel
theorem dX8_addEight_39 : decode cX8_addEight 39 = .ok (.goto 4, 3) := by decide +kernel
theorem dX8_addEight_42 : decode cX8_addEight 42 = .ok (.iconst 0, 1) := by decide +kernel
theorem dX8_addEight_43 : decode cX8_addEight 43 = .ok (.istore 5, 2) := by decide +kernel
theorem dX8_addEight_45 : decode cX8_addEight 45 = .ok (.iload 5, 2) := by decide +kernel
theorem dX8_addEight_47 : decode cX8_addEight 47 = .ok (.ifCond .eq 35, 3) := by decide +kernel
theorem dX8_addEight_50 : decode cX8_addEight 50 = .ok (.aload_n 0, 1) := by decide +kernel
theorem dX8_addEight_51 : decode cX8_addEight 51 = .ok (.getfield 24, 3) := by decide +kernel
theorem dX8_addEight_54 : decode cX8_addEight 54 = .ok (.sipush 1000, 3) := by decide +kernel
theorem dX8_addEight_57 : decode cX8_addEight 57 = .ok (.if_icmp .ge 25, 3) := by decide +kernel
theorem dX8_addEight_60 : decode cX8_addEight 60 = .ok (.aload_n 0, 1) := by decide +kernel
theorem dX8_addEight_61 : decode cX8_addEight 61 = .ok (.getfield 9, 3) := by decide +kernel
theorem dX8_addEight_64 : decode cX8_addEight 64 = .ok (.aload_n 0, 1) := by decide +kernel
theorem dX8_addEight_65 : decode cX8_addEight 65 = .ok (.getfield 24, 3) := by decide +kernel
theorem dX8_addEight_68 : decode cX8_addEight 68 = .ok (.iload 4, 2) := by decide +kernel
theorem dX8_addEight_70 : decode cX8_addEight 70 = .ok (.i2b, 1) := by decide +kernel
theorem dX8_addEight_71 : decode cX8_addEight 71 = .ok (.bastore, 1) := by decide +kernel
theorem dX8_addEight_72 : decode cX8_addEight 72 = .ok (.aload_n 0, 1) := by decide +kernel
theorem dX8_addEight_73 : decode cX8_addEight 73 = .ok (.dup, 1) := by decide +kernel
theorem dX8_addEight_74 : decode cX8_addEight 74 = .ok (.getfield 24, 3) := by decide +kernel
theorem dX8_addEight_77 : decode cX8_addEight 77 = .ok (.iconst 1, 1) := by decide +kernel
theorem dX8_addEight_78 : decode cX8_addEight 78 = .ok (.iadd, 1) := by decide +kernel
theorem dX8_addEight_79 : decode cX8_addEight 79 = .ok (.putfield 24, 3) := by decide +kernel
theorem dX8_addEight_82 : decode cX8_addEight 82 = .ok (.iinc 3 (-8), 3) := by decide +kernel
theorem dX8_addEight_85 : decode cX8_addEight 85 = .ok (.goto (-82), 3) := by decide +kernel
theorem dX8_addEight_88 : decode cX8_addEight 88 = .ok (.return_, 1) := by decide +kernel
theorem dX8_toStart_0 : decode cX8_toStart 0 = .ok (.aload_n 0, 1) := by decide +kernel
theorem dX8_toStart_1 : decode cX8_toStart 1 = .ok (.iconst 0, 1) := by decide +kernel
theorem dX8_toStart_2 : decode cX8_toStart 2 = .ok (.putfield 28, 3) := by decide +kernel
theorem dX8_toStart_5 : decode cX8_toStart 5 = .ok (.aload_n 0, 1) := by decide +kernel
theorem dX8_toStart_6 : decode cX8_toStart 6 = .ok (.invokevirtual 31, 3) := by decide +kernel
theorem dX8_toStart_9 : decode cX8_toStart 9 = .ok (.return_, 1) := by decide +kernel
theorem dX8_step_0 : decode cX8_step 0 = .ok (.aload_n 0, 1) := by decide +kernel
theorem dX8_step_1 : decode cX8_step 1 = .ok (.getfield 28, 3) := by decide +kernel
theorem dX8_step_4 : decode cX8_step 4 = .ok (.aload_n 0, 1) := by decide +kernel
theorem dX8_step_5 : decode cX8_step 5 = .ok (.getfield 24, 3) := by decide +kernel
theorem dX8_step_8 : decode cX8_step 8 = .ok (.if_icmp .ge 44, 3) := by decide +kernel
theorem dX8_step_11 : decode cX8_step 11 = .ok (.aload_n 0, 1) := by decide +kernel
theorem dX8_step_12 : decode cX8_step 12 = .ok (.getfield 9, 3) := by decide +kernel
theorem dX8_step_15 : decode cX8_step 15 = .ok (.aload_n 0, 1) := by decide +kernel
theorem dX8_step_16 : decode cX8_step 16 = .ok (.getfield 28, 3) := by decide +kernel
theorem dX8_step_19 : decode cX8_step 19 = .ok (.baload, 1) := by decide +kernel
theorem dX8_step_20 : decode cX8_step 20 = .ok (.bipush 32, 2) := by decide +kernel
theorem dX8_step_22 : decode cX8_step 22 = .ok (.if_icmp .eq 17, 3) := by decide +kernel
theorem dX8_step_25 : decode cX8_step 25 = .ok (.aload_n 0, 1) := by decide +kernel
theorem dX8_step_26 : decode cX8_step 26 = .ok (.getfield 9, 3) := by decide +kernel
theorem dX8_step_29 : decode cX8_step 29 = .ok (.aload_n 0, 1) := by decide +kernel
theorem dX8_step_30 : decode cX8_step 30 = .ok (.getfield 28, 3) := by decide +kernel
theorem dX8_step_33 : decode cX8_step 33 = .ok (.baload, 1) := by decide +kernel
theorem dX8_step_34 : decode cX8_step 34 = .ok (.bipush 10, 2) := by decide +kernel
theorem dX8_step_36 : decode cX8_step 36 = .ok (.if_icmp .ne 16, 3) := by decide +kernel
theorem dX8_step_39 : decode cX8_step 39 = .ok (.aload_n 0, 1) := by decide +kernel
theorem dX8_step_40 : decode cX8_step 40 = .ok (.dup, 1) := by decide +kernel
theorem dX8_step_41 : decode cX8_step 41 = .ok (.getfield 28, 3) := by decide +kernel
theorem dX8_step_44 : decode cX8_step 44 = .ok (.iconst 1, 1) := by decide +kernel
theorem dX8_step_45 : decode cX8_step 45 = .ok (.iadd, 1) := by decide +kernel
theorem dX8_step_46 : decode cX8_step 46 = .ok (.putfield 28, 3) := by decide +kernel
theorem dX8_step_49 : decode cX8_step 49 = .ok (.goto (-49), 3) := by decide +kernel
theorem dX8_step_52 : decode cX8_step 52 = .ok (.aload_n 0, 1) := by decide +kernel
theorem dX8_step_53 : decode cX8_step 53 = .ok (.aload_n 0, 1) := by decide +kernel
theorem dX8_step_54 : decode cX8_step 54 = .ok (.getfield 28, 3) := by decide +kernel
theorem dX8_step_57 : decode cX8_step 57 = .ok (.putfield 34, 3) := by decide +kernel
theorem dX8_step_60 : decode cX8_step 60 = .ok (.aload_n 0, 1) := by decide +kernel
theorem dX8_step_61 : decode cX8_step 61 = .ok (.getfield 28, 3) := by decide +kernel
theorem dX8_step_64 : decode cX8_step 64 = .ok (.aload_n 0, 1) := by decide +kernel
theorem dX8_step_65 : decode cX8_step 65 = .ok (.getfield 24, 3) := by decide +kernel
theorem dX8_step_68 : decode cX8_step 68 = .ok (.if_icmp .lt 13, 3) := by decide +kernel
theorem dX8_step_71 : decode cX8_step 71 = .ok (.aload_n 0, 1) := by decide +kernel
theorem dX8_step_72 : decode cX8_step 72 = .ok (.getstatic 15, 3) := by decide +kernel
theorem dX8_step_75 : decode cX8_step 75 = .ok (.putfield 21, 3) := by decide +kernel
theorem dX8_step_78 : decode cX8_step 78 = .ok (.goto 91, 3) := by decide +kernel
theorem dX8_step_81 : decode cX8_step 81 = .ok (.aload_n 0, 1) := by decide +kernel
theorem dX8_step_82 : decode cX8_step 82 = .ok (.getfield 9, 3) := by decide +kernel
theorem dX8_step_85 : decode cX8_step 85 = .ok (.aload_n 0, 1) := by decide +kernel
theorem dX8_step_86 : decode cX8_step 86 = .ok (.getfield 28, 3) := by decide +kernel
theorem dX8_step_89 : decode cX8_step 89 = .ok (.baload, 1) := by decide +kernel
theorem dX8_step_90 : decode cX8_step 90 = .ok (.invokestatic 37, 3) := by decide +kernel
theorem dX8_step_93 : decode cX8_step 93 = .ok (.ifCond .eq 10, 3) := by decide +kernel
theorem dX8_step_96 : decode cX8_step 96 = .ok (.aload_n 0, 1) := by decide +kernel
theorem dX8_step_97 : decode cX8_step 97 = .ok (.invokevirtual 41, 3) := by decide +kernel
theorem dX8_step_100 : decode cX8_step 100 = .ok (.goto 69, 3) := by decide +kernel
theorem dX8_step_103 : decode cX8_step 103 = .ok (.aload_n 0, 1) := by decide +kernel
theorem dX8_step_104 : decode cX8_step 104 = .ok (.getfield 9, 3) := by decide +kernel
theorem dX8_step_107 : decode cX8_step 107 = .ok (.aload_n 0, 1) := by decide +kernel
theorem dX8_step_108 : decode cX8_step 108 = .ok (.getfield 28, 3) := by decide +kernel
theorem dX8_step_111 : decode cX8_step 111 = .ok (.baload, 1) := by decide +kernel
theorem dX8_step_112 : decode cX8_step 112 = .ok (.invokestatic 44, 3) := by decide +kernel
theorem dX8_step_115 : decode cX8_step 115 = .ok (.ifCond .eq 10, 3) := by decide +kernel
theorem dX8_step_118 : decode cX8_step 118 = .ok (.aload_n 0, 1) := by decide +kernel
theorem dX8_step_119 : decode cX8_step 119 = .ok (.invokevirtual 47, 3) := by decide +kernel
theorem dX8_step_122 : decode cX8_step 122 = .ok (.goto 47, 3) := by decide +kernel
theorem dX8_step_125 : decode cX8_step 125 = .ok (.aload_n 0, 1) := by decide +kernel
theorem dX8_step_126 : decode cX8_step 126 = .ok (.dup, 1) := by decide +kernel
theorem dX8_step_127 : decode cX8_step 127 = .ok (.getfield 28, 3) := by decide +kernel
theorem dX8_step_130 : decode cX8_step 130 = .ok (.iconst 1, 1) := by decide +kernel
theorem dX8_step_131 : decode cX8_step 131 = .ok (.iadd, 1) := by decide +kernel
theorem dX8_step_132 : decode cX8_step 132 = .ok (.putfield 28, 3) := by decide +kernel
theorem dX8_step_135 : decode cX8_step 135 = .ok (.aload_n 0, 1) := by decide +kernel
theorem dX8_step_136 : decode cX8_step 136 = .ok (.getfield 9, 3) := by decide +kernel
theorem dX8_step_139 : decode cX8_step 139 = .ok (.aload_n 0, 1) := by decide +kernel
theorem dX8_step_140 : decode cX8_step 140 = .ok (.getfield 34, 3) := by decide +kernel
theorem dX8_step_143 : decode cX8_step 143 = .ok (.aload_n 0, 1) := by decide +kernel
theorem dX8_step_144 : decode cX8_step 144 = .ok (.getfield 28, 3) := by decide +kernel
theorem dX8_step_147 : decode cX8_step 147 = .ok (.invokestatic 50, 3) := by decide +kernel
theorem dX8_step_150 : decode cX8_step 150 = .ok (.astore_n 1, 1) := by decide +kernel
theorem dX8_step_151 : decode cX8_step 151 = .ok (.aload_n 0, 1) := by decide +kernel
theorem dX8_step_152 : decode cX8_step 152 = .ok (.aload_n 1, 1) := by decide +kernel
theorem dX8_step_153 : decode cX8_step 153 = .ok (.getstatic 54, 3) := by decide +kernel
theorem dX8_step_156 : decode cX8_step 156 = .ok (.if_acmp .ne 9, 3) := by decide +kernel
theorem dX8_step_159 : decode cX8_step 159 = .ok (.getstatic 57, 3) := by decide +kernel
theorem dX8_step_162 : decode cX8_step 162 = .ok (.goto 4, 3) := by decide +kernel
theorem dX8_step_165 : decode cX8_step 165 = .ok (.aload_n 1, 1) := by decide +kernel
theorem dX8_step_166 : decode cX8_step 166 = .ok (.putfield 21, 3) := by decide +kernel
theorem dX8_step_169 : decode cX8_step 169 = .ok (.return_, 1) := by decide +kernel
theorem dX8_readWord_0 : decode cX8_readWord 0 = .ok (.aload_n 0, 1) := by decide +kernel
theorem dX8_readWord_1 : decode cX8_readWord 1 = .ok (.lconst 0, 1) := by decide +kernel
theorem dX8_readWord_2 : decode cX8_readWord 2 = .ok (.putfield 60, 3) := by decide +kernel
theorem dX8_readWord_5 : decode cX8_readWord 5 = .ok (.aload_n 0, 1) := by decide +kernel
theorem dX8_readWord_6 : decode cX8_readWord 6 = .ok (.getfield 28, 3) := by decide +kernel
theorem dX8_readWord_9 : decode cX8_readWord 9 = .ok (.aload_n 0, 1) := by decide +kernel
theorem dX8_readWord_10 : decode cX8_readWord 10 = .ok (.getfield 24, 3) := by decide +kernel
theorem dX8_readWord_13 : decode cX8_readWord 13 = .ok (.if_icmp .ge 54, 3) := by decide +kernel
theorem dX8_readWord_16 : decode cX8_readWord 16 = .ok (.aload_n 0, 1) := by decide +kernel
theorem dX8_readWord_17 : decode cX8_readWord 17 = .ok (.getfield 9, 3) := by decide +kernel
theorem dX8_readWord_20 : decode cX8_readWord 20 = .ok (.aload_n 0, 1) := by decide +kernel
theorem dX8_readWord_21 : decode cX8_readWord 21 = .ok (.getfield 28, 3) := by decide +kernel
theorem dX8_readWord_24 : decode cX8_readWord 24 = .ok (.baload, 1) := by decide +kernel
theorem dX8_readWord_25 : decode cX8_readWord 25 = .ok (.invokestatic 37, 3) := by decide +kernel
theorem dX8_readWord_28 : decode cX8_readWord 28 = .ok (.ifCond .eq 39, 3) := by decide +kernel
theorem dX8_readWord_31 : decode cX8_readWord 31 = .ok (.aload_n 0, 1) := by decide +kernel
theorem dX8_readWord_32 : decode cX8_readWord 32 = .ok (.aload_n 0, 1) := by decide +kernel
theorem dX8_readWord_33 : decode cX8_readWord 33 = .ok (.getfield 60, 3) := by decide +kernel
theorem dX8_readWord_36 : decode cX8_readWord 36 = .ok (.ldc2_w 64, 3) := by decide +kernel
theorem dX8_readWord_39 : decode cX8_readWord 39 = .ok (.lmul, 1) := by decide +kernel
theorem dX8_readWord_40 : decode cX8_readWord 40 = .ok (.aload_n 0, 1) := by decide +kernel
theorem dX8_readWord_41 : decode cX8_readWord 41 = .ok (.getfield 9, 3) := by decide +kernel
theorem dX8_readWord_44 : decode cX8_readWord 44 = .ok (.aload_n 0, 1) := by decide +kernel
theorem dX8_readWord_45 : decode cX8_readWord 45 = .ok (.getfield 28, 3) := by decide +kernel
theorem dX8_readWord_48 : decode cX8_readWord 48 = .ok (.baload, 1) := by decide +kernel
theorem dX8_readWord_49 : decode cX8_readWord 49 = .ok (.i2l, 1) := by decide +kernel
theorem dX8_readWord_50 : decode cX8_readWord 50 = .ok (.ladd, 1) := by decide +kernel
theorem dX8_readWord_51 : decode cX8_readWord 51 = .ok (.putfield 60, 3) := by decide +kernel
theorem dX8_readWord_54 : decode cX8_readWord 54 = .ok (.aload_n 0, 1) := by decide +kernel
theorem dX8_readWord_55 : decode cX8_readWord 55 = .ok (.dup, 1) := by decide +kernel
theorem dX8_readWord_56 : decode cX8_readWord 56 = .ok (.getfield 28, 3) := by decide +kernel
theorem dX8_readWord_59 : decode cX8_readWord 59 = .ok (.iconst 1, 1) := by decide +kernel
theorem dX8_readWord_60 : decode cX8_readWord 60 = .ok (.iadd, 1) := by decide +kernel
theorem dX8_readWord_61 : decode cX8_readWord 61 = .ok (.putfield 28, 3) := by decide +kernel
theorem dX8_readWord_64 : decode cX8_readWord 64 = .ok (.goto (-59), 3) := by decide +kernel
theorem dX8_readWord_67 : decode cX8_readWord 67 = .ok (.aload_n 0, 1) := by decide +kernel
theorem dX8_readWord_68 : decode cX8_readWord 68 = .ok (.aload_n 0, 1) := by decide +kernel
theorem dX8_readWord_69 : decode cX8_readWord 69 = .ok (.getfield 28, 3) := by decide +kernel
theorem dX8_readWord_72 : decode cX8_readWord 72 = .ok (.aload_n 0, 1) := by decide +kernel
theorem dX8_readWord_73 : decode cX8_readWord 73 = .ok (.getfield 34, 3) := by decide +kernel
theorem dX8_readWord_76 : decode cX8_readWord 76 = .ok (.isub, 1) := by decide +kernel
theorem dX8_readWord_77 : decode cX8_readWord 77 = .ok (.bipush 8, 2) := by decide +kernel
theorem dX8_readWord_79 : decode cX8_readWord 79 = .ok (.if_icmp .le 9, 3) := by decide +kernel
theorem dX8_readWord_82 : decode cX8_readWord 82 = .ok (.getstatic 57, 3) := by decide +kernel
theorem dX8_readWord_85 : decode cX8_readWord 85 = .ok (.goto 18, 3) := by decide +kernel
theorem dX8_readWord_88 : decode cX8_readWord 88 = .ok (.aload_n 0, 1) := by decide +kernel
theorem dX8_readWord_89 : decode cX8_readWord 89 = .ok (.getfield 9, 3) := by decide +kernel
theorem dX8_readWord_92 : decode cX8_readWord 92 = .ok (.aload_n 0, 1) := by decide +kernel
theorem dX8_readWord_93 : decode cX8_readWord 93 = .ok (.getfield 34, 3) := by decide +kernel
theorem dX8_readWord_96 : decode cX8_readWord 96 = .ok (.aload_n 0, 1) := by decide +kernel
theorem dX8_readWord_97 : decode cX8_readWord 97 = .ok (.getfield 28, 3) := by decide +kernel
theorem dX8_readWord_100 : decode cX8_readWord 100 = .ok (.invokestatic 50, 3) := by decide +kernel
theorem dX8_readWord_103 : decode cX8_readWord 103 = .ok (.putfield 21, 3) := by decide +kernel
theorem dX8_readWord_106 : decode cX8_readWord 106 = .ok (.return_, 1) := by decide +kernel
theorem dX8_readNumber_0 : decode cX8_readNumber 0 = .ok (.aload_n 0, 1) := by decide +kernel
theorem dX8_readNumber_1 : decode cX8_readNumber 1 = .ok (.iconst 0, 1) := by decide +kernel
theorem dX8_readNumber_2 : decode cX8_readNumber 2 = .ok (.putfield 66, 3) := by decide +kernel
theorem dX8_readNumber_5 : decode cX8_readNumber 5 = .ok (.aload_n 0, 1) := by decide +kernel
theorem dX8_readNumber_6 : decode cX8_readNumber 6 = .ok (.getfield 28, 3) := by decide +kernel
theorem dX8_readNumber_9 : decode cX8_readNumber 9 = .ok (.aload_n 0, 1) := by decide +kernel
theorem dX8_readNumber_10 : decode cX8_readNumber 10 = .ok (.getfield 24, 3) := by decide +kernel
theorem dX8_readNumber_13 : decode cX8_readNumber 13 = .ok (.if_icmp .ge 55, 3) := by decide +kernel
theorem dX8_readNumber_16 : decode cX8_readNumber 16 = .ok (.aload_n 0, 1) := by decide +kernel
theorem dX8_readNumber_17 : decode cX8_readNumber 17 = .ok (.getfield 9, 3) := by decide +kernel
theorem dX8_readNumber_20 : decode cX8_readNumber 20 = .ok (.aload_n 0, 1) := by decide +kernel
theorem dX8_readNumber_21 : decode cX8_readNumber 21 = .ok (.getfield 28, 3) := by decide +kernel
theorem dX8_readNumber_24 : decode cX8_readNumber 24 = .ok (.baload, 1) := by decide +kernel
theorem dX8_readNumber_25 : decode cX8_readNumber 25 = .ok (.invokestatic 44, 3) := by decide +kernel
theorem dX8_readNumber_28 : decode cX8_readNumber 28 = .ok (.ifCond .eq 40, 3) := by decide +kernel
theorem dX8_readNumber_31 : decode cX8_readNumber 31 = .ok (.aload_n 0, 1) := by decide +kernel
theorem dX8_readNumber_32 : decode cX8_readNumber 32 = .ok (.aload_n 0, 1) := by decide +kernel
theorem dX8_readNumber_33 : decode cX8_readNumber 33 = .ok (.getfield 66, 3) := by decide +kernel
theorem dX8_readNumber_36 : decode cX8_readNumber 36 = .ok (.bipush 10, 2) := by decide +kernel
theorem dX8_readNumber_38 : decode cX8_readNumber 38 = .ok (.imul, 1) := by decide +kernel
theorem dX8_readNumber_39 : decode cX8_readNumber 39 = .ok (.aload_n 0, 1) := by decide +kernel
theorem dX8_readNumber_40 : decode cX8_readNumber 40 = .ok (.getfield 9, 3) := by decide +kernel
theorem dX8_readNumber_43 : decode cX8_readNumber 43 = .ok (.aload_n 0, 1) := by decide +kernel
theorem dX8_readNumber_44 : decode cX8_readNumber 44 = .ok (.getfield 28, 3) := by decide +kernel
theorem dX8_readNumber_47 : decode cX8_readNumber 47 = .ok (.baload, 1) := by decide +kernel
theorem dX8_readNumber_48 : decode cX8_readNumber 48 = .ok (.bipush 48, 2) := by decide +kernel
theorem dX8_readNumber_50 : decode cX8_readNumber 50 = .ok (.isub, 1) := by decide +kernel
theorem dX8_readNumber_51 : decode cX8_readNumber 51 = .ok (.iadd, 1) := by decide +kernel
theorem dX8_readNumber_52 : decode cX8_readNumber 52 = .ok (.putfield 66, 3) := by decide +kernel
theorem dX8_readNumber_55 : decode cX8_readNumber 55 = .ok (.aload_n 0, 1) := by decide +kernel
theorem dX8_readNumber_56 : decode cX8_readNumber 56 = .ok (.dup, 1) := by decide +kernel
theorem dX8_readNumber_57 : decode cX8_readNumber 57 = .ok (.getfield 28, 3) := by decide +kernel
theorem dX8_readNumber_60 : decode cX8_readNumber 60 = .ok (.iconst 1, 1) := by decide +kernel
theorem dX8_readNumber_61 : decode cX8_readNumber 61 = .ok (.iadd, 1) := by decide +kernel
theorem dX8_readNumber_62 : decode cX8_readNumber 62 = .ok (.putfield 28, 3) := by decide +kernel
theorem dX8_readNumber_65 : decode cX8_readNumber 65 = .ok (.goto (-60), 3) := by decide +kernel
theorem dX8_readNumber_68 : decode cX8_readNumber 68 = .ok (.aload_n 0, 1) := by decide +kernel
theorem dX8_readNumber_69 : decode cX8_readNumber 69 = .ok (.aload_n 0, 1) := by decide +kernel
theorem dX8_readNumber_70 : decode cX8_readNumber 70 = .ok (.getfield 28, 3) := by decide +kernel
theorem dX8_readNumber_73 : decode cX8_readNumber 73 = .ok (.aload_n 0, 1) := by decide +kernel
theorem dX8_readNumber_74 : decode cX8_readNumber 74 = .ok (.getfield 34, 3) := by decide +kernel
theorem dX8_readNumber_77 : decode cX8_readNumber 77 = .ok (.isub, 1) := by decide +kernel
theorem dX8_readNumber_78 : decode cX8_readNumber 78 = .ok (.iconst 4, 1) := by decide +kernel
theorem dX8_readNumber_79 : decode cX8_readNumber 79 = .ok (.if_icmp .le 9, 3) := by decide +kernel
theorem dX8_readNumber_82 : decode cX8_readNumber 82 = .ok (.getstatic 57, 3) := by decide +kernel
theorem dX8_readNumber_85 : decode cX8_readNumber 85 = .ok (.goto 6, 3) := by decide +kernel
theorem dX8_readNumber_88 : decode cX8_readNumber 88 = .ok (.getstatic 69, 3) := by decide +kernel
theorem dX8_readNumber_91 : decode cX8_readNumber 91 = .ok (.putfield 21, 3) := by decide +kernel
theorem dX8_readNumber_94 : decode cX8_readNumber 94 = .ok (.return_, 1) := by decide +kernel
theorem dX8_isLetter_0 : decode cX8_isLetter 0 = .ok (.iload_n 0, 1) := by decide +kernel
theorem dX8_isLetter_1 : decode cX8_isLetter 1 = .ok (.bipush 97, 2) := by decide +kernel
theorem dX8_isLetter_3 : decode cX8_isLetter 3 = .ok (.if_icmp .lt 13, 3) := by decide +kernel
theorem dX8_isLetter_6 : decode cX8_isLetter 6 = .ok (.iload_n 0, 1) := by decide +kernel
theorem dX8_isLetter_7 : decode cX8_isLetter 7 = .ok (.bipush 122, 2) := by decide +kernel
theorem dX8_isLetter_9 : decode cX8_isLetter 9 = .ok (.if_icmp .gt 7, 3) := by decide +kernel
theorem dX8_isLetter_12 : decode cX8_isLetter 12 = .ok (.iconst 1, 1) := by decide +kernel
theorem dX8_isLetter_13 : decode cX8_isLetter 13 = .ok (.goto 4, 3) := by decide +kernel
theorem dX8_isLetter_16 : decode cX8_isLetter 16 = .ok (.iconst 0, 1) := by decide +kernel
theorem dX8_isLetter_17 : decode cX8_isLetter 17 = .ok (.ireturn, 1) := by decide +kernel
theorem dX8_isDigit_0 : decode cX8_isDigit 0 = .ok (.iload_n 0, 1) := by decide +kernel
theorem dX8_isDigit_1 : decode cX8_isDigit 1 = .ok (.bipush 48, 2) := by decide +kernel
theorem dX8_isDigit_3 : decode cX8_isDigit 3 = .ok (.if_icmp .lt 13, 3) := by decide +kernel
theorem dX8_isDigit_6 : decode cX8_isDigit 6 = .ok (.iload_n 0, 1) := by decide +kernel
theorem dX8_isDigit_7 : decode cX8_isDigit 7 = .ok (.bipush 57, 2) := by decide +kernel
theorem dX8_isDigit_9 : decode cX8_isDigit 9 = .ok (.if_icmp .gt 7, 3) := by decide +kernel
theorem dX8_isDigit_12 : decode cX8_isDigit 12 = .ok (.iconst 1, 1) := by decide +kernel
theorem dX8_isDigit_13 : decode cX8_isDigit 13 = .ok (.goto 4, 3) := by decide +kernel
theorem dX8_isDigit_16 : decode cX8_isDigit 16 = .ok (.iconst 0, 1) := by decide +kernel
theorem dX8_isDigit_17 : decode cX8_isDigit 17 = .ok (.ireturn, 1) := by decide +kernel
theorem dX9_init_0 : decode cX9_init 0 = .ok (.aload_n 0, 1) := by decide +kernel
theorem dX9_init_1 : decode cX9_init 1 = .ok (.invokespecial 3, 3) := by decide +kernel
theorem dX9_init_4 : decode cX9_init 4 = .ok (.aload_n 0, 1) := by decide +kernel
theorem dX9_init_5 : decode cX9_init 5 = .ok (.bipush 7, 2) := by decide +kernel
theorem dX9_init_7 : decode cX9_init 7 = .ok (.newarray .int, 2) := by decide +kernel
theorem dX9_init_9 : decode cX9_init 9 = .ok (.putfield 9, 3) := by decide +kernel
theorem dX9_init_12 : decode cX9_init 12 = .ok (.aload_n 0, 1) := by decide +kernel
theorem dX9_init_13 : decode cX9_init 13 = .ok (.bipush 64, 2) := by decide +kernel
theorem dX9_init_15 : decode cX9_init 15 = .ok (.newarray .int, 2) := by decide +kernel
theorem dX9_init_17 : decode cX9_init 17 = .ok (.putfield 17, 3) := by decide +kernel
theorem dX9_init_20 : decode cX9_init 20 = .ok (.aload_n 0, 1) := by decide +kernel
theorem dX9_init_21 : decode cX9_init 21 = .ok (.aload_n 1, 1) := by decide +kernel
theorem dX9_init_22 : decode cX9_init 22 = .ok (.putfield 20, 3) := by decide +kernel
theorem dX9_init_25 : decode cX9_init 25 = .ok (.aload_n 0, 1) := by decide +kernel
theorem dX9_init_26 : decode cX9_init 26 = .ok (.aload_n 2, 1) := by decide +kernel
theorem dX9_init_27 : decode cX9_init 27 = .ok (.putfield 24, 3) := by decide +kernel
theorem dX9_init_30 : decode cX9_init 30 = .ok (.aload_n 0, 1) := by decide +kernel
theorem dX9_init_31 : decode cX9_init 31 = .ok (.aload_n 3, 1) := by decide +kernel
theorem dX9_init_32 : decode cX9_init 32 = .ok (.putfield 28, 3) := by decide +kernel
theorem dX9_init_35 : decode cX9_init 35 = .ok (.return_, 1) := by decide +kernel
theorem dX9_goAll_0 : decode cX9_goAll 0 = .ok (.aload_n 0, 1) := by decide +kernel
theorem dX9_goAll_1 : decode cX9_goAll 1 = .ok (.getfield 28, 3) := by decide +kernel
theorem dX9_goAll_4 : decode cX9_goAll 4 = .ok (.iload_n 2, 1) := by decide +kernel
theorem dX9_goAll_5 : decode cX9_goAll 5 = .ok (.invokevirtual 32, 3) := by decide +kernel
theorem dX9_goAll_8 : decode cX9_goAll 8 = .ok (.istore 5, 2) := by decide +kernel
theorem dX9_goAll_10 : decode cX9_goAll 10 = .ok (.aload_n 0, 1) := by decide +kernel
theorem dX9_goAll_11 : decode cX9_goAll 11 = .ok (.iload_n 3, 1) := by decide +kernel
theorem dX9_goAll_12 : decode cX9_goAll 12 = .ok (.putfield 38, 3) := by decide +kernel
theorem dX9_goAll_15 : decode cX9_goAll 15 = .ok (.aload_n 0, 1) := by decide +kernel
theorem dX9_goAll_16 : decode cX9_goAll 16 = .ok (.iconst 0, 1) := by decide +kernel
theorem dX9_goAll_17 : decode cX9_goAll 17 = .ok (.putfield 42, 3) := by decide +kernel
theorem dX9_goAll_20 : decode cX9_goAll 20 = .ok (.aload_n 0, 1) := by decide +kernel
theorem dX9_goAll_21 : decode cX9_goAll 21 = .ok (.iconst 0, 1) := by decide +kernel
theorem dX9_goAll_22 : decode cX9_goAll 22 = .ok (.putfield 45, 3) := by decide +kernel
theorem dX9_goAll_25 : decode cX9_goAll 25 = .ok (.aload_n 0, 1) := by decide +kernel
theorem dX9_goAll_26 : decode cX9_goAll 26 = .ok (.iconst 0, 1) := by decide +kernel
theorem dX9_goAll_27 : decode cX9_goAll 27 = .ok (.putfield 48, 3) := by decide +kernel
theorem dX9_goAll_30 : decode cX9_goAll 30 = .ok (.iconst 1, 1) := by decide +kernel
theorem dX9_goAll_31 : decode cX9_goAll 31 = .ok (.istore 6, 2) := by decide +kernel
theorem dX9_goAll_33 : decode cX9_goAll 33 = .ok (.iload 6, 2) := by decide +kernel
theorem dX9_goAll_35 : decode cX9_goAll 35 = .ok (.iload 5, 2) := by decide +kernel
theorem dX9_goAll_37 : decode cX9_goAll 37 = .ok (.if_icmp .gt 85, 3) := by decide +kernel
theorem dX9_goAll_40 : decode cX9_goAll 40 = .ok (.aload_n 0, 1) := by decide +kernel
theorem dX9_goAll_41 : decode cX9_goAll 41 = .ok (.getfield 28, 3) := by decide +kernel
theorem dX9_goAll_44 : decode cX9_goAll 44 = .ok (.iload_n 2, 1) := by decide +kernel
theorem dX9_goAll_45 : decode cX9_goAll 45 = .ok (.iload 6, 2) := by decide +kernel
theorem dX9_goAll_47 : decode cX9_goAll 47 = .ok (.invokevirtual 51, 3) := by decide +kernel
theorem dX9_goAll_50 : decode cX9_goAll 50 = .ok (.istore 7, 2) := by decide +kernel
theorem dX9_goAll_52 : decode cX9_goAll 52 = .ok (.aload_n 0, 1) := by decide +kernel
theorem dX9_goAll_53 : decode cX9_goAll 53 = .ok (.iload_n 1, 1) := by decide +kernel
theorem dX9_goAll_54 : decode cX9_goAll 54 = .ok (.aload_n 0, 1) := by decide +kernel
theorem dX9_goAll_55 : decode cX9_goAll 55 = .ok (.getfield 28, 3) := by decide +kernel
theorem dX9_goAll_58 : decode cX9_goAll 58 = .ok (.iload_n 2, 1) := by decide +kernel
theorem dX9_goAll_59 : decode cX9_goAll 59 = .ok (.iload 6, 2) := by decide +kernel
theorem dX9_goAll_61 : decode cX9_goAll 61 = .ok (.iconst 1, 1) := by decide +kernel
theorem dX9_goAll_62 : decode cX9_goAll 62 = .ok (.isub, 1) := by decide +kernel
theorem dX9_goAll_63 : decode cX9_goAll 63 = .ok (.invokevirtual 51, 3) := by decide +kernel
theorem dX9_goAll_66 : decode cX9_goAll 66 = .ok (.iload 7, 2) := by decide +kernel
theorem dX9_goAll_68 : decode cX9_goAll 68 = .ok (.invokevirtual 55, 3) := by decide +kernel
theorem dX9_goAll_71 : decode cX9_goAll 71 = .ok (.iload 6, 2) := by decide +kernel
theorem dX9_goAll_73 : decode cX9_goAll 73 = .ok (.iload 5, 2) := by decide +kernel
theorem dX9_goAll_75 : decode cX9_goAll 75 = .ok (.if_icmp .ge 41, 3) := by decide +kernel
theorem dX9_goAll_78 : decode cX9_goAll 78 = .ok (.iload 4, 2) := by decide +kernel
theorem dX9_goAll_80 : decode cX9_goAll 80 = .ok (.ifCond .eq 10, 3) := by decide +kernel
theorem dX9_goAll_83 : decode cX9_goAll 83 = .ok (.aload_n 0, 1) := by decide +kernel
theorem dX9_goAll_84 : decode cX9_goAll 84 = .ok (.iload_n 1, 1) := by decide +kernel
theorem dX9_goAll_85 : decode cX9_goAll 85 = .ok (.iload 7, 2) := by decide +kernel
theorem dX9_goAll_87 : decode cX9_goAll 87 = .ok (.invokevirtual 59, 3) := by decide +kernel
theorem dX9_goAll_90 : decode cX9_goAll 90 = .ok (.aload_n 0, 1) := by decide +kernel
theorem dX9_goAll_91 : decode cX9_goAll 91 = .ok (.iload_n 1, 1) := by decide +kernel
theorem dX9_goAll_92 : decode cX9_goAll 92 = .ok (.iload 7, 2) := by decide +kernel
theorem dX9_goAll_94 : decode cX9_goAll 94 = .ok (.invokevirtual 63, 3) := by decide +kernel
theorem dX9_goAll_97 : decode cX9_goAll 97 = .ok (.istore 8, 2) := by decide +kernel
theorem dX9_goAll_99 : decode cX9_goAll 99 = .ok (.iload 4, 2) := by decide +kernel
theorem dX9_goAll_101 : decode cX9_goAll 101 = .ok (.ifCond .eq 15, 3) := by decide +kernel
theorem dX9_goAll_104 : decode cX9_goAll 104 = .ok (.aload_n 0, 1) := by decide +kernel
theorem dX9_goAll_105 : decode cX9_goAll 105 = .ok (.getfield 24, 3) := by decide +kernel
theorem dX9_goAll_108 : decode cX9_goAll 108 = .ok (.iload_n 1, 1) := by decide +kernel
theorem dX9_goAll_109 : decode cX9_goAll 109 = .ok (.iload 7, 2) := by decide +kernel
theorem dX9_goAll_111 : decode cX9_goAll 111 = .ok (.iload 8, 2) := by decide +kernel
theorem dX9_goAll_113 : decode cX9_goAll 113 = .ok (.invokevirtual 66, 3) := by decide +kernel
theorem dX9_goAll_116 : decode cX9_goAll 116 = .ok (.iinc 6 1, 3) := by decide +kernel
theorem dX9_goAll_119 : decode cX9_goAll 119 = .ok (.goto (-86), 3) := by decide +kernel
theorem dX9_goAll_122 : decode cX9_goAll 122 = .ok (.return_, 1) := by decide +kernel
theorem dX9_goOver_0 : decode cX9_goOver 0 = .ok (.iload_n 2, 1) := by decide +kernel
theorem dX9_goOver_1 : decode cX9_goOver 1 = .ok (.bipush 7, 2) := by decide +kernel
theorem dX9_goOver_3 : decode cX9_goOver 3 = .ok (.imul, 1) := by decide +kernel
theorem dX9_goOver_4 : decode cX9_goOver 4 = .ok (.iload_n 3, 1) := by decide +kernel
theorem dX9_goOver_5 : decode cX9_goOver 5 = .ok (.iadd, 1) := by decide +kernel
theorem dX9_goOver_6 : decode cX9_goOver 6 = .ok (.istore 4, 2) := by decide +kernel
theorem dX9_goOver_8 : decode cX9_goOver 8 = .ok (.aload_n 0, 1) := by decide +kernel
theorem dX9_goOver_9 : decode cX9_goOver 9 = .ok (.getfield 20, 3) := by decide +kernel
theorem dX9_goOver_12 : decode cX9_goOver 12 = .ok (.getfield 71, 3) := by decide +kernel
theorem dX9_goOver_15 : decode cX9_goOver 15 = .ok (.iload 4, 2) := by decide +kernel
theorem dX9_goOver_17 : decode cX9_goOver 17 = .ok (.iaload, 1) := by decide +kernel
theorem dX9_goOver_18 : decode cX9_goOver 18 = .ok (.istore 5, 2) := by decide +kernel
theorem dX9_goOver_20 : decode cX9_goOver 20 = .ok (.aload_n 0, 1) := by decide +kernel
theorem dX9_goOver_21 : decode cX9_goOver 21 = .ok (.getfield 20, 3) := by decide +kernel
theorem dX9_goOver_24 : decode cX9_goOver 24 = .ok (.getfield 75, 3) := by decide +kernel
theorem dX9_goOver_27 : decode cX9_goOver 27 = .ok (.iload_n 1, 1) := by decide +kernel
theorem dX9_goOver_28 : decode cX9_goOver 28 = .ok (.iaload, 1) := by decide +kernel
theorem dX9_goOver_29 : decode cX9_goOver 29 = .ok (.istore 6, 2) := by decide +kernel
theorem dX9_goOver_31 : decode cX9_goOver 31 = .ok (.aload_n 0, 1) := by decide +kernel
theorem dX9_goOver_32 : decode cX9_goOver 32 = .ok (.getfield 20, 3) := by decide +kernel
theorem dX9_goOver_35 : decode cX9_goOver 35 = .ok (.getfield 78, 3) := by decide +kernel
theorem dX9_goOver_38 : decode cX9_goOver 38 = .ok (.iload_n 1, 1) := by decide +kernel
theorem dX9_goOver_39 : decode cX9_goOver 39 = .ok (.iaload, 1) := by decide +kernel
theorem dX9_goOver_40 : decode cX9_goOver 40 = .ok (.iload 5, 2) := by decide +kernel
theorem dX9_goOver_42 : decode cX9_goOver 42 = .ok (.imul, 1) := by decide +kernel
theorem dX9_goOver_43 : decode cX9_goOver 43 = .ok (.bipush 10, 2) := by decide +kernel
theorem dX9_goOver_45 : decode cX9_goOver 45 = .ok (.idiv, 1) := by decide +kernel
theorem dX9_goOver_46 : decode cX9_goOver 46 = .ok (.istore 7, 2) := by decide +kernel
theorem dX9_goOver_48 : decode cX9_goOver 48 = .ok (.iload 6, 2) := by decide +kernel
theorem dX9_goOver_50 : decode cX9_goOver 50 = .ok (.iconst 4, 1) := by decide +kernel
theorem dX9_goOver_51 : decode cX9_goOver 51 = .ok (.if_icmp .eq 15, 3) := by decide +kernel
theorem dX9_goOver_54 : decode cX9_goOver 54 = .ok (.aload_n 0, 1) := by decide +kernel
theorem dX9_goOver_55 : decode cX9_goOver 55 = .ok (.getfield 24, 3) := by decide +kernel
theorem dX9_goOver_58 : decode cX9_goOver 58 = .ok (.getfield 81, 3) := by decide +kernel
theorem dX9_goOver_61 : decode cX9_goOver 61 = .ok (.iload_n 1, 1) := by decide +kernel
theorem dX9_goOver_62 : decode cX9_goOver 62 = .ok (.iaload, 1) := by decide +kernel
theorem dX9_goOver_63 : decode cX9_goOver 63 = .ok (.ifCond .eq 9, 3) := by decide +kernel
theorem dX9_goOver_66 : decode cX9_goOver 66 = .ok (.iload 7, 2) := by decide +kernel
theorem dX9_goOver_68 : decode cX9_goOver 68 = .ok (.iconst 2, 1) := by decide +kernel
theorem dX9_goOver_69 : decode cX9_goOver 69 = .ok (.idiv, 1) := by decide +kernel
theorem dX9_goOver_70 : decode cX9_goOver 70 = .ok (.istore 7, 2) := by decide +kernel
theorem dX9_goOver_72 : decode cX9_goOver 72 = .ok (.iload 6, 2) := by decide +kernel
theorem dX9_goOver_74 : decode cX9_goOver 74 = .ok (.iconst 1, 1) := by decide +kernel
theorem dX9_goOver_75 : decode cX9_goOver 75 = .ok (.if_icmp .eq 18, 3) := by decide +kernel
theorem dX9_goOver_78 : decode cX9_goOver 78 = .ok (.iload 7, 2) := by decide +kernel
theorem dX9_goOver_80 : decode cX9_goOver 80 = .ok (.aload_n 0, 1) := by decide +kernel
theorem dX9_goOver_81 : decode cX9_goOver 81 = .ok (.getfield 20, 3) := by decide +kernel
theorem dX9_goOver_84 : decode cX9_goOver 84 = .ok (.getfield 84, 3) := by decide +kernel
theorem dX9_goOver_87 : decode cX9_goOver 87 = .ok (.iload 4, 2) := by decide +kernel
theorem dX9_goOver_89 : decode cX9_goOver 89 = .ok (.iaload, 1) := by decide +kernel
theorem dX9_goOver_90 : decode cX9_goOver 90 = .ok (.iadd, 1) := by decide +kernel
theorem dX9_goOver_91 : decode cX9_goOver 91 = .ok (.istore 7, 2) := by decide +kernel
theorem dX9_goOver_93 : decode cX9_goOver 93 = .ok (.iload 7, 2) := by decide +kernel
theorem dX9_goOver_95 : decode cX9_goOver 95 = .ok (.aload_n 0, 1) := by decide +kernel
theorem dX9_goOver_96 : decode cX9_goOver 96 = .ok (.getfield 38, 3) := by decide +kernel
theorem dX9_goOver_99 : decode cX9_goOver 99 = .ok (.invokestatic 87, 3) := by decide +kernel
theorem dX9_goOver_102 : decode cX9_goOver 102 = .ok (.istore 7, 2) := by decide +kernel
theorem dX9_goOver_104 : decode cX9_goOver 104 = .ok (.aload_n 0, 1) := by decide +kernel
theorem dX9_goOver_105 : decode cX9_goOver 105 = .ok (.dup, 1) := by decide +kernel
theorem dX9_goOver_106 : decode cX9_goOver 106 = .ok (.getfield 38, 3) := by decide +kernel
theorem dX9_goOver_109 : decode cX9_goOver 109 = .ok (.iload 7, 2) := by decide +kernel
theorem dX9_goOver_111 : decode cX9_goOver 111 = .ok (.isub, 1) := by decide +kernel
theorem dX9_goOver_112 : decode cX9_goOver 112 = .ok (.putfield 38, 3) := by decide +kernel
theorem dX9_goOver_115 : decode cX9_goOver 115 = .ok (.aload_n 0, 1) := by decide +kernel
theorem dX9_goOver_116 : decode cX9_goOver 116 = .ok (.dup, 1) := by decide +kernel
theorem dX9_goOver_117 : decode cX9_goOver 117 = .ok (.getfield 48, 3) := by decide +kernel
theorem dX9_goOver_120 : decode cX9_goOver 120 = .ok (.iload 7, 2) := by decide +kernel
theorem dX9_goOver_122 : decode cX9_goOver 122 = .ok (.iadd, 1) := by decide +kernel
theorem dX9_goOver_123 : decode cX9_goOver 123 = .ok (.putfield 48, 3) := by decide +kernel
theorem dX9_goOver_126 : decode cX9_goOver 126 = .ok (.aload_n 0, 1) := by decide +kernel
theorem dX9_goOver_127 : decode cX9_goOver 127 = .ok (.dup, 1) := by decide +kernel
theorem dX9_goOver_128 : decode cX9_goOver 128 = .ok (.getfield 42, 3) := by decide +kernel
theorem dX9_goOver_131 : decode cX9_goOver 131 = .ok (.iload 6, 2) := by decide +kernel
theorem dX9_goOver_133 : decode cX9_goOver 133 = .ok (.iconst 2, 1) := by decide +kernel
theorem dX9_goOver_134 : decode cX9_goOver 134 = .ok (.if_icmp .ne 13, 3) := by decide +kernel
theorem dX9_goOver_137 : decode cX9_goOver 137 = .ok (.iload 5, 2) := by decide +kernel
theorem dX9_goOver_139 : decode cX9_goOver 139 = .ok (.iload 5, 2) := by decide +kernel
theorem dX9_goOver_141 : decode cX9_goOver 141 = .ok (.iconst 2, 1) := by decide +kernel
theorem dX9_goOver_142 : decode cX9_goOver 142 = .ok (.idiv, 1) := by decide +kernel
theorem dX9_goOver_143 : decode cX9_goOver 143 = .ok (.iadd, 1) := by decide +kernel
theorem dX9_goOver_144 : decode cX9_goOver 144 = .ok (.goto 5, 3) := by decide +kernel
theorem dX9_goOver_147 : decode cX9_goOver 147 = .ok (.iload 5, 2) := by decide +kernel
theorem dX9_goOver_149 : decode cX9_goOver 149 = .ok (.iadd, 1) := by decide +kernel
theorem dX9_goOver_150 : decode cX9_goOver 150 = .ok (.putfield 42, 3) := by decide +kernel
theorem dX9_goOver_153 : decode cX9_goOver 153 = .ok (.return_, 1) := by decide +kernel
theorem dX9_gather_0 : decode cX9_gather 0 = .ok (.aload_n 0, 1) := by decide +kernel
theorem dX9_gather_1 : decode cX9_gather 1 = .ok (.getfield 20, 3) := by decide +kernel
theorem dX9_gather_4 : decode cX9_gather 4 = .ok (.iload_n 1, 1) := by decide +kernel
theorem dX9_gather_5 : decode cX9_gather 5 = .ok (.invokevirtual 92, 3) := by decide +kernel
theorem dX9_gather_8 : decode cX9_gather 8 = .ok (.istore_n 3, 1) := by decide +kernel
theorem dX9_gather_9 : decode cX9_gather 9 = .ok (.aload_n 0, 1) := by decide +kernel
theorem dX9_gather_10 : decode cX9_gather 10 = .ok (.getfield 20, 3) := by decide +kernel
theorem dX9_gather_13 : decode cX9_gather 13 = .ok (.getfield 95, 3) := by decide +kernel
theorem dX9_gather_16 : decode cX9_gather 16 = .ok (.iload_n 2, 1) := by decide +kernel
theorem dX9_gather_17 : decode cX9_gather 17 = .ok (.iaload, 1) := by decide +kernel
theorem dX9_gather_18 : decode cX9_gather 18 = .ok (.aload_n 0, 1) := by decide +kernel
theorem dX9_gather_19 : decode cX9_gather 19 = .ok (.getfield 20, 3) := by decide +kernel
theorem dX9_gather_22 : decode cX9_gather 22 = .ok (.getfield 98, 3) := by decide +kernel
theorem dX9_gather_25 : decode cX9_gather 25 = .ok (.if_icmp .lt 43, 3) := by decide +kernel
theorem dX9_gather_28 : decode cX9_gather 28 = .ok (.aload_n 0, 1) := by decide +kernel
theorem dX9_gather_29 : decode cX9_gather 29 = .ok (.getfield 24, 3) := by decide +kernel
theorem dX9_gather_32 : decode cX9_gather 32 = .ok (.invokevirtual 101, 3) := by decide +kernel
theorem dX9_gather_35 : decode cX9_gather 35 = .ok (.istore 4, 2) := by decide +kernel
theorem dX9_gather_37 : decode cX9_gather 37 = .ok (.aload_n 0, 1) := by decide +kernel
theorem dX9_gather_38 : decode cX9_gather 38 = .ok (.getfield 20, 3) := by decide +kernel
theorem dX9_gather_41 : decode cX9_gather 41 = .ok (.getfield 75, 3) := by decide +kernel
theorem dX9_gather_44 : decode cX9_gather 44 = .ok (.iload_n 1, 1) := by decide +kernel
theorem dX9_gather_45 : decode cX9_gather 45 = .ok (.iaload, 1) := by decide +kernel
theorem dX9_gather_46 : decode cX9_gather 46 = .ok (.iconst 5, 1) := by decide +kernel
theorem dX9_gather_47 : decode cX9_gather 47 = .ok (.if_icmp .ne 6, 3) := by decide +kernel
theorem dX9_gather_50 : decode cX9_gather 50 = .ok (.iinc 4 1, 3) := by decide +kernel
theorem dX9_gather_53 : decode cX9_gather 53 = .ok (.aload_n 0, 1) := by decide +kernel
theorem dX9_gather_54 : decode cX9_gather 54 = .ok (.iload_n 3, 1) := by decide +kernel
theorem dX9_gather_55 : decode cX9_gather 55 = .ok (.aload_n 0, 1) := by decide +kernel
theorem dX9_gather_56 : decode cX9_gather 56 = .ok (.getfield 38, 3) := by decide +kernel
theorem dX9_gather_59 : decode cX9_gather 59 = .ok (.iload 4, 2) := by decide +kernel
theorem dX9_gather_61 : decode cX9_gather 61 = .ok (.iadd, 1) := by decide +kernel
theorem dX9_gather_62 : decode cX9_gather 62 = .ok (.invokestatic 87, 3) := by decide +kernel
theorem dX9_gather_65 : decode cX9_gather 65 = .ok (.putfield 38, 3) := by decide +kernel
theorem dX9_gather_68 : decode cX9_gather 68 = .ok (.aload_n 0, 1) := by decide +kernel
theorem dX9_gather_69 : decode cX9_gather 69 = .ok (.getfield 24, 3) := by decide +kernel
theorem dX9_gather_72 : decode cX9_gather 72 = .ok (.getfield 105, 3) := by decide +kernel
theorem dX9_gather_75 : decode cX9_gather 75 = .ok (.iload_n 2, 1) := by decide +kernel
theorem dX9_gather_76 : decode cX9_gather 76 = .ok (.iaload, 1) := by decide +kernel
theorem dX9_gather_77 : decode cX9_gather 77 = .ok (.iload_n 3, 1) := by decide +kernel
theorem dX9_gather_78 : decode cX9_gather 78 = .ok (.aload_n 0, 1) := by decide +kernel
theorem dX9_gather_79 : decode cX9_gather 79 = .ok (.getfield 38, 3) := by decide +kernel
theorem dX9_gather_82 : decode cX9_gather 82 = .ok (.isub, 1) := by decide +kernel
theorem dX9_gather_83 : decode cX9_gather 83 = .ok (.invokestatic 87, 3) := by decide +kernel
theorem dX9_gather_86 : decode cX9_gather 86 = .ok (.istore 4, 2) := by decide +kernel
theorem dX9_gather_88 : decode cX9_gather 88 = .ok (.aload_n 0, 1) := by decide +kernel
theorem dX9_gather_89 : decode cX9_gather 89 = .ok (.getfield 24, 3) := by decide +kernel
theorem dX9_gather_92 : decode cX9_gather 92 = .ok (.getfield 105, 3) := by decide +kernel
theorem dX9_gather_95 : decode cX9_gather 95 = .ok (.iload_n 2, 1) := by decide +kernel
theorem dX9_gather_96 : decode cX9_gather 96 = .ok (.dup2, 1) := by decide +kernel
theorem dX9_gather_97 : decode cX9_gather 97 = .ok (.iaload, 1) := by decide +kernel
theorem dX9_gather_98 : decode cX9_gather 98 = .ok (.iload 4, 2) := by decide +kernel
theorem dX9_gather_100 : decode cX9_gather 100 = .ok (.isub, 1) := by decide +kernel
theorem dX9_gather_101 : decode cX9_gather 101 = .ok (.iastore, 1) := by decide +kernel
theorem dX9_gather_102 : decode cX9_gather 102 = .ok (.aload_n 0, 1) := by decide +kernel
theorem dX9_gather_103 : decode cX9_gather 103 = .ok (.dup, 1) := by decide +kernel
theorem dX9_gather_104 : decode cX9_gather 104 = .ok (.getfield 38, 3) := by decide +kernel
theorem dX9_gather_107 : decode cX9_gather 107 = .ok (.iload 4, 2) := by decide +kernel
theorem dX9_gather_109 : decode cX9_gather 109 = .ok (.iadd, 1) := by decide +kernel
theorem dX9_gather_110 : decode cX9_gather 110 = .ok (.putfield 38, 3) := by decide +kernel
theorem dX9_gather_113 : decode cX9_gather 113 = .ok (.return_, 1) := by decide +kernel
theorem dX9_drinkAt_0 : decode cX9_drinkAt 0 = .ok (.aload_n 0, 1) := by decide +kernel
theorem dX9_drinkAt_1 : decode cX9_drinkAt 1 = .ok (.getfield 24, 3) := by decide +kernel
theorem dX9_drinkAt_4 : decode cX9_drinkAt 4 = .ok (.iload_n 1, 1) := by decide +kernel
theorem dX9_drinkAt_5 : decode cX9_drinkAt 5 = .ok (.invokevirtual 108, 3) := by decide +kernel
theorem dX9_drinkAt_8 : decode cX9_drinkAt 8 = .ok (.istore_n 3, 1) := by decide +kernel
theorem dX9_drinkAt_9 : decode cX9_drinkAt 9 = .ok (.aload_n 0, 1) := by decide +kernel
theorem dX9_drinkAt_10 : decode cX9_drinkAt 10 = .ok (.getfield 20, 3) := by decide +kernel
theorem dX9_drinkAt_13 : decode cX9_drinkAt 13 = .ok (.getfield 75, 3) := by decide +kernel
theorem dX9_drinkAt_16 : decode cX9_drinkAt 16 = .ok (.iload_n 1, 1) := by decide +kernel
theorem dX9_drinkAt_17 : decode cX9_drinkAt 17 = .ok (.iaload, 1) := by decide +kernel
theorem dX9_drinkAt_18 : decode cX9_drinkAt 18 = .ok (.istore 4, 2) := by decide +kernel
theorem dX9_drinkAt_20 : decode cX9_drinkAt 20 = .ok (.iload 4, 2) := by decide +kernel
theorem dX9_drinkAt_22 : decode cX9_drinkAt 22 = .ok (.iconst 3, 1) := by decide +kernel
theorem dX9_drinkAt_23 : decode cX9_drinkAt 23 = .ok (.if_icmp .ne 9, 3) := by decide +kernel
theorem dX9_drinkAt_26 : decode cX9_drinkAt 26 = .ok (.iload_n 3, 1) := by decide +kernel
theorem dX9_drinkAt_27 : decode cX9_drinkAt 27 = .ok (.ifCond .le 5, 3) := by decide +kernel
theorem dX9_drinkAt_30 : decode cX9_drinkAt 30 = .ok (.iconst 0, 1) := by decide +kernel
theorem dX9_drinkAt_31 : decode cX9_drinkAt 31 = .ok (.ireturn, 1) := by decide +kernel
theorem dX9_drinkAt_32 : decode cX9_drinkAt 32 = .ok (.aload_n 0, 1) := by decide +kernel
theorem dX9_drinkAt_33 : decode cX9_drinkAt 33 = .ok (.getfield 9, 3) := by decide +kernel
theorem dX9_drinkAt_36 : decode cX9_drinkAt 36 = .ok (.iconst 0, 1) := by decide +kernel
theorem dX9_drinkAt_37 : decode cX9_drinkAt 37 = .ok (.aload_n 0, 1) := by decide +kernel
theorem dX9_drinkAt_38 : decode cX9_drinkAt 38 = .ok (.getfield 20, 3) := by decide +kernel
theorem dX9_drinkAt_41 : decode cX9_drinkAt 41 = .ok (.getfield 111, 3) := by decide +kernel
theorem dX9_drinkAt_44 : decode cX9_drinkAt 44 = .ok (.iload_n 1, 1) := by decide +kernel
theorem dX9_drinkAt_45 : decode cX9_drinkAt 45 = .ok (.iaload, 1) := by decide +kernel
theorem dX9_drinkAt_46 : decode cX9_drinkAt 46 = .ok (.iastore, 1) := by decide +kernel
theorem dX9_drinkAt_47 : decode cX9_drinkAt 47 = .ok (.aload_n 0, 1) := by decide +kernel
theorem dX9_drinkAt_48 : decode cX9_drinkAt 48 = .ok (.getfield 9, 3) := by decide +kernel
theorem dX9_drinkAt_51 : decode cX9_drinkAt 51 = .ok (.iconst 1, 1) := by decide +kernel
theorem dX9_drinkAt_52 : decode cX9_drinkAt 52 = .ok (.aload_n 0, 1) := by decide +kernel
theorem dX9_drinkAt_53 : decode cX9_drinkAt 53 = .ok (.getfield 38, 3) := by decide +kernel
theorem dX9_drinkAt_56 : decode cX9_drinkAt 56 = .ok (.iastore, 1) := by decide +kernel
theorem dX9_drinkAt_57 : decode cX9_drinkAt 57 = .ok (.aload_n 0, 1) := by decide +kernel
theorem dX9_drinkAt_58 : decode cX9_drinkAt 58 = .ok (.getfield 9, 3) := by decide +kernel
theorem dX9_drinkAt_61 : decode cX9_drinkAt 61 = .ok (.iconst 2, 1) := by decide +kernel
theorem dX9_drinkAt_62 : decode cX9_drinkAt 62 = .ok (.aload_n 0, 1) := by decide +kernel
theorem dX9_drinkAt_63 : decode cX9_drinkAt 63 = .ok (.getfield 20, 3) := by decide +kernel
theorem dX9_drinkAt_66 : decode cX9_drinkAt 66 = .ok (.getfield 95, 3) := by decide +kernel
theorem dX9_drinkAt_69 : decode cX9_drinkAt 69 = .ok (.iload_n 2, 1) := by decide +kernel
theorem dX9_drinkAt_70 : decode cX9_drinkAt 70 = .ok (.iaload, 1) := by decide +kernel
theorem dX9_drinkAt_71 : decode cX9_drinkAt 71 = .ok (.iastore, 1) := by decide +kernel
theorem dX9_drinkAt_72 : decode cX9_drinkAt 72 = .ok (.aload_n 0, 1) := by decide +kernel
theorem dX9_drinkAt_73 : decode cX9_drinkAt 73 = .ok (.getfield 9, 3) := by decide +kernel
theorem dX9_drinkAt_76 : decode cX9_drinkAt 76 = .ok (.iconst 3, 1) := by decide +kernel
theorem dX9_drinkAt_77 : decode cX9_drinkAt 77 = .ok (.aload_n 0, 1) := by decide +kernel
theorem dX9_drinkAt_78 : decode cX9_drinkAt 78 = .ok (.getfield 42, 3) := by decide +kernel
theorem dX9_drinkAt_81 : decode cX9_drinkAt 81 = .ok (.iastore, 1) := by decide +kernel
theorem dX9_drinkAt_82 : decode cX9_drinkAt 82 = .ok (.aload_n 0, 1) := by decide +kernel
theorem dX9_drinkAt_83 : decode cX9_drinkAt 83 = .ok (.getfield 9, 3) := by decide +kernel
theorem dX9_drinkAt_86 : decode cX9_drinkAt 86 = .ok (.iconst 4, 1) := by decide +kernel
theorem dX9_drinkAt_87 : decode cX9_drinkAt 87 = .ok (.iload_n 3, 1) := by decide +kernel
theorem dX9_drinkAt_88 : decode cX9_drinkAt 88 = .ok (.iastore, 1) := by decide +kernel
theorem dX9_drinkAt_89 : decode cX9_drinkAt 89 = .ok (.aload_n 0, 1) := by decide +kernel
theorem dX9_drinkAt_90 : decode cX9_drinkAt 90 = .ok (.getfield 20, 3) := by decide +kernel
theorem dX9_drinkAt_93 : decode cX9_drinkAt 93 = .ok (.getfield 114, 3) := by decide +kernel
theorem dX9_drinkAt_96 : decode cX9_drinkAt 96 = .ok (.aload_n 0, 1) := by decide +kernel
theorem dX9_drinkAt_97 : decode cX9_drinkAt 97 = .ok (.getfield 9, 3) := by decide +kernel
theorem dX9_drinkAt_100 : decode cX9_drinkAt 100 = .ok (.aload_n 0, 1) := by decide +kernel
theorem dX9_drinkAt_101 : decode cX9_drinkAt 101 = .ok (.getfield 17, 3) := by decide +kernel
theorem dX9_drinkAt_104 : decode cX9_drinkAt 104 = .ok (.invokestatic 117, 3) := by decide +kernel
theorem dX9_drinkAt_107 : decode cX9_drinkAt 107 = .ok (.i2l, 1) := by decide +kernel
theorem dX9_drinkAt_108 : decode cX9_drinkAt 108 = .ok (.lstore 5, 2) := by decide +kernel
theorem dX9_drinkAt_110 : decode cX9_drinkAt 110 = .ok (.iload 4, 2) := by decide +kernel
theorem dX9_drinkAt_112 : decode cX9_drinkAt 112 = .ok (.iconst 1, 1) := by decide +kernel
theorem dX9_drinkAt_113 : decode cX9_drinkAt 113 = .ok (.if_icmp .ne 11, 3) := by decide +kernel
theorem dX9_drinkAt_116 : decode cX9_drinkAt 116 = .ok (.ldc2_w 121, 3) := by decide +kernel
theorem dX9_drinkAt_119 : decode cX9_drinkAt 119 = .ok (.lload 5, 2) := by decide +kernel
theorem dX9_drinkAt_121 : decode cX9_drinkAt 121 = .ok (.lmul, 1) := by decide +kernel
theorem dX9_drinkAt_122 : decode cX9_drinkAt 122 = .ok (.lstore 5, 2) := by decide +kernel
theorem dX9_drinkAt_124 : decode cX9_drinkAt 124 = .ok (.lconst 0, 1) := by decide +kernel
theorem dX9_drinkAt_125 : decode cX9_drinkAt 125 = .ok (.lload 5, 2) := by decide +kernel
theorem dX9_drinkAt_127 : decode cX9_drinkAt 127 = .ok (.aload_n 0, 1) := by decide +kernel
theorem dX9_drinkAt_128 : decode cX9_drinkAt 128 = .ok (.getfield 38, 3) := by decide +kernel
theorem dX9_drinkAt_131 : decode cX9_drinkAt 131 = .ok (.i2l, 1) := by decide +kernel
theorem dX9_drinkAt_132 : decode cX9_drinkAt 132 = .ok (.invokestatic 123, 3) := by decide +kernel
theorem dX9_drinkAt_135 : decode cX9_drinkAt 135 = .ok (.invokestatic 126, 3) := by decide +kernel
theorem dX9_drinkAt_138 : decode cX9_drinkAt 138 = .ok (.l2i, 1) := by decide +kernel
theorem dX9_drinkAt_139 : decode cX9_drinkAt 139 = .ok (.istore 7, 2) := by decide +kernel
theorem dX9_drinkAt_141 : decode cX9_drinkAt 141 = .ok (.aload_n 0, 1) := by decide +kernel
theorem dX9_drinkAt_142 : decode cX9_drinkAt 142 = .ok (.dup, 1) := by decide +kernel
theorem dX9_drinkAt_143 : decode cX9_drinkAt 143 = .ok (.getfield 38, 3) := by decide +kernel
theorem dX9_drinkAt_146 : decode cX9_drinkAt 146 = .ok (.iload 7, 2) := by decide +kernel
theorem dX9_drinkAt_148 : decode cX9_drinkAt 148 = .ok (.isub, 1) := by decide +kernel
theorem dX9_drinkAt_149 : decode cX9_drinkAt 149 = .ok (.putfield 38, 3) := by decide +kernel
theorem dX9_drinkAt_152 : decode cX9_drinkAt 152 = .ok (.aload_n 0, 1) := by decide +kernel
theorem dX9_drinkAt_153 : decode cX9_drinkAt 153 = .ok (.dup, 1) := by decide +kernel
theorem dX9_drinkAt_154 : decode cX9_drinkAt 154 = .ok (.getfield 45, 3) := by decide +kernel
theorem dX9_drinkAt_157 : decode cX9_drinkAt 157 = .ok (.iload 7, 2) := by decide +kernel
theorem dX9_drinkAt_159 : decode cX9_drinkAt 159 = .ok (.iadd, 1) := by decide +kernel
theorem dX9_drinkAt_160 : decode cX9_drinkAt 160 = .ok (.putfield 45, 3) := by decide +kernel
theorem dX9_drinkAt_163 : decode cX9_drinkAt 163 = .ok (.iload 7, 2) := by decide +kernel
theorem dX9_drinkAt_165 : decode cX9_drinkAt 165 = .ok (.ireturn, 1) := by decide +kernel
theorem dX9_priceNow_0 : decode cX9_priceNow 0 = .ok (.aload_n 0, 1) := by decide +kernel
theorem dX9_priceNow_1 : decode cX9_priceNow 1 = .ok (.getfield 9, 3) := by decide +kernel
theorem dX9_priceNow_4 : decode cX9_priceNow 4 = .ok (.iconst 5, 1) := by decide +kernel
theorem dX9_priceNow_5 : decode cX9_priceNow 5 = .ok (.aload_n 0, 1) := by decide +kernel
theorem dX9_priceNow_6 : decode cX9_priceNow 6 = .ok (.getfield 24, 3) := by decide +kernel
theorem dX9_priceNow_9 : decode cX9_priceNow 9 = .ok (.getfield 129, 3) := by decide +kernel
theorem dX9_priceNow_12 : decode cX9_priceNow 12 = .ok (.iastore, 1) := by decide +kernel
theorem dX9_priceNow_13 : decode cX9_priceNow 13 = .ok (.aload_n 0, 1) := by decide +kernel
theorem dX9_priceNow_14 : decode cX9_priceNow 14 = .ok (.getfield 9, 3) := by decide +kernel
theorem dX9_priceNow_17 : decode cX9_priceNow 17 = .ok (.bipush 6, 2) := by decide +kernel
theorem dX9_priceNow_19 : decode cX9_priceNow 19 = .ok (.aload_n 0, 1) := by decide +kernel
theorem dX9_priceNow_20 : decode cX9_priceNow 20 = .ok (.getfield 24, 3) := by decide +kernel
theorem dX9_priceNow_23 : decode cX9_priceNow 23 = .ok (.getfield 132, 3) := by decide +kernel
theorem dX9_priceNow_26 : decode cX9_priceNow 26 = .ok (.iastore, 1) := by decide +kernel
theorem dX9_priceNow_27 : decode cX9_priceNow 27 = .ok (.iconst 0, 1) := by decide +kernel
theorem dX9_priceNow_28 : decode cX9_priceNow 28 = .ok (.aload_n 0, 1) := by decide +kernel
theorem dX9_priceNow_29 : decode cX9_priceNow 29 = .ok (.getfield 20, 3) := by decide +kernel
theorem dX9_priceNow_32 : decode cX9_priceNow 32 = .ok (.getfield 135, 3) := by decide +kernel
theorem dX9_priceNow_35 : decode cX9_priceNow 35 = .ok (.aload_n 0, 1) := by decide +kernel
theorem dX9_priceNow_36 : decode cX9_priceNow 36 = .ok (.getfield 9, 3) := by decide +kernel
theorem dX9_priceNow_39 : decode cX9_priceNow 39 = .ok (.aload_n 0, 1) := by decide +kernel
theorem dX9_priceNow_40 : decode cX9_priceNow 40 = .ok (.getfield 17, 3) := by decide +kernel
theorem dX9_priceNow_43 : decode cX9_priceNow 43 = .ok (.invokestatic 117, 3) := by decide +kernel
theorem dX9_priceNow_46 : decode cX9_priceNow 46 = .ok (.bipush 99, 2) := by decide +kernel
theorem dX9_priceNow_48 : decode cX9_priceNow 48 = .ok (.invokestatic 87, 3) := by decide +kernel
theorem dX9_priceNow_51 : decode cX9_priceNow 51 = .ok (.invokestatic 138, 3) := by decide +kernel
theorem dX9_priceNow_54 : decode cX9_priceNow 54 = .ok (.ireturn, 1) := by decide +kernel
theorem dX10_find_0 : decode cX10_find 0 = .ok (.iconst 0, 1) := by decide +kernel
theorem dX10_find_1 : decode cX10_find 1 = .ok (.istore_n 3, 1) := by decide +kernel
theorem dX10_find_2 : decode cX10_find 2 = .ok (.iload_n 3, 1) := by decide +kernel
theorem dX10_find_3 : decode cX10_find 3 = .ok (.getstatic 162, 3) := by decide +kernel
theorem dX10_find_6 : decode cX10_find 6 = .ok (.arraylength, 1) := by decide +kernel
theorem dX10_find_7 : decode cX10_find 7 = .ok (.if_icmp .ge 86, 3) := by decide +kernel
theorem dX10_find_10 : decode cX10_find 10 = .ok (.getstatic 162, 3) := by decide +kernel
theorem dX10_find_13 : decode cX10_find 13 = .ok (.iload_n 3, 1) := by decide +kernel
theorem dX10_find_14 : decode cX10_find 14 = .ok (.aaload, 1) := by decide +kernel
theorem dX10_find_15 : decode cX10_find 15 = .ok (.getfield 151, 3) := by decide +kernel
theorem dX10_find_18 : decode cX10_find 18 = .ok (.astore 4, 2) := by decide +kernel
theorem dX10_find_20 : decode cX10_find 20 = .ok (.iconst 0, 1) := by decide +kernel
theorem dX10_find_21 : decode cX10_find 21 = .ok (.istore 5, 2) := by decide +kernel
theorem dX10_find_23 : decode cX10_find 23 = .ok (.iload 5, 2) := by decide +kernel
theorem dX10_find_25 : decode cX10_find 25 = .ok (.aload 4, 2) := by decide +kernel
theorem dX10_find_27 : decode cX10_find 27 = .ok (.invokevirtual 165, 3) := by decide +kernel
theorem dX10_find_30 : decode cX10_find 30 = .ok (.if_icmp .ge 33, 3) := by decide +kernel
theorem dX10_find_33 : decode cX10_find 33 = .ok (.iload_n 1, 1) := by decide +kernel
theorem dX10_find_34 : decode cX10_find 34 = .ok (.iload 5, 2) := by decide +kernel
theorem dX10_find_36 : decode cX10_find 36 = .ok (.iadd, 1) := by decide +kernel
theorem dX10_find_37 : decode cX10_find 37 = .ok (.iload_n 2, 1) := by decide +kernel
theorem dX10_find_38 : decode cX10_find 38 = .ok (.if_icmp .ge 25, 3) := by decide +kernel
theorem dX10_find_41 : decode cX10_find 41 = .ok (.aload 4, 2) := by decide +kernel
theorem dX10_find_43 : decode cX10_find 43 = .ok (.iload 5, 2) := by decide +kernel
theorem dX10_find_45 : decode cX10_find 45 = .ok (.invokevirtual 171, 3) := by decide +kernel
theorem dX10_find_48 : decode cX10_find 48 = .ok (.aload_n 0, 1) := by decide +kernel
theorem dX10_find_49 : decode cX10_find 49 = .ok (.iload_n 1, 1) := by decide +kernel
theorem dX10_find_50 : decode cX10_find 50 = .ok (.iload 5, 2) := by decide +kernel
theorem dX10_find_52 : decode cX10_find 52 = .ok (.iadd, 1) := by decide +kernel
theorem dX10_find_53 : decode cX10_find 53 = .ok (.baload, 1) := by decide +kernel
theorem dX10_find_54 : decode cX10_find 54 = .ok (.if_icmp .ne 9, 3) := by decide +kernel
theorem dX10_find_57 : decode cX10_find 57 = .ok (.iinc 5 1, 3) := by decide +kernel
theorem dX10_find_60 : decode cX10_find 60 = .ok (.goto (-37), 3) := by decide +kernel
theorem dX10_find_63 : decode cX10_find 63 = .ok (.iload 5, 2) := by decide +kernel
theorem dX10_find_65 : decode cX10_find 65 = .ok (.aload 4, 2) := by decide +kernel
theorem dX10_find_67 : decode cX10_find 67 = .ok (.invokevirtual 165, 3) := by decide +kernel
theorem dX10_find_70 : decode cX10_find 70 = .ok (.if_icmp .ne 17, 3) := by decide +kernel
theorem dX10_find_73 : decode cX10_find 73 = .ok (.iload_n 1, 1) := by decide +kernel
theorem dX10_find_74 : decode cX10_find 74 = .ok (.iload 5, 2) := by decide +kernel
theorem dX10_find_76 : decode cX10_find 76 = .ok (.iadd, 1) := by decide +kernel
theorem dX10_find_77 : decode cX10_find 77 = .ok (.iload_n 2, 1) := by decide +kernel
theorem dX10_find_78 : decode cX10_find 78 = .ok (.if_icmp .ne 9, 3) := by decide +kernel
theorem dX10_find_81 : decode cX10_find 81 = .ok (.getstatic 162, 3) := by decide +kernel
theorem dX10_find_84 : decode cX10_find 84 = .ok (.iload_n 3, 1) := by decide +kernel
theorem dX10_find_85 : decode cX10_find 85 = .ok (.aaload, 1) := by decide +kernel
theorem dX10_find_86 : decode cX10_find 86 = .ok (.areturn, 1) := by decide +kernel
theorem dX10_find_87 : decode cX10_find 87 = .ok (.iinc 3 1, 3) := by decide +kernel
theorem dX10_find_90 : decode cX10_find 90 = .ok (.goto (-88), 3) := by decide +kernel
theorem dX10_find_93 : decode cX10_find 93 = .ok (.getstatic 120, 3) := by decide +kernel
theorem dX10_find_96 : decode cX10_find 96 = .ok (.areturn, 1) := by decide +kernel
theorem dX10_canName_0 : decode cX10_canName 0 = .ok (.aload_n 0, 1) := by decide +kernel
theorem dX10_canName_1 : decode cX10_canName 1 = .ok (.getfield 155, 3) := by decide +kernel
theorem dX10_canName_4 : decode cX10_canName 4 = .ok (.iconst 3, 1) := by decide +kernel
theorem dX10_canName_5 : decode cX10_canName 5 = .ok (.if_icmp .ne 7, 3) := by decide +kernel
theorem dX10_canName_8 : decode cX10_canName 8 = .ok (.iconst 1, 1) := by decide +kernel
theorem dX10_canName_9 : decode cX10_canName 9 = .ok (.goto 4, 3) := by decide +kernel
theorem dX10_canName_12 : decode cX10_canName 12 = .ok (.iconst 0, 1) := by decide +kernel
theorem dX10_canName_13 : decode cX10_canName 13 = .ok (.ireturn, 1) := by decide +kernel
theorem dX10_fact_0 : decode cX10_fact 0 = .ok (.aload_n 0, 1) := by decide +kernel
theorem dX10_fact_1 : decode cX10_fact 1 = .ok (.getfield 155, 3) := by decide +kernel
theorem dX10_fact_4 : decode cX10_fact 4 = .ok (.ifCond .eq 11, 3) := by decide +kernel
theorem dX10_fact_7 : decode cX10_fact 7 = .ok (.aload_n 0, 1) := by decide +kernel
theorem dX10_fact_8 : decode cX10_fact 8 = .ok (.getfield 155, 3) := by decide +kernel
theorem dX10_fact_11 : decode cX10_fact 11 = .ok (.iconst 3, 1) := by decide +kernel
theorem dX10_fact_12 : decode cX10_fact 12 = .ok (.if_icmp .ne 10, 3) := by decide +kernel
theorem dX10_fact_15 : decode cX10_fact 15 = .ok (.aload_n 0, 1) := by decide +kernel
theorem dX10_fact_16 : decode cX10_fact 16 = .ok (.getfield 159, 3) := by decide +kernel
theorem dX10_fact_19 : decode cX10_fact 19 = .ok (.goto 4, 3) := by decide +kernel
theorem dX10_fact_22 : decode cX10_fact 22 = .ok (.iconst (-1), 1) := by decide +kernel
theorem dX10_fact_23 : decode cX10_fact 23 = .ok (.ireturn, 1) := by decide +kernel
theorem dX10_joiner_0 : decode cX10_joiner 0 = .ok (.aload_n 0, 1) := by decide +kernel
theorem dX10_joiner_1 : decode cX10_joiner 1 = .ok (.getfield 155, 3) := by decide +kernel
theorem dX10_joiner_4 : decode cX10_joiner 4 = .ok (.iconst 2, 1) := by decide +kernel
theorem dX10_joiner_5 : decode cX10_joiner 5 = .ok (.if_icmp .ne 20, 3) := by decide +kernel
theorem dX10_joiner_8 : decode cX10_joiner 8 = .ok (.aload_n 0, 1) := by decide +kernel
theorem dX10_joiner_9 : decode cX10_joiner 9 = .ok (.getfield 159, 3) := by decide +kernel
theorem dX10_joiner_12 : decode cX10_joiner 12 = .ok (.invokestatic 175, 3) := by decide +kernel
theorem dX10_joiner_15 : decode cX10_joiner 15 = .ok (.ifCond .le 10, 3) := by decide +kernel
theorem dX10_joiner_18 : decode cX10_joiner 18 = .ok (.aload_n 0, 1) := by decide +kernel
theorem dX10_joiner_19 : decode cX10_joiner 19 = .ok (.getfield 159, 3) := by decide +kernel
theorem dX10_joiner_22 : decode cX10_joiner 22 = .ok (.goto 4, 3) := by decide +kernel
theorem dX10_joiner_25 : decode cX10_joiner 25 = .ok (.iconst (-1), 1) := by decide +kernel
theorem dX10_joiner_26 : decode cX10_joiner 26 = .ok (.ireturn, 1) := by decide +kernel
theorem dX11_init_0 : decode cX11_init 0 = .ok (.aload_n 0, 1) := by decide +kernel
theorem dX11_init_1 : decode cX11_init 1 = .ok (.invokespecial 3, 3) := by decide +kernel
theorem dX11_init_4 : decode cX11_init 4 = .ok (.aload_n 0, 1) := by decide +kernel
theorem dX11_init_5 : decode cX11_init 5 = .ok (.new 9, 3) := by decide +kernel
theorem dX11_init_8 : decode cX11_init 8 = .ok (.dup, 1) := by decide +kernel
theorem dX11_init_9 : decode cX11_init 9 = .ok (.invokespecial 11, 3) := by decide +kernel
theorem dX11_init_12 : decode cX11_init 12 = .ok (.putfield 12, 3) := by decide +kernel
theorem dX11_init_15 : decode cX11_init 15 = .ok (.aload_n 0, 1) := by decide +kernel
theorem dX11_init_16 : decode cX11_init 16 = .ok (.new 16, 3) := by decide +kernel
theorem dX11_init_19 : decode cX11_init 19 = .ok (.dup, 1) := by decide +kernel
theorem dX11_init_20 : decode cX11_init 20 = .ok (.aload_n 0, 1) := by decide +kernel
theorem dX11_init_21 : decode cX11_init 21 = .ok (.getfield 12, 3) := by decide +kernel
theorem dX11_init_24 : decode cX11_init 24 = .ok (.invokespecial 18, 3) := by decide +kernel
theorem dX11_init_27 : decode cX11_init 27 = .ok (.putfield 21, 3) := by decide +kernel
theorem dX11_init_30 : decode cX11_init 30 = .ok (.aload_n 0, 1) := by decide +kernel
theorem dX11_init_31 : decode cX11_init 31 = .ok (.new 25, 3) := by decide +kernel
theorem dX11_init_34 : decode cX11_init 34 = .ok (.dup, 1) := by decide +kernel
theorem dX11_init_35 : decode cX11_init 35 = .ok (.invokespecial 27, 3) := by decide +kernel
theorem dX11_init_38 : decode cX11_init 38 = .ok (.putfield 28, 3) := by decide +kernel
theorem dX11_init_41 : decode cX11_init 41 = .ok (.aload_n 0, 1) := by decide +kernel
theorem dX11_init_42 : decode cX11_init 42 = .ok (.new 32, 3) := by decide +kernel
theorem dX11_init_45 : decode cX11_init 45 = .ok (.dup, 1) := by decide +kernel
theorem dX11_init_46 : decode cX11_init 46 = .ok (.invokespecial 34, 3) := by decide +kernel
theorem dX11_init_49 : decode cX11_init 49 = .ok (.putfield 35, 3) := by decide +kernel
theorem dX11_init_52 : decode cX11_init 52 = .ok (.aload_n 0, 1) := by decide +kernel
theorem dX11_init_53 : decode cX11_init 53 = .ok (.new 39, 3) := by decide +kernel
theorem dX11_init_56 : decode cX11_init 56 = .ok (.dup, 1) := by decide +kernel
theorem dX11_init_57 : decode cX11_init 57 = .ok (.invokespecial 41, 3) := by decide +kernel
theorem dX11_init_60 : decode cX11_init 60 = .ok (.putfield 42, 3) := by decide +kernel
theorem dX11_init_63 : decode cX11_init 63 = .ok (.aload_n 0, 1) := by decide +kernel
theorem dX11_init_64 : decode cX11_init 64 = .ok (.new 46, 3) := by decide +kernel
theorem dX11_init_67 : decode cX11_init 67 = .ok (.dup, 1) := by decide +kernel
theorem dX11_init_68 : decode cX11_init 68 = .ok (.aload_n 0, 1) := by decide +kernel
theorem dX11_init_69 : decode cX11_init 69 = .ok (.getfield 28, 3) := by decide +kernel
theorem dX11_init_72 : decode cX11_init 72 = .ok (.aload_n 0, 1) := by decide +kernel
theorem dX11_init_73 : decode cX11_init 73 = .ok (.getfield 35, 3) := by decide +kernel
theorem dX11_init_76 : decode cX11_init 76 = .ok (.aload_n 0, 1) := by decide +kernel
theorem dX11_init_77 : decode cX11_init 77 = .ok (.getfield 42, 3) := by decide +kernel
theorem dX11_init_80 : decode cX11_init 80 = .ok (.invokespecial 48, 3) := by decide +kernel
theorem dX11_init_83 : decode cX11_init 83 = .ok (.putfield 51, 3) := by decide +kernel
theorem dX11_init_86 : decode cX11_init 86 = .ok (.aload_n 0, 1) := by decide +kernel
theorem dX11_init_87 : decode cX11_init 87 = .ok (.new 55, 3) := by decide +kernel
theorem dX11_init_90 : decode cX11_init 90 = .ok (.dup, 1) := by decide +kernel
theorem dX11_init_91 : decode cX11_init 91 = .ok (.aload_n 0, 1) := by decide +kernel
theorem dX11_init_92 : decode cX11_init 92 = .ok (.getfield 28, 3) := by decide +kernel
theorem dX11_init_95 : decode cX11_init 95 = .ok (.aload_n 0, 1) := by decide +kernel
theorem dX11_init_96 : decode cX11_init 96 = .ok (.getfield 42, 3) := by decide +kernel
theorem dX11_init_99 : decode cX11_init 99 = .ok (.aload_n 0, 1) := by decide +kernel
theorem dX11_init_100 : decode cX11_init 100 = .ok (.getfield 51, 3) := by decide +kernel
theorem dX11_init_103 : decode cX11_init 103 = .ok (.invokespecial 57, 3) := by decide +kernel
theorem dX11_init_106 : decode cX11_init 106 = .ok (.putfield 60, 3) := by decide +kernel
theorem dX11_init_109 : decode cX11_init 109 = .ok (.aload_n 0, 1) := by decide +kernel
theorem dX11_init_110 : decode cX11_init 110 = .ok (.new 64, 3) := by decide +kernel
theorem dX11_init_113 : decode cX11_init 113 = .ok (.dup, 1) := by decide +kernel
theorem dX11_init_114 : decode cX11_init 114 = .ok (.aload_n 0, 1) := by decide +kernel
theorem dX11_init_115 : decode cX11_init 115 = .ok (.getfield 28, 3) := by decide +kernel
theorem dX11_init_118 : decode cX11_init 118 = .ok (.aload_n 0, 1) := by decide +kernel
theorem dX11_init_119 : decode cX11_init 119 = .ok (.getfield 42, 3) := by decide +kernel
theorem dX11_init_122 : decode cX11_init 122 = .ok (.aload_n 0, 1) := by decide +kernel
theorem dX11_init_123 : decode cX11_init 123 = .ok (.getfield 51, 3) := by decide +kernel
theorem dX11_init_126 : decode cX11_init 126 = .ok (.invokespecial 66, 3) := by decide +kernel
theorem dX11_init_129 : decode cX11_init 129 = .ok (.putfield 67, 3) := by decide +kernel
theorem dX11_init_132 : decode cX11_init 132 = .ok (.aload_n 0, 1) := by decide +kernel
theorem dX11_init_133 : decode cX11_init 133 = .ok (.new 71, 3) := by decide +kernel
theorem dX11_init_136 : decode cX11_init 136 = .ok (.dup, 1) := by decide +kernel
theorem dX11_init_137 : decode cX11_init 137 = .ok (.invokespecial 73, 3) := by decide +kernel
theorem dX11_init_140 : decode cX11_init 140 = .ok (.putfield 74, 3) := by decide +kernel
theorem dX11_init_143 : decode cX11_init 143 = .ok (.aload_n 0, 1) := by decide +kernel
theorem dX11_init_144 : decode cX11_init 144 = .ok (.bipush 20, 2) := by decide +kernel
theorem dX11_init_146 : decode cX11_init 146 = .ok (.newarray .int, 2) := by decide +kernel
theorem dX11_init_148 : decode cX11_init 148 = .ok (.putfield 78, 3) := by decide +kernel
theorem dX11_init_151 : decode cX11_init 151 = .ok (.aload_n 0, 1) := by decide +kernel
theorem dX11_init_152 : decode cX11_init 152 = .ok (.bipush 20, 2) := by decide +kernel
theorem dX11_init_154 : decode cX11_init 154 = .ok (.newarray .int, 2) := by decide +kernel
theorem dX11_init_156 : decode cX11_init 156 = .ok (.putfield 82, 3) := by decide +kernel
theorem dX11_init_159 : decode cX11_init 159 = .ok (.aload_n 0, 1) := by decide +kernel
theorem dX11_init_160 : decode cX11_init 160 = .ok (.iconst 4, 1) := by decide +kernel
theorem dX11_init_161 : decode cX11_init 161 = .ok (.anewarray 32, 3) := by decide +kernel
theorem dX11_init_164 : decode cX11_init 164 = .ok (.putfield 85, 3) := by decide +kernel
theorem dX11_init_167 : decode cX11_init 167 = .ok (.aload_n 0, 1) := by decide +kernel
theorem dX11_init_168 : decode cX11_init 168 = .ok (.iconst 4, 1) := by decide +kernel
theorem dX11_init_169 : decode cX11_init 169 = .ok (.newarray .boolean, 2) := by decide +kernel
theorem dX11_init_171 : decode cX11_init 171 = .ok (.putfield 89, 3) := by decide +kernel
theorem dX11_init_174 : decode cX11_init 174 = .ok (.iconst 0, 1) := by decide +kernel
theorem dX11_init_175 : decode cX11_init 175 = .ok (.istore_n 1, 1) := by decide +kernel
theorem dX11_init_176 : decode cX11_init 176 = .ok (.iload_n 1, 1) := by decide +kernel
theorem dX11_init_177 : decode cX11_init 177 = .ok (.iconst 4, 1) := by decide +kernel
theorem dX11_init_178 : decode cX11_init 178 = .ok (.if_icmp .ge 22, 3) := by decide +kernel
theorem dX11_init_181 : decode cX11_init 181 = .ok (.aload_n 0, 1) := by decide +kernel
theorem dX11_init_182 : decode cX11_init 182 = .ok (.getfield 85, 3) := by decide +kernel
theorem dX11_init_185 : decode cX11_init 185 = .ok (.iload_n 1, 1) := by decide +kernel
theorem dX11_init_186 : decode cX11_init 186 = .ok (.new 32, 3) := by decide +kernel
theorem dX11_init_189 : decode cX11_init 189 = .ok (.dup, 1) := by decide +kernel
theorem dX11_init_190 : decode cX11_init 190 = .ok (.invokespecial 34, 3) := by decide +kernel
theorem dX11_init_193 : decode cX11_init 193 = .ok (.aastore, 1) := by decide +kernel
theorem dX11_init_194 : decode cX11_init 194 = .ok (.iinc 1 1, 3) := by decide +kernel
theorem dX11_init_197 : decode cX11_init 197 = .ok (.goto (-21), 3) := by decide +kernel
theorem dX11_init_200 : decode cX11_init 200 = .ok (.aload_n 0, 1) := by decide +kernel
theorem dX11_init_201 : decode cX11_init 201 = .ok (.getfield 35, 3) := by decide +kernel
theorem dX11_init_204 : decode cX11_init 204 = .ok (.aload_n 0, 1) := by decide +kernel
theorem dX11_init_205 : decode cX11_init 205 = .ok (.getfield 28, 3) := by decide +kernel
theorem dX11_init_208 : decode cX11_init 208 = .ok (.invokevirtual 93, 3) := by decide +kernel
theorem dX11_init_211 : decode cX11_init 211 = .ok (.return_, 1) := by decide +kernel
theorem dX11_feed_0 : decode cX11_feed 0 = .ok (.aload_n 0, 1) := by decide +kernel
theorem dX11_feed_1 : decode cX11_feed 1 = .ok (.getfield 12, 3) := by decide +kernel
theorem dX11_feed_4 : decode cX11_feed 4 = .ok (.lload_n 1, 1) := by decide +kernel
theorem dX11_feed_5 : decode cX11_feed 5 = .ok (.invokevirtual 97, 3) := by decide +kernel
theorem dX11_feed_8 : decode cX11_feed 8 = .ok (.aload_n 0, 1) := by decide +kernel
theorem dX11_feed_9 : decode cX11_feed 9 = .ok (.getfield 12, 3) := by decide +kernel
theorem dX11_feed_12 : decode cX11_feed 12 = .ok (.lload_n 3, 1) := by decide +kernel
theorem dX11_feed_13 : decode cX11_feed 13 = .ok (.invokevirtual 97, 3) := by decide +kernel
theorem dX11_feed_16 : decode cX11_feed 16 = .ok (.aload_n 0, 1) := by decide +kernel
theorem dX11_feed_17 : decode cX11_feed 17 = .ok (.getfield 12, 3) := by decide +kernel
theorem dX11_feed_20 : decode cX11_feed 20 = .ok (.lload 5, 2) := by decide +kernel
theorem dX11_feed_22 : decode cX11_feed 22 = .ok (.invokevirtual 97, 3) := by decide +kernel
theorem dX11_feed_25 : decode cX11_feed 25 = .ok (.aload_n 0, 1) := by decide +kernel
theorem dX11_feed_26 : decode cX11_feed 26 = .ok (.getfield 12, 3) := by decide +kernel
theorem dX11_feed_29 : decode cX11_feed 29 = .ok (.getfield 101, 3) := by decide +kernel
theorem dX11_feed_32 : decode cX11_feed 32 = .ok (.ireturn, 1) := by decide +kernel
theorem dX11_mountain_0 : decode cX11_mountain 0 = .ok (.aload_n 0, 1) := by decide +kernel
theorem dX11_mountain_1 : decode cX11_mountain 1 = .ok (.getfield 21, 3) := by decide +kernel
theorem dX11_mountain_4 : decode cX11_mountain 4 = .ok (.invokevirtual 105, 3) := by decide +kernel
theorem dX11_mountain_7 : decode cX11_mountain 7 = .ok (.istore_n 1, 1) := by decide +kernel
theorem dX11_mountain_8 : decode cX11_mountain 8 = .ok (.aload_n 0, 1) := by decide +kernel
theorem dX11_mountain_9 : decode cX11_mountain 9 = .ok (.getfield 12, 3) := by decide +kernel
theorem dX11_mountain_12 : decode cX11_mountain 12 = .ok (.iconst 0, 1) := by decide +kernel
theorem dX11_mountain_13 : decode cX11_mountain 13 = .ok (.putfield 101, 3) := by decide +kernel
theorem dX11_mountain_16 : decode cX11_mountain 16 = .ok (.iload_n 1, 1) := by decide +kernel
theorem dX11_mountain_17 : decode cX11_mountain 17 = .ok (.ifCond .eq 5, 3) := by decide +kernel
theorem dX11_mountain_20 : decode cX11_mountain 20 = .ok (.iload_n 1, 1) := by decide +kernel
theorem dX11_mountain_21 : decode cX11_mountain 21 = .ok (.ireturn, 1) := by decide +kernel
theorem dX11_mountain_22 : decode cX11_mountain 22 = .ok (.aload_n 0, 1) := by decide +kernel
theorem dX11_mountain_23 : decode cX11_mountain 23 = .ok (.getfield 28, 3) := by decide +kernel
theorem dX11_mountain_26 : decode cX11_mountain 26 = .ok (.aload_n 0, 1) := by decide +kernel
theorem dX11_mountain_27 : decode cX11_mountain 27 = .ok (.getfield 21, 3) := by decide +kernel
theorem dX11_mountain_30 : decode cX11_mountain 30 = .ok (.getfield 109, 3) := by decide +kernel
theorem dX11_mountain_33 : decode cX11_mountain 33 = .ok (.invokevirtual 112, 3) := by decide +kernel
theorem dX11_mountain_36 : decode cX11_mountain 36 = .ok (.aload_n 0, 1) := by decide +kernel
theorem dX11_mountain_37 : decode cX11_mountain 37 = .ok (.getfield 42, 3) := by decide +kernel
theorem dX11_mountain_40 : decode cX11_mountain 40 = .ok (.aload_n 0, 1) := by decide +kernel
theorem dX11_mountain_41 : decode cX11_mountain 41 = .ok (.getfield 28, 3) := by decide +kernel
theorem dX11_mountain_44 : decode cX11_mountain 44 = .ok (.invokevirtual 115, 3) := by decide +kernel
theorem dX11_mountain_47 : decode cX11_mountain 47 = .ok (.aload_n 0, 1) := by decide +kernel
theorem dX11_mountain_48 : decode cX11_mountain 48 = .ok (.getfield 35, 3) := by decide +kernel
theorem dX11_mountain_51 : decode cX11_mountain 51 = .ok (.aload_n 0, 1) := by decide +kernel
theorem dX11_mountain_52 : decode cX11_mountain 52 = .ok (.getfield 28, 3) := by decide +kernel
theorem dX11_mountain_55 : decode cX11_mountain 55 = .ok (.invokevirtual 93, 3) := by decide +kernel
theorem dX11_mountain_58 : decode cX11_mountain 58 = .ok (.aload_n 0, 1) := by decide +kernel
theorem dX11_mountain_59 : decode cX11_mountain 59 = .ok (.iconst 0, 1) := by decide +kernel
theorem dX11_mountain_60 : decode cX11_mountain 60 = .ok (.putfield 118, 3) := by decide +kernel
theorem dX11_mountain_63 : decode cX11_mountain 63 = .ok (.iconst 0, 1) := by decide +kernel
theorem dX11_mountain_64 : decode cX11_mountain 64 = .ok (.istore_n 2, 1) := by decide +kernel
theorem dX11_mountain_65 : decode cX11_mountain 65 = .ok (.iload_n 2, 1) := by decide +kernel
theorem dX11_mountain_66 : decode cX11_mountain 66 = .ok (.iconst 4, 1) := by decide +kernel
theorem dX11_mountain_67 : decode cX11_mountain 67 = .ok (.if_icmp .ge 16, 3) := by decide +kernel
theorem dX11_mountain_70 : decode cX11_mountain 70 = .ok (.aload_n 0, 1) := by decide +kernel
theorem dX11_mountain_71 : decode cX11_mountain 71 = .ok (.getfield 89, 3) := by decide +kernel
theorem dX11_mountain_74 : decode cX11_mountain 74 = .ok (.iload_n 2, 1) := by decide +kernel
theorem dX11_mountain_75 : decode cX11_mountain 75 = .ok (.iconst 0, 1) := by decide +kernel
theorem dX11_mountain_76 : decode cX11_mountain 76 = .ok (.bastore, 1) := by decide +kernel
theorem dX11_mountain_77 : decode cX11_mountain 77 = .ok (.iinc 2 1, 3) := by decide +kernel
theorem dX11_mountain_80 : decode cX11_mountain 80 = .ok (.goto (-15), 3) := by decide +kernel
theorem dX11_mountain_83 : decode cX11_mountain 83 = .ok (.aload_n 0, 1) := by decide +kernel
theorem dX11_mountain_84 : decode cX11_mountain 84 = .ok (.invokevirtual 121, 3) := by decide +kernel
theorem dX11_mountain_87 : decode cX11_mountain 87 = .ok (.iconst 0, 1) := by decide +kernel
theorem dX11_mountain_88 : decode cX11_mountain 88 = .ok (.ireturn, 1) := by decide +kernel
theorem dX11_station_0 : decode cX11_station 0 = .ok (.aload_n 0, 1) := by decide +kernel
theorem dX11_station_1 : decode cX11_station 1 = .ok (.getfield 28, 3) := by decide +kernel
theorem dX11_station_4 : decode cX11_station 4 = .ok (.iload_n 1, 1) := by decide +kernel
theorem dX11_station_5 : decode cX11_station 5 = .ok (.invokevirtual 124, 3) := by decide +kernel
theorem dX11_station_8 : decode cX11_station 8 = .ok (.ifCond .ne 5, 3) := by decide +kernel
theorem dX11_station_11 : decode cX11_station 11 = .ok (.iconst (-1), 1) := by decide +kernel
theorem dX11_station_12 : decode cX11_station 12 = .ok (.ireturn, 1) := by decide +kernel
theorem dX11_station_13 : decode cX11_station 13 = .ok (.iload_n 2, 1) := by decide +kernel
theorem dX11_station_14 : decode cX11_station 14 = .ok (.tableswitch 56 0 2 #[26, 36, 46], 26) := by decide +kernel
theorem dX11_station_40 : decode cX11_station 40 = .ok (.aload_n 0, 1) := by decide +kernel
theorem dX11_station_41 : decode cX11_station 41 = .ok (.getfield 28, 3) := by decide +kernel
theorem dX11_station_44 : decode cX11_station 44 = .ok (.getfield 128, 3) := by decide +kernel
theorem dX11_station_47 : decode cX11_station 47 = .ok (.iload_n 1, 1) := by decide +kernel
theorem dX11_station_48 : decode cX11_station 48 = .ok (.iaload, 1) := by decide +kernel
theorem dX11_station_49 : decode cX11_station 49 = .ok (.ireturn, 1) := by decide +kernel
theorem dX11_station_50 : decode cX11_station 50 = .ok (.aload_n 0, 1) := by decide +kernel
theorem dX11_station_51 : decode cX11_station 51 = .ok (.getfield 28, 3) := by decide +kernel
theorem dX11_station_54 : decode cX11_station 54 = .ok (.getfield 131, 3) := by decide +kernel
theorem dX11_station_57 : decode cX11_station 57 = .ok (.iload_n 1, 1) := by decide +kernel
theorem dX11_station_58 : decode cX11_station 58 = .ok (.iaload, 1) := by decide +kernel
theorem dX11_station_59 : decode cX11_station 59 = .ok (.ireturn, 1) := by decide +kernel
theorem dX11_station_60 : decode cX11_station 60 = .ok (.aload_n 0, 1) := by decide +kernel
theorem dX11_station_61 : decode cX11_station 61 = .ok (.getfield 35, 3) := by decide +kernel
theorem dX11_station_64 : decode cX11_station 64 = .ok (.getfield 134, 3) := by decide +kernel
theorem dX11_station_67 : decode cX11_station 67 = .ok (.iload_n 1, 1) := by decide +kernel
theorem dX11_station_68 : decode cX11_station 68 = .ok (.iaload, 1) := by decide +kernel
theorem dX11_station_69 : decode cX11_station 69 = .ok (.ireturn, 1) := by decide +kernel
theorem dX11_station_70 : decode cX11_station 70 = .ok (.iconst (-1), 1) := by decide +kernel
theorem dX11_station_71 : decode cX11_station 71 = .ok (.ireturn, 1) := by decide +kernel
theorem dX11_way_0 : decode cX11_way 0 = .ok (.aload_n 0, 1) := by decide +kernel
theorem dX11_way_1 : decode cX11_way 1 = .ok (.getfield 28, 3) := by decide +kernel
theorem dX11_way_4 : decode cX11_way 4 = .ok (.iload_n 1, 1) := by decide +kernel
theorem dX11_way_5 : decode cX11_way 5 = .ok (.invokevirtual 124, 3) := by decide +kernel
theorem dX11_way_8 : decode cX11_way 8 = .ok (.ifCond .eq 26, 3) := by decide +kernel
theorem dX11_way_11 : decode cX11_way 11 = .ok (.aload_n 0, 1) := by decide +kernel
theorem dX11_way_12 : decode cX11_way 12 = .ok (.getfield 28, 3) := by decide +kernel
theorem dX11_way_15 : decode cX11_way 15 = .ok (.iload_n 2, 1) := by decide +kernel
theorem dX11_way_16 : decode cX11_way 16 = .ok (.invokevirtual 124, 3) := by decide +kernel
theorem dX11_way_19 : decode cX11_way 19 = .ok (.ifCond .eq 15, 3) := by decide +kernel
theorem dX11_way_22 : decode cX11_way 22 = .ok (.aload_n 0, 1) := by decide +kernel
theorem dX11_way_23 : decode cX11_way 23 = .ok (.getfield 28, 3) := by decide +kernel
theorem dX11_way_26 : decode cX11_way 26 = .ok (.iload_n 1, 1) := by decide +kernel
theorem dX11_way_27 : decode cX11_way 27 = .ok (.iload_n 2, 1) := by decide +kernel
theorem dX11_way_28 : decode cX11_way 28 = .ok (.invokevirtual 137, 3) := by decide +kernel
theorem dX11_way_31 : decode cX11_way 31 = .ok (.ifCond .ne 5, 3) := by decide +kernel
theorem dX11_way_34 : decode cX11_way 34 = .ok (.iconst (-1), 1) := by decide +kernel
theorem dX11_way_35 : decode cX11_way 35 = .ok (.ireturn, 1) := by decide +kernel
theorem dX11_way_36 : decode cX11_way 36 = .ok (.iload_n 3, 1) := by decide +kernel
theorem dX11_way_37 : decode cX11_way 37 = .ok (.lookupswitch 57 #[(0, 27), (1, 42)], 27) := by decide +kernel
theorem dX11_way_64 : decode cX11_way 64 = .ok (.aload_n 0, 1) := by decide +kernel
theorem dX11_way_65 : decode cX11_way 65 = .ok (.getfield 28, 3) := by decide +kernel
theorem dX11_way_68 : decode cX11_way 68 = .ok (.getfield 141, 3) := by decide +kernel
theorem dX11_way_71 : decode cX11_way 71 = .ok (.iload_n 1, 1) := by decide +kernel
theorem dX11_way_72 : decode cX11_way 72 = .ok (.bipush 7, 2) := by decide +kernel
theorem dX11_way_74 : decode cX11_way 74 = .ok (.imul, 1) := by decide +kernel
theorem dX11_way_75 : decode cX11_way 75 = .ok (.iload_n 2, 1) := by decide +kernel
theorem dX11_way_76 : decode cX11_way 76 = .ok (.iadd, 1) := by decide +kernel
theorem dX11_way_77 : decode cX11_way 77 = .ok (.iaload, 1) := by decide +kernel
theorem dX11_way_78 : decode cX11_way 78 = .ok (.ireturn, 1) := by decide +kernel
theorem dX11_way_79 : decode cX11_way 79 = .ok (.aload_n 0, 1) := by decide +kernel
theorem dX11_way_80 : decode cX11_way 80 = .ok (.getfield 28, 3) := by decide +kernel
theorem dX11_way_83 : decode cX11_way 83 = .ok (.getfield 144, 3) := by decide +kernel
theorem dX11_way_86 : decode cX11_way 86 = .ok (.iload_n 1, 1) := by decide +kernel
theorem dX11_way_87 : decode cX11_way 87 = .ok (.bipush 7, 2) := by decide +kernel
theorem dX11_way_89 : decode cX11_way 89 = .ok (.imul, 1) := by decide +kernel
theorem dX11_way_90 : decode cX11_way 90 = .ok (.iload_n 2, 1) := by decide +kernel
theorem dX11_way_91 : decode cX11_way 91 = .ok (.iadd, 1) := by decide +kernel
theorem dX11_way_92 : decode cX11_way 92 = .ok (.iaload, 1) := by decide +kernel
theorem dX11_way_93 : decode cX11_way 93 = .ok (.ireturn, 1) := by decide +kernel
theorem dX11_way_94 : decode cX11_way 94 = .ok (.iconst (-1), 1) := by decide +kernel
theorem dX11_way_95 : decode cX11_way 95 = .ok (.ireturn, 1) := by decide +kernel
theorem dX11_carrier_0 : decode cX11_carrier 0 = .ok (.aload_n 0, 1) := by decide +kernel
theorem dX11_carrier_1 : decode cX11_carrier 1 = .ok (.getfield 28, 3) := by decide +kernel
theorem dX11_carrier_4 : decode cX11_carrier 4 = .ok (.iload_n 1, 1) := by decide +kernel
theorem dX11_carrier_5 : decode cX11_carrier 5 = .ok (.invokevirtual 147, 3) := by decide +kernel
theorem dX11_carrier_8 : decode cX11_carrier 8 = .ok (.ifCond .ne 13, 3) := by decide +kernel
theorem dX11_carrier_11 : decode cX11_carrier 11 = .ok (.new 150, 3) := by decide +kernel
theorem dX11_carrier_14 : decode cX11_carrier 14 = .ok (.dup, 1) := by decide +kernel
theorem dX11_carrier_15 : decode cX11_carrier 15 = .ok (.ldc 152, 2) := by decide +kernel
theorem dX11_carrier_17 : decode cX11_carrier 17 = .ok (.invokespecial 154, 3) := by decide +kernel
theorem dX11_carrier_20 : decode cX11_carrier 20 = .ok (.athrow, 1) := by decide +kernel
theorem dX11_carrier_21 : decode cX11_carrier 21 = .ok (.iload_n 2, 1) := by decide +kernel
theorem dX11_carrier_22 : decode cX11_carrier 22 = .ok (.tableswitch 111 0 6 #[42, 52, 61, 71, 81, 91, 101], 42) := by decide +kernel
theorem dX11_carrier_64 : decode cX11_carrier 64 = .ok (.aload_n 0, 1) := by decide +kernel
theorem dX11_carrier_65 : decode cX11_carrier 65 = .ok (.getfield 28, 3) := by decide +kernel
theorem dX11_carrier_68 : decode cX11_carrier 68 = .ok (.getfield 157, 3) := by decide +kernel
theorem dX11_carrier_71 : decode cX11_carrier 71 = .ok (.iload_n 1, 1) := by decide +kernel
theorem dX11_carrier_72 : decode cX11_carrier 72 = .ok (.iaload, 1) := by decide +kernel
theorem dX11_carrier_73 : decode cX11_carrier 73 = .ok (.ireturn, 1) := by decide +kernel
theorem dX11_carrier_74 : decode cX11_carrier 74 = .ok (.aload_n 0, 1) := by decide +kernel
theorem dX11_carrier_75 : decode cX11_carrier 75 = .ok (.getfield 28, 3) := by decide +kernel
theorem dX11_carrier_78 : decode cX11_carrier 78 = .ok (.iload_n 1, 1) := by decide +kernel
theorem dX11_carrier_79 : decode cX11_carrier 79 = .ok (.invokevirtual 160, 3) := by decide +kernel
theorem dX11_carrier_82 : decode cX11_carrier 82 = .ok (.ireturn, 1) := by decide +kernel
theorem dX11_carrier_83 : decode cX11_carrier 83 = .ok (.aload_n 0, 1) := by decide +kernel
theorem dX11_carrier_84 : decode cX11_carrier 84 = .ok (.getfield 28, 3) := by decide +kernel
theorem dX11_carrier_87 : decode cX11_carrier 87 = .ok (.getfield 164, 3) := by decide +kernel
theorem dX11_carrier_90 : decode cX11_carrier 90 = .ok (.iload_n 1, 1) := by decide +kernel
theorem dX11_carrier_91 : decode cX11_carrier 91 = .ok (.iaload, 1) := by decide +kernel
theorem dX11_carrier_92 : decode cX11_carrier 92 = .ok (.ireturn, 1) := by decide +kernel
theorem dX11_carrier_93 : decode cX11_carrier 93 = .ok (.aload_n 0, 1) := by decide +kernel
theorem dX11_carrier_94 : decode cX11_carrier 94 = .ok (.getfield 28, 3) := by decide +kernel
theorem dX11_carrier_97 : decode cX11_carrier 97 = .ok (.getfield 167, 3) := by decide +kernel
theorem dX11_carrier_100 : decode cX11_carrier 100 = .ok (.iload_n 1, 1) := by decide +kernel
theorem dX11_carrier_101 : decode cX11_carrier 101 = .ok (.iaload, 1) := by decide +kernel
theorem dX11_carrier_102 : decode cX11_carrier 102 = .ok (.ireturn, 1) := by decide +kernel
theorem dX11_carrier_103 : decode cX11_carrier 103 = .ok (.aload_n 0, 1) := by decide +kernel
theorem dX11_carrier_104 : decode cX11_carrier 104 = .ok (.getfield 35, 3) := by decide +kernel
theorem dX11_carrier_107 : decode cX11_carrier 107 = .ok (.getfield 170, 3) := by decide +kernel
theorem dX11_carrier_110 : decode cX11_carrier 110 = .ok (.iload_n 1, 1) := by decide +kernel
theorem dX11_carrier_111 : decode cX11_carrier 111 = .ok (.iaload, 1) := by decide +kernel
theorem dX11_carrier_112 : decode cX11_carrier 112 = .ok (.ireturn, 1) := by decide +kernel
theorem dX11_carrier_113 : decode cX11_carrier 113 = .ok (.aload_n 0, 1) := by decide +kernel
theorem dX11_carrier_114 : decode cX11_carrier 114 = .ok (.getfield 35, 3) := by decide +kernel
theorem dX11_carrier_117 : decode cX11_carrier 117 = .ok (.getfield 173, 3) := by decide +kernel
theorem dX11_carrier_120 : decode cX11_carrier 120 = .ok (.iload_n 1, 1) := by decide +kernel
theorem dX11_carrier_121 : decode cX11_carrier 121 = .ok (.iaload, 1) := by decide +kernel
theorem dX11_carrier_122 : decode cX11_carrier 122 = .ok (.ireturn, 1) := by decide +kernel
theorem dX11_carrier_123 : decode cX11_carrier 123 = .ok (.aload_n 0, 1) := by decide +kernel
theorem dX11_carrier_124 : decode cX11_carrier 124 = .ok (.getfield 35, 3) := by decide +kernel
theorem dX11_carrier_127 : decode cX11_carrier 127 = .ok (.getfield 176, 3) := by decide +kernel
theorem dX11_carrier_130 : decode cX11_carrier 130 = .ok (.iload_n 1, 1) := by decide +kernel
theorem dX11_carrier_131 : decode cX11_carrier 131 = .ok (.iaload, 1) := by decide +kernel
theorem dX11_carrier_132 : decode cX11_carrier 132 = .ok (.ireturn, 1) := by decide +kernel
theorem dX11_carrier_133 : decode cX11_carrier 133 = .ok (.new 150, 3) := by decide +kernel
theorem dX11_carrier_136 : decode cX11_carrier 136 = .ok (.dup, 1) := by decide +kernel
theorem dX11_carrier_137 : decode cX11_carrier 137 = .ok (.ldc 179, 2) := by decide +kernel
theorem dX11_carrier_139 : decode cX11_carrier 139 = .ok (.invokespecial 154, 3) := by decide +kernel
theorem dX11_carrier_142 : decode cX11_carrier 142 = .ok (.athrow, 1) := by decide +kernel
theorem dX11_paths_0 : decode cX11_paths 0 = .ok (.aload_n 0, 1) := by decide +kernel
theorem dX11_paths_1 : decode cX11_paths 1 = .ok (.getfield 42, 3) := by decide +kernel
theorem dX11_paths_4 : decode cX11_paths 4 = .ok (.getfield 181, 3) := by decide +kernel
theorem dX11_paths_7 : decode cX11_paths 7 = .ok (.ireturn, 1) := by decide +kernel
theorem dX11_path_0 : decode cX11_path 0 = .ok (.aload_n 0, 1) := by decide +kernel
theorem dX11_path_1 : decode cX11_path 1 = .ok (.getfield 42, 3) := by decide +kernel
theorem dX11_path_4 : decode cX11_path 4 = .ok (.iload_n 1, 1) := by decide +kernel
theorem dX11_path_5 : decode cX11_path 5 = .ok (.invokevirtual 184, 3) := by decide +kernel
theorem dX11_path_8 : decode cX11_path 8 = .ok (.ifCond .eq 19, 3) := by decide +kernel
theorem dX11_path_11 : decode cX11_path 11 = .ok (.iload_n 2, 1) := by decide +kernel
theorem dX11_path_12 : decode cX11_path 12 = .ok (.ifCond .lt 15, 3) := by decide +kernel
theorem dX11_path_15 : decode cX11_path 15 = .ok (.iload_n 2, 1) := by decide +kernel
theorem dX11_path_16 : decode cX11_path 16 = .ok (.aload_n 0, 1) := by decide +kernel
theorem dX11_path_17 : decode cX11_path 17 = .ok (.getfield 42, 3) := by decide +kernel
theorem dX11_path_20 : decode cX11_path 20 = .ok (.iload_n 1, 1) := by decide +kernel
theorem dX11_path_21 : decode cX11_path 21 = .ok (.invokevirtual 187, 3) := by decide +kernel
theorem dX11_path_24 : decode cX11_path 24 = .ok (.if_icmp .le 5, 3) := by decide +kernel
theorem dX11_path_27 : decode cX11_path 27 = .ok (.iconst (-1), 1) := by decide +kernel
theorem dX11_path_28 : decode cX11_path 28 = .ok (.ireturn, 1) := by decide +kernel
theorem dX11_path_29 : decode cX11_path 29 = .ok (.aload_n 0, 1) := by decide +kernel
theorem dX11_path_30 : decode cX11_path 30 = .ok (.getfield 42, 3) := by decide +kernel
theorem dX11_path_33 : decode cX11_path 33 = .ok (.iload_n 1, 1) := by decide +kernel
theorem dX11_path_34 : decode cX11_path 34 = .ok (.iload_n 2, 1) := by decide +kernel
theorem dX11_path_35 : decode cX11_path 35 = .ok (.invokevirtual 190, 3) := by decide +kernel
theorem dX11_path_38 : decode cX11_path 38 = .ok (.ireturn, 1) := by decide +kernel
theorem dX11_trip_0 : decode cX11_trip 0 = .ok (.aload_n 0, 1) := by decide +kernel
theorem dX11_trip_1 : decode cX11_trip 1 = .ok (.iload_n 1, 1) := by decide +kernel
theorem dX11_trip_2 : decode cX11_trip 2 = .ok (.iload_n 3, 1) := by decide +kernel
theorem dX11_trip_3 : decode cX11_trip 3 = .ok (.invokevirtual 194, 3) := by decide +kernel
theorem dX11_trip_6 : decode cX11_trip 6 = .ok (.ifCond .eq 14, 3) := by decide +kernel
theorem dX11_trip_9 : decode cX11_trip 9 = .ok (.aload_n 0, 1) := by decide +kernel
theorem dX11_trip_10 : decode cX11_trip 10 = .ok (.getfield 42, 3) := by decide +kernel
theorem dX11_trip_13 : decode cX11_trip 13 = .ok (.iload_n 2, 1) := by decide +kernel
theorem dX11_trip_14 : decode cX11_trip 14 = .ok (.invokevirtual 184, 3) := by decide +kernel
theorem dX11_trip_17 : decode cX11_trip 17 = .ok (.ifCond .ne 5, 3) := by decide +kernel
theorem dX11_trip_20 : decode cX11_trip 20 = .ok (.iconst (-1), 1) := by decide +kernel
theorem dX11_trip_21 : decode cX11_trip 21 = .ok (.ireturn, 1) := by decide +kernel
theorem dX11_trip_22 : decode cX11_trip 22 = .ok (.aload_n 0, 1) := by decide +kernel
theorem dX11_trip_23 : decode cX11_trip 23 = .ok (.getfield 51, 3) := by decide +kernel
theorem dX11_trip_26 : decode cX11_trip 26 = .ok (.iload_n 1, 1) := by decide +kernel
theorem dX11_trip_27 : decode cX11_trip 27 = .ok (.iload_n 2, 1) := by decide +kernel
theorem dX11_trip_28 : decode cX11_trip 28 = .ok (.iload_n 3, 1) := by decide +kernel
theorem dX11_trip_29 : decode cX11_trip 29 = .ok (.iconst 0, 1) := by decide +kernel
theorem dX11_trip_30 : decode cX11_trip 30 = .ok (.invokevirtual 197, 3) := by decide +kernel
theorem dX11_trip_33 : decode cX11_trip 33 = .ok (.iload 4, 2) := by decide +kernel
theorem dX11_trip_35 : decode cX11_trip 35 = .ok (.tableswitch 61 0 3 #[29, 37, 45, 53], 29) := by decide +kernel
theorem dX11_trip_64 : decode cX11_trip 64 = .ok (.aload_n 0, 1) := by decide +kernel
theorem dX11_trip_65 : decode cX11_trip 65 = .ok (.getfield 51, 3) := by decide +kernel
theorem dX11_trip_68 : decode cX11_trip 68 = .ok (.getfield 201, 3) := by decide +kernel
theorem dX11_trip_71 : decode cX11_trip 71 = .ok (.ireturn, 1) := by decide +kernel
theorem dX11_trip_72 : decode cX11_trip 72 = .ok (.aload_n 0, 1) := by decide +kernel
theorem dX11_trip_73 : decode cX11_trip 73 = .ok (.getfield 51, 3) := by decide +kernel
theorem dX11_trip_76 : decode cX11_trip 76 = .ok (.getfield 204, 3) := by decide +kernel
theorem dX11_trip_79 : decode cX11_trip 79 = .ok (.ireturn, 1) := by decide +kernel
theorem dX11_trip_80 : decode cX11_trip 80 = .ok (.aload_n 0, 1) := by decide +kernel
theorem dX11_trip_81 : decode cX11_trip 81 = .ok (.getfield 51, 3) := by decide +kernel
theorem dX11_trip_84 : decode cX11_trip 84 = .ok (.getfield 206, 3) := by decide +kernel
theorem dX11_trip_87 : decode cX11_trip 87 = .ok (.ireturn, 1) := by decide +kernel
theorem dX11_trip_88 : decode cX11_trip 88 = .ok (.aload_n 0, 1) := by decide +kernel
theorem dX11_trip_89 : decode cX11_trip 89 = .ok (.getfield 51, 3) := by decide +kernel
theorem dX11_trip_92 : decode cX11_trip 92 = .ok (.getfield 209, 3) := by decide +kernel
theorem dX11_trip_95 : decode cX11_trip 95 = .ok (.ireturn, 1) := by decide +kernel
theorem dX11_trip_96 : decode cX11_trip 96 = .ok (.iconst (-1), 1) := by decide +kernel
theorem dX11_trip_97 : decode cX11_trip 97 = .ok (.ireturn, 1) := by decide +kernel
theorem dX11_send_0 : decode cX11_send 0 = .ok (.aload_n 0, 1) := by decide +kernel
theorem dX11_send_1 : decode cX11_send 1 = .ok (.iload_n 1, 1) := by decide +kernel
theorem dX11_send_2 : decode cX11_send 2 = .ok (.iload_n 3, 1) := by decide +kernel
theorem dX11_send_3 : decode cX11_send 3 = .ok (.invokevirtual 194, 3) := by decide +kernel
theorem dX11_send_6 : decode cX11_send 6 = .ok (.ifCond .eq 37, 3) := by decide +kernel
theorem dX11_send_9 : decode cX11_send 9 = .ok (.aload_n 0, 1) := by decide +kernel
theorem dX11_send_10 : decode cX11_send 10 = .ok (.getfield 42, 3) := by decide +kernel
theorem dX11_send_13 : decode cX11_send 13 = .ok (.iload_n 2, 1) := by decide +kernel
theorem dX11_send_14 : decode cX11_send 14 = .ok (.invokevirtual 184, 3) := by decide +kernel
theorem dX11_send_17 : decode cX11_send 17 = .ok (.ifCond .eq 26, 3) := by decide +kernel
theorem dX11_send_20 : decode cX11_send 20 = .ok (.aload_n 0, 1) := by decide +kernel
theorem dX11_send_21 : decode cX11_send 21 = .ok (.getfield 35, 3) := by decide +kernel
theorem dX11_send_24 : decode cX11_send 24 = .ok (.getfield 173, 3) := by decide +kernel
theorem dX11_send_27 : decode cX11_send 27 = .ok (.iload_n 1, 1) := by decide +kernel
theorem dX11_send_28 : decode cX11_send 28 = .ok (.iaload, 1) := by decide +kernel
theorem dX11_send_29 : decode cX11_send 29 = .ok (.ifCond .ne 14, 3) := by decide +kernel
theorem dX11_send_32 : decode cX11_send 32 = .ok (.iload_n 3, 1) := by decide +kernel
theorem dX11_send_33 : decode cX11_send 33 = .ok (.aload_n 0, 1) := by decide +kernel
theorem dX11_send_34 : decode cX11_send 34 = .ok (.getfield 35, 3) := by decide +kernel
theorem dX11_send_37 : decode cX11_send 37 = .ok (.getfield 212, 3) := by decide +kernel
theorem dX11_send_40 : decode cX11_send 40 = .ok (.if_icmp .le 5, 3) := by decide +kernel
theorem dX11_send_43 : decode cX11_send 43 = .ok (.iconst (-1), 1) := by decide +kernel
theorem dX11_send_44 : decode cX11_send 44 = .ok (.ireturn, 1) := by decide +kernel
theorem dX11_send_45 : decode cX11_send 45 = .ok (.aload_n 0, 1) := by decide +kernel
theorem dX11_send_46 : decode cX11_send 46 = .ok (.getfield 35, 3) := by decide +kernel
theorem dX11_send_49 : decode cX11_send 49 = .ok (.getfield 173, 3) := by decide +kernel
theorem dX11_send_52 : decode cX11_send 52 = .ok (.iload_n 1, 1) := by decide +kernel
theorem dX11_send_53 : decode cX11_send 53 = .ok (.iconst 1, 1) := by decide +kernel
theorem dX11_send_54 : decode cX11_send 54 = .ok (.iastore, 1) := by decide +kernel
theorem dX11_send_55 : decode cX11_send 55 = .ok (.aload_n 0, 1) := by decide +kernel
theorem dX11_send_56 : decode cX11_send 56 = .ok (.getfield 35, 3) := by decide +kernel
theorem dX11_send_59 : decode cX11_send 59 = .ok (.dup, 1) := by decide +kernel
theorem dX11_send_60 : decode cX11_send 60 = .ok (.getfield 212, 3) := by decide +kernel
theorem dX11_send_63 : decode cX11_send 63 = .ok (.iload_n 3, 1) := by decide +kernel
theorem dX11_send_64 : decode cX11_send 64 = .ok (.isub, 1) := by decide +kernel
theorem dX11_send_65 : decode cX11_send 65 = .ok (.putfield 212, 3) := by decide +kernel
theorem dX11_send_68 : decode cX11_send 68 = .ok (.aload_n 0, 1) := by decide +kernel
theorem dX11_send_69 : decode cX11_send 69 = .ok (.getfield 51, 3) := by decide +kernel
theorem dX11_send_72 : decode cX11_send 72 = .ok (.iload_n 1, 1) := by decide +kernel
theorem dX11_send_73 : decode cX11_send 73 = .ok (.iload_n 2, 1) := by decide +kernel
theorem dX11_send_74 : decode cX11_send 74 = .ok (.iload_n 3, 1) := by decide +kernel
theorem dX11_send_75 : decode cX11_send 75 = .ok (.iconst 1, 1) := by decide +kernel
theorem dX11_send_76 : decode cX11_send 76 = .ok (.invokevirtual 197, 3) := by decide +kernel
theorem dX11_send_79 : decode cX11_send 79 = .ok (.aload_n 0, 1) := by decide +kernel
theorem dX11_send_80 : decode cX11_send 80 = .ok (.getfield 51, 3) := by decide +kernel
theorem dX11_send_83 : decode cX11_send 83 = .ok (.getfield 201, 3) := by decide +kernel
theorem dX11_send_86 : decode cX11_send 86 = .ok (.istore 4, 2) := by decide +kernel
theorem dX11_send_88 : decode cX11_send 88 = .ok (.aload_n 0, 1) := by decide +kernel
theorem dX11_send_89 : decode cX11_send 89 = .ok (.getfield 35, 3) := by decide +kernel
theorem dX11_send_92 : decode cX11_send 92 = .ok (.getfield 176, 3) := by decide +kernel
theorem dX11_send_95 : decode cX11_send 95 = .ok (.iload_n 1, 1) := by decide +kernel
theorem dX11_send_96 : decode cX11_send 96 = .ok (.dup2, 1) := by decide +kernel
theorem dX11_send_97 : decode cX11_send 97 = .ok (.iaload, 1) := by decide +kernel
theorem dX11_send_98 : decode cX11_send 98 = .ok (.aload_n 0, 1) := by decide +kernel
theorem dX11_send_99 : decode cX11_send 99 = .ok (.getfield 51, 3) := by decide +kernel
theorem dX11_send_102 : decode cX11_send 102 = .ok (.invokevirtual 215, 3) := by decide +kernel
theorem dX11_send_105 : decode cX11_send 105 = .ok (.iload 4, 2) := by decide +kernel
theorem dX11_send_107 : decode cX11_send 107 = .ok (.imul, 1) := by decide +kernel
theorem dX11_send_108 : decode cX11_send 108 = .ok (.iadd, 1) := by decide +kernel
theorem dX11_send_109 : decode cX11_send 109 = .ok (.iastore, 1) := by decide +kernel
theorem dX11_send_110 : decode cX11_send 110 = .ok (.aload_n 0, 1) := by decide +kernel
theorem dX11_send_111 : decode cX11_send 111 = .ok (.getfield 35, 3) := by decide +kernel
theorem dX11_send_114 : decode cX11_send 114 = .ok (.dup, 1) := by decide +kernel
theorem dX11_send_115 : decode cX11_send 115 = .ok (.getfield 218, 3) := by decide +kernel
theorem dX11_send_118 : decode cX11_send 118 = .ok (.iload 4, 2) := by decide +kernel
theorem dX11_send_120 : decode cX11_send 120 = .ok (.iadd, 1) := by decide +kernel
theorem dX11_send_121 : decode cX11_send 121 = .ok (.putfield 218, 3) := by decide +kernel
theorem dX11_send_124 : decode cX11_send 124 = .ok (.aload_n 0, 1) := by decide +kernel
theorem dX11_send_125 : decode cX11_send 125 = .ok (.getfield 35, 3) := by decide +kernel
theorem dX11_send_128 : decode cX11_send 128 = .ok (.dup, 1) := by decide +kernel
theorem dX11_send_129 : decode cX11_send 129 = .ok (.getfield 221, 3) := by decide +kernel
theorem dX11_send_132 : decode cX11_send 132 = .ok (.iconst 1, 1) := by decide +kernel
theorem dX11_send_133 : decode cX11_send 133 = .ok (.iadd, 1) := by decide +kernel
theorem dX11_send_134 : decode cX11_send 134 = .ok (.putfield 221, 3) := by decide +kernel
theorem dX11_send_137 : decode cX11_send 137 = .ok (.iload 4, 2) := by decide +kernel
theorem dX11_send_139 : decode cX11_send 139 = .ok (.ireturn, 1) := by decide +kernel
theorem dX11_rest_0 : decode cX11_rest 0 = .ok (.aload_n 0, 1) := by decide +kernel
theorem dX11_rest_1 : decode cX11_rest 1 = .ok (.getfield 35, 3) := by decide +kernel
theorem dX11_rest_4 : decode cX11_rest 4 = .ok (.getfield 218, 3) := by decide +kernel
theorem dX11_rest_7 : decode cX11_rest 7 = .ok (.istore_n 1, 1) := by decide +kernel
theorem dX11_rest_8 : decode cX11_rest 8 = .ok (.aload_n 0, 1) := by decide +kernel
theorem dX11_rest_9 : decode cX11_rest 9 = .ok (.getfield 35, 3) := by decide +kernel
theorem dX11_rest_12 : decode cX11_rest 12 = .ok (.aload_n 0, 1) := by decide +kernel
theorem dX11_rest_13 : decode cX11_rest 13 = .ok (.getfield 28, 3) := by decide +kernel
theorem dX11_rest_16 : decode cX11_rest 16 = .ok (.invokevirtual 224, 3) := by decide +kernel
theorem dX11_rest_19 : decode cX11_rest 19 = .ok (.iload_n 1, 1) := by decide +kernel
theorem dX11_rest_20 : decode cX11_rest 20 = .ok (.ireturn, 1) := by decide +kernel
theorem dX11_seed_0 : decode cX11_seed 0 = .ok (.iload_n 1, 1) := by decide +kernel
theorem dX11_seed_1 : decode cX11_seed 1 = .ok (.ifCond .lt 10, 3) := by decide +kernel
theorem dX11_seed_4 : decode cX11_seed 4 = .ok (.iload_n 1, 1) := by decide +kernel
theorem dX11_seed_5 : decode cX11_seed 5 = .ok (.sipush 9999, 3) := by decide +kernel
theorem dX11_seed_8 : decode cX11_seed 8 = .ok (.if_icmp .le 5, 3) := by decide +kernel
theorem dX11_seed_11 : decode cX11_seed 11 = .ok (.iconst 0, 1) := by decide +kernel
theorem dX11_seed_12 : decode cX11_seed 12 = .ok (.ireturn, 1) := by decide +kernel
theorem dX11_seed_13 : decode cX11_seed 13 = .ok (.aload_n 0, 1) := by decide +kernel
theorem dX11_seed_14 : decode cX11_seed 14 = .ok (.getfield 35, 3) := by decide +kernel
theorem dX11_seed_17 : decode cX11_seed 17 = .ok (.iload_n 1, 1) := by decide +kernel
theorem dX11_seed_18 : decode cX11_seed 18 = .ok (.i2l, 1) := by decide +kernel
theorem dX11_seed_19 : decode cX11_seed 19 = .ok (.putfield 227, 3) := by decide +kernel
theorem dX11_seed_22 : decode cX11_seed 22 = .ok (.iconst 1, 1) := by decide +kernel
theorem dX11_seed_23 : decode cX11_seed 23 = .ok (.ireturn, 1) := by decide +kernel
theorem dX11_drank_0 : decode cX11_drank 0 = .ok (.iload_n 1, 1) := by decide +kernel
theorem dX11_drank_1 : decode cX11_drank 1 = .ok (.ifCond .lt 14, 3) := by decide +kernel
theorem dX11_drank_4 : decode cX11_drank 4 = .ok (.iload_n 1, 1) := by decide +kernel
theorem dX11_drank_5 : decode cX11_drank 5 = .ok (.aload_n 0, 1) := by decide +kernel
theorem dX11_drank_6 : decode cX11_drank 6 = .ok (.getfield 35, 3) := by decide +kernel
theorem dX11_drank_9 : decode cX11_drank 9 = .ok (.getfield 231, 3) := by decide +kernel
theorem dX11_drank_12 : decode cX11_drank 12 = .ok (.if_icmp .lt 5, 3) := by decide +kernel
theorem dX11_drank_15 : decode cX11_drank 15 = .ok (.iconst (-1), 1) := by decide +kernel
theorem dX11_drank_16 : decode cX11_drank 16 = .ok (.ireturn, 1) := by decide +kernel
theorem dX11_drank_17 : decode cX11_drank 17 = .ok (.iload_n 2, 1) := by decide +kernel
theorem dX11_drank_18 : decode cX11_drank 18 = .ok (.tableswitch 56 0 2 #[26, 36, 46], 26) := by decide +kernel
theorem dX11_drank_44 : decode cX11_drank 44 = .ok (.aload_n 0, 1) := by decide +kernel
theorem dX11_drank_45 : decode cX11_drank 45 = .ok (.getfield 35, 3) := by decide +kernel
theorem dX11_drank_48 : decode cX11_drank 48 = .ok (.getfield 234, 3) := by decide +kernel
theorem dX11_drank_51 : decode cX11_drank 51 = .ok (.iload_n 1, 1) := by decide +kernel
theorem dX11_drank_52 : decode cX11_drank 52 = .ok (.iaload, 1) := by decide +kernel
theorem dX11_drank_53 : decode cX11_drank 53 = .ok (.ireturn, 1) := by decide +kernel
theorem dX11_drank_54 : decode cX11_drank 54 = .ok (.aload_n 0, 1) := by decide +kernel
theorem dX11_drank_55 : decode cX11_drank 55 = .ok (.getfield 35, 3) := by decide +kernel
theorem dX11_drank_58 : decode cX11_drank 58 = .ok (.getfield 237, 3) := by decide +kernel
theorem dX11_drank_61 : decode cX11_drank 61 = .ok (.iload_n 1, 1) := by decide +kernel
theorem dX11_drank_62 : decode cX11_drank 62 = .ok (.iaload, 1) := by decide +kernel
theorem dX11_drank_63 : decode cX11_drank 63 = .ok (.ireturn, 1) := by decide +kernel
theorem dX11_drank_64 : decode cX11_drank 64 = .ok (.aload_n 0, 1) := by decide +kernel
theorem dX11_drank_65 : decode cX11_drank 65 = .ok (.getfield 35, 3) := by decide +kernel
theorem dX11_drank_68 : decode cX11_drank 68 = .ok (.getfield 240, 3) := by decide +kernel
theorem dX11_drank_71 : decode cX11_drank 71 = .ok (.iload_n 1, 1) := by decide +kernel
theorem dX11_drank_72 : decode cX11_drank 72 = .ok (.iaload, 1) := by decide +kernel
theorem dX11_drank_73 : decode cX11_drank 73 = .ok (.ireturn, 1) := by decide +kernel
theorem dX11_drank_74 : decode cX11_drank 74 = .ok (.iconst (-1), 1) := by decide +kernel
theorem dX11_drank_75 : decode cX11_drank 75 = .ok (.ireturn, 1) := by decide +kernel
theorem dX11_best_0 : decode cX11_best 0 = .ok (.aload_n 0, 1) := by decide +kernel
theorem dX11_best_1 : decode cX11_best 1 = .ok (.iload_n 1, 1) := by decide +kernel
theorem dX11_best_2 : decode cX11_best 2 = .ok (.iload_n 2, 1) := by decide +kernel
theorem dX11_best_3 : decode cX11_best 3 = .ok (.invokevirtual 194, 3) := by decide +kernel
theorem dX11_best_6 : decode cX11_best 6 = .ok (.ifCond .eq 12, 3) := by decide +kernel
theorem dX11_best_9 : decode cX11_best 9 = .ok (.iload_n 3, 1) := by decide +kernel
theorem dX11_best_10 : decode cX11_best 10 = .ok (.ifCond .lt 8, 3) := by decide +kernel
theorem dX11_best_13 : decode cX11_best 13 = .ok (.iload_n 3, 1) := by decide +kernel
theorem dX11_best_14 : decode cX11_best 14 = .ok (.iconst 1, 1) := by decide +kernel
theorem dX11_best_15 : decode cX11_best 15 = .ok (.if_icmp .le 5, 3) := by decide +kernel
theorem dX11_best_18 : decode cX11_best 18 = .ok (.iconst (-1), 1) := by decide +kernel
theorem dX11_best_19 : decode cX11_best 19 = .ok (.ireturn, 1) := by decide +kernel
theorem dX11_best_20 : decode cX11_best 20 = .ok (.aload_n 0, 1) := by decide +kernel
theorem dX11_best_21 : decode cX11_best 21 = .ok (.getfield 60, 3) := by decide +kernel
theorem dX11_best_24 : decode cX11_best 24 = .ok (.iload_n 1, 1) := by decide +kernel
theorem dX11_best_25 : decode cX11_best 25 = .ok (.iload_n 2, 1) := by decide +kernel
theorem dX11_best_26 : decode cX11_best 26 = .ok (.invokevirtual 243, 3) := by decide +kernel
theorem dX11_best_29 : decode cX11_best 29 = .ok (.iload_n 3, 1) := by decide +kernel
theorem dX11_best_30 : decode cX11_best 30 = .ok (.ifCond .ne 13, 3) := by decide +kernel
theorem dX11_best_33 : decode cX11_best 33 = .ok (.aload_n 0, 1) := by decide +kernel
theorem dX11_best_34 : decode cX11_best 34 = .ok (.getfield 60, 3) := by decide +kernel
theorem dX11_best_37 : decode cX11_best 37 = .ok (.getfield 247, 3) := by decide +kernel
theorem dX11_best_40 : decode cX11_best 40 = .ok (.goto 10, 3) := by decide +kernel
theorem dX11_best_43 : decode cX11_best 43 = .ok (.aload_n 0, 1) := by decide +kernel
theorem dX11_best_44 : decode cX11_best 44 = .ok (.getfield 60, 3) := by decide +kernel
theorem dX11_best_47 : decode cX11_best 47 = .ok (.getfield 250, 3) := by decide +kernel
theorem dX11_best_50 : decode cX11_best 50 = .ok (.ireturn, 1) := by decide +kernel
theorem dX11_plan_0 : decode cX11_plan 0 = .ok (.iload_n 1, 1) := by decide +kernel
theorem dX11_plan_1 : decode cX11_plan 1 = .ok (.iconst (-1), 1) := by decide +kernel
theorem dX11_plan_2 : decode cX11_plan 2 = .ok (.if_icmp .lt 16, 3) := by decide +kernel
theorem dX11_plan_5 : decode cX11_plan 5 = .ok (.iload_n 1, 1) := by decide +kernel
theorem dX11_plan_6 : decode cX11_plan 6 = .ok (.iconst 2, 1) := by decide +kernel
theorem dX11_plan_7 : decode cX11_plan 7 = .ok (.aload_n 0, 1) := by decide +kernel
theorem dX11_plan_8 : decode cX11_plan 8 = .ok (.getfield 28, 3) := by decide +kernel
theorem dX11_plan_11 : decode cX11_plan 11 = .ok (.getfield 253, 3) := by decide +kernel
theorem dX11_plan_14 : decode cX11_plan 14 = .ok (.imul, 1) := by decide +kernel
theorem dX11_plan_15 : decode cX11_plan 15 = .ok (.if_icmp .lt 6, 3) := by decide +kernel
theorem dX11_plan_18 : decode cX11_plan 18 = .ok (.bipush (-2), 2) := by decide +kernel
theorem dX11_plan_20 : decode cX11_plan 20 = .ok (.ireturn, 1) := by decide +kernel
theorem dX11_plan_21 : decode cX11_plan 21 = .ok (.aload_n 0, 1) := by decide +kernel
theorem dX11_plan_22 : decode cX11_plan 22 = .ok (.getfield 60, 3) := by decide +kernel
theorem dX11_plan_25 : decode cX11_plan 25 = .ok (.invokevirtual 256, 3) := by decide +kernel
theorem dX11_plan_28 : decode cX11_plan 28 = .ok (.iload_n 1, 1) := by decide +kernel
theorem dX11_plan_29 : decode cX11_plan 29 = .ok (.iconst (-1), 1) := by decide +kernel
theorem dX11_plan_30 : decode cX11_plan 30 = .ok (.if_icmp .ne 11, 3) := by decide +kernel
theorem dX11_plan_33 : decode cX11_plan 33 = .ok (.aload_n 0, 1) := by decide +kernel
theorem dX11_plan_34 : decode cX11_plan 34 = .ok (.getfield 60, 3) := by decide +kernel
theorem dX11_plan_37 : decode cX11_plan 37 = .ok (.getfield 259, 3) := by decide +kernel
theorem dX11_plan_40 : decode cX11_plan 40 = .ok (.ireturn, 1) := by decide +kernel
theorem dX11_plan_41 : decode cX11_plan 41 = .ok (.iload_n 1, 1) := by decide +kernel
theorem dX11_plan_42 : decode cX11_plan 42 = .ok (.iconst 2, 1) := by decide +kernel
theorem dX11_plan_43 : decode cX11_plan 43 = .ok (.irem, 1) := by decide +kernel
theorem dX11_plan_44 : decode cX11_plan 44 = .ok (.ifCond .ne 17, 3) := by decide +kernel
theorem dX11_plan_47 : decode cX11_plan 47 = .ok (.aload_n 0, 1) := by decide +kernel
theorem dX11_plan_48 : decode cX11_plan 48 = .ok (.getfield 60, 3) := by decide +kernel
theorem dX11_plan_51 : decode cX11_plan 51 = .ok (.getfield 262, 3) := by decide +kernel
theorem dX11_plan_54 : decode cX11_plan 54 = .ok (.iload_n 1, 1) := by decide +kernel
theorem dX11_plan_55 : decode cX11_plan 55 = .ok (.iconst 2, 1) := by decide +kernel
theorem dX11_plan_56 : decode cX11_plan 56 = .ok (.idiv, 1) := by decide +kernel
theorem dX11_plan_57 : decode cX11_plan 57 = .ok (.iaload, 1) := by decide +kernel
theorem dX11_plan_58 : decode cX11_plan 58 = .ok (.goto 14, 3) := by decide +kernel
theorem dX11_plan_61 : decode cX11_plan 61 = .ok (.aload_n 0, 1) := by decide +kernel
theorem dX11_plan_62 : decode cX11_plan 62 = .ok (.getfield 60, 3) := by decide +kernel
theorem dX11_plan_65 : decode cX11_plan 65 = .ok (.getfield 265, 3) := by decide +kernel
theorem dX11_plan_68 : decode cX11_plan 68 = .ok (.iload_n 1, 1) := by decide +kernel
theorem dX11_plan_69 : decode cX11_plan 69 = .ok (.iconst 2, 1) := by decide +kernel
theorem dX11_plan_70 : decode cX11_plan 70 = .ok (.idiv, 1) := by decide +kernel
theorem dX11_plan_71 : decode cX11_plan 71 = .ok (.iaload, 1) := by decide +kernel
theorem dX11_plan_72 : decode cX11_plan 72 = .ok (.ireturn, 1) := by decide +kernel
theorem dX11_relay_0 : decode cX11_relay 0 = .ok (.iload_n 1, 1) := by decide +kernel
theorem dX11_relay_1 : decode cX11_relay 1 = .ok (.ifCond .lt 35, 3) := by decide +kernel
theorem dX11_relay_4 : decode cX11_relay 4 = .ok (.iload_n 1, 1) := by decide +kernel
theorem dX11_relay_5 : decode cX11_relay 5 = .ok (.bipush 60, 2) := by decide +kernel
theorem dX11_relay_7 : decode cX11_relay 7 = .ok (.if_icmp .gt 29, 3) := by decide +kernel
theorem dX11_relay_10 : decode cX11_relay 10 = .ok (.iload_n 2, 1) := by decide +kernel
theorem dX11_relay_11 : decode cX11_relay 11 = .ok (.ifCond .lt 25, 3) := by decide +kernel
theorem dX11_relay_14 : decode cX11_relay 14 = .ok (.aload_n 0, 1) := by decide +kernel
theorem dX11_relay_15 : decode cX11_relay 15 = .ok (.getfield 28, 3) := by decide +kernel
theorem dX11_relay_18 : decode cX11_relay 18 = .ok (.getfield 268, 3) := by decide +kernel
theorem dX11_relay_21 : decode cX11_relay 21 = .ok (.iconst 2, 1) := by decide +kernel
theorem dX11_relay_22 : decode cX11_relay 22 = .ok (.if_icmp .lt 14, 3) := by decide +kernel
theorem dX11_relay_25 : decode cX11_relay 25 = .ok (.aload_n 0, 1) := by decide +kernel
theorem dX11_relay_26 : decode cX11_relay 26 = .ok (.getfield 28, 3) := by decide +kernel
theorem dX11_relay_29 : decode cX11_relay 29 = .ok (.getfield 253, 3) := by decide +kernel
theorem dX11_relay_32 : decode cX11_relay 32 = .ok (.iconst 4, 1) := by decide +kernel
theorem dX11_relay_33 : decode cX11_relay 33 = .ok (.if_icmp .le 5, 3) := by decide +kernel
theorem dX11_relay_36 : decode cX11_relay 36 = .ok (.iconst (-1), 1) := by decide +kernel
theorem dX11_relay_37 : decode cX11_relay 37 = .ok (.ireturn, 1) := by decide +kernel
theorem dX11_relay_38 : decode cX11_relay 38 = .ok (.aload_n 0, 1) := by decide +kernel
theorem dX11_relay_39 : decode cX11_relay 39 = .ok (.getfield 67, 3) := by decide +kernel
theorem dX11_relay_42 : decode cX11_relay 42 = .ok (.iload_n 1, 1) := by decide +kernel
theorem dX11_relay_43 : decode cX11_relay 43 = .ok (.invokevirtual 271, 3) := by decide +kernel
theorem dX11_relay_46 : decode cX11_relay 46 = .ok (.iload_n 2, 1) := by decide +kernel
theorem dX11_relay_47 : decode cX11_relay 47 = .ok (.lookupswitch 41 #[(0, 25), (1, 33)], 25) := by decide +kernel
theorem dX11_relay_72 : decode cX11_relay 72 = .ok (.aload_n 0, 1) := by decide +kernel
theorem dX11_relay_73 : decode cX11_relay 73 = .ok (.getfield 67, 3) := by decide +kernel
theorem dX11_relay_76 : decode cX11_relay 76 = .ok (.getfield 274, 3) := by decide +kernel
theorem dX11_relay_79 : decode cX11_relay 79 = .ok (.ireturn, 1) := by decide +kernel
theorem dX11_relay_80 : decode cX11_relay 80 = .ok (.aload_n 0, 1) := by decide +kernel
theorem dX11_relay_81 : decode cX11_relay 81 = .ok (.getfield 67, 3) := by decide +kernel
theorem dX11_relay_84 : decode cX11_relay 84 = .ok (.getfield 277, 3) := by decide +kernel
theorem dX11_relay_87 : decode cX11_relay 87 = .ok (.ireturn, 1) := by decide +kernel
theorem dX11_relay_88 : decode cX11_relay 88 = .ok (.aload_n 0, 1) := by decide +kernel
theorem dX11_relay_89 : decode cX11_relay 89 = .ok (.getfield 67, 3) := by decide +kernel
theorem dX11_relay_92 : decode cX11_relay 92 = .ok (.iload_n 2, 1) := by decide +kernel
theorem dX11_relay_93 : decode cX11_relay 93 = .ok (.iconst 2, 1) := by decide +kernel
theorem dX11_relay_94 : decode cX11_relay 94 = .ok (.isub, 1) := by decide +kernel
theorem dX11_relay_95 : decode cX11_relay 95 = .ok (.invokevirtual 278, 3) := by decide +kernel
theorem dX11_relay_98 : decode cX11_relay 98 = .ok (.ireturn, 1) := by decide +kernel
theorem dX11_owe_0 : decode cX11_owe 0 = .ok (.aload_n 0, 1) := by decide +kernel
theorem dX11_owe_1 : decode cX11_owe 1 = .ok (.iload_n 1, 1) := by decide +kernel
theorem dX11_owe_2 : decode cX11_owe 2 = .ok (.iload_n 2, 1) := by decide +kernel
theorem dX11_owe_3 : decode cX11_owe 3 = .ok (.invokevirtual 281, 3) := by decide +kernel
theorem dX11_owe_6 : decode cX11_owe 6 = .ok (.ifCond .eq 13, 3) := by decide +kernel
theorem dX11_owe_9 : decode cX11_owe 9 = .ok (.iload_n 3, 1) := by decide +kernel
theorem dX11_owe_10 : decode cX11_owe 10 = .ok (.ifCond .lt 9, 3) := by decide +kernel
theorem dX11_owe_13 : decode cX11_owe 13 = .ok (.iload_n 3, 1) := by decide +kernel
theorem dX11_owe_14 : decode cX11_owe 14 = .ok (.bipush 99, 2) := by decide +kernel
theorem dX11_owe_16 : decode cX11_owe 16 = .ok (.if_icmp .le 5, 3) := by decide +kernel
theorem dX11_owe_19 : decode cX11_owe 19 = .ok (.iconst 0, 1) := by decide +kernel
theorem dX11_owe_20 : decode cX11_owe 20 = .ok (.ireturn, 1) := by decide +kernel
theorem dX11_owe_21 : decode cX11_owe 21 = .ok (.iload_n 1, 1) := by decide +kernel
theorem dX11_owe_22 : decode cX11_owe 22 = .ok (.bipush 6, 2) := by decide +kernel
theorem dX11_owe_24 : decode cX11_owe 24 = .ok (.imul, 1) := by decide +kernel
theorem dX11_owe_25 : decode cX11_owe 25 = .ok (.iload_n 2, 1) := by decide +kernel
theorem dX11_owe_26 : decode cX11_owe 26 = .ok (.iadd, 1) := by decide +kernel
theorem dX11_owe_27 : decode cX11_owe 27 = .ok (.istore 4, 2) := by decide +kernel
theorem dX11_owe_29 : decode cX11_owe 29 = .ok (.aload_n 0, 1) := by decide +kernel
theorem dX11_owe_30 : decode cX11_owe 30 = .ok (.getfield 35, 3) := by decide +kernel
theorem dX11_owe_33 : decode cX11_owe 33 = .ok (.getfield 284, 3) := by decide +kernel
theorem dX11_owe_36 : decode cX11_owe 36 = .ok (.iload 4, 2) := by decide +kernel
theorem dX11_owe_38 : decode cX11_owe 38 = .ok (.iaload, 1) := by decide +kernel
theorem dX11_owe_39 : decode cX11_owe 39 = .ok (.iload_n 3, 1) := by decide +kernel
theorem dX11_owe_40 : decode cX11_owe 40 = .ok (.if_icmp .ne 5, 3) := by decide +kernel
theorem dX11_owe_43 : decode cX11_owe 43 = .ok (.iconst 0, 1) := by decide +kernel
theorem dX11_owe_44 : decode cX11_owe 44 = .ok (.ireturn, 1) := by decide +kernel
theorem dX11_owe_45 : decode cX11_owe 45 = .ok (.aload_n 0, 1) := by decide +kernel
theorem dX11_owe_46 : decode cX11_owe 46 = .ok (.iload 4, 2) := by decide +kernel
theorem dX11_owe_48 : decode cX11_owe 48 = .ok (.aload_n 0, 1) := by decide +kernel
theorem dX11_owe_49 : decode cX11_owe 49 = .ok (.getfield 35, 3) := by decide +kernel
theorem dX11_owe_52 : decode cX11_owe 52 = .ok (.getfield 284, 3) := by decide +kernel
theorem dX11_owe_55 : decode cX11_owe 55 = .ok (.iload 4, 2) := by decide +kernel
theorem dX11_owe_57 : decode cX11_owe 57 = .ok (.iaload, 1) := by decide +kernel
theorem dX11_owe_58 : decode cX11_owe 58 = .ok (.invokevirtual 287, 3) := by decide +kernel
theorem dX11_owe_61 : decode cX11_owe 61 = .ok (.aload_n 0, 1) := by decide +kernel
theorem dX11_owe_62 : decode cX11_owe 62 = .ok (.getfield 35, 3) := by decide +kernel
theorem dX11_owe_65 : decode cX11_owe 65 = .ok (.getfield 284, 3) := by decide +kernel
theorem dX11_owe_68 : decode cX11_owe 68 = .ok (.iload 4, 2) := by decide +kernel
theorem dX11_owe_70 : decode cX11_owe 70 = .ok (.iload_n 3, 1) := by decide +kernel
theorem dX11_owe_71 : decode cX11_owe 71 = .ok (.iastore, 1) := by decide +kernel
theorem dX11_owe_72 : decode cX11_owe 72 = .ok (.aload_n 0, 1) := by decide +kernel
theorem dX11_owe_73 : decode cX11_owe 73 = .ok (.invokevirtual 121, 3) := by decide +kernel
theorem dX11_owe_76 : decode cX11_owe 76 = .ok (.iconst 1, 1) := by decide +kernel
theorem dX11_owe_77 : decode cX11_owe 77 = .ok (.ireturn, 1) := by decide +kernel
theorem dX11_owes_0 : decode cX11_owes 0 = .ok (.aload_n 0, 1) := by decide +kernel
theorem dX11_owes_1 : decode cX11_owes 1 = .ok (.iload_n 1, 1) := by decide +kernel
theorem dX11_owes_2 : decode cX11_owes 2 = .ok (.iload_n 2, 1) := by decide +kernel
theorem dX11_owes_3 : decode cX11_owes 3 = .ok (.invokevirtual 281, 3) := by decide +kernel
theorem dX11_owes_6 : decode cX11_owes 6 = .ok (.ifCond .eq 20, 3) := by decide +kernel
theorem dX11_owes_9 : decode cX11_owes 9 = .ok (.aload_n 0, 1) := by decide +kernel
theorem dX11_owes_10 : decode cX11_owes 10 = .ok (.getfield 35, 3) := by decide +kernel
theorem dX11_owes_13 : decode cX11_owes 13 = .ok (.getfield 284, 3) := by decide +kernel
theorem dX11_owes_16 : decode cX11_owes 16 = .ok (.iload_n 1, 1) := by decide +kernel
theorem dX11_owes_17 : decode cX11_owes 17 = .ok (.bipush 6, 2) := by decide +kernel
theorem dX11_owes_19 : decode cX11_owes 19 = .ok (.imul, 1) := by decide +kernel
theorem dX11_owes_20 : decode cX11_owes 20 = .ok (.iload_n 2, 1) := by decide +kernel
theorem dX11_owes_21 : decode cX11_owes 21 = .ok (.iadd, 1) := by decide +kernel
theorem dX11_owes_22 : decode cX11_owes 22 = .ok (.iaload, 1) := by decide +kernel
theorem dX11_owes_23 : decode cX11_owes 23 = .ok (.goto 4, 3) := by decide +kernel
theorem dX11_owes_26 : decode cX11_owes 26 = .ok (.iconst (-1), 1) := by decide +kernel
theorem dX11_owes_27 : decode cX11_owes 27 = .ok (.ireturn, 1) := by decide +kernel
theorem dX11_debt_0 : decode cX11_debt 0 = .ok (.aload_n 0, 1) := by decide +kernel
theorem dX11_debt_1 : decode cX11_debt 1 = .ok (.getfield 28, 3) := by decide +kernel
theorem dX11_debt_4 : decode cX11_debt 4 = .ok (.iload_n 1, 1) := by decide +kernel
theorem dX11_debt_5 : decode cX11_debt 5 = .ok (.invokevirtual 147, 3) := by decide +kernel
theorem dX11_debt_8 : decode cX11_debt 8 = .ok (.ifCond .ne 13, 3) := by decide +kernel
theorem dX11_debt_11 : decode cX11_debt 11 = .ok (.new 150, 3) := by decide +kernel
theorem dX11_debt_14 : decode cX11_debt 14 = .ok (.dup, 1) := by decide +kernel
theorem dX11_debt_15 : decode cX11_debt 15 = .ok (.ldc 152, 2) := by decide +kernel
theorem dX11_debt_17 : decode cX11_debt 17 = .ok (.invokespecial 154, 3) := by decide +kernel
theorem dX11_debt_20 : decode cX11_debt 20 = .ok (.athrow, 1) := by decide +kernel
theorem dX11_debt_21 : decode cX11_debt 21 = .ok (.aload_n 0, 1) := by decide +kernel
theorem dX11_debt_22 : decode cX11_debt 22 = .ok (.getfield 35, 3) := by decide +kernel
theorem dX11_debt_25 : decode cX11_debt 25 = .ok (.iload_n 1, 1) := by decide +kernel
theorem dX11_debt_26 : decode cX11_debt 26 = .ok (.invokevirtual 290, 3) := by decide +kernel
theorem dX11_debt_29 : decode cX11_debt 29 = .ok (.ireturn, 1) := by decide +kernel
theorem dX11_settled_0 : decode cX11_settled 0 = .ok (.aload_n 0, 1) := by decide +kernel
theorem dX11_settled_1 : decode cX11_settled 1 = .ok (.getfield 74, 3) := by decide +kernel
theorem dX11_settled_4 : decode cX11_settled 4 = .ok (.aload_n 0, 1) := by decide +kernel
theorem dX11_settled_5 : decode cX11_settled 5 = .ok (.getfield 28, 3) := by decide +kernel
theorem dX11_settled_8 : decode cX11_settled 8 = .ok (.aload_n 0, 1) := by decide +kernel
theorem dX11_settled_9 : decode cX11_settled 9 = .ok (.getfield 35, 3) := by decide +kernel
theorem dX11_settled_12 : decode cX11_settled 12 = .ok (.invokevirtual 293, 3) := by decide +kernel
theorem dX11_settled_15 : decode cX11_settled 15 = .ok (.ireturn, 1) := by decide +kernel
theorem dX11_missed_0 : decode cX11_missed 0 = .ok (.iload_n 1, 1) := by decide +kernel
theorem dX11_missed_1 : decode cX11_missed 1 = .ok (.ifCond .lt 18, 3) := by decide +kernel
theorem dX11_missed_4 : decode cX11_missed 4 = .ok (.iload_n 1, 1) := by decide +kernel
theorem dX11_missed_5 : decode cX11_missed 5 = .ok (.bipush 99, 2) := by decide +kernel
theorem dX11_missed_7 : decode cX11_missed 7 = .ok (.if_icmp .gt 12, 3) := by decide +kernel
theorem dX11_missed_10 : decode cX11_missed 10 = .ok (.iload_n 2, 1) := by decide +kernel
theorem dX11_missed_11 : decode cX11_missed 11 = .ok (.ifCond .lt 8, 3) := by decide +kernel
theorem dX11_missed_14 : decode cX11_missed 14 = .ok (.iload_n 2, 1) := by decide +kernel
theorem dX11_missed_15 : decode cX11_missed 15 = .ok (.iconst 1, 1) := by decide +kernel
theorem dX11_missed_16 : decode cX11_missed 16 = .ok (.if_icmp .le 5, 3) := by decide +kernel
theorem dX11_missed_19 : decode cX11_missed 19 = .ok (.iconst (-1), 1) := by decide +kernel
theorem dX11_missed_20 : decode cX11_missed 20 = .ok (.ireturn, 1) := by decide +kernel
theorem dX11_missed_21 : decode cX11_missed 21 = .ok (.aload_n 0, 1) := by decide +kernel
theorem dX11_missed_22 : decode cX11_missed 22 = .ok (.getfield 74, 3) := by decide +kernel
theorem dX11_missed_25 : decode cX11_missed 25 = .ok (.aload_n 0, 1) := by decide +kernel
theorem dX11_missed_26 : decode cX11_missed 26 = .ok (.getfield 28, 3) := by decide +kernel
theorem dX11_missed_29 : decode cX11_missed 29 = .ok (.iload_n 1, 1) := by decide +kernel
theorem dX11_missed_30 : decode cX11_missed 30 = .ok (.invokevirtual 297, 3) := by decide +kernel
theorem dX11_missed_33 : decode cX11_missed 33 = .ok (.iload_n 2, 1) := by decide +kernel
theorem dX11_missed_34 : decode cX11_missed 34 = .ok (.ifCond .ne 13, 3) := by decide +kernel
theorem dX11_missed_37 : decode cX11_missed 37 = .ok (.aload_n 0, 1) := by decide +kernel
theorem dX11_missed_38 : decode cX11_missed 38 = .ok (.getfield 74, 3) := by decide +kernel
theorem dX11_missed_41 : decode cX11_missed 41 = .ok (.getfield 301, 3) := by decide +kernel
theorem dX11_missed_44 : decode cX11_missed 44 = .ok (.goto 10, 3) := by decide +kernel
theorem dX11_missed_47 : decode cX11_missed 47 = .ok (.aload_n 0, 1) := by decide +kernel
theorem dX11_missed_48 : decode cX11_missed 48 = .ok (.getfield 74, 3) := by decide +kernel
theorem dX11_missed_51 : decode cX11_missed 51 = .ok (.getfield 303, 3) := by decide +kernel
theorem dX11_missed_54 : decode cX11_missed 54 = .ok (.ireturn, 1) := by decide +kernel
theorem dX11_odds_0 : decode cX11_odds 0 = .ok (.iload_n 1, 1) := by decide +kernel
theorem dX11_odds_1 : decode cX11_odds 1 = .ok (.ifCond .lt 29, 3) := by decide +kernel
theorem dX11_odds_4 : decode cX11_odds 4 = .ok (.iload_n 1, 1) := by decide +kernel
theorem dX11_odds_5 : decode cX11_odds 5 = .ok (.bipush 99, 2) := by decide +kernel
theorem dX11_odds_7 : decode cX11_odds 7 = .ok (.if_icmp .gt 23, 3) := by decide +kernel
theorem dX11_odds_10 : decode cX11_odds 10 = .ok (.aload_n 0, 1) := by decide +kernel
theorem dX11_odds_11 : decode cX11_odds 11 = .ok (.getfield 28, 3) := by decide +kernel
theorem dX11_odds_14 : decode cX11_odds 14 = .ok (.iload_n 2, 1) := by decide +kernel
theorem dX11_odds_15 : decode cX11_odds 15 = .ok (.invokevirtual 147, 3) := by decide +kernel
theorem dX11_odds_18 : decode cX11_odds 18 = .ok (.ifCond .eq 12, 3) := by decide +kernel
theorem dX11_odds_21 : decode cX11_odds 21 = .ok (.iload_n 3, 1) := by decide +kernel
theorem dX11_odds_22 : decode cX11_odds 22 = .ok (.ifCond .lt 8, 3) := by decide +kernel
theorem dX11_odds_25 : decode cX11_odds 25 = .ok (.iload_n 3, 1) := by decide +kernel
theorem dX11_odds_26 : decode cX11_odds 26 = .ok (.iconst 1, 1) := by decide +kernel
theorem dX11_odds_27 : decode cX11_odds 27 = .ok (.if_icmp .le 5, 3) := by decide +kernel
theorem dX11_odds_30 : decode cX11_odds 30 = .ok (.iconst (-1), 1) := by decide +kernel
theorem dX11_odds_31 : decode cX11_odds 31 = .ok (.ireturn, 1) := by decide +kernel
theorem dX11_odds_32 : decode cX11_odds 32 = .ok (.aload_n 0, 1) := by decide +kernel
theorem dX11_odds_33 : decode cX11_odds 33 = .ok (.getfield 74, 3) := by decide +kernel
theorem dX11_odds_36 : decode cX11_odds 36 = .ok (.aload_n 0, 1) := by decide +kernel
theorem dX11_odds_37 : decode cX11_odds 37 = .ok (.getfield 28, 3) := by decide +kernel
theorem dX11_odds_40 : decode cX11_odds 40 = .ok (.iload_n 1, 1) := by decide +kernel
theorem dX11_odds_41 : decode cX11_odds 41 = .ok (.invokevirtual 297, 3) := by decide +kernel
theorem dX11_odds_44 : decode cX11_odds 44 = .ok (.aload_n 0, 1) := by decide +kernel
theorem dX11_odds_45 : decode cX11_odds 45 = .ok (.getfield 74, 3) := by decide +kernel
theorem dX11_odds_48 : decode cX11_odds 48 = .ok (.iload_n 2, 1) := by decide +kernel
theorem dX11_odds_49 : decode cX11_odds 49 = .ok (.iload_n 3, 1) := by decide +kernel
theorem dX11_odds_50 : decode cX11_odds 50 = .ok (.ifCond .ne 7, 3) := by decide +kernel
theorem dX11_odds_53 : decode cX11_odds 53 = .ok (.iconst 1, 1) := by decide +kernel
theorem dX11_odds_54 : decode cX11_odds 54 = .ok (.goto 4, 3) := by decide +kernel
theorem dX11_odds_57 : decode cX11_odds 57 = .ok (.iconst 0, 1) := by decide +kernel
theorem dX11_odds_58 : decode cX11_odds 58 = .ok (.invokevirtual 306, 3) := by decide +kernel
theorem dX11_odds_61 : decode cX11_odds 61 = .ok (.ireturn, 1) := by decide +kernel
theorem dX11_patch_0 : decode cX11_patch 0 = .ok (.iload_n 2, 1) := by decide +kernel
theorem dX11_patch_1 : decode cX11_patch 1 = .ok (.ifCond .eq 7, 3) := by decide +kernel
theorem dX11_patch_4 : decode cX11_patch 4 = .ok (.iconst 1, 1) := by decide +kernel
theorem dX11_patch_5 : decode cX11_patch 5 = .ok (.goto 4, 3) := by decide +kernel
theorem dX11_patch_8 : decode cX11_patch 8 = .ok (.iconst 0, 1) := by decide +kernel
theorem dX11_patch_9 : decode cX11_patch 9 = .ok (.istore_n 3, 1) := by decide +kernel
theorem dX11_patch_10 : decode cX11_patch 10 = .ok (.aload_n 0, 1) := by decide +kernel
theorem dX11_patch_11 : decode cX11_patch 11 = .ok (.getfield 28, 3) := by decide +kernel
theorem dX11_patch_14 : decode cX11_patch 14 = .ok (.iload_n 1, 1) := by decide +kernel
theorem dX11_patch_15 : decode cX11_patch 15 = .ok (.invokevirtual 147, 3) := by decide +kernel
theorem dX11_patch_18 : decode cX11_patch 18 = .ok (.ifCond .eq 16, 3) := by decide +kernel
theorem dX11_patch_21 : decode cX11_patch 21 = .ok (.aload_n 0, 1) := by decide +kernel
theorem dX11_patch_22 : decode cX11_patch 22 = .ok (.getfield 35, 3) := by decide +kernel
theorem dX11_patch_25 : decode cX11_patch 25 = .ok (.getfield 170, 3) := by decide +kernel
theorem dX11_patch_28 : decode cX11_patch 28 = .ok (.iload_n 1, 1) := by decide +kernel
theorem dX11_patch_29 : decode cX11_patch 29 = .ok (.iaload, 1) := by decide +kernel
theorem dX11_patch_30 : decode cX11_patch 30 = .ok (.iload_n 3, 1) := by decide +kernel
theorem dX11_patch_31 : decode cX11_patch 31 = .ok (.if_icmp .ne 5, 3) := by decide +kernel
theorem dX11_patch_34 : decode cX11_patch 34 = .ok (.iconst 0, 1) := by decide +kernel
theorem dX11_patch_35 : decode cX11_patch 35 = .ok (.ireturn, 1) := by decide +kernel
theorem dX11_patch_36 : decode cX11_patch 36 = .ok (.aload_n 0, 1) := by decide +kernel
theorem dX11_patch_37 : decode cX11_patch 37 = .ok (.bipush 36, 2) := by decide +kernel
theorem dX11_patch_39 : decode cX11_patch 39 = .ok (.iload_n 1, 1) := by decide +kernel
theorem dX11_patch_40 : decode cX11_patch 40 = .ok (.iadd, 1) := by decide +kernel
theorem dX11_patch_41 : decode cX11_patch 41 = .ok (.aload_n 0, 1) := by decide +kernel
theorem dX11_patch_42 : decode cX11_patch 42 = .ok (.getfield 35, 3) := by decide +kernel
theorem dX11_patch_45 : decode cX11_patch 45 = .ok (.getfield 170, 3) := by decide +kernel
theorem dX11_patch_48 : decode cX11_patch 48 = .ok (.iload_n 1, 1) := by decide +kernel
theorem dX11_patch_49 : decode cX11_patch 49 = .ok (.iaload, 1) := by decide +kernel
theorem dX11_patch_50 : decode cX11_patch 50 = .ok (.invokevirtual 287, 3) := by decide +kernel
theorem dX11_patch_53 : decode cX11_patch 53 = .ok (.aload_n 0, 1) := by decide +kernel
theorem dX11_patch_54 : decode cX11_patch 54 = .ok (.getfield 35, 3) := by decide +kernel
theorem dX11_patch_57 : decode cX11_patch 57 = .ok (.getfield 170, 3) := by decide +kernel
theorem dX11_patch_60 : decode cX11_patch 60 = .ok (.iload_n 1, 1) := by decide +kernel
theorem dX11_patch_61 : decode cX11_patch 61 = .ok (.iload_n 3, 1) := by decide +kernel
theorem dX11_patch_62 : decode cX11_patch 62 = .ok (.iastore, 1) := by decide +kernel
theorem dX11_patch_63 : decode cX11_patch 63 = .ok (.aload_n 0, 1) := by decide +kernel
theorem dX11_patch_64 : decode cX11_patch 64 = .ok (.invokevirtual 121, 3) := by decide +kernel
theorem dX11_patch_67 : decode cX11_patch 67 = .ok (.iconst 1, 1) := by decide +kernel
theorem dX11_patch_68 : decode cX11_patch 68 = .ok (.ireturn, 1) := by decide +kernel
theorem dX11_undo_0 : decode cX11_undo 0 = .ok (.aload_n 0, 1) := by decide +kernel
theorem dX11_undo_1 : decode cX11_undo 1 = .ok (.getfield 118, 3) := by decide +kernel
theorem dX11_undo_4 : decode cX11_undo 4 = .ok (.ifCond .ne 5, 3) := by decide +kernel
theorem dX11_undo_7 : decode cX11_undo 7 = .ok (.iconst 0, 1) := by decide +kernel
theorem dX11_undo_8 : decode cX11_undo 8 = .ok (.ireturn, 1) := by decide +kernel
theorem dX11_undo_9 : decode cX11_undo 9 = .ok (.aload_n 0, 1) := by decide +kernel
theorem dX11_undo_10 : decode cX11_undo 10 = .ok (.dup, 1) := by decide +kernel
theorem dX11_undo_11 : decode cX11_undo 11 = .ok (.getfield 118, 3) := by decide +kernel
theorem dX11_undo_14 : decode cX11_undo 14 = .ok (.iconst 1, 1) := by decide +kernel
theorem dX11_undo_15 : decode cX11_undo 15 = .ok (.isub, 1) := by decide +kernel
theorem dX11_undo_16 : decode cX11_undo 16 = .ok (.putfield 118, 3) := by decide +kernel
theorem dX11_undo_19 : decode cX11_undo 19 = .ok (.aload_n 0, 1) := by decide +kernel
theorem dX11_undo_20 : decode cX11_undo 20 = .ok (.getfield 78, 3) := by decide +kernel
theorem dX11_undo_23 : decode cX11_undo 23 = .ok (.aload_n 0, 1) := by decide +kernel
theorem dX11_undo_24 : decode cX11_undo 24 = .ok (.getfield 118, 3) := by decide +kernel
theorem dX11_undo_27 : decode cX11_undo 27 = .ok (.iaload, 1) := by decide +kernel
theorem dX11_undo_28 : decode cX11_undo 28 = .ok (.istore_n 1, 1) := by decide +kernel
theorem dX11_undo_29 : decode cX11_undo 29 = .ok (.iload_n 1, 1) := by decide +kernel
theorem dX11_undo_30 : decode cX11_undo 30 = .ok (.bipush 36, 2) := by decide +kernel
theorem dX11_undo_32 : decode cX11_undo 32 = .ok (.if_icmp .ge 24, 3) := by decide +kernel
theorem dX11_undo_35 : decode cX11_undo 35 = .ok (.aload_n 0, 1) := by decide +kernel
theorem dX11_undo_36 : decode cX11_undo 36 = .ok (.getfield 35, 3) := by decide +kernel
theorem dX11_undo_39 : decode cX11_undo 39 = .ok (.getfield 284, 3) := by decide +kernel
theorem dX11_undo_42 : decode cX11_undo 42 = .ok (.iload_n 1, 1) := by decide +kernel
theorem dX11_undo_43 : decode cX11_undo 43 = .ok (.aload_n 0, 1) := by decide +kernel
theorem dX11_undo_44 : decode cX11_undo 44 = .ok (.getfield 82, 3) := by decide +kernel
theorem dX11_undo_47 : decode cX11_undo 47 = .ok (.aload_n 0, 1) := by decide +kernel
theorem dX11_undo_48 : decode cX11_undo 48 = .ok (.getfield 118, 3) := by decide +kernel
theorem dX11_undo_51 : decode cX11_undo 51 = .ok (.iaload, 1) := by decide +kernel
theorem dX11_undo_52 : decode cX11_undo 52 = .ok (.iastore, 1) := by decide +kernel
theorem dX11_undo_53 : decode cX11_undo 53 = .ok (.goto 24, 3) := by decide +kernel
theorem dX11_undo_56 : decode cX11_undo 56 = .ok (.aload_n 0, 1) := by decide +kernel
theorem dX11_undo_57 : decode cX11_undo 57 = .ok (.getfield 35, 3) := by decide +kernel
theorem dX11_undo_60 : decode cX11_undo 60 = .ok (.getfield 170, 3) := by decide +kernel
theorem dX11_undo_63 : decode cX11_undo 63 = .ok (.iload_n 1, 1) := by decide +kernel
theorem dX11_undo_64 : decode cX11_undo 64 = .ok (.bipush 36, 2) := by decide +kernel
theorem dX11_undo_66 : decode cX11_undo 66 = .ok (.isub, 1) := by decide +kernel
theorem dX11_undo_67 : decode cX11_undo 67 = .ok (.aload_n 0, 1) := by decide +kernel
theorem dX11_undo_68 : decode cX11_undo 68 = .ok (.getfield 82, 3) := by decide +kernel
theorem dX11_undo_71 : decode cX11_undo 71 = .ok (.aload_n 0, 1) := by decide +kernel
theorem dX11_undo_72 : decode cX11_undo 72 = .ok (.getfield 118, 3) := by decide +kernel
theorem dX11_undo_75 : decode cX11_undo 75 = .ok (.iaload, 1) := by decide +kernel
theorem dX11_undo_76 : decode cX11_undo 76 = .ok (.iastore, 1) := by decide +kernel
theorem dX11_undo_77 : decode cX11_undo 77 = .ok (.aload_n 0, 1) := by decide +kernel
theorem dX11_undo_78 : decode cX11_undo 78 = .ok (.invokevirtual 121, 3) := by decide +kernel
theorem dX11_undo_81 : decode cX11_undo 81 = .ok (.iconst 1, 1) := by decide +kernel
theorem dX11_undo_82 : decode cX11_undo 82 = .ok (.ireturn, 1) := by decide +kernel
theorem dX11_mark_0 : decode cX11_mark 0 = .ok (.iload_n 1, 1) := by decide +kernel
theorem dX11_mark_1 : decode cX11_mark 1 = .ok (.ifCond .lt 21, 3) := by decide +kernel
theorem dX11_mark_4 : decode cX11_mark 4 = .ok (.iload_n 1, 1) := by decide +kernel
theorem dX11_mark_5 : decode cX11_mark 5 = .ok (.iconst 4, 1) := by decide +kernel
theorem dX11_mark_6 : decode cX11_mark 6 = .ok (.if_icmp .ge 16, 3) := by decide +kernel
theorem dX11_mark_9 : decode cX11_mark 9 = .ok (.iload_n 2, 1) := by decide +kernel
theorem dX11_mark_10 : decode cX11_mark 10 = .ok (.ifCond .eq 14, 3) := by decide +kernel
theorem dX11_mark_13 : decode cX11_mark 13 = .ok (.aload_n 0, 1) := by decide +kernel
theorem dX11_mark_14 : decode cX11_mark 14 = .ok (.getfield 89, 3) := by decide +kernel
theorem dX11_mark_17 : decode cX11_mark 17 = .ok (.iload_n 1, 1) := by decide +kernel
theorem dX11_mark_18 : decode cX11_mark 18 = .ok (.baload, 1) := by decide +kernel
theorem dX11_mark_19 : decode cX11_mark 19 = .ok (.ifCond .ne 5, 3) := by decide +kernel
theorem dX11_mark_22 : decode cX11_mark 22 = .ok (.iconst 0, 1) := by decide +kernel
theorem dX11_mark_23 : decode cX11_mark 23 = .ok (.ireturn, 1) := by decide +kernel
theorem dX11_mark_24 : decode cX11_mark 24 = .ok (.iload_n 2, 1) := by decide +kernel
theorem dX11_mark_25 : decode cX11_mark 25 = .ok (.ifCond .eq 28, 3) := by decide +kernel
theorem dX11_mark_28 : decode cX11_mark 28 = .ok (.aload_n 0, 1) := by decide +kernel
theorem dX11_mark_29 : decode cX11_mark 29 = .ok (.getfield 35, 3) := by decide +kernel
theorem dX11_mark_32 : decode cX11_mark 32 = .ok (.aload_n 0, 1) := by decide +kernel
theorem dX11_mark_33 : decode cX11_mark 33 = .ok (.getfield 85, 3) := by decide +kernel
theorem dX11_mark_36 : decode cX11_mark 36 = .ok (.iload_n 1, 1) := by decide +kernel
theorem dX11_mark_37 : decode cX11_mark 37 = .ok (.aaload, 1) := by decide +kernel
theorem dX11_mark_38 : decode cX11_mark 38 = .ok (.invokevirtual 310, 3) := by decide +kernel
theorem dX11_mark_41 : decode cX11_mark 41 = .ok (.aload_n 0, 1) := by decide +kernel
theorem dX11_mark_42 : decode cX11_mark 42 = .ok (.iconst 0, 1) := by decide +kernel
theorem dX11_mark_43 : decode cX11_mark 43 = .ok (.putfield 118, 3) := by decide +kernel
theorem dX11_mark_46 : decode cX11_mark 46 = .ok (.aload_n 0, 1) := by decide +kernel
theorem dX11_mark_47 : decode cX11_mark 47 = .ok (.invokevirtual 121, 3) := by decide +kernel
theorem dX11_mark_50 : decode cX11_mark 50 = .ok (.goto 23, 3) := by decide +kernel
theorem dX11_mark_53 : decode cX11_mark 53 = .ok (.aload_n 0, 1) := by decide +kernel
theorem dX11_mark_54 : decode cX11_mark 54 = .ok (.getfield 85, 3) := by decide +kernel
theorem dX11_mark_57 : decode cX11_mark 57 = .ok (.iload_n 1, 1) := by decide +kernel
theorem dX11_mark_58 : decode cX11_mark 58 = .ok (.aaload, 1) := by decide +kernel
theorem dX11_mark_59 : decode cX11_mark 59 = .ok (.aload_n 0, 1) := by decide +kernel
theorem dX11_mark_60 : decode cX11_mark 60 = .ok (.getfield 35, 3) := by decide +kernel
theorem dX11_mark_63 : decode cX11_mark 63 = .ok (.invokevirtual 310, 3) := by decide +kernel
theorem dX11_mark_66 : decode cX11_mark 66 = .ok (.aload_n 0, 1) := by decide +kernel
theorem dX11_mark_67 : decode cX11_mark 67 = .ok (.getfield 89, 3) := by decide +kernel
theorem dX11_mark_70 : decode cX11_mark 70 = .ok (.iload_n 1, 1) := by decide +kernel
theorem dX11_mark_71 : decode cX11_mark 71 = .ok (.iconst 1, 1) := by decide +kernel
theorem dX11_mark_72 : decode cX11_mark 72 = .ok (.bastore, 1) := by decide +kernel
theorem dX11_mark_73 : decode cX11_mark 73 = .ok (.iconst 1, 1) := by decide +kernel
theorem dX11_mark_74 : decode cX11_mark 74 = .ok (.ireturn, 1) := by decide +kernel
theorem dX11_count_0 : decode cX11_count 0 = .ok (.iload_n 1, 1) := by decide +kernel
theorem dX11_count_1 : decode cX11_count 1 = .ok (.tableswitch 120 0 8 #[51, 59, 67, 75, 83, 91, 99, 107, 112], 51) := by decide +kernel
theorem dX11_count_52 : decode cX11_count 52 = .ok (.aload_n 0, 1) := by decide +kernel
theorem dX11_count_53 : decode cX11_count 53 = .ok (.getfield 28, 3) := by decide +kernel
theorem dX11_count_56 : decode cX11_count 56 = .ok (.getfield 268, 3) := by decide +kernel
theorem dX11_count_59 : decode cX11_count 59 = .ok (.ireturn, 1) := by decide +kernel
theorem dX11_count_60 : decode cX11_count 60 = .ok (.aload_n 0, 1) := by decide +kernel
theorem dX11_count_61 : decode cX11_count 61 = .ok (.getfield 28, 3) := by decide +kernel
theorem dX11_count_64 : decode cX11_count 64 = .ok (.getfield 313, 3) := by decide +kernel
theorem dX11_count_67 : decode cX11_count 67 = .ok (.ireturn, 1) := by decide +kernel
theorem dX11_count_68 : decode cX11_count 68 = .ok (.aload_n 0, 1) := by decide +kernel
theorem dX11_count_69 : decode cX11_count 69 = .ok (.getfield 28, 3) := by decide +kernel
theorem dX11_count_72 : decode cX11_count 72 = .ok (.getfield 253, 3) := by decide +kernel
theorem dX11_count_75 : decode cX11_count 75 = .ok (.ireturn, 1) := by decide +kernel
theorem dX11_count_76 : decode cX11_count 76 = .ok (.aload_n 0, 1) := by decide +kernel
theorem dX11_count_77 : decode cX11_count 77 = .ok (.getfield 35, 3) := by decide +kernel
theorem dX11_count_80 : decode cX11_count 80 = .ok (.getfield 218, 3) := by decide +kernel
theorem dX11_count_83 : decode cX11_count 83 = .ok (.ireturn, 1) := by decide +kernel
theorem dX11_count_84 : decode cX11_count 84 = .ok (.aload_n 0, 1) := by decide +kernel
theorem dX11_count_85 : decode cX11_count 85 = .ok (.getfield 35, 3) := by decide +kernel
theorem dX11_count_88 : decode cX11_count 88 = .ok (.getfield 212, 3) := by decide +kernel
theorem dX11_count_91 : decode cX11_count 91 = .ok (.ireturn, 1) := by decide +kernel
theorem dX11_count_92 : decode cX11_count 92 = .ok (.aload_n 0, 1) := by decide +kernel
theorem dX11_count_93 : decode cX11_count 93 = .ok (.getfield 28, 3) := by decide +kernel
theorem dX11_count_96 : decode cX11_count 96 = .ok (.getfield 315, 3) := by decide +kernel
theorem dX11_count_99 : decode cX11_count 99 = .ok (.ireturn, 1) := by decide +kernel
theorem dX11_count_100 : decode cX11_count 100 = .ok (.aload_n 0, 1) := by decide +kernel
theorem dX11_count_101 : decode cX11_count 101 = .ok (.getfield 35, 3) := by decide +kernel
theorem dX11_count_104 : decode cX11_count 104 = .ok (.getfield 231, 3) := by decide +kernel
theorem dX11_count_107 : decode cX11_count 107 = .ok (.ireturn, 1) := by decide +kernel
theorem dX11_count_108 : decode cX11_count 108 = .ok (.aload_n 0, 1) := by decide +kernel
theorem dX11_count_109 : decode cX11_count 109 = .ok (.getfield 118, 3) := by decide +kernel
theorem dX11_count_112 : decode cX11_count 112 = .ok (.ireturn, 1) := by decide +kernel
theorem dX11_count_113 : decode cX11_count 113 = .ok (.aload_n 0, 1) := by decide +kernel
theorem dX11_count_114 : decode cX11_count 114 = .ok (.getfield 12, 3) := by decide +kernel
theorem dX11_count_117 : decode cX11_count 117 = .ok (.getfield 101, 3) := by decide +kernel
theorem dX11_count_120 : decode cX11_count 120 = .ok (.ireturn, 1) := by decide +kernel
theorem dX11_count_121 : decode cX11_count 121 = .ok (.iconst (-1), 1) := by decide +kernel
theorem dX11_count_122 : decode cX11_count 122 = .ok (.ireturn, 1) := by decide +kernel
theorem dX11_canCarry_0 : decode cX11_canCarry 0 = .ok (.aload_n 0, 1) := by decide +kernel
theorem dX11_canCarry_1 : decode cX11_canCarry 1 = .ok (.getfield 28, 3) := by decide +kernel
theorem dX11_canCarry_4 : decode cX11_canCarry 4 = .ok (.iload_n 1, 1) := by decide +kernel
theorem dX11_canCarry_5 : decode cX11_canCarry 5 = .ok (.invokevirtual 147, 3) := by decide +kernel
theorem dX11_canCarry_8 : decode cX11_canCarry 8 = .ok (.ifCond .eq 23, 3) := by decide +kernel
theorem dX11_canCarry_11 : decode cX11_canCarry 11 = .ok (.iload_n 2, 1) := by decide +kernel
theorem dX11_canCarry_12 : decode cX11_canCarry 12 = .ok (.ifCond .lt 19, 3) := by decide +kernel
theorem dX11_canCarry_15 : decode cX11_canCarry 15 = .ok (.iload_n 2, 1) := by decide +kernel
theorem dX11_canCarry_16 : decode cX11_canCarry 16 = .ok (.aload_n 0, 1) := by decide +kernel
theorem dX11_canCarry_17 : decode cX11_canCarry 17 = .ok (.getfield 28, 3) := by decide +kernel
theorem dX11_canCarry_20 : decode cX11_canCarry 20 = .ok (.iload_n 1, 1) := by decide +kernel
theorem dX11_canCarry_21 : decode cX11_canCarry 21 = .ok (.invokevirtual 160, 3) := by decide +kernel
theorem dX11_canCarry_24 : decode cX11_canCarry 24 = .ok (.if_icmp .gt 7, 3) := by decide +kernel
theorem dX11_canCarry_27 : decode cX11_canCarry 27 = .ok (.iconst 1, 1) := by decide +kernel
theorem dX11_canCarry_28 : decode cX11_canCarry 28 = .ok (.goto 4, 3) := by decide +kernel
theorem dX11_canCarry_31 : decode cX11_canCarry 31 = .ok (.iconst 0, 1) := by decide +kernel
theorem dX11_canCarry_32 : decode cX11_canCarry 32 = .ok (.ireturn, 1) := by decide +kernel
theorem dX11_isPair_0 : decode cX11_isPair 0 = .ok (.aload_n 0, 1) := by decide +kernel
theorem dX11_isPair_1 : decode cX11_isPair 1 = .ok (.getfield 28, 3) := by decide +kernel
theorem dX11_isPair_4 : decode cX11_isPair 4 = .ok (.iload_n 1, 1) := by decide +kernel
theorem dX11_isPair_5 : decode cX11_isPair 5 = .ok (.invokevirtual 147, 3) := by decide +kernel
theorem dX11_isPair_8 : decode cX11_isPair 8 = .ok (.ifCond .eq 23, 3) := by decide +kernel
theorem dX11_isPair_11 : decode cX11_isPair 11 = .ok (.aload_n 0, 1) := by decide +kernel
theorem dX11_isPair_12 : decode cX11_isPair 12 = .ok (.getfield 28, 3) := by decide +kernel
theorem dX11_isPair_15 : decode cX11_isPair 15 = .ok (.iload_n 2, 1) := by decide +kernel
theorem dX11_isPair_16 : decode cX11_isPair 16 = .ok (.invokevirtual 147, 3) := by decide +kernel
theorem dX11_isPair_19 : decode cX11_isPair 19 = .ok (.ifCond .eq 12, 3) := by decide +kernel
theorem dX11_isPair_22 : decode cX11_isPair 22 = .ok (.iload_n 1, 1) := by decide +kernel
theorem dX11_isPair_23 : decode cX11_isPair 23 = .ok (.iload_n 2, 1) := by decide +kernel
theorem dX11_isPair_24 : decode cX11_isPair 24 = .ok (.if_icmp .eq 7, 3) := by decide +kernel
theorem dX11_isPair_27 : decode cX11_isPair 27 = .ok (.iconst 1, 1) := by decide +kernel
theorem dX11_isPair_28 : decode cX11_isPair 28 = .ok (.goto 4, 3) := by decide +kernel
theorem dX11_isPair_31 : decode cX11_isPair 31 = .ok (.iconst 0, 1) := by decide +kernel
theorem dX11_isPair_32 : decode cX11_isPair 32 = .ok (.ireturn, 1) := by decide +kernel
theorem dX11_keepForUndo_0 : decode cX11_keepForUndo 0 = .ok (.aload_n 0, 1) := by decide +kernel
theorem dX11_keepForUndo_1 : decode cX11_keepForUndo 1 = .ok (.getfield 118, 3) := by decide +kernel
theorem dX11_keepForUndo_4 : decode cX11_keepForUndo 4 = .ok (.bipush 20, 2) := by decide +kernel
theorem dX11_keepForUndo_6 : decode cX11_keepForUndo 6 = .ok (.if_icmp .ne 47, 3) := by decide +kernel
theorem dX11_keepForUndo_9 : decode cX11_keepForUndo 9 = .ok (.aload_n 0, 1) := by decide +kernel
theorem dX11_keepForUndo_10 : decode cX11_keepForUndo 10 = .ok (.dup, 1) := by decide +kernel
theorem dX11_keepForUndo_11 : decode cX11_keepForUndo 11 = .ok (.getfield 118, 3) := by decide +kernel
theorem dX11_keepForUndo_14 : decode cX11_keepForUndo 14 = .ok (.iconst 1, 1) := by decide +kernel
theorem dX11_keepForUndo_15 : decode cX11_keepForUndo 15 = .ok (.isub, 1) := by decide +kernel
theorem dX11_keepForUndo_16 : decode cX11_keepForUndo 16 = .ok (.putfield 118, 3) := by decide +kernel
theorem dX11_keepForUndo_19 : decode cX11_keepForUndo 19 = .ok (.aload_n 0, 1) := by decide +kernel
theorem dX11_keepForUndo_20 : decode cX11_keepForUndo 20 = .ok (.getfield 78, 3) := by decide +kernel
theorem dX11_keepForUndo_23 : decode cX11_keepForUndo 23 = .ok (.iconst 1, 1) := by decide +kernel
theorem dX11_keepForUndo_24 : decode cX11_keepForUndo 24 = .ok (.aload_n 0, 1) := by decide +kernel
theorem dX11_keepForUndo_25 : decode cX11_keepForUndo 25 = .ok (.getfield 78, 3) := by decide +kernel
theorem dX11_keepForUndo_28 : decode cX11_keepForUndo 28 = .ok (.iconst 0, 1) := by decide +kernel
theorem dX11_keepForUndo_29 : decode cX11_keepForUndo 29 = .ok (.aload_n 0, 1) := by decide +kernel
theorem dX11_keepForUndo_30 : decode cX11_keepForUndo 30 = .ok (.getfield 118, 3) := by decide +kernel
theorem dX11_keepForUndo_33 : decode cX11_keepForUndo 33 = .ok (.invokestatic 318, 3) := by decide +kernel
theorem dX11_keepForUndo_36 : decode cX11_keepForUndo 36 = .ok (.aload_n 0, 1) := by decide +kernel
theorem dX11_keepForUndo_37 : decode cX11_keepForUndo 37 = .ok (.getfield 82, 3) := by decide +kernel
theorem dX11_keepForUndo_40 : decode cX11_keepForUndo 40 = .ok (.iconst 1, 1) := by decide +kernel
theorem dX11_keepForUndo_41 : decode cX11_keepForUndo 41 = .ok (.aload_n 0, 1) := by decide +kernel
theorem dX11_keepForUndo_42 : decode cX11_keepForUndo 42 = .ok (.getfield 82, 3) := by decide +kernel
theorem dX11_keepForUndo_45 : decode cX11_keepForUndo 45 = .ok (.iconst 0, 1) := by decide +kernel
theorem dX11_keepForUndo_46 : decode cX11_keepForUndo 46 = .ok (.aload_n 0, 1) := by decide +kernel
theorem dX11_keepForUndo_47 : decode cX11_keepForUndo 47 = .ok (.getfield 118, 3) := by decide +kernel
theorem dX11_keepForUndo_50 : decode cX11_keepForUndo 50 = .ok (.invokestatic 318, 3) := by decide +kernel
theorem dX11_keepForUndo_53 : decode cX11_keepForUndo 53 = .ok (.aload_n 0, 1) := by decide +kernel
theorem dX11_keepForUndo_54 : decode cX11_keepForUndo 54 = .ok (.getfield 78, 3) := by decide +kernel
theorem dX11_keepForUndo_57 : decode cX11_keepForUndo 57 = .ok (.aload_n 0, 1) := by decide +kernel
theorem dX11_keepForUndo_58 : decode cX11_keepForUndo 58 = .ok (.getfield 118, 3) := by decide +kernel
theorem dX11_keepForUndo_61 : decode cX11_keepForUndo 61 = .ok (.iload_n 1, 1) := by decide +kernel
theorem dX11_keepForUndo_62 : decode cX11_keepForUndo 62 = .ok (.iastore, 1) := by decide +kernel
theorem dX11_keepForUndo_63 : decode cX11_keepForUndo 63 = .ok (.aload_n 0, 1) := by decide +kernel
theorem dX11_keepForUndo_64 : decode cX11_keepForUndo 64 = .ok (.getfield 82, 3) := by decide +kernel
theorem dX11_keepForUndo_67 : decode cX11_keepForUndo 67 = .ok (.aload_n 0, 1) := by decide +kernel
theorem dX11_keepForUndo_68 : decode cX11_keepForUndo 68 = .ok (.getfield 118, 3) := by decide +kernel
theorem dX11_keepForUndo_71 : decode cX11_keepForUndo 71 = .ok (.iload_n 2, 1) := by decide +kernel
theorem dX11_keepForUndo_72 : decode cX11_keepForUndo 72 = .ok (.iastore, 1) := by decide +kernel
theorem dX11_keepForUndo_73 : decode cX11_keepForUndo 73 = .ok (.aload_n 0, 1) := by decide +kernel
theorem dX11_keepForUndo_74 : decode cX11_keepForUndo 74 = .ok (.dup, 1) := by decide +kernel
theorem dX11_keepForUndo_75 : decode cX11_keepForUndo 75 = .ok (.getfield 118, 3) := by decide +kernel
theorem dX11_keepForUndo_78 : decode cX11_keepForUndo 78 = .ok (.iconst 1, 1) := by decide +kernel
theorem dX11_keepForUndo_79 : decode cX11_keepForUndo 79 = .ok (.iadd, 1) := by decide +kernel
theorem dX11_keepForUndo_80 : decode cX11_keepForUndo 80 = .ok (.putfield 118, 3) := by decide +kernel
theorem dX11_keepForUndo_83 : decode cX11_keepForUndo 83 = .ok (.return_, 1) := by decide +kernel
theorem dX11_forgetAnswers_0 : decode cX11_forgetAnswers 0 = .ok (.aload_n 0, 1) := by decide +kernel
theorem dX11_forgetAnswers_1 : decode cX11_forgetAnswers 1 = .ok (.getfield 60, 3) := by decide +kernel
theorem dX11_forgetAnswers_4 : decode cX11_forgetAnswers 4 = .ok (.iconst 0, 1) := by decide +kernel
theorem dX11_forgetAnswers_5 : decode cX11_forgetAnswers 5 = .ok (.putfield 324, 3) := by decide +kernel
theorem dX11_forgetAnswers_8 : decode cX11_forgetAnswers 8 = .ok (.aload_n 0, 1) := by decide +kernel
theorem dX11_forgetAnswers_9 : decode cX11_forgetAnswers 9 = .ok (.getfield 67, 3) := by decide +kernel
theorem dX11_forgetAnswers_12 : decode cX11_forgetAnswers 12 = .ok (.iconst 0, 1) := by decide +kernel
theorem dX11_forgetAnswers_13 : decode cX11_forgetAnswers 13 = .ok (.putfield 328, 3) := by decide +kernel
theorem dX11_forgetAnswers_16 : decode cX11_forgetAnswers 16 = .ok (.return_, 1) := by decide +kernel
theorem dJ9_max_7cf53_0 : decode cJ9_max_7cf53 0 = .ok (.iload_n 0, 1) := by decide +kernel
theorem dJ9_max_7cf53_1 : decode cJ9_max_7cf53 1 = .ok (.iload_n 1, 1) := by decide +kernel
theorem dJ9_max_7cf53_2 : decode cJ9_max_7cf53 2 = .ok (.if_icmp .lt 7, 3) := by decide +kernel
theorem dJ9_max_7cf53_5 : decode cJ9_max_7cf53 5 = .ok (.iload_n 0, 1) := by decide +kernel
theorem dJ9_max_7cf53_6 : decode cJ9_max_7cf53 6 = .ok (.goto 4, 3) := by decide +kernel
theorem dJ9_max_7cf53_9 : decode cJ9_max_7cf53 9 = .ok (.iload_n 1, 1) := by decide +kernel
theorem dJ9_max_7cf53_10 : decode cJ9_max_7cf53 10 = .ok (.ireturn, 1) := by decide +kernel
theorem dJ9_max_f86c9_0 : decode cJ9_max_f86c9 0 = .ok (.lload_n 0, 1) := by decide +kernel
theorem dJ9_max_f86c9_1 : decode cJ9_max_f86c9 1 = .ok (.lload_n 2, 1) := by decide +kernel
theorem dJ9_max_f86c9_2 : decode cJ9_max_f86c9 2 = .ok (.lcmp, 1) := by decide +kernel
theorem dJ9_max_f86c9_3 : decode cJ9_max_f86c9 3 = .ok (.ifCond .lt 7, 3) := by decide +kernel
theorem dJ9_max_f86c9_6 : decode cJ9_max_f86c9 6 = .ok (.lload_n 0, 1) := by decide +kernel
theorem dJ9_max_f86c9_7 : decode cJ9_max_f86c9 7 = .ok (.goto 4, 3) := by decide +kernel
theorem dJ9_max_f86c9_10 : decode cJ9_max_f86c9 10 = .ok (.lload_n 2, 1) := by decide +kernel
theorem dJ9_max_f86c9_11 : decode cJ9_max_f86c9 11 = .ok (.lreturn, 1) := by decide +kernel
theorem dJ9_min_7cf53_0 : decode cJ9_min_7cf53 0 = .ok (.iload_n 0, 1) := by decide +kernel
theorem dJ9_min_7cf53_1 : decode cJ9_min_7cf53 1 = .ok (.iload_n 1, 1) := by decide +kernel
theorem dJ9_min_7cf53_2 : decode cJ9_min_7cf53 2 = .ok (.if_icmp .gt 7, 3) := by decide +kernel
theorem dJ9_min_7cf53_5 : decode cJ9_min_7cf53 5 = .ok (.iload_n 0, 1) := by decide +kernel
theorem dJ9_min_7cf53_6 : decode cJ9_min_7cf53 6 = .ok (.goto 4, 3) := by decide +kernel
theorem dJ9_min_7cf53_9 : decode cJ9_min_7cf53 9 = .ok (.iload_n 1, 1) := by decide +kernel
theorem dJ9_min_7cf53_10 : decode cJ9_min_7cf53 10 = .ok (.ireturn, 1) := by decide +kernel
theorem dJ9_min_f86c9_0 : decode cJ9_min_f86c9 0 = .ok (.lload_n 0, 1) := by decide +kernel
theorem dJ9_min_f86c9_1 : decode cJ9_min_f86c9 1 = .ok (.lload_n 2, 1) := by decide +kernel
theorem dJ9_min_f86c9_2 : decode cJ9_min_f86c9 2 = .ok (.lcmp, 1) := by decide +kernel
theorem dJ9_min_f86c9_3 : decode cJ9_min_f86c9 3 = .ok (.ifCond .gt 7, 3) := by decide +kernel
theorem dJ9_min_f86c9_6 : decode cJ9_min_f86c9 6 = .ok (.lload_n 0, 1) := by decide +kernel
theorem dJ9_min_f86c9_7 : decode cJ9_min_f86c9 7 = .ok (.goto 4, 3) := by decide +kernel
theorem dJ9_min_f86c9_10 : decode cJ9_min_f86c9 10 = .ok (.lload_n 2, 1) := by decide +kernel
theorem dJ9_min_f86c9_11 : decode cJ9_min_f86c9 11 = .ok (.lreturn, 1) := by decide +kernel
theorem dJ0_length_8abf5_0 : decode cJ0_length_8abf5 0 = .ok (.aload_n 0, 1) := by decide +kernel
theorem dJ0_length_8abf5_1 : decode cJ0_length_8abf5 1 = .ok (.getfield 9, 3) := by decide +kernel
theorem dJ0_length_8abf5_4 : decode cJ0_length_8abf5 4 = .ok (.arraylength, 1) := by decide +kernel
theorem dJ0_length_8abf5_5 : decode cJ0_length_8abf5 5 = .ok (.aload_n 0, 1) := by decide +kernel
theorem dJ0_length_8abf5_6 : decode cJ0_length_8abf5 6 = .ok (.invokevirtual 335, 3) := by decide +kernel
theorem dJ0_length_8abf5_9 : decode cJ0_length_8abf5 9 = .ok (.ishr, 1) := by decide +kernel
theorem dJ0_length_8abf5_10 : decode cJ0_length_8abf5 10 = .ok (.ireturn, 1) := by decide +kernel
theorem dJ0_charAt_5068e_0 : decode cJ0_charAt_5068e 0 = .ok (.aload_n 0, 1) := by decide +kernel
theorem dJ0_charAt_5068e_1 : decode cJ0_charAt_5068e 1 = .ok (.invokevirtual 492, 3) := by decide +kernel
theorem dJ0_charAt_5068e_4 : decode cJ0_charAt_5068e 4 = .ok (.ifCond .eq 12, 3) := by decide +kernel
theorem dJ0_charAt_5068e_7 : decode cJ0_charAt_5068e 7 = .ok (.aload_n 0, 1) := by decide +kernel
theorem dJ0_charAt_5068e_8 : decode cJ0_charAt_5068e 8 = .ok (.getfield 9, 3) := by decide +kernel
theorem dJ0_charAt_5068e_11 : decode cJ0_charAt_5068e 11 = .ok (.iload_n 1, 1) := by decide +kernel
theorem dJ0_charAt_5068e_12 : decode cJ0_charAt_5068e 12 = .ok (.invokestatic 495, 3) := by decide +kernel
theorem dJ0_charAt_5068e_15 : decode cJ0_charAt_5068e 15 = .ok (.ireturn, 1) := by decide +kernel
theorem dJ0_charAt_5068e_16 : decode cJ0_charAt_5068e 16 = .ok (.aload_n 0, 1) := by decide +kernel
theorem dJ0_charAt_5068e_17 : decode cJ0_charAt_5068e 17 = .ok (.getfield 9, 3) := by decide +kernel
theorem dJ0_charAt_5068e_20 : decode cJ0_charAt_5068e 20 = .ok (.iload_n 1, 1) := by decide +kernel
theorem dJ0_charAt_5068e_21 : decode cJ0_charAt_5068e 21 = .ok (.invokestatic 498, 3) := by decide +kernel
theorem dJ0_charAt_5068e_24 : decode cJ0_charAt_5068e 24 = .ok (.ireturn, 1) := by decide +kernel
theorem dJ0_coder_7d493_0 : decode cJ0_coder_7d493 0 = .ok (.getstatic 38, 3) := by decide +kernel
theorem dJ0_coder_7d493_3 : decode cJ0_coder_7d493 3 = .ok (.ifCond .eq 10, 3) := by decide +kernel
theorem dJ0_coder_7d493_6 : decode cJ0_coder_7d493 6 = .ok (.aload_n 0, 1) := by decide +kernel
theorem dJ0_coder_7d493_7 : decode cJ0_coder_7d493 7 = .ok (.getfield 15, 3) := by decide +kernel
theorem dJ0_coder_7d493_10 : decode cJ0_coder_7d493 10 = .ok (.goto 4, 3) := by decide +kernel
theorem dJ0_coder_7d493_13 : decode cJ0_coder_7d493 13 = .ok (.iconst 1, 1) := by decide +kernel
theorem dJ0_coder_7d493_14 : decode cJ0_coder_7d493 14 = .ok (.ireturn, 1) := by decide +kernel
theorem dJ0_isLatin1_aae02_0 : decode cJ0_isLatin1_aae02 0 = .ok (.getstatic 38, 3) := by decide +kernel
theorem dJ0_isLatin1_aae02_3 : decode cJ0_isLatin1_aae02 3 = .ok (.ifCond .eq 14, 3) := by decide +kernel
theorem dJ0_isLatin1_aae02_6 : decode cJ0_isLatin1_aae02 6 = .ok (.aload_n 0, 1) := by decide +kernel
theorem dJ0_isLatin1_aae02_7 : decode cJ0_isLatin1_aae02 7 = .ok (.getfield 15, 3) := by decide +kernel
theorem dJ0_isLatin1_aae02_10 : decode cJ0_isLatin1_aae02 10 = .ok (.ifCond .ne 7, 3) := by decide +kernel
theorem dJ0_isLatin1_aae02_13 : decode cJ0_isLatin1_aae02 13 = .ok (.iconst 1, 1) := by decide +kernel
theorem dJ0_isLatin1_aae02_14 : decode cJ0_isLatin1_aae02 14 = .ok (.goto 4, 3) := by decide +kernel
theorem dJ0_isLatin1_aae02_17 : decode cJ0_isLatin1_aae02 17 = .ok (.iconst 0, 1) := by decide +kernel
theorem dJ0_isLatin1_aae02_18 : decode cJ0_isLatin1_aae02 18 = .ok (.ireturn, 1) := by decide +kernel
theorem dJ0_checkIndex_df160_0 : decode cJ0_checkIndex_df160 0 = .ok (.iload_n 0, 1) := by decide +kernel
theorem dJ0_checkIndex_df160_1 : decode cJ0_checkIndex_df160 1 = .ok (.iload_n 1, 1) := by decide +kernel
theorem dJ0_checkIndex_df160_2 : decode cJ0_checkIndex_df160 2 = .ok (.getstatic 1053, 3) := by decide +kernel
theorem dJ0_checkIndex_df160_5 : decode cJ0_checkIndex_df160 5 = .ok (.invokestatic 1059, 3) := by decide +kernel
theorem dJ0_checkIndex_df160_8 : decode cJ0_checkIndex_df160 8 = .ok (.pop, 1) := by decide +kernel
theorem dJ0_checkIndex_df160_9 : decode cJ0_checkIndex_df160 9 = .ok (.return_, 1) := by decide +kernel
theorem dJ1_charAt_3b067_0 : decode cJ1_charAt_3b067 0 = .ok (.iload_n 1, 1) := by decide +kernel
theorem dJ1_charAt_3b067_1 : decode cJ1_charAt_3b067 1 = .ok (.aload_n 0, 1) := by decide +kernel
theorem dJ1_charAt_3b067_2 : decode cJ1_charAt_3b067 2 = .ok (.arraylength, 1) := by decide +kernel
theorem dJ1_charAt_3b067_3 : decode cJ1_charAt_3b067 3 = .ok (.invokestatic 9, 3) := by decide +kernel
theorem dJ1_charAt_3b067_6 : decode cJ1_charAt_3b067 6 = .ok (.aload_n 0, 1) := by decide +kernel
theorem dJ1_charAt_3b067_7 : decode cJ1_charAt_3b067 7 = .ok (.iload_n 1, 1) := by decide +kernel
theorem dJ1_charAt_3b067_8 : decode cJ1_charAt_3b067 8 = .ok (.baload, 1) := by decide +kernel
theorem dJ1_charAt_3b067_9 : decode cJ1_charAt_3b067 9 = .ok (.sipush 255, 3) := by decide +kernel
theorem dJ1_charAt_3b067_12 : decode cJ1_charAt_3b067 12 = .ok (.iand, 1) := by decide +kernel
theorem dJ1_charAt_3b067_13 : decode cJ1_charAt_3b067 13 = .ok (.i2c, 1) := by decide +kernel
theorem dJ1_charAt_3b067_14 : decode cJ1_charAt_3b067 14 = .ok (.ireturn, 1) := by decide +kernel
theorem dJ2_getChar_3b067_0 : decode cJ2_getChar_3b067 0 = .ok (.getstatic 44, 3) := by decide +kernel
theorem dJ2_getChar_3b067_3 : decode cJ2_getChar_3b067 3 = .ok (.ifCond .ne 25, 3) := by decide +kernel
theorem dJ2_getChar_3b067_6 : decode cJ2_getChar_3b067 6 = .ok (.iload_n 1, 1) := by decide +kernel
theorem dJ2_getChar_3b067_7 : decode cJ2_getChar_3b067 7 = .ok (.ifCond .lt 11, 3) := by decide +kernel
theorem dJ2_getChar_3b067_10 : decode cJ2_getChar_3b067 10 = .ok (.iload_n 1, 1) := by decide +kernel
theorem dJ2_getChar_3b067_11 : decode cJ2_getChar_3b067 11 = .ok (.aload_n 0, 1) := by decide +kernel
theorem dJ2_getChar_3b067_12 : decode cJ2_getChar_3b067 12 = .ok (.invokestatic 48, 3) := by decide +kernel
theorem dJ2_getChar_3b067_15 : decode cJ2_getChar_3b067 15 = .ok (.if_icmp .lt 13, 3) := by decide +kernel
theorem dJ2_getChar_3b067_18 : decode cJ2_getChar_3b067 18 = .ok (.new 52, 3) := by decide +kernel
theorem dJ2_getChar_3b067_21 : decode cJ2_getChar_3b067 21 = .ok (.dup, 1) := by decide +kernel
theorem dJ2_getChar_3b067_22 : decode cJ2_getChar_3b067 22 = .ok (.ldc 54, 2) := by decide +kernel
theorem dJ2_getChar_3b067_24 : decode cJ2_getChar_3b067 24 = .ok (.invokespecial 56, 3) := by decide +kernel
theorem dJ2_getChar_3b067_27 : decode cJ2_getChar_3b067 27 = .ok (.athrow, 1) := by decide +kernel
theorem dJ2_getChar_3b067_28 : decode cJ2_getChar_3b067 28 = .ok (.iload_n 1, 1) := by decide +kernel
theorem dJ2_getChar_3b067_29 : decode cJ2_getChar_3b067 29 = .ok (.iconst 1, 1) := by decide +kernel
theorem dJ2_getChar_3b067_30 : decode cJ2_getChar_3b067 30 = .ok (.ishl, 1) := by decide +kernel
theorem dJ2_getChar_3b067_31 : decode cJ2_getChar_3b067 31 = .ok (.istore_n 1, 1) := by decide +kernel
theorem dJ2_getChar_3b067_32 : decode cJ2_getChar_3b067 32 = .ok (.aload_n 0, 1) := by decide +kernel
theorem dJ2_getChar_3b067_33 : decode cJ2_getChar_3b067 33 = .ok (.iload_n 1, 1) := by decide +kernel
theorem dJ2_getChar_3b067_34 : decode cJ2_getChar_3b067 34 = .ok (.iinc 1 1, 3) := by decide +kernel
theorem dJ2_getChar_3b067_37 : decode cJ2_getChar_3b067 37 = .ok (.baload, 1) := by decide +kernel
theorem dJ2_getChar_3b067_38 : decode cJ2_getChar_3b067 38 = .ok (.sipush 255, 3) := by decide +kernel
theorem dJ2_getChar_3b067_41 : decode cJ2_getChar_3b067 41 = .ok (.iand, 1) := by decide +kernel
theorem dJ2_getChar_3b067_42 : decode cJ2_getChar_3b067 42 = .ok (.getstatic 59, 3) := by decide +kernel
theorem dJ2_getChar_3b067_45 : decode cJ2_getChar_3b067 45 = .ok (.ishl, 1) := by decide +kernel
theorem dJ2_getChar_3b067_46 : decode cJ2_getChar_3b067 46 = .ok (.aload_n 0, 1) := by decide +kernel
theorem dJ2_getChar_3b067_47 : decode cJ2_getChar_3b067 47 = .ok (.iload_n 1, 1) := by decide +kernel
theorem dJ2_getChar_3b067_48 : decode cJ2_getChar_3b067 48 = .ok (.baload, 1) := by decide +kernel
theorem dJ2_getChar_3b067_49 : decode cJ2_getChar_3b067 49 = .ok (.sipush 255, 3) := by decide +kernel
theorem dJ2_getChar_3b067_52 : decode cJ2_getChar_3b067 52 = .ok (.iand, 1) := by decide +kernel
theorem dJ2_getChar_3b067_53 : decode cJ2_getChar_3b067 53 = .ok (.getstatic 63, 3) := by decide +kernel
theorem dJ2_getChar_3b067_56 : decode cJ2_getChar_3b067 56 = .ok (.ishl, 1) := by decide +kernel
theorem dJ2_getChar_3b067_57 : decode cJ2_getChar_3b067 57 = .ok (.ior, 1) := by decide +kernel
theorem dJ2_getChar_3b067_58 : decode cJ2_getChar_3b067 58 = .ok (.i2c, 1) := by decide +kernel
theorem dJ2_getChar_3b067_59 : decode cJ2_getChar_3b067 59 = .ok (.ireturn, 1) := by decide +kernel
theorem dJ2_length_9d52b_0 : decode cJ2_length_9d52b 0 = .ok (.aload_n 0, 1) := by decide +kernel
theorem dJ2_length_9d52b_1 : decode cJ2_length_9d52b 1 = .ok (.arraylength, 1) := by decide +kernel
theorem dJ2_length_9d52b_2 : decode cJ2_length_9d52b 2 = .ok (.iconst 1, 1) := by decide +kernel
theorem dJ2_length_9d52b_3 : decode cJ2_length_9d52b 3 = .ok (.ishr, 1) := by decide +kernel
theorem dJ2_length_9d52b_4 : decode cJ2_length_9d52b 4 = .ok (.ireturn, 1) := by decide +kernel
theorem dJ2_charAt_3b067_0 : decode cJ2_charAt_3b067 0 = .ok (.iload_n 1, 1) := by decide +kernel
theorem dJ2_charAt_3b067_1 : decode cJ2_charAt_3b067 1 = .ok (.aload_n 0, 1) := by decide +kernel
theorem dJ2_charAt_3b067_2 : decode cJ2_charAt_3b067 2 = .ok (.invokestatic 67, 3) := by decide +kernel
theorem dJ2_charAt_3b067_5 : decode cJ2_charAt_3b067 5 = .ok (.aload_n 0, 1) := by decide +kernel
theorem dJ2_charAt_3b067_6 : decode cJ2_charAt_3b067 6 = .ok (.iload_n 1, 1) := by decide +kernel
theorem dJ2_charAt_3b067_7 : decode cJ2_charAt_3b067 7 = .ok (.invokestatic 71, 3) := by decide +kernel
theorem dJ2_charAt_3b067_10 : decode cJ2_charAt_3b067 10 = .ok (.ireturn, 1) := by decide +kernel
theorem dJ2_checkIndex_2214a_0 : decode cJ2_checkIndex_2214a 0 = .ok (.iload_n 0, 1) := by decide +kernel
theorem dJ2_checkIndex_2214a_1 : decode cJ2_checkIndex_2214a 1 = .ok (.aload_n 1, 1) := by decide +kernel
theorem dJ2_checkIndex_2214a_2 : decode cJ2_checkIndex_2214a 2 = .ok (.invokestatic 48, 3) := by decide +kernel
theorem dJ2_checkIndex_2214a_5 : decode cJ2_checkIndex_2214a 5 = .ok (.invokestatic 414, 3) := by decide +kernel
theorem dJ2_checkIndex_2214a_8 : decode cJ2_checkIndex_2214a 8 = .ok (.return_, 1) := by decide +kernel
theorem dJ7_fill_53178_0 : decode cJ7_fill_53178 0 = .ok (.iconst 0, 1) := by decide +kernel
theorem dJ7_fill_53178_1 : decode cJ7_fill_53178 1 = .ok (.istore_n 2, 1) := by decide +kernel
theorem dJ7_fill_53178_2 : decode cJ7_fill_53178 2 = .ok (.aload_n 0, 1) := by decide +kernel
theorem dJ7_fill_53178_3 : decode cJ7_fill_53178 3 = .ok (.arraylength, 1) := by decide +kernel
theorem dJ7_fill_53178_4 : decode cJ7_fill_53178 4 = .ok (.istore_n 3, 1) := by decide +kernel
theorem dJ7_fill_53178_5 : decode cJ7_fill_53178 5 = .ok (.iload_n 2, 1) := by decide +kernel
theorem dJ7_fill_53178_6 : decode cJ7_fill_53178 6 = .ok (.iload_n 3, 1) := by decide +kernel
theorem dJ7_fill_53178_7 : decode cJ7_fill_53178 7 = .ok (.if_icmp .ge 13, 3) := by decide +kernel
theorem dJ7_fill_53178_10 : decode cJ7_fill_53178 10 = .ok (.aload_n 0, 1) := by decide +kernel
theorem dJ7_fill_53178_11 : decode cJ7_fill_53178 11 = .ok (.iload_n 2, 1) := by decide +kernel
theorem dJ7_fill_53178_12 : decode cJ7_fill_53178 12 = .ok (.iload_n 1, 1) := by decide +kernel
theorem dJ7_fill_53178_13 : decode cJ7_fill_53178 13 = .ok (.iastore, 1) := by decide +kernel
theorem dJ7_fill_53178_14 : decode cJ7_fill_53178 14 = .ok (.iinc 2 1, 3) := by decide +kernel
theorem dJ7_fill_53178_17 : decode cJ7_fill_53178 17 = .ok (.goto (-12), 3) := by decide +kernel
theorem dJ7_fill_53178_20 : decode cJ7_fill_53178 20 = .ok (.return_, 1) := by decide +kernel
theorem dJ7_copyOf_59c91_0 : decode cJ7_copyOf_59c91 0 = .ok (.iload_n 1, 1) := by decide +kernel
theorem dJ7_copyOf_59c91_1 : decode cJ7_copyOf_59c91 1 = .ok (.aload_n 0, 1) := by decide +kernel
theorem dJ7_copyOf_59c91_2 : decode cJ7_copyOf_59c91 2 = .ok (.arraylength, 1) := by decide +kernel
theorem dJ7_copyOf_59c91_3 : decode cJ7_copyOf_59c91 3 = .ok (.if_icmp .ne 11, 3) := by decide +kernel
theorem dJ7_copyOf_59c91_6 : decode cJ7_copyOf_59c91 6 = .ok (.aload_n 0, 1) := by decide +kernel
theorem dJ7_copyOf_59c91_7 : decode cJ7_copyOf_59c91 7 = .ok (.invokevirtual 316, 3) := by decide +kernel
theorem dJ7_copyOf_59c91_10 : decode cJ7_copyOf_59c91 10 = .ok (.checkcast 317, 3) := by decide +kernel
theorem dJ7_copyOf_59c91_13 : decode cJ7_copyOf_59c91 13 = .ok (.areturn, 1) := by decide +kernel
theorem dJ7_copyOf_59c91_14 : decode cJ7_copyOf_59c91 14 = .ok (.iload_n 1, 1) := by decide +kernel
theorem dJ7_copyOf_59c91_15 : decode cJ7_copyOf_59c91 15 = .ok (.newarray .int, 2) := by decide +kernel
theorem dJ7_copyOf_59c91_17 : decode cJ7_copyOf_59c91 17 = .ok (.astore_n 2, 1) := by decide +kernel
theorem dJ7_copyOf_59c91_18 : decode cJ7_copyOf_59c91 18 = .ok (.aload_n 0, 1) := by decide +kernel
theorem dJ7_copyOf_59c91_19 : decode cJ7_copyOf_59c91 19 = .ok (.iconst 0, 1) := by decide +kernel
theorem dJ7_copyOf_59c91_20 : decode cJ7_copyOf_59c91 20 = .ok (.aload_n 2, 1) := by decide +kernel
theorem dJ7_copyOf_59c91_21 : decode cJ7_copyOf_59c91 21 = .ok (.iconst 0, 1) := by decide +kernel
theorem dJ7_copyOf_59c91_22 : decode cJ7_copyOf_59c91 22 = .ok (.aload_n 0, 1) := by decide +kernel
theorem dJ7_copyOf_59c91_23 : decode cJ7_copyOf_59c91 23 = .ok (.arraylength, 1) := by decide +kernel
theorem dJ7_copyOf_59c91_24 : decode cJ7_copyOf_59c91 24 = .ok (.iload_n 1, 1) := by decide +kernel
theorem dJ7_copyOf_59c91_25 : decode cJ7_copyOf_59c91 25 = .ok (.invokestatic 304, 3) := by decide +kernel
theorem dJ7_copyOf_59c91_28 : decode cJ7_copyOf_59c91 28 = .ok (.invokestatic 150, 3) := by decide +kernel
theorem dJ7_copyOf_59c91_31 : decode cJ7_copyOf_59c91 31 = .ok (.aload_n 2, 1) := by decide +kernel
theorem dJ7_copyOf_59c91_32 : decode cJ7_copyOf_59c91 32 = .ok (.areturn, 1) := by decide +kernel
theorem dJ3_checkIndex_8e157_0 : decode cJ3_checkIndex_8e157 0 = .ok (.iload_n 0, 1) := by decide +kernel
theorem dJ3_checkIndex_8e157_1 : decode cJ3_checkIndex_8e157 1 = .ok (.ifCond .lt 8, 3) := by decide +kernel
theorem dJ3_checkIndex_8e157_4 : decode cJ3_checkIndex_8e157 4 = .ok (.iload_n 0, 1) := by decide +kernel
theorem dJ3_checkIndex_8e157_5 : decode cJ3_checkIndex_8e157 5 = .ok (.iload_n 1, 1) := by decide +kernel
theorem dJ3_checkIndex_8e157_6 : decode cJ3_checkIndex_8e157 6 = .ok (.if_icmp .lt 10, 3) := by decide +kernel
theorem dJ3_checkIndex_8e157_9 : decode cJ3_checkIndex_8e157 9 = .ok (.aload_n 2, 1) := by decide +kernel
theorem dJ3_checkIndex_8e157_10 : decode cJ3_checkIndex_8e157 10 = .ok (.iload_n 0, 1) := by decide +kernel
theorem dJ3_checkIndex_8e157_11 : decode cJ3_checkIndex_8e157 11 = .ok (.iload_n 1, 1) := by decide +kernel
theorem dJ3_checkIndex_8e157_12 : decode cJ3_checkIndex_8e157 12 = .ok (.invokestatic 95, 3) := by decide +kernel
theorem dJ3_checkIndex_8e157_15 : decode cJ3_checkIndex_8e157 15 = .ok (.athrow, 1) := by decide +kernel
theorem dJ3_checkIndex_8e157_16 : decode cJ3_checkIndex_8e157 16 = .ok (.iload_n 0, 1) := by decide +kernel
theorem dJ3_checkIndex_8e157_17 : decode cJ3_checkIndex_8e157 17 = .ok (.ireturn, 1) := by decide +kernel
