theorem dX0_init_0 : decode cX0_init 0 = .ok (.aload_n 0, 1) := by decide +kernel
theorem dX0_init_1 : decode cX0_init 1 = .ok (.invokespecial 3, 3) := by decide +kernel
theorem dX0_init_4 : decode cX0_init 4 = .ok (.aload_n 0, 1) := by decide +kernel
theorem dX0_init_5 : decode cX0_init 5 = .ok (.bipush 6, 2) := by decide +kernel
theorem dX0_init_7 : decode cX0_init 7 = .ok (.newarray .int, 2) := by decide +kernel
theorem dX0_init_9 : decode cX0_init 9 = .ok (.putfield 9, 3) := by decide +kernel
theorem dX0_init_12 : decode cX0_init 12 = .ok (.aload_n 0, 1) := by decide +kernel
theorem dX0_init_13 : decode cX0_init 13 = .ok (.iconst 4, 1) := by decide +kernel
theorem dX0_init_14 : decode cX0_init 14 = .ok (.newarray .int, 2) := by decide +kernel
theorem dX0_init_16 : decode cX0_init 16 = .ok (.putfield 15, 3) := by decide +kernel
theorem dX0_init_19 : decode cX0_init 19 = .ok (.aload_n 0, 1) := by decide +kernel
theorem dX0_init_20 : decode cX0_init 20 = .ok (.iconst 4, 1) := by decide +kernel
theorem dX0_init_21 : decode cX0_init 21 = .ok (.newarray .int, 2) := by decide +kernel
theorem dX0_init_23 : decode cX0_init 23 = .ok (.putfield 18, 3) := by decide +kernel
theorem dX0_init_26 : decode cX0_init 26 = .ok (.aload_n 0, 1) := by decide +kernel
theorem dX0_init_27 : decode cX0_init 27 = .ok (.iconst 4, 1) := by decide +kernel
theorem dX0_init_28 : decode cX0_init 28 = .ok (.newarray .int, 2) := by decide +kernel
theorem dX0_init_30 : decode cX0_init 30 = .ok (.putfield 21, 3) := by decide +kernel
theorem dX0_init_33 : decode cX0_init 33 = .ok (.aload_n 0, 1) := by decide +kernel
theorem dX0_init_34 : decode cX0_init 34 = .ok (.iconst 4, 1) := by decide +kernel
theorem dX0_init_35 : decode cX0_init 35 = .ok (.newarray .int, 2) := by decide +kernel
theorem dX0_init_37 : decode cX0_init 37 = .ok (.putfield 24, 3) := by decide +kernel
theorem dX0_init_40 : decode cX0_init 40 = .ok (.return_, 1) := by decide +kernel
set_option maxRecDepth 20000 in
theorem ggX0_takeText_X3_digitAt : GoodIn wsX0_takeText wsX3_digitAt := goodIn_r _ [12, 13, 14, 15, 16, 17, 18, 19, 20, 21, 42, 43, 44] (by decide +kernel) (by decide +kernel)
set_option maxRecDepth 20000 in
theorem gX0_takeText_X3_digitAt : GoodIn wsX0_takeText (va_wsS RX0 27 yX3_digitAt wsX3_digitAt) := goodIn_app (goodIn_of _ (by decide +kernel)) ggX0_takeText_X3_digitAt
set_option maxRecDepth 20000 in
theorem ggX0_takeText_X3_isDigitAt : GoodIn wsX0_takeText wsX3_isDigitAt := goodIn_r _ [24, 13, 14, 15, 16, 17, 18, 19, 20, 21, 25, 26, 11, 27, 42, 43, 44] (by decide +kernel) (by decide +kernel)
set_option maxRecDepth 20000 in
theorem gX0_takeText_X3_isDigitAt : GoodIn wsX0_takeText (va_wsS RX0 43 yX3_isDigitAt wsX3_isDigitAt) := goodIn_app (goodIn_of _ (by decide +kernel)) ggX0_takeText_X3_isDigitAt
set_option maxRecDepth 20000 in
theorem ggX0_takeText_X4_changeIn : GoodIn wsX0_takeText wsX4_changeIn := goodIn_r _ [29] (by decide +kernel) (by decide +kernel)
set_option maxRecDepth 20000 in
theorem gX0_takeText_X4_changeIn_n47 : GoodIn wsX0_takeText (wsX4_changeIn) := ggX0_takeText_X4_changeIn
set_option maxRecDepth 20000 in
theorem ggX0_takeText_X2_numberAt : GoodIn wsX0_takeText wsX2_numberAt := goodIn_r _ [17, 18, 19, 20, 21, 42, 43, 44] (by decide +kernel) (by decide +kernel)
set_option maxRecDepth 20000 in
theorem gX0_takeText_X2_numberAt : GoodIn wsX0_takeText (wsV RX0 51 RX2 yX2_numberAt wsX2_numberAt) := goodIn_app (goodIn_of _ (by decide +kernel)) ggX0_takeText_X2_numberAt
set_option maxRecDepth 20000 in
theorem ggX0_takeText_X3_kindByLetter : GoodIn wsX0_takeText wsX3_kindByLetter := goodIn_r _ [33] (by decide +kernel) (by decide +kernel)
set_option maxRecDepth 20000 in
theorem gX0_takeText_X3_kindByLetter : GoodIn wsX0_takeText (va_wsS RX0 57 yX3_kindByLetter wsX3_kindByLetter) := goodIn_app (goodIn_of _ (by decide +kernel)) ggX0_takeText_X3_kindByLetter
theorem dX0_takeText_0 : decode cX0_takeText 0 = .ok (.aload_n 0, 1) := by decide +kernel
theorem dX0_takeText_1 : decode cX0_takeText 1 = .ok (.aload_n 1, 1) := by decide +kernel
theorem dX0_takeText_2 : decode cX0_takeText 2 = .ok (.iload_n 2, 1) := by decide +kernel
theorem dX0_takeText_3 : decode cX0_takeText 3 = .ok (.iconst 1, 1) := by decide +kernel
theorem dX0_takeText_4 : decode cX0_takeText 4 = .ok (.iadd, 1) := by decide +kernel
theorem dX0_takeText_5 : decode cX0_takeText 5 = .ok (.invokestatic 27, 3) := by decide +kernel
theorem dX0_takeText_8 : decode cX0_takeText 8 = .ok (.putfield 33, 3) := by decide +kernel
theorem dX0_takeText_11 : decode cX0_takeText 11 = .ok (.aload_n 0, 1) := by decide +kernel
theorem dX0_takeText_12 : decode cX0_takeText 12 = .ok (.iconst 0, 1) := by decide +kernel
theorem dX0_takeText_13 : decode cX0_takeText 13 = .ok (.putfield 37, 3) := by decide +kernel
theorem dX0_takeText_16 : decode cX0_takeText 16 = .ok (.aload_n 0, 1) := by decide +kernel
theorem dX0_takeText_17 : decode cX0_takeText 17 = .ok (.iconst 0, 1) := by decide +kernel
theorem dX0_takeText_18 : decode cX0_takeText 18 = .ok (.putfield 40, 3) := by decide +kernel
theorem dX0_takeText_21 : decode cX0_takeText 21 = .ok (.iconst 3, 1) := by decide +kernel
theorem dX0_takeText_22 : decode cX0_takeText 22 = .ok (.istore 4, 2) := by decide +kernel
theorem dX0_takeText_24 : decode cX0_takeText 24 = .ok (.iload 4, 2) := by decide +kernel
theorem dX0_takeText_26 : decode cX0_takeText 26 = .ok (.iload_n 3, 1) := by decide +kernel
theorem dX0_takeText_27 : decode cX0_takeText 27 = .ok (.if_icmp .ge 58, 3) := by decide +kernel
theorem dX0_takeText_30 : decode cX0_takeText 30 = .ok (.aload_n 0, 1) := by decide +kernel
theorem dX0_takeText_31 : decode cX0_takeText 31 = .ok (.getfield 37, 3) := by decide +kernel
theorem dX0_takeText_34 : decode cX0_takeText 34 = .ok (.bipush 6, 2) := by decide +kernel
theorem dX0_takeText_36 : decode cX0_takeText 36 = .ok (.if_icmp .ge 49, 3) := by decide +kernel
theorem dX0_takeText_39 : decode cX0_takeText 39 = .ok (.aload_n 1, 1) := by decide +kernel
theorem dX0_takeText_40 : decode cX0_takeText 40 = .ok (.iload_n 2, 1) := by decide +kernel
theorem dX0_takeText_41 : decode cX0_takeText 41 = .ok (.iload 4, 2) := by decide +kernel
theorem dX0_takeText_43 : decode cX0_takeText 43 = .ok (.iadd, 1) := by decide +kernel
theorem dX0_takeText_44 : decode cX0_takeText 44 = .ok (.invokestatic 43, 3) := by decide +kernel
theorem dX0_takeText_47 : decode cX0_takeText 47 = .ok (.ifCond .eq 38, 3) := by decide +kernel
theorem dX0_takeText_50 : decode cX0_takeText 50 = .ok (.aload_n 0, 1) := by decide +kernel
theorem dX0_takeText_51 : decode cX0_takeText 51 = .ok (.getfield 9, 3) := by decide +kernel
theorem dX0_takeText_54 : decode cX0_takeText 54 = .ok (.aload_n 0, 1) := by decide +kernel
theorem dX0_takeText_55 : decode cX0_takeText 55 = .ok (.getfield 37, 3) := by decide +kernel
theorem dX0_takeText_58 : decode cX0_takeText 58 = .ok (.aload_n 1, 1) := by decide +kernel
theorem dX0_takeText_59 : decode cX0_takeText 59 = .ok (.iload_n 2, 1) := by decide +kernel
theorem dX0_takeText_60 : decode cX0_takeText 60 = .ok (.iload 4, 2) := by decide +kernel
theorem dX0_takeText_62 : decode cX0_takeText 62 = .ok (.iadd, 1) := by decide +kernel
theorem dX0_takeText_63 : decode cX0_takeText 63 = .ok (.invokestatic 27, 3) := by decide +kernel
theorem dX0_takeText_66 : decode cX0_takeText 66 = .ok (.invokestatic 47, 3) := by decide +kernel
theorem dX0_takeText_69 : decode cX0_takeText 69 = .ok (.aload_n 0, 1) := by decide +kernel
theorem dX0_takeText_70 : decode cX0_takeText 70 = .ok (.dup, 1) := by decide +kernel
theorem dX0_takeText_71 : decode cX0_takeText 71 = .ok (.getfield 37, 3) := by decide +kernel
theorem dX0_takeText_74 : decode cX0_takeText 74 = .ok (.iconst 1, 1) := by decide +kernel
theorem dX0_takeText_75 : decode cX0_takeText 75 = .ok (.iadd, 1) := by decide +kernel
theorem dX0_takeText_76 : decode cX0_takeText 76 = .ok (.putfield 37, 3) := by decide +kernel
theorem dX0_takeText_79 : decode cX0_takeText 79 = .ok (.iinc 4 1, 3) := by decide +kernel
theorem dX0_takeText_82 : decode cX0_takeText 82 = .ok (.goto (-58), 3) := by decide +kernel
theorem dX0_takeText_85 : decode cX0_takeText 85 = .ok (.iload 4, 2) := by decide +kernel
theorem dX0_takeText_87 : decode cX0_takeText 87 = .ok (.iconst 4, 1) := by decide +kernel
theorem dX0_takeText_88 : decode cX0_takeText 88 = .ok (.iadd, 1) := by decide +kernel
theorem dX0_takeText_89 : decode cX0_takeText 89 = .ok (.iload_n 3, 1) := by decide +kernel
theorem dX0_takeText_90 : decode cX0_takeText 90 = .ok (.if_icmp .ge 114, 3) := by decide +kernel
theorem dX0_takeText_93 : decode cX0_takeText 93 = .ok (.aload_n 0, 1) := by decide +kernel
theorem dX0_takeText_94 : decode cX0_takeText 94 = .ok (.getfield 40, 3) := by decide +kernel
theorem dX0_takeText_97 : decode cX0_takeText 97 = .ok (.iconst 4, 1) := by decide +kernel
theorem dX0_takeText_98 : decode cX0_takeText 98 = .ok (.if_icmp .ge 106, 3) := by decide +kernel
theorem dX0_takeText_101 : decode cX0_takeText 101 = .ok (.aload_n 0, 1) := by decide +kernel
theorem dX0_takeText_102 : decode cX0_takeText 102 = .ok (.getfield 15, 3) := by decide +kernel
theorem dX0_takeText_105 : decode cX0_takeText 105 = .ok (.aload_n 0, 1) := by decide +kernel
theorem dX0_takeText_106 : decode cX0_takeText 106 = .ok (.getfield 40, 3) := by decide +kernel
theorem dX0_takeText_109 : decode cX0_takeText 109 = .ok (.aload_n 1, 1) := by decide +kernel
theorem dX0_takeText_110 : decode cX0_takeText 110 = .ok (.iload_n 2, 1) := by decide +kernel
theorem dX0_takeText_111 : decode cX0_takeText 111 = .ok (.iload 4, 2) := by decide +kernel
theorem dX0_takeText_113 : decode cX0_takeText 113 = .ok (.iadd, 1) := by decide +kernel
theorem dX0_takeText_114 : decode cX0_takeText 114 = .ok (.iconst 1, 1) := by decide +kernel
theorem dX0_takeText_115 : decode cX0_takeText 115 = .ok (.iadd, 1) := by decide +kernel
theorem dX0_takeText_116 : decode cX0_takeText 116 = .ok (.invokevirtual 51, 3) := by decide +kernel
theorem dX0_takeText_119 : decode cX0_takeText 119 = .ok (.invokestatic 57, 3) := by decide +kernel
theorem dX0_takeText_122 : decode cX0_takeText 122 = .ok (.invokestatic 47, 3) := by decide +kernel
theorem dX0_takeText_125 : decode cX0_takeText 125 = .ok (.aload_n 0, 1) := by decide +kernel
theorem dX0_takeText_126 : decode cX0_takeText 126 = .ok (.getfield 18, 3) := by decide +kernel
theorem dX0_takeText_129 : decode cX0_takeText 129 = .ok (.aload_n 0, 1) := by decide +kernel
theorem dX0_takeText_130 : decode cX0_takeText 130 = .ok (.getfield 40, 3) := by decide +kernel
theorem dX0_takeText_133 : decode cX0_takeText 133 = .ok (.aload_n 1, 1) := by decide +kernel
theorem dX0_takeText_134 : decode cX0_takeText 134 = .ok (.iload_n 2, 1) := by decide +kernel
theorem dX0_takeText_135 : decode cX0_takeText 135 = .ok (.iload 4, 2) := by decide +kernel
theorem dX0_takeText_137 : decode cX0_takeText 137 = .ok (.iadd, 1) := by decide +kernel
theorem dX0_takeText_138 : decode cX0_takeText 138 = .ok (.iconst 2, 1) := by decide +kernel
theorem dX0_takeText_139 : decode cX0_takeText 139 = .ok (.iadd, 1) := by decide +kernel
theorem dX0_takeText_140 : decode cX0_takeText 140 = .ok (.invokestatic 27, 3) := by decide +kernel
theorem dX0_takeText_143 : decode cX0_takeText 143 = .ok (.invokestatic 47, 3) := by decide +kernel
theorem dX0_takeText_146 : decode cX0_takeText 146 = .ok (.aload_n 0, 1) := by decide +kernel
theorem dX0_takeText_147 : decode cX0_takeText 147 = .ok (.getfield 21, 3) := by decide +kernel
theorem dX0_takeText_150 : decode cX0_takeText 150 = .ok (.aload_n 0, 1) := by decide +kernel
theorem dX0_takeText_151 : decode cX0_takeText 151 = .ok (.getfield 40, 3) := by decide +kernel
theorem dX0_takeText_154 : decode cX0_takeText 154 = .ok (.aload_n 1, 1) := by decide +kernel
theorem dX0_takeText_155 : decode cX0_takeText 155 = .ok (.iload_n 2, 1) := by decide +kernel
theorem dX0_takeText_156 : decode cX0_takeText 156 = .ok (.iload 4, 2) := by decide +kernel
theorem dX0_takeText_158 : decode cX0_takeText 158 = .ok (.iadd, 1) := by decide +kernel
theorem dX0_takeText_159 : decode cX0_takeText 159 = .ok (.iconst 3, 1) := by decide +kernel
theorem dX0_takeText_160 : decode cX0_takeText 160 = .ok (.iadd, 1) := by decide +kernel
theorem dX0_takeText_161 : decode cX0_takeText 161 = .ok (.invokestatic 27, 3) := by decide +kernel
theorem dX0_takeText_164 : decode cX0_takeText 164 = .ok (.invokestatic 47, 3) := by decide +kernel
theorem dX0_takeText_167 : decode cX0_takeText 167 = .ok (.aload_n 0, 1) := by decide +kernel
theorem dX0_takeText_168 : decode cX0_takeText 168 = .ok (.getfield 24, 3) := by decide +kernel
theorem dX0_takeText_171 : decode cX0_takeText 171 = .ok (.aload_n 0, 1) := by decide +kernel
theorem dX0_takeText_172 : decode cX0_takeText 172 = .ok (.getfield 40, 3) := by decide +kernel
theorem dX0_takeText_175 : decode cX0_takeText 175 = .ok (.aload_n 1, 1) := by decide +kernel
theorem dX0_takeText_176 : decode cX0_takeText 176 = .ok (.iload_n 2, 1) := by decide +kernel
theorem dX0_takeText_177 : decode cX0_takeText 177 = .ok (.iload 4, 2) := by decide +kernel
theorem dX0_takeText_179 : decode cX0_takeText 179 = .ok (.iadd, 1) := by decide +kernel
theorem dX0_takeText_180 : decode cX0_takeText 180 = .ok (.iconst 4, 1) := by decide +kernel
theorem dX0_takeText_181 : decode cX0_takeText 181 = .ok (.iadd, 1) := by decide +kernel
theorem dX0_takeText_182 : decode cX0_takeText 182 = .ok (.invokestatic 27, 3) := by decide +kernel
theorem dX0_takeText_185 : decode cX0_takeText 185 = .ok (.invokestatic 47, 3) := by decide +kernel
theorem dX0_takeText_188 : decode cX0_takeText 188 = .ok (.aload_n 0, 1) := by decide +kernel
theorem dX0_takeText_189 : decode cX0_takeText 189 = .ok (.dup, 1) := by decide +kernel
theorem dX0_takeText_190 : decode cX0_takeText 190 = .ok (.getfield 40, 3) := by decide +kernel
theorem dX0_takeText_193 : decode cX0_takeText 193 = .ok (.iconst 1, 1) := by decide +kernel
theorem dX0_takeText_194 : decode cX0_takeText 194 = .ok (.iadd, 1) := by decide +kernel
theorem dX0_takeText_195 : decode cX0_takeText 195 = .ok (.putfield 40, 3) := by decide +kernel
theorem dX0_takeText_198 : decode cX0_takeText 198 = .ok (.iinc 4 5, 3) := by decide +kernel
theorem dX0_takeText_201 : decode cX0_takeText 201 = .ok (.goto (-116), 3) := by decide +kernel
theorem dX0_takeText_204 : decode cX0_takeText 204 = .ok (.return_, 1) := by decide +kernel
theorem dX0_isTold_0 : decode cX0_isTold 0 = .ok (.aload_n 0, 1) := by decide +kernel
theorem dX0_isTold_1 : decode cX0_isTold 1 = .ok (.getfield 40, 3) := by decide +kernel
theorem dX0_isTold_4 : decode cX0_isTold 4 = .ok (.ifCond .le 7, 3) := by decide +kernel
theorem dX0_isTold_7 : decode cX0_isTold 7 = .ok (.iconst 1, 1) := by decide +kernel
theorem dX0_isTold_8 : decode cX0_isTold 8 = .ok (.goto 4, 3) := by decide +kernel
theorem dX0_isTold_11 : decode cX0_isTold 11 = .ok (.iconst 0, 1) := by decide +kernel
theorem dX0_isTold_12 : decode cX0_isTold 12 = .ok (.ireturn, 1) := by decide +kernel
theorem dX0_eaterCount_0 : decode cX0_eaterCount 0 = .ok (.aload_n 0, 1) := by decide +kernel
theorem dX0_eaterCount_1 : decode cX0_eaterCount 1 = .ok (.getfield 40, 3) := by decide +kernel
theorem dX0_eaterCount_4 : decode cX0_eaterCount 4 = .ok (.ireturn, 1) := by decide +kernel
theorem dX0_dayCount_0 : decode cX0_dayCount 0 = .ok (.aload_n 0, 1) := by decide +kernel
theorem dX0_dayCount_1 : decode cX0_dayCount 1 = .ok (.getfield 37, 3) := by decide +kernel
theorem dX0_dayCount_4 : decode cX0_dayCount 4 = .ok (.ireturn, 1) := by decide +kernel
theorem dX0_hasEater_0 : decode cX0_hasEater 0 = .ok (.iload_n 1, 1) := by decide +kernel
theorem dX0_hasEater_1 : decode cX0_hasEater 1 = .ok (.ifCond .lt 15, 3) := by decide +kernel
theorem dX0_hasEater_4 : decode cX0_hasEater 4 = .ok (.iload_n 1, 1) := by decide +kernel
theorem dX0_hasEater_5 : decode cX0_hasEater 5 = .ok (.aload_n 0, 1) := by decide +kernel
theorem dX0_hasEater_6 : decode cX0_hasEater 6 = .ok (.getfield 40, 3) := by decide +kernel
theorem dX0_hasEater_9 : decode cX0_hasEater 9 = .ok (.if_icmp .ge 7, 3) := by decide +kernel
theorem dX0_hasEater_12 : decode cX0_hasEater 12 = .ok (.iconst 1, 1) := by decide +kernel
theorem dX0_hasEater_13 : decode cX0_hasEater 13 = .ok (.goto 4, 3) := by decide +kernel
theorem dX0_hasEater_16 : decode cX0_hasEater 16 = .ok (.iconst 0, 1) := by decide +kernel
theorem dX0_hasEater_17 : decode cX0_hasEater 17 = .ok (.ireturn, 1) := by decide +kernel
theorem dX0_hasDay_0 : decode cX0_hasDay 0 = .ok (.iload_n 1, 1) := by decide +kernel
theorem dX0_hasDay_1 : decode cX0_hasDay 1 = .ok (.ifCond .lt 15, 3) := by decide +kernel
theorem dX0_hasDay_4 : decode cX0_hasDay 4 = .ok (.iload_n 1, 1) := by decide +kernel
theorem dX0_hasDay_5 : decode cX0_hasDay 5 = .ok (.aload_n 0, 1) := by decide +kernel
theorem dX0_hasDay_6 : decode cX0_hasDay 6 = .ok (.getfield 37, 3) := by decide +kernel
theorem dX0_hasDay_9 : decode cX0_hasDay 9 = .ok (.if_icmp .ge 7, 3) := by decide +kernel
theorem dX0_hasDay_12 : decode cX0_hasDay 12 = .ok (.iconst 1, 1) := by decide +kernel
theorem dX0_hasDay_13 : decode cX0_hasDay 13 = .ok (.goto 4, 3) := by decide +kernel
theorem dX0_hasDay_16 : decode cX0_hasDay 16 = .ok (.iconst 0, 1) := by decide +kernel
theorem dX0_hasDay_17 : decode cX0_hasDay 17 = .ok (.ireturn, 1) := by decide +kernel
set_option maxRecDepth 20000 in
theorem ggX0_hasDays_X0_allDays : GoodIn wsX0_hasDays wsX0_allDays := goodIn_r _ [5, 6, 7, 8, 9, 10, 11, 12, 13, 14] (by decide +kernel) (by decide +kernel)
set_option maxRecDepth 20000 in
theorem gX0_hasDays_X0_allDays : GoodIn wsX0_hasDays (wsV RX0 60 RX0 yX0_allDays wsX0_allDays) := goodIn_app (goodIn_of _ (by decide +kernel)) ggX0_hasDays_X0_allDays
theorem dX0_hasDays_0 : decode cX0_hasDays 0 = .ok (.iload_n 1, 1) := by decide +kernel
theorem dX0_hasDays_1 : decode cX0_hasDays 1 = .ok (.ifCond .lt 15, 3) := by decide +kernel
theorem dX0_hasDays_4 : decode cX0_hasDays 4 = .ok (.iload_n 1, 1) := by decide +kernel
theorem dX0_hasDays_5 : decode cX0_hasDays 5 = .ok (.aload_n 0, 1) := by decide +kernel
theorem dX0_hasDays_6 : decode cX0_hasDays 6 = .ok (.invokevirtual 60, 3) := by decide +kernel
theorem dX0_hasDays_9 : decode cX0_hasDays 9 = .ok (.if_icmp .gt 7, 3) := by decide +kernel
theorem dX0_hasDays_12 : decode cX0_hasDays 12 = .ok (.iconst 1, 1) := by decide +kernel
theorem dX0_hasDays_13 : decode cX0_hasDays 13 = .ok (.goto 4, 3) := by decide +kernel
theorem dX0_hasDays_16 : decode cX0_hasDays 16 = .ok (.iconst 0, 1) := by decide +kernel
theorem dX0_hasDays_17 : decode cX0_hasDays 17 = .ok (.ireturn, 1) := by decide +kernel
theorem dX0_allDays_0 : decode cX0_allDays 0 = .ok (.iconst 1, 1) := by decide +kernel
theorem dX0_allDays_1 : decode cX0_allDays 1 = .ok (.aload_n 0, 1) := by decide +kernel
theorem dX0_allDays_2 : decode cX0_allDays 2 = .ok (.getfield 37, 3) := by decide +kernel
theorem dX0_allDays_5 : decode cX0_allDays 5 = .ok (.ishl, 1) := by decide +kernel
theorem dX0_allDays_6 : decode cX0_allDays 6 = .ok (.iconst 1, 1) := by decide +kernel
theorem dX0_allDays_7 : decode cX0_allDays 7 = .ok (.isub, 1) := by decide +kernel
theorem dX0_allDays_8 : decode cX0_allDays 8 = .ok (.ireturn, 1) := by decide +kernel
set_option maxRecDepth 20000 in
theorem ggX0_kindOf_X4_numberIn : GoodIn wsX0_kindOf wsX4_numberIn := goodIn_r _ [4] (by decide +kernel) (by decide +kernel)
set_option maxRecDepth 20000 in
theorem gX0_kindOf_X4_numberIn_n64 : GoodIn wsX0_kindOf (wsX4_numberIn) := ggX0_kindOf_X4_numberIn
theorem dX0_kindOf_0 : decode cX0_kindOf 0 = .ok (.aload_n 0, 1) := by decide +kernel
theorem dX0_kindOf_1 : decode cX0_kindOf 1 = .ok (.getfield 15, 3) := by decide +kernel
theorem dX0_kindOf_4 : decode cX0_kindOf 4 = .ok (.iload_n 1, 1) := by decide +kernel
theorem dX0_kindOf_5 : decode cX0_kindOf 5 = .ok (.invokestatic 64, 3) := by decide +kernel
theorem dX0_kindOf_8 : decode cX0_kindOf 8 = .ok (.ireturn, 1) := by decide +kernel
set_option maxRecDepth 20000 in
theorem ggX0_stayOf_X4_numberIn : GoodIn wsX0_stayOf wsX4_numberIn := goodIn_r _ [4] (by decide +kernel) (by decide +kernel)
set_option maxRecDepth 20000 in
theorem gX0_stayOf_X4_numberIn_n64 : GoodIn wsX0_stayOf (wsX4_numberIn) := ggX0_stayOf_X4_numberIn
theorem dX0_stayOf_0 : decode cX0_stayOf 0 = .ok (.aload_n 0, 1) := by decide +kernel
theorem dX0_stayOf_1 : decode cX0_stayOf 1 = .ok (.getfield 18, 3) := by decide +kernel
theorem dX0_stayOf_4 : decode cX0_stayOf 4 = .ok (.iload_n 1, 1) := by decide +kernel
theorem dX0_stayOf_5 : decode cX0_stayOf 5 = .ok (.invokestatic 64, 3) := by decide +kernel
theorem dX0_stayOf_8 : decode cX0_stayOf 8 = .ok (.ireturn, 1) := by decide +kernel
set_option maxRecDepth 20000 in
theorem ggX0_spoonsOf_X4_numberIn : GoodIn wsX0_spoonsOf wsX4_numberIn := goodIn_r _ [4] (by decide +kernel) (by decide +kernel)
set_option maxRecDepth 20000 in
theorem gX0_spoonsOf_X4_numberIn_n64 : GoodIn wsX0_spoonsOf (wsX4_numberIn) := ggX0_spoonsOf_X4_numberIn
theorem dX0_spoonsOf_0 : decode cX0_spoonsOf 0 = .ok (.aload_n 0, 1) := by decide +kernel
theorem dX0_spoonsOf_1 : decode cX0_spoonsOf 1 = .ok (.getfield 21, 3) := by decide +kernel
theorem dX0_spoonsOf_4 : decode cX0_spoonsOf 4 = .ok (.iload_n 1, 1) := by decide +kernel
theorem dX0_spoonsOf_5 : decode cX0_spoonsOf 5 = .ok (.invokestatic 64, 3) := by decide +kernel
theorem dX0_spoonsOf_8 : decode cX0_spoonsOf 8 = .ok (.ireturn, 1) := by decide +kernel
set_option maxRecDepth 20000 in
theorem ggX0_needOf_X4_numberIn : GoodIn wsX0_needOf wsX4_numberIn := goodIn_r _ [4] (by decide +kernel) (by decide +kernel)
set_option maxRecDepth 20000 in
theorem gX0_needOf_X4_numberIn_n64 : GoodIn wsX0_needOf (wsX4_numberIn) := ggX0_needOf_X4_numberIn
theorem dX0_needOf_0 : decode cX0_needOf 0 = .ok (.aload_n 0, 1) := by decide +kernel
theorem dX0_needOf_1 : decode cX0_needOf 1 = .ok (.getfield 24, 3) := by decide +kernel
theorem dX0_needOf_4 : decode cX0_needOf 4 = .ok (.iload_n 1, 1) := by decide +kernel
theorem dX0_needOf_5 : decode cX0_needOf 5 = .ok (.invokestatic 64, 3) := by decide +kernel
theorem dX0_needOf_8 : decode cX0_needOf 8 = .ok (.ireturn, 1) := by decide +kernel
set_option maxRecDepth 20000 in
theorem ggX0_changeNeed_X4_changeIn : GoodIn wsX0_changeNeed wsX4_changeIn := goodIn_r _ [4] (by decide +kernel) (by decide +kernel)
set_option maxRecDepth 20000 in
theorem gX0_changeNeed_X4_changeIn_n47 : GoodIn wsX0_changeNeed (wsX4_changeIn) := ggX0_changeNeed_X4_changeIn
theorem dX0_changeNeed_0 : decode cX0_changeNeed 0 = .ok (.aload_n 0, 1) := by decide +kernel
theorem dX0_changeNeed_1 : decode cX0_changeNeed 1 = .ok (.getfield 24, 3) := by decide +kernel
theorem dX0_changeNeed_4 : decode cX0_changeNeed 4 = .ok (.iload_n 1, 1) := by decide +kernel
theorem dX0_changeNeed_5 : decode cX0_changeNeed 5 = .ok (.iload_n 2, 1) := by decide +kernel
theorem dX0_changeNeed_6 : decode cX0_changeNeed 6 = .ok (.invokestatic 47, 3) := by decide +kernel
theorem dX0_changeNeed_9 : decode cX0_changeNeed 9 = .ok (.return_, 1) := by decide +kernel
set_option maxRecDepth 20000 in
theorem ggX0_lastsOf_X4_numberIn : GoodIn wsX0_lastsOf wsX4_numberIn := goodIn_r _ [5] (by decide +kernel) (by decide +kernel)
set_option maxRecDepth 20000 in
theorem gX0_lastsOf_X4_numberIn_n64 : GoodIn wsX0_lastsOf (wsX4_numberIn) := ggX0_lastsOf_X4_numberIn
set_option maxRecDepth 20000 in
theorem ggX0_lastsOf_X0_lastsBy : GoodIn wsX0_lastsOf wsX0_lastsBy := goodIn_r _ [9] (by decide +kernel) (by decide +kernel)
set_option maxRecDepth 20000 in
theorem gX0_lastsOf_X0_lastsBy : GoodIn wsX0_lastsOf (va_wsS RX0 68 yX0_lastsBy wsX0_lastsBy) := goodIn_app (goodIn_of _ (by decide +kernel)) ggX0_lastsOf_X0_lastsBy
theorem dX0_lastsOf_0 : decode cX0_lastsOf 0 = .ok (.aload_n 0, 1) := by decide +kernel
theorem dX0_lastsOf_1 : decode cX0_lastsOf 1 = .ok (.getfield 15, 3) := by decide +kernel
theorem dX0_lastsOf_4 : decode cX0_lastsOf 4 = .ok (.iload_n 1, 1) := by decide +kernel
theorem dX0_lastsOf_5 : decode cX0_lastsOf 5 = .ok (.invokestatic 64, 3) := by decide +kernel
theorem dX0_lastsOf_8 : decode cX0_lastsOf 8 = .ok (.aload_n 0, 1) := by decide +kernel
theorem dX0_lastsOf_9 : decode cX0_lastsOf 9 = .ok (.getfield 18, 3) := by decide +kernel
theorem dX0_lastsOf_12 : decode cX0_lastsOf 12 = .ok (.iload_n 1, 1) := by decide +kernel
theorem dX0_lastsOf_13 : decode cX0_lastsOf 13 = .ok (.invokestatic 64, 3) := by decide +kernel
theorem dX0_lastsOf_16 : decode cX0_lastsOf 16 = .ok (.invokestatic 68, 3) := by decide +kernel
theorem dX0_lastsOf_19 : decode cX0_lastsOf 19 = .ok (.ireturn, 1) := by decide +kernel
theorem dX0_lastsBy_0 : decode cX0_lastsBy 0 = .ok (.iload_n 0, 1) := by decide +kernel
theorem dX0_lastsBy_1 : decode cX0_lastsBy 1 = .ok (.ifCond .ne 5, 3) := by decide +kernel
theorem dX0_lastsBy_4 : decode cX0_lastsBy 4 = .ok (.iload_n 1, 1) := by decide +kernel
theorem dX0_lastsBy_5 : decode cX0_lastsBy 5 = .ok (.ireturn, 1) := by decide +kernel
theorem dX0_lastsBy_6 : decode cX0_lastsBy 6 = .ok (.iload_n 1, 1) := by decide +kernel
theorem dX0_lastsBy_7 : decode cX0_lastsBy 7 = .ok (.ifCond .le 9, 3) := by decide +kernel
theorem dX0_lastsBy_10 : decode cX0_lastsBy 10 = .ok (.iload_n 1, 1) := by decide +kernel
theorem dX0_lastsBy_11 : decode cX0_lastsBy 11 = .ok (.iconst 1, 1) := by decide +kernel
theorem dX0_lastsBy_12 : decode cX0_lastsBy 12 = .ok (.isub, 1) := by decide +kernel
theorem dX0_lastsBy_13 : decode cX0_lastsBy 13 = .ok (.goto 4, 3) := by decide +kernel
theorem dX0_lastsBy_16 : decode cX0_lastsBy 16 = .ok (.iconst 0, 1) := by decide +kernel
theorem dX0_lastsBy_17 : decode cX0_lastsBy 17 = .ok (.istore_n 2, 1) := by decide +kernel
theorem dX0_lastsBy_18 : decode cX0_lastsBy 18 = .ok (.iload_n 0, 1) := by decide +kernel
theorem dX0_lastsBy_19 : decode cX0_lastsBy 19 = .ok (.iconst 1, 1) := by decide +kernel
theorem dX0_lastsBy_20 : decode cX0_lastsBy 20 = .ok (.if_icmp .ne 7, 3) := by decide +kernel
theorem dX0_lastsBy_23 : decode cX0_lastsBy 23 = .ok (.iload_n 2, 1) := by decide +kernel
theorem dX0_lastsBy_24 : decode cX0_lastsBy 24 = .ok (.goto 6, 3) := by decide +kernel
theorem dX0_lastsBy_27 : decode cX0_lastsBy 27 = .ok (.iload_n 2, 1) := by decide +kernel
theorem dX0_lastsBy_28 : decode cX0_lastsBy 28 = .ok (.iconst 2, 1) := by decide +kernel
theorem dX0_lastsBy_29 : decode cX0_lastsBy 29 = .ok (.idiv, 1) := by decide +kernel
theorem dX0_lastsBy_30 : decode cX0_lastsBy 30 = .ok (.ireturn, 1) := by decide +kernel
set_option maxRecDepth 20000 in
theorem ggX0_lookOf_X4_numberIn : GoodIn wsX0_lookOf wsX4_numberIn := goodIn_r _ [4] (by decide +kernel) (by decide +kernel)
set_option maxRecDepth 20000 in
theorem gX0_lookOf_X4_numberIn_n64 : GoodIn wsX0_lookOf (wsX4_numberIn) := ggX0_lookOf_X4_numberIn
theorem dX0_lookOf_0 : decode cX0_lookOf 0 = .ok (.aload_n 0, 1) := by decide +kernel
theorem dX0_lookOf_1 : decode cX0_lookOf 1 = .ok (.getfield 9, 3) := by decide +kernel
theorem dX0_lookOf_4 : decode cX0_lookOf 4 = .ok (.iload_n 1, 1) := by decide +kernel
theorem dX0_lookOf_5 : decode cX0_lookOf 5 = .ok (.invokestatic 64, 3) := by decide +kernel
theorem dX0_lookOf_8 : decode cX0_lookOf 8 = .ok (.ireturn, 1) := by decide +kernel
set_option maxRecDepth 20000 in
theorem ggX0_changeLook_X4_changeIn : GoodIn wsX0_changeLook wsX4_changeIn := goodIn_r _ [4] (by decide +kernel) (by decide +kernel)
set_option maxRecDepth 20000 in
theorem gX0_changeLook_X4_changeIn_n47 : GoodIn wsX0_changeLook (wsX4_changeIn) := ggX0_changeLook_X4_changeIn
theorem dX0_changeLook_0 : decode cX0_changeLook 0 = .ok (.aload_n 0, 1) := by decide +kernel
theorem dX0_changeLook_1 : decode cX0_changeLook 1 = .ok (.getfield 9, 3) := by decide +kernel
theorem dX0_changeLook_4 : decode cX0_changeLook 4 = .ok (.iload_n 1, 1) := by decide +kernel
theorem dX0_changeLook_5 : decode cX0_changeLook 5 = .ok (.iload_n 2, 1) := by decide +kernel
theorem dX0_changeLook_6 : decode cX0_changeLook 6 = .ok (.invokestatic 47, 3) := by decide +kernel
theorem dX0_changeLook_9 : decode cX0_changeLook 9 = .ok (.return_, 1) := by decide +kernel
theorem dX0_sourLook_0 : decode cX0_sourLook 0 = .ok (.aload_n 0, 1) := by decide +kernel
theorem dX0_sourLook_1 : decode cX0_sourLook 1 = .ok (.getfield 33, 3) := by decide +kernel
theorem dX0_sourLook_4 : decode cX0_sourLook 4 = .ok (.ireturn, 1) := by decide +kernel
theorem dX0_changeSour_0 : decode cX0_changeSour 0 = .ok (.aload_n 0, 1) := by decide +kernel
theorem dX0_changeSour_1 : decode cX0_changeSour 1 = .ok (.iload_n 1, 1) := by decide +kernel
theorem dX0_changeSour_2 : decode cX0_changeSour 2 = .ok (.putfield 33, 3) := by decide +kernel
theorem dX0_changeSour_5 : decode cX0_changeSour 5 = .ok (.return_, 1) := by decide +kernel
set_option maxRecDepth 20000 in
theorem ggX0_fastDays_X4_numberIn : GoodIn wsX0_fastDays wsX4_numberIn := goodIn_r _ [6] (by decide +kernel) (by decide +kernel)
set_option maxRecDepth 20000 in
theorem gX0_fastDays_X4_numberIn_n64 : GoodIn wsX0_fastDays (wsX4_numberIn) := ggX0_fastDays_X4_numberIn
theorem dX0_fastDays_0 : decode cX0_fastDays 0 = .ok (.iconst 0, 1) := by decide +kernel
theorem dX0_fastDays_1 : decode cX0_fastDays 1 = .ok (.istore_n 1, 1) := by decide +kernel
theorem dX0_fastDays_2 : decode cX0_fastDays 2 = .ok (.iconst 0, 1) := by decide +kernel
theorem dX0_fastDays_3 : decode cX0_fastDays 3 = .ok (.istore_n 2, 1) := by decide +kernel
theorem dX0_fastDays_4 : decode cX0_fastDays 4 = .ok (.iload_n 2, 1) := by decide +kernel
theorem dX0_fastDays_5 : decode cX0_fastDays 5 = .ok (.aload_n 0, 1) := by decide +kernel
theorem dX0_fastDays_6 : decode cX0_fastDays 6 = .ok (.getfield 37, 3) := by decide +kernel
theorem dX0_fastDays_9 : decode cX0_fastDays 9 = .ok (.if_icmp .ge 30, 3) := by decide +kernel
theorem dX0_fastDays_12 : decode cX0_fastDays 12 = .ok (.aload_n 0, 1) := by decide +kernel
theorem dX0_fastDays_13 : decode cX0_fastDays 13 = .ok (.getfield 9, 3) := by decide +kernel
theorem dX0_fastDays_16 : decode cX0_fastDays 16 = .ok (.iload_n 2, 1) := by decide +kernel
theorem dX0_fastDays_17 : decode cX0_fastDays 17 = .ok (.invokestatic 64, 3) := by decide +kernel
theorem dX0_fastDays_20 : decode cX0_fastDays 20 = .ok (.aload_n 0, 1) := by decide +kernel
theorem dX0_fastDays_21 : decode cX0_fastDays 21 = .ok (.getfield 33, 3) := by decide +kernel
theorem dX0_fastDays_24 : decode cX0_fastDays 24 = .ok (.if_icmp .lt 9, 3) := by decide +kernel
theorem dX0_fastDays_27 : decode cX0_fastDays 27 = .ok (.iload_n 1, 1) := by decide +kernel
theorem dX0_fastDays_28 : decode cX0_fastDays 28 = .ok (.iconst 1, 1) := by decide +kernel
theorem dX0_fastDays_29 : decode cX0_fastDays 29 = .ok (.iload_n 2, 1) := by decide +kernel
theorem dX0_fastDays_30 : decode cX0_fastDays 30 = .ok (.ishl, 1) := by decide +kernel
theorem dX0_fastDays_31 : decode cX0_fastDays 31 = .ok (.ior, 1) := by decide +kernel
theorem dX0_fastDays_32 : decode cX0_fastDays 32 = .ok (.istore_n 1, 1) := by decide +kernel
theorem dX0_fastDays_33 : decode cX0_fastDays 33 = .ok (.iinc 2 1, 3) := by decide +kernel
theorem dX0_fastDays_36 : decode cX0_fastDays 36 = .ok (.goto (-32), 3) := by decide +kernel
theorem dX0_fastDays_39 : decode cX0_fastDays 39 = .ok (.iload_n 1, 1) := by decide +kernel
theorem dX0_fastDays_40 : decode cX0_fastDays 40 = .ok (.ireturn, 1) := by decide +kernel
set_option maxRecDepth 20000 in
theorem ggX0_fastDaysBut_X0_fastDays : GoodIn wsX0_fastDaysBut wsX0_fastDays := goodIn_r _ [5, 6, 7, 8, 9, 10, 11, 12, 13, 14, 15, 16, 17, 18, 19] (by decide +kernel) (by decide +kernel)
set_option maxRecDepth 20000 in
theorem gX0_fastDaysBut_X0_fastDays : GoodIn wsX0_fastDaysBut (wsV RX0 72 RX0 yX0_fastDays wsX0_fastDays) := goodIn_app (goodIn_of _ (by decide +kernel)) ggX0_fastDaysBut_X0_fastDays
theorem dX0_fastDaysBut_0 : decode cX0_fastDaysBut 0 = .ok (.aload_n 0, 1) := by decide +kernel
theorem dX0_fastDaysBut_1 : decode cX0_fastDaysBut 1 = .ok (.invokevirtual 72, 3) := by decide +kernel
theorem dX0_fastDaysBut_4 : decode cX0_fastDaysBut 4 = .ok (.iconst 1, 1) := by decide +kernel
theorem dX0_fastDaysBut_5 : decode cX0_fastDaysBut 5 = .ok (.iload_n 1, 1) := by decide +kernel
theorem dX0_fastDaysBut_6 : decode cX0_fastDaysBut 6 = .ok (.ishl, 1) := by decide +kernel
theorem dX0_fastDaysBut_7 : decode cX0_fastDaysBut 7 = .ok (.iconst (-1), 1) := by decide +kernel
theorem dX0_fastDaysBut_8 : decode cX0_fastDaysBut 8 = .ok (.ixor, 1) := by decide +kernel
theorem dX0_fastDaysBut_9 : decode cX0_fastDaysBut 9 = .ok (.iand, 1) := by decide +kernel
theorem dX0_fastDaysBut_10 : decode cX0_fastDaysBut 10 = .ok (.ireturn, 1) := by decide +kernel
set_option maxRecDepth 20000 in
theorem ggX0_yellowDays_X0_allDays : GoodIn wsX0_yellowDays wsX0_allDays := goodIn_r _ [5, 6, 7, 8, 9, 10, 11, 12, 13, 14] (by decide +kernel) (by decide +kernel)
set_option maxRecDepth 20000 in
theorem gX0_yellowDays_X0_allDays : GoodIn wsX0_yellowDays (wsV RX0 60 RX0 yX0_allDays wsX0_allDays) := goodIn_app (goodIn_of _ (by decide +kernel)) ggX0_yellowDays_X0_allDays
theorem dX0_yellowDays_0 : decode cX0_yellowDays 0 = .ok (.iconst 0, 1) := by decide +kernel
theorem dX0_yellowDays_1 : decode cX0_yellowDays 1 = .ok (.istore_n 3, 1) := by decide +kernel
theorem dX0_yellowDays_2 : decode cX0_yellowDays 2 = .ok (.iconst 0, 1) := by decide +kernel
theorem dX0_yellowDays_3 : decode cX0_yellowDays 3 = .ok (.istore 4, 2) := by decide +kernel
theorem dX0_yellowDays_5 : decode cX0_yellowDays 5 = .ok (.iload 4, 2) := by decide +kernel
theorem dX0_yellowDays_7 : decode cX0_yellowDays 7 = .ok (.iload_n 1, 1) := by decide +kernel
theorem dX0_yellowDays_8 : decode cX0_yellowDays 8 = .ok (.if_icmp .gt 22, 3) := by decide +kernel
theorem dX0_yellowDays_11 : decode cX0_yellowDays 11 = .ok (.iload 4, 2) := by decide +kernel
theorem dX0_yellowDays_13 : decode cX0_yellowDays 13 = .ok (.iconst 5, 1) := by decide +kernel
theorem dX0_yellowDays_14 : decode cX0_yellowDays 14 = .ok (.if_icmp .gt 16, 3) := by decide +kernel
theorem dX0_yellowDays_17 : decode cX0_yellowDays 17 = .ok (.iload_n 3, 1) := by decide +kernel
theorem dX0_yellowDays_18 : decode cX0_yellowDays 18 = .ok (.iload_n 2, 1) := by decide +kernel
theorem dX0_yellowDays_19 : decode cX0_yellowDays 19 = .ok (.iload 4, 2) := by decide +kernel
theorem dX0_yellowDays_21 : decode cX0_yellowDays 21 = .ok (.ishl, 1) := by decide +kernel
theorem dX0_yellowDays_22 : decode cX0_yellowDays 22 = .ok (.ior, 1) := by decide +kernel
theorem dX0_yellowDays_23 : decode cX0_yellowDays 23 = .ok (.istore_n 3, 1) := by decide +kernel
theorem dX0_yellowDays_24 : decode cX0_yellowDays 24 = .ok (.iinc 4 1, 3) := by decide +kernel
theorem dX0_yellowDays_27 : decode cX0_yellowDays 27 = .ok (.goto (-22), 3) := by decide +kernel
theorem dX0_yellowDays_30 : decode cX0_yellowDays 30 = .ok (.iload_n 3, 1) := by decide +kernel
theorem dX0_yellowDays_31 : decode cX0_yellowDays 31 = .ok (.aload_n 0, 1) := by decide +kernel
theorem dX0_yellowDays_32 : decode cX0_yellowDays 32 = .ok (.invokevirtual 60, 3) := by decide +kernel
theorem dX0_yellowDays_35 : decode cX0_yellowDays 35 = .ok (.iand, 1) := by decide +kernel
theorem dX0_yellowDays_36 : decode cX0_yellowDays 36 = .ok (.ireturn, 1) := by decide +kernel
set_option maxRecDepth 20000 in
theorem ggX0_foundDays_X0_lastsOf : GoodIn wsX0_foundDays wsX0_lastsOf := goodIn_r _ [5, 6, 7, 8, 9, 10, 11, 12, 4, 13, 29, 30, 31, 32, 33, 34, 35, 36] (by decide +kernel) (by decide +kernel)
set_option maxRecDepth 20000 in
theorem gX0_foundDays_X0_lastsOf : GoodIn wsX0_foundDays (wsV RX0 75 RX0 yX0_lastsOf wsX0_lastsOf) := goodIn_app (goodIn_of _ (by decide +kernel)) ggX0_foundDays_X0_lastsOf
set_option maxRecDepth 20000 in
theorem ggX0_foundDays_X0_yellowDays : GoodIn wsX0_foundDays wsX0_yellowDays := goodIn_r _ [17, 18, 19, 20, 4, 21, 22, 29, 30, 31, 32, 33, 34, 35, 36] (by decide +kernel) (by decide +kernel)
set_option maxRecDepth 20000 in
theorem gX0_foundDays_X0_yellowDays : GoodIn wsX0_foundDays (wsV RX0 78 RX0 yX0_yellowDays wsX0_yellowDays) := goodIn_app (goodIn_of _ (by decide +kernel)) ggX0_foundDays_X0_yellowDays
set_option maxRecDepth 20000 in
theorem ggX0_foundDays_X0_fastDays : GoodIn wsX0_foundDays wsX0_fastDays := goodIn_r _ [26, 22, 27, 28, 8, 9, 10, 29, 30, 31, 32, 33, 34, 35, 36] (by decide +kernel) (by decide +kernel)
set_option maxRecDepth 20000 in
theorem gX0_foundDays_X0_fastDays : GoodIn wsX0_foundDays (wsV RX0 72 RX0 yX0_fastDays wsX0_fastDays) := goodIn_app (goodIn_of _ (by decide +kernel)) ggX0_foundDays_X0_fastDays
theorem dX0_foundDays_0 : decode cX0_foundDays 0 = .ok (.aload_n 0, 1) := by decide +kernel
theorem dX0_foundDays_1 : decode cX0_foundDays 1 = .ok (.aload_n 0, 1) := by decide +kernel
theorem dX0_foundDays_2 : decode cX0_foundDays 2 = .ok (.iload_n 1, 1) := by decide +kernel
theorem dX0_foundDays_3 : decode cX0_foundDays 3 = .ok (.invokevirtual 75, 3) := by decide +kernel
theorem dX0_foundDays_6 : decode cX0_foundDays 6 = .ok (.iload_n 2, 1) := by decide +kernel
theorem dX0_foundDays_7 : decode cX0_foundDays 7 = .ok (.invokevirtual 78, 3) := by decide +kernel
theorem dX0_foundDays_10 : decode cX0_foundDays 10 = .ok (.aload_n 0, 1) := by decide +kernel
theorem dX0_foundDays_11 : decode cX0_foundDays 11 = .ok (.invokevirtual 72, 3) := by decide +kernel
theorem dX0_foundDays_14 : decode cX0_foundDays 14 = .ok (.iand, 1) := by decide +kernel
theorem dX0_foundDays_15 : decode cX0_foundDays 15 = .ok (.ireturn, 1) := by decide +kernel
set_option maxRecDepth 20000 in
theorem ggX0_fineOf_X0_foundDays : GoodIn wsX0_fineOf wsX0_foundDays := goodIn_r _ [5, 6, 7, 8, 4, 9, 10, 11, 12, 13, 14, 15, 16, 17, 18, 19, 20, 21, 22, 23, 24, 25, 26, 27, 28, 29, 30, 31, 32, 45, 46, 47, 48, 49, 50, 51, 52] (by decide +kernel) (by decide +kernel)
set_option maxRecDepth 20000 in
theorem gX0_fineOf_X0_foundDays : GoodIn wsX0_fineOf (wsV RX0 81 RX0 yX0_foundDays wsX0_foundDays) := goodIn_app (goodIn_of _ (by decide +kernel)) ggX0_fineOf_X0_foundDays
set_option maxRecDepth 20000 in
theorem ggX0_fineOf_J6_bitCount_0f7a4 : GoodIn wsX0_fineOf wsJ6_bitCount_0f7a4 := goodIn_r _ [36, 37, 38, 39] (by decide +kernel) (by decide +kernel)
set_option maxRecDepth 20000 in
theorem gX0_fineOf_J6_bitCount_0f7a4 : GoodIn wsX0_fineOf (va_wsS RX0 84 yJ6_bitCount_0f7a4 wsJ6_bitCount_0f7a4) := goodIn_app (goodIn_of _ (by decide +kernel)) ggX0_fineOf_J6_bitCount_0f7a4
set_option maxRecDepth 20000 in
theorem ggX0_fineOf_X0_spoonsOf : GoodIn wsX0_fineOf wsX0_spoonsOf := goodIn_r _ [43, 44, 12, 13, 14, 45, 46, 47, 48, 49, 50, 51, 52] (by decide +kernel) (by decide +kernel)
set_option maxRecDepth 20000 in
theorem gX0_fineOf_X0_spoonsOf : GoodIn wsX0_fineOf (wsV RX0 89 RX0 yX0_spoonsOf wsX0_spoonsOf) := goodIn_app (goodIn_of _ (by decide +kernel)) ggX0_fineOf_X0_spoonsOf
theorem dX0_fineOf_0 : decode cX0_fineOf 0 = .ok (.aload_n 0, 1) := by decide +kernel
theorem dX0_fineOf_1 : decode cX0_fineOf 1 = .ok (.iload_n 1, 1) := by decide +kernel
theorem dX0_fineOf_2 : decode cX0_fineOf 2 = .ok (.iload_n 2, 1) := by decide +kernel
theorem dX0_fineOf_3 : decode cX0_fineOf 3 = .ok (.invokevirtual 81, 3) := by decide +kernel
theorem dX0_fineOf_6 : decode cX0_fineOf 6 = .ok (.invokestatic 84, 3) := by decide +kernel
theorem dX0_fineOf_9 : decode cX0_fineOf 9 = .ok (.aload_n 0, 1) := by decide +kernel
theorem dX0_fineOf_10 : decode cX0_fineOf 10 = .ok (.iload_n 1, 1) := by decide +kernel
theorem dX0_fineOf_11 : decode cX0_fineOf 11 = .ok (.invokevirtual 89, 3) := by decide +kernel
theorem dX0_fineOf_14 : decode cX0_fineOf 14 = .ok (.imul, 1) := by decide +kernel
theorem dX0_fineOf_15 : decode cX0_fineOf 15 = .ok (.ireturn, 1) := by decide +kernel
set_option maxRecDepth 20000 in
theorem ggX0_isFoundOn_X0_yellowDays : GoodIn wsX0_isFoundOn wsX0_yellowDays := goodIn_r _ [5, 6, 7, 8, 4, 9, 10, 19, 20, 21, 22, 23, 24, 25, 26] (by decide +kernel) (by decide +kernel)
set_option maxRecDepth 20000 in
theorem gX0_isFoundOn_X0_yellowDays : GoodIn wsX0_isFoundOn (wsV RX0 78 RX0 yX0_yellowDays wsX0_yellowDays) := goodIn_app (goodIn_of _ (by decide +kernel)) ggX0_isFoundOn_X0_yellowDays
set_option maxRecDepth 20000 in
theorem ggX0_isFoundOn_X0_lookOf : GoodIn wsX0_isFoundOn wsX0_lookOf := goodIn_r _ [14, 15, 16, 17, 18, 19, 20, 21, 22, 23, 24, 25, 26] (by decide +kernel) (by decide +kernel)
set_option maxRecDepth 20000 in
theorem gX0_isFoundOn_X0_lookOf : GoodIn wsX0_isFoundOn (wsV RX0 92 RX0 yX0_lookOf wsX0_lookOf) := goodIn_app (goodIn_of _ (by decide +kernel)) ggX0_isFoundOn_X0_lookOf
theorem dX0_isFoundOn_0 : decode cX0_isFoundOn 0 = .ok (.aload_n 0, 1) := by decide +kernel
theorem dX0_isFoundOn_1 : decode cX0_isFoundOn 1 = .ok (.iload_n 3, 1) := by decide +kernel
theorem dX0_isFoundOn_2 : decode cX0_isFoundOn 2 = .ok (.iload_n 2, 1) := by decide +kernel
theorem dX0_isFoundOn_3 : decode cX0_isFoundOn 3 = .ok (.invokevirtual 78, 3) := by decide +kernel
theorem dX0_isFoundOn_6 : decode cX0_isFoundOn 6 = .ok (.iload_n 1, 1) := by decide +kernel
theorem dX0_isFoundOn_7 : decode cX0_isFoundOn 7 = .ok (.ishr, 1) := by decide +kernel
theorem dX0_isFoundOn_8 : decode cX0_isFoundOn 8 = .ok (.iconst 1, 1) := by decide +kernel
theorem dX0_isFoundOn_9 : decode cX0_isFoundOn 9 = .ok (.iand, 1) := by decide +kernel
theorem dX0_isFoundOn_10 : decode cX0_isFoundOn 10 = .ok (.ifCond .eq 17, 3) := by decide +kernel
theorem dX0_isFoundOn_13 : decode cX0_isFoundOn 13 = .ok (.aload_n 0, 1) := by decide +kernel
theorem dX0_isFoundOn_14 : decode cX0_isFoundOn 14 = .ok (.iload_n 1, 1) := by decide +kernel
theorem dX0_isFoundOn_15 : decode cX0_isFoundOn 15 = .ok (.invokevirtual 92, 3) := by decide +kernel
theorem dX0_isFoundOn_18 : decode cX0_isFoundOn 18 = .ok (.iload 4, 2) := by decide +kernel
theorem dX0_isFoundOn_20 : decode cX0_isFoundOn 20 = .ok (.if_icmp .lt 7, 3) := by decide +kernel
theorem dX0_isFoundOn_23 : decode cX0_isFoundOn 23 = .ok (.iconst 1, 1) := by decide +kernel
theorem dX0_isFoundOn_24 : decode cX0_isFoundOn 24 = .ok (.goto 4, 3) := by decide +kernel
theorem dX0_isFoundOn_27 : decode cX0_isFoundOn 27 = .ok (.iconst 0, 1) := by decide +kernel
theorem dX0_isFoundOn_28 : decode cX0_isFoundOn 28 = .ok (.ireturn, 1) := by decide +kernel
set_option maxRecDepth 20000 in
theorem ggX0_hasPlan_X2_numberAt : GoodIn wsX0_hasPlan wsX2_numberAt := goodIn_r _ [6, 7, 8, 9, 10, 29, 30, 31] (by decide +kernel) (by decide +kernel)
set_option maxRecDepth 20000 in
theorem gX0_hasPlan_X2_numberAt : GoodIn wsX0_hasPlan (wsV RX0 51 RX2 yX2_numberAt wsX2_numberAt) := goodIn_app (goodIn_of _ (by decide +kernel)) ggX0_hasPlan_X2_numberAt
set_option maxRecDepth 20000 in
theorem ggX0_hasPlan_X0_hasDays : GoodIn wsX0_hasPlan wsX0_hasDays := goodIn_r _ [15, 16, 17, 18, 14, 19, 20, 21, 22, 23, 24, 25, 26, 27, 28] (by decide +kernel) (by decide +kernel)
set_option maxRecDepth 20000 in
theorem gX0_hasPlan_X0_hasDays : GoodIn wsX0_hasPlan (wsV RX0 95 RX0 yX0_hasDays wsX0_hasDays) := goodIn_app (goodIn_of _ (by decide +kernel)) ggX0_hasPlan_X0_hasDays
theorem dX0_hasPlan_0 : decode cX0_hasPlan 0 = .ok (.iload_n 3, 1) := by decide +kernel
theorem dX0_hasPlan_1 : decode cX0_hasPlan 1 = .ok (.aload_n 0, 1) := by decide +kernel
theorem dX0_hasPlan_2 : decode cX0_hasPlan 2 = .ok (.getfield 40, 3) := by decide +kernel
theorem dX0_hasPlan_5 : decode cX0_hasPlan 5 = .ok (.if_icmp .eq 5, 3) := by decide +kernel
theorem dX0_hasPlan_8 : decode cX0_hasPlan 8 = .ok (.iconst 0, 1) := by decide +kernel
theorem dX0_hasPlan_9 : decode cX0_hasPlan 9 = .ok (.ireturn, 1) := by decide +kernel
theorem dX0_hasPlan_10 : decode cX0_hasPlan 10 = .ok (.iconst 0, 1) := by decide +kernel
theorem dX0_hasPlan_11 : decode cX0_hasPlan 11 = .ok (.istore 4, 2) := by decide +kernel
theorem dX0_hasPlan_13 : decode cX0_hasPlan 13 = .ok (.iload 4, 2) := by decide +kernel
theorem dX0_hasPlan_15 : decode cX0_hasPlan 15 = .ok (.aload_n 0, 1) := by decide +kernel
theorem dX0_hasPlan_16 : decode cX0_hasPlan 16 = .ok (.getfield 40, 3) := by decide +kernel
theorem dX0_hasPlan_19 : decode cX0_hasPlan 19 = .ok (.if_icmp .ge 26, 3) := by decide +kernel
theorem dX0_hasPlan_22 : decode cX0_hasPlan 22 = .ok (.aload_n 0, 1) := by decide +kernel
theorem dX0_hasPlan_23 : decode cX0_hasPlan 23 = .ok (.aload_n 1, 1) := by decide +kernel
theorem dX0_hasPlan_24 : decode cX0_hasPlan 24 = .ok (.iload_n 2, 1) := by decide +kernel
theorem dX0_hasPlan_25 : decode cX0_hasPlan 25 = .ok (.iload 4, 2) := by decide +kernel
theorem dX0_hasPlan_27 : decode cX0_hasPlan 27 = .ok (.iadd, 1) := by decide +kernel
theorem dX0_hasPlan_28 : decode cX0_hasPlan 28 = .ok (.invokevirtual 51, 3) := by decide +kernel
theorem dX0_hasPlan_31 : decode cX0_hasPlan 31 = .ok (.invokevirtual 95, 3) := by decide +kernel
theorem dX0_hasPlan_34 : decode cX0_hasPlan 34 = .ok (.ifCond .ne 5, 3) := by decide +kernel
theorem dX0_hasPlan_37 : decode cX0_hasPlan 37 = .ok (.iconst 0, 1) := by decide +kernel
theorem dX0_hasPlan_38 : decode cX0_hasPlan 38 = .ok (.ireturn, 1) := by decide +kernel
theorem dX0_hasPlan_39 : decode cX0_hasPlan 39 = .ok (.iinc 4 1, 3) := by decide +kernel
theorem dX0_hasPlan_42 : decode cX0_hasPlan 42 = .ok (.goto (-29), 3) := by decide +kernel
theorem dX0_hasPlan_45 : decode cX0_hasPlan 45 = .ok (.iconst 1, 1) := by decide +kernel
theorem dX0_hasPlan_46 : decode cX0_hasPlan 46 = .ok (.ireturn, 1) := by decide +kernel
set_option maxRecDepth 20000 in
theorem ggX0_finesOfPlan_X2_numberAt : GoodIn wsX0_finesOfPlan wsX2_numberAt := goodIn_r _ [6, 7, 8, 9, 10, 64, 65, 66] (by decide +kernel) (by decide +kernel)
set_option maxRecDepth 20000 in
theorem gX0_finesOfPlan_X2_numberAt : GoodIn wsX0_finesOfPlan (wsV RX0 51 RX2 yX2_numberAt wsX2_numberAt) := goodIn_app (goodIn_of _ (by decide +kernel)) ggX0_finesOfPlan_X2_numberAt
set_option maxRecDepth 20000 in
theorem ggX0_finesOfPlan_X0_fineOf : GoodIn wsX0_finesOfPlan wsX0_fineOf := goodIn_r _ [15, 16, 17, 18, 14, 19, 20, 21, 22, 23, 24, 25, 8, 9, 10, 26, 27, 28, 29, 30, 31, 32, 33, 34, 35, 36, 37, 38, 39, 40, 41, 42, 43, 44, 45, 46, 47, 48, 49, 50, 51, 52, 53, 54, 55, 56, 57, 58, 59, 60, 61, 62, 63] (by decide +kernel) (by decide +kernel)
set_option maxRecDepth 20000 in
theorem gX0_finesOfPlan_X0_fineOf : GoodIn wsX0_finesOfPlan (wsV RX0 99 RX0 yX0_fineOf wsX0_fineOf) := goodIn_app (goodIn_of _ (by decide +kernel)) ggX0_finesOfPlan_X0_fineOf
theorem dX0_finesOfPlan_0 : decode cX0_finesOfPlan 0 = .ok (.iconst 0, 1) := by decide +kernel
theorem dX0_finesOfPlan_1 : decode cX0_finesOfPlan 1 = .ok (.istore_n 3, 1) := by decide +kernel
theorem dX0_finesOfPlan_2 : decode cX0_finesOfPlan 2 = .ok (.iconst 0, 1) := by decide +kernel
theorem dX0_finesOfPlan_3 : decode cX0_finesOfPlan 3 = .ok (.istore 4, 2) := by decide +kernel
theorem dX0_finesOfPlan_5 : decode cX0_finesOfPlan 5 = .ok (.iload 4, 2) := by decide +kernel
theorem dX0_finesOfPlan_7 : decode cX0_finesOfPlan 7 = .ok (.aload_n 0, 1) := by decide +kernel
theorem dX0_finesOfPlan_8 : decode cX0_finesOfPlan 8 = .ok (.getfield 40, 3) := by decide +kernel
theorem dX0_finesOfPlan_11 : decode cX0_finesOfPlan 11 = .ok (.if_icmp .ge 26, 3) := by decide +kernel
theorem dX0_finesOfPlan_14 : decode cX0_finesOfPlan 14 = .ok (.iload_n 3, 1) := by decide +kernel
theorem dX0_finesOfPlan_15 : decode cX0_finesOfPlan 15 = .ok (.aload_n 0, 1) := by decide +kernel
theorem dX0_finesOfPlan_16 : decode cX0_finesOfPlan 16 = .ok (.iload 4, 2) := by decide +kernel
theorem dX0_finesOfPlan_18 : decode cX0_finesOfPlan 18 = .ok (.aload_n 1, 1) := by decide +kernel
theorem dX0_finesOfPlan_19 : decode cX0_finesOfPlan 19 = .ok (.iload_n 2, 1) := by decide +kernel
theorem dX0_finesOfPlan_20 : decode cX0_finesOfPlan 20 = .ok (.iload 4, 2) := by decide +kernel
theorem dX0_finesOfPlan_22 : decode cX0_finesOfPlan 22 = .ok (.iadd, 1) := by decide +kernel
theorem dX0_finesOfPlan_23 : decode cX0_finesOfPlan 23 = .ok (.invokevirtual 51, 3) := by decide +kernel
theorem dX0_finesOfPlan_26 : decode cX0_finesOfPlan 26 = .ok (.invokevirtual 99, 3) := by decide +kernel
theorem dX0_finesOfPlan_29 : decode cX0_finesOfPlan 29 = .ok (.iadd, 1) := by decide +kernel
theorem dX0_finesOfPlan_30 : decode cX0_finesOfPlan 30 = .ok (.istore_n 3, 1) := by decide +kernel
theorem dX0_finesOfPlan_31 : decode cX0_finesOfPlan 31 = .ok (.iinc 4 1, 3) := by decide +kernel
theorem dX0_finesOfPlan_34 : decode cX0_finesOfPlan 34 = .ok (.goto (-29), 3) := by decide +kernel
theorem dX0_finesOfPlan_37 : decode cX0_finesOfPlan 37 = .ok (.iload_n 3, 1) := by decide +kernel
theorem dX0_finesOfPlan_38 : decode cX0_finesOfPlan 38 = .ok (.ireturn, 1) := by decide +kernel
set_option maxRecDepth 20000 in
theorem ggX0_firstDayOfPlan_X2_numberAt : GoodIn wsX0_firstDayOfPlan wsX2_numberAt := goodIn_r _ [7, 8, 9, 10, 11, 48, 49, 50] (by decide +kernel) (by decide +kernel)
set_option maxRecDepth 20000 in
theorem gX0_firstDayOfPlan_X2_numberAt : GoodIn wsX0_firstDayOfPlan (wsV RX0 51 RX2 yX2_numberAt wsX2_numberAt) := goodIn_app (goodIn_of _ (by decide +kernel)) ggX0_firstDayOfPlan_X2_numberAt
set_option maxRecDepth 20000 in
theorem ggX0_firstDayOfPlan_X0_foundDays : GoodIn wsX0_firstDayOfPlan wsX0_foundDays := goodIn_r _ [16, 17, 18, 19, 15, 20, 21, 22, 9, 10, 11, 23, 24, 25, 26, 27, 28, 29, 30, 31, 32, 33, 2, 34, 35, 36, 37, 38, 39, 40, 41, 42, 43, 44, 45, 46, 47] (by decide +kernel) (by decide +kernel)
set_option maxRecDepth 20000 in
theorem gX0_firstDayOfPlan_X0_foundDays : GoodIn wsX0_firstDayOfPlan (wsV RX0 81 RX0 yX0_foundDays wsX0_foundDays) := goodIn_app (goodIn_of _ (by decide +kernel)) ggX0_firstDayOfPlan_X0_foundDays
theorem dX0_firstDayOfPlan_0 : decode cX0_firstDayOfPlan 0 = .ok (.iconst 0, 1) := by decide +kernel
theorem dX0_firstDayOfPlan_1 : decode cX0_firstDayOfPlan 1 = .ok (.istore_n 3, 1) := by decide +kernel
theorem dX0_firstDayOfPlan_2 : decode cX0_firstDayOfPlan 2 = .ok (.iconst 0, 1) := by decide +kernel
theorem dX0_firstDayOfPlan_3 : decode cX0_firstDayOfPlan 3 = .ok (.istore 4, 2) := by decide +kernel
theorem dX0_firstDayOfPlan_5 : decode cX0_firstDayOfPlan 5 = .ok (.iload 4, 2) := by decide +kernel
theorem dX0_firstDayOfPlan_7 : decode cX0_firstDayOfPlan 7 = .ok (.aload_n 0, 1) := by decide +kernel
theorem dX0_firstDayOfPlan_8 : decode cX0_firstDayOfPlan 8 = .ok (.getfield 40, 3) := by decide +kernel
theorem dX0_firstDayOfPlan_11 : decode cX0_firstDayOfPlan 11 = .ok (.if_icmp .ge 26, 3) := by decide +kernel
theorem dX0_firstDayOfPlan_14 : decode cX0_firstDayOfPlan 14 = .ok (.iload_n 3, 1) := by decide +kernel
theorem dX0_firstDayOfPlan_15 : decode cX0_firstDayOfPlan 15 = .ok (.aload_n 0, 1) := by decide +kernel
theorem dX0_firstDayOfPlan_16 : decode cX0_firstDayOfPlan 16 = .ok (.iload 4, 2) := by decide +kernel
theorem dX0_firstDayOfPlan_18 : decode cX0_firstDayOfPlan 18 = .ok (.aload_n 1, 1) := by decide +kernel
theorem dX0_firstDayOfPlan_19 : decode cX0_firstDayOfPlan 19 = .ok (.iload_n 2, 1) := by decide +kernel
theorem dX0_firstDayOfPlan_20 : decode cX0_firstDayOfPlan 20 = .ok (.iload 4, 2) := by decide +kernel
theorem dX0_firstDayOfPlan_22 : decode cX0_firstDayOfPlan 22 = .ok (.iadd, 1) := by decide +kernel
theorem dX0_firstDayOfPlan_23 : decode cX0_firstDayOfPlan 23 = .ok (.invokevirtual 51, 3) := by decide +kernel
theorem dX0_firstDayOfPlan_26 : decode cX0_firstDayOfPlan 26 = .ok (.invokevirtual 81, 3) := by decide +kernel
theorem dX0_firstDayOfPlan_29 : decode cX0_firstDayOfPlan 29 = .ok (.ior, 1) := by decide +kernel
theorem dX0_firstDayOfPlan_30 : decode cX0_firstDayOfPlan 30 = .ok (.istore_n 3, 1) := by decide +kernel
theorem dX0_firstDayOfPlan_31 : decode cX0_firstDayOfPlan 31 = .ok (.iinc 4 1, 3) := by decide +kernel
theorem dX0_firstDayOfPlan_34 : decode cX0_firstDayOfPlan 34 = .ok (.goto (-29), 3) := by decide +kernel
theorem dX0_firstDayOfPlan_37 : decode cX0_firstDayOfPlan 37 = .ok (.iconst 0, 1) := by decide +kernel
theorem dX0_firstDayOfPlan_38 : decode cX0_firstDayOfPlan 38 = .ok (.istore 4, 2) := by decide +kernel
theorem dX0_firstDayOfPlan_40 : decode cX0_firstDayOfPlan 40 = .ok (.iload 4, 2) := by decide +kernel
theorem dX0_firstDayOfPlan_42 : decode cX0_firstDayOfPlan 42 = .ok (.aload_n 0, 1) := by decide +kernel
theorem dX0_firstDayOfPlan_43 : decode cX0_firstDayOfPlan 43 = .ok (.getfield 37, 3) := by decide +kernel
theorem dX0_firstDayOfPlan_46 : decode cX0_firstDayOfPlan 46 = .ok (.if_icmp .ge 21, 3) := by decide +kernel
theorem dX0_firstDayOfPlan_49 : decode cX0_firstDayOfPlan 49 = .ok (.iload_n 3, 1) := by decide +kernel
theorem dX0_firstDayOfPlan_50 : decode cX0_firstDayOfPlan 50 = .ok (.iload 4, 2) := by decide +kernel
theorem dX0_firstDayOfPlan_52 : decode cX0_firstDayOfPlan 52 = .ok (.ishr, 1) := by decide +kernel
theorem dX0_firstDayOfPlan_53 : decode cX0_firstDayOfPlan 53 = .ok (.iconst 1, 1) := by decide +kernel
theorem dX0_firstDayOfPlan_54 : decode cX0_firstDayOfPlan 54 = .ok (.iand, 1) := by decide +kernel
theorem dX0_firstDayOfPlan_55 : decode cX0_firstDayOfPlan 55 = .ok (.ifCond .eq 6, 3) := by decide +kernel
theorem dX0_firstDayOfPlan_58 : decode cX0_firstDayOfPlan 58 = .ok (.iload 4, 2) := by decide +kernel
theorem dX0_firstDayOfPlan_60 : decode cX0_firstDayOfPlan 60 = .ok (.ireturn, 1) := by decide +kernel
theorem dX0_firstDayOfPlan_61 : decode cX0_firstDayOfPlan 61 = .ok (.iinc 4 1, 3) := by decide +kernel
theorem dX0_firstDayOfPlan_64 : decode cX0_firstDayOfPlan 64 = .ok (.goto (-24), 3) := by decide +kernel
theorem dX0_firstDayOfPlan_67 : decode cX0_firstDayOfPlan 67 = .ok (.bipush (-9), 2) := by decide +kernel
theorem dX0_firstDayOfPlan_69 : decode cX0_firstDayOfPlan 69 = .ok (.ireturn, 1) := by decide +kernel
set_option maxRecDepth 20000 in
theorem ggX0_foundEatersOfPlan_X2_numberAt : GoodIn wsX0_foundEatersOfPlan wsX2_numberAt := goodIn_r _ [6, 7, 8, 9, 10, 48, 49, 50] (by decide +kernel) (by decide +kernel)
set_option maxRecDepth 20000 in
theorem gX0_foundEatersOfPlan_X2_numberAt : GoodIn wsX0_foundEatersOfPlan (wsV RX0 51 RX2 yX2_numberAt wsX2_numberAt) := goodIn_app (goodIn_of _ (by decide +kernel)) ggX0_foundEatersOfPlan_X2_numberAt
set_option maxRecDepth 20000 in
theorem ggX0_foundEatersOfPlan_X0_foundDays : GoodIn wsX0_foundEatersOfPlan wsX0_foundDays := goodIn_r _ [15, 16, 17, 18, 14, 19, 20, 21, 8, 9, 10, 22, 23, 24, 25, 26, 27, 28, 29, 30, 31, 32, 33, 34, 35, 36, 37, 38, 39, 40, 41, 42, 43, 44, 45, 46, 47] (by decide +kernel) (by decide +kernel)
set_option maxRecDepth 20000 in
theorem gX0_foundEatersOfPlan_X0_foundDays : GoodIn wsX0_foundEatersOfPlan (wsV RX0 81 RX0 yX0_foundDays wsX0_foundDays) := goodIn_app (goodIn_of _ (by decide +kernel)) ggX0_foundEatersOfPlan_X0_foundDays
theorem dX0_foundEatersOfPlan_0 : decode cX0_foundEatersOfPlan 0 = .ok (.iconst 0, 1) := by decide +kernel
theorem dX0_foundEatersOfPlan_1 : decode cX0_foundEatersOfPlan 1 = .ok (.istore_n 3, 1) := by decide +kernel
theorem dX0_foundEatersOfPlan_2 : decode cX0_foundEatersOfPlan 2 = .ok (.iconst 0, 1) := by decide +kernel
theorem dX0_foundEatersOfPlan_3 : decode cX0_foundEatersOfPlan 3 = .ok (.istore 4, 2) := by decide +kernel
theorem dX0_foundEatersOfPlan_5 : decode cX0_foundEatersOfPlan 5 = .ok (.iload 4, 2) := by decide +kernel
theorem dX0_foundEatersOfPlan_7 : decode cX0_foundEatersOfPlan 7 = .ok (.aload_n 0, 1) := by decide +kernel
theorem dX0_foundEatersOfPlan_8 : decode cX0_foundEatersOfPlan 8 = .ok (.getfield 40, 3) := by decide +kernel
theorem dX0_foundEatersOfPlan_11 : decode cX0_foundEatersOfPlan 11 = .ok (.if_icmp .ge 33, 3) := by decide +kernel
theorem dX0_foundEatersOfPlan_14 : decode cX0_foundEatersOfPlan 14 = .ok (.aload_n 0, 1) := by decide +kernel
theorem dX0_foundEatersOfPlan_15 : decode cX0_foundEatersOfPlan 15 = .ok (.iload 4, 2) := by decide +kernel
theorem dX0_foundEatersOfPlan_17 : decode cX0_foundEatersOfPlan 17 = .ok (.aload_n 1, 1) := by decide +kernel
theorem dX0_foundEatersOfPlan_18 : decode cX0_foundEatersOfPlan 18 = .ok (.iload_n 2, 1) := by decide +kernel
theorem dX0_foundEatersOfPlan_19 : decode cX0_foundEatersOfPlan 19 = .ok (.iload 4, 2) := by decide +kernel
theorem dX0_foundEatersOfPlan_21 : decode cX0_foundEatersOfPlan 21 = .ok (.iadd, 1) := by decide +kernel
theorem dX0_foundEatersOfPlan_22 : decode cX0_foundEatersOfPlan 22 = .ok (.invokevirtual 51, 3) := by decide +kernel
theorem dX0_foundEatersOfPlan_25 : decode cX0_foundEatersOfPlan 25 = .ok (.invokevirtual 81, 3) := by decide +kernel
theorem dX0_foundEatersOfPlan_28 : decode cX0_foundEatersOfPlan 28 = .ok (.ifCond .eq 10, 3) := by decide +kernel
theorem dX0_foundEatersOfPlan_31 : decode cX0_foundEatersOfPlan 31 = .ok (.iload_n 3, 1) := by decide +kernel
theorem dX0_foundEatersOfPlan_32 : decode cX0_foundEatersOfPlan 32 = .ok (.iconst 1, 1) := by decide +kernel
theorem dX0_foundEatersOfPlan_33 : decode cX0_foundEatersOfPlan 33 = .ok (.iload 4, 2) := by decide +kernel
theorem dX0_foundEatersOfPlan_35 : decode cX0_foundEatersOfPlan 35 = .ok (.ishl, 1) := by decide +kernel
theorem dX0_foundEatersOfPlan_36 : decode cX0_foundEatersOfPlan 36 = .ok (.ior, 1) := by decide +kernel
theorem dX0_foundEatersOfPlan_37 : decode cX0_foundEatersOfPlan 37 = .ok (.istore_n 3, 1) := by decide +kernel
theorem dX0_foundEatersOfPlan_38 : decode cX0_foundEatersOfPlan 38 = .ok (.iinc 4 1, 3) := by decide +kernel
theorem dX0_foundEatersOfPlan_41 : decode cX0_foundEatersOfPlan 41 = .ok (.goto (-36), 3) := by decide +kernel
theorem dX0_foundEatersOfPlan_44 : decode cX0_foundEatersOfPlan 44 = .ok (.iload_n 3, 1) := by decide +kernel
theorem dX0_foundEatersOfPlan_45 : decode cX0_foundEatersOfPlan 45 = .ok (.ireturn, 1) := by decide +kernel
set_option maxRecDepth 20000 in
theorem ggX0_starvedEatersOfPlan_X2_numberAt : GoodIn wsX0_starvedEatersOfPlan wsX2_numberAt := goodIn_r _ [6, 7, 8, 9, 10, 32, 33, 34] (by decide +kernel) (by decide +kernel)
set_option maxRecDepth 20000 in
theorem gX0_starvedEatersOfPlan_X2_numberAt : GoodIn wsX0_starvedEatersOfPlan (wsV RX0 51 RX2 yX2_numberAt wsX2_numberAt) := goodIn_app (goodIn_of _ (by decide +kernel)) ggX0_starvedEatersOfPlan_X2_numberAt
set_option maxRecDepth 20000 in
theorem ggX0_starvedEatersOfPlan_J6_bitCount_0f7a4 : GoodIn wsX0_starvedEatersOfPlan wsJ6_bitCount_0f7a4 := goodIn_r _ [14, 15, 16, 17] (by decide +kernel) (by decide +kernel)
set_option maxRecDepth 20000 in
theorem gX0_starvedEatersOfPlan_J6_bitCount_0f7a4 : GoodIn wsX0_starvedEatersOfPlan (va_wsS RX0 84 yJ6_bitCount_0f7a4 wsJ6_bitCount_0f7a4) := goodIn_app (goodIn_of _ (by decide +kernel)) ggX0_starvedEatersOfPlan_J6_bitCount_0f7a4
set_option maxRecDepth 20000 in
theorem ggX0_starvedEatersOfPlan_X0_needOf : GoodIn wsX0_starvedEatersOfPlan wsX0_needOf := goodIn_r _ [22, 23, 8, 9, 10, 24, 25, 26, 27, 28, 29, 30, 31] (by decide +kernel) (by decide +kernel)
set_option maxRecDepth 20000 in
theorem gX0_starvedEatersOfPlan_X0_needOf : GoodIn wsX0_starvedEatersOfPlan (wsV RX0 102 RX0 yX0_needOf wsX0_needOf) := goodIn_app (goodIn_of _ (by decide +kernel)) ggX0_starvedEatersOfPlan_X0_needOf
theorem dX0_starvedEatersOfPlan_0 : decode cX0_starvedEatersOfPlan 0 = .ok (.iconst 0, 1) := by decide +kernel
theorem dX0_starvedEatersOfPlan_1 : decode cX0_starvedEatersOfPlan 1 = .ok (.istore_n 3, 1) := by decide +kernel
theorem dX0_starvedEatersOfPlan_2 : decode cX0_starvedEatersOfPlan 2 = .ok (.iconst 0, 1) := by decide +kernel
theorem dX0_starvedEatersOfPlan_3 : decode cX0_starvedEatersOfPlan 3 = .ok (.istore 4, 2) := by decide +kernel
theorem dX0_starvedEatersOfPlan_5 : decode cX0_starvedEatersOfPlan 5 = .ok (.iload 4, 2) := by decide +kernel
theorem dX0_starvedEatersOfPlan_7 : decode cX0_starvedEatersOfPlan 7 = .ok (.aload_n 0, 1) := by decide +kernel
theorem dX0_starvedEatersOfPlan_8 : decode cX0_starvedEatersOfPlan 8 = .ok (.getfield 40, 3) := by decide +kernel
theorem dX0_starvedEatersOfPlan_11 : decode cX0_starvedEatersOfPlan 11 = .ok (.if_icmp .ge 36, 3) := by decide +kernel
theorem dX0_starvedEatersOfPlan_14 : decode cX0_starvedEatersOfPlan 14 = .ok (.aload_n 1, 1) := by decide +kernel
theorem dX0_starvedEatersOfPlan_15 : decode cX0_starvedEatersOfPlan 15 = .ok (.iload_n 2, 1) := by decide +kernel
theorem dX0_starvedEatersOfPlan_16 : decode cX0_starvedEatersOfPlan 16 = .ok (.iload 4, 2) := by decide +kernel
theorem dX0_starvedEatersOfPlan_18 : decode cX0_starvedEatersOfPlan 18 = .ok (.iadd, 1) := by decide +kernel
theorem dX0_starvedEatersOfPlan_19 : decode cX0_starvedEatersOfPlan 19 = .ok (.invokevirtual 51, 3) := by decide +kernel
theorem dX0_starvedEatersOfPlan_22 : decode cX0_starvedEatersOfPlan 22 = .ok (.invokestatic 84, 3) := by decide +kernel
theorem dX0_starvedEatersOfPlan_25 : decode cX0_starvedEatersOfPlan 25 = .ok (.aload_n 0, 1) := by decide +kernel
theorem dX0_starvedEatersOfPlan_26 : decode cX0_starvedEatersOfPlan 26 = .ok (.iload 4, 2) := by decide +kernel
theorem dX0_starvedEatersOfPlan_28 : decode cX0_starvedEatersOfPlan 28 = .ok (.invokevirtual 102, 3) := by decide +kernel
theorem dX0_starvedEatersOfPlan_31 : decode cX0_starvedEatersOfPlan 31 = .ok (.if_icmp .ge 10, 3) := by decide +kernel
theorem dX0_starvedEatersOfPlan_34 : decode cX0_starvedEatersOfPlan 34 = .ok (.iload_n 3, 1) := by decide +kernel
theorem dX0_starvedEatersOfPlan_35 : decode cX0_starvedEatersOfPlan 35 = .ok (.iconst 1, 1) := by decide +kernel
theorem dX0_starvedEatersOfPlan_36 : decode cX0_starvedEatersOfPlan 36 = .ok (.iload 4, 2) := by decide +kernel
theorem dX0_starvedEatersOfPlan_38 : decode cX0_starvedEatersOfPlan 38 = .ok (.ishl, 1) := by decide +kernel
theorem dX0_starvedEatersOfPlan_39 : decode cX0_starvedEatersOfPlan 39 = .ok (.ior, 1) := by decide +kernel
theorem dX0_starvedEatersOfPlan_40 : decode cX0_starvedEatersOfPlan 40 = .ok (.istore_n 3, 1) := by decide +kernel
theorem dX0_starvedEatersOfPlan_41 : decode cX0_starvedEatersOfPlan 41 = .ok (.iinc 4 1, 3) := by decide +kernel
theorem dX0_starvedEatersOfPlan_44 : decode cX0_starvedEatersOfPlan 44 = .ok (.goto (-39), 3) := by decide +kernel
theorem dX0_starvedEatersOfPlan_47 : decode cX0_starvedEatersOfPlan 47 = .ok (.iload_n 3, 1) := by decide +kernel
theorem dX0_starvedEatersOfPlan_48 : decode cX0_starvedEatersOfPlan 48 = .ok (.ireturn, 1) := by decide +kernel
set_option maxRecDepth 20000 in
theorem ggX0_foundOnDayOfPlan_X2_numberAt : GoodIn wsX0_foundOnDayOfPlan wsX2_numberAt := goodIn_r _ [6, 7, 8, 9, 10, 48, 49, 50] (by decide +kernel) (by decide +kernel)
set_option maxRecDepth 20000 in
theorem gX0_foundOnDayOfPlan_X2_numberAt : GoodIn wsX0_foundOnDayOfPlan (wsV RX0 51 RX2 yX2_numberAt wsX2_numberAt) := goodIn_app (goodIn_of _ (by decide +kernel)) ggX0_foundOnDayOfPlan_X2_numberAt
set_option maxRecDepth 20000 in
theorem ggX0_foundOnDayOfPlan_X0_foundDays : GoodIn wsX0_foundOnDayOfPlan wsX0_foundDays := goodIn_r _ [15, 16, 17, 18, 14, 19, 20, 21, 8, 9, 10, 22, 23, 24, 25, 26, 27, 28, 29, 30, 31, 32, 33, 34, 35, 36, 37, 38, 39, 40, 41, 42, 43, 44, 45, 46, 47] (by decide +kernel) (by decide +kernel)
set_option maxRecDepth 20000 in
theorem gX0_foundOnDayOfPlan_X0_foundDays : GoodIn wsX0_foundOnDayOfPlan (wsV RX0 81 RX0 yX0_foundDays wsX0_foundDays) := goodIn_app (goodIn_of _ (by decide +kernel)) ggX0_foundOnDayOfPlan_X0_foundDays
theorem dX0_foundOnDayOfPlan_0 : decode cX0_foundOnDayOfPlan 0 = .ok (.iconst 0, 1) := by decide +kernel
theorem dX0_foundOnDayOfPlan_1 : decode cX0_foundOnDayOfPlan 1 = .ok (.istore 4, 2) := by decide +kernel
theorem dX0_foundOnDayOfPlan_3 : decode cX0_foundOnDayOfPlan 3 = .ok (.iconst 0, 1) := by decide +kernel
theorem dX0_foundOnDayOfPlan_4 : decode cX0_foundOnDayOfPlan 4 = .ok (.istore 5, 2) := by decide +kernel
theorem dX0_foundOnDayOfPlan_6 : decode cX0_foundOnDayOfPlan 6 = .ok (.iload 5, 2) := by decide +kernel
theorem dX0_foundOnDayOfPlan_8 : decode cX0_foundOnDayOfPlan 8 = .ok (.aload_n 0, 1) := by decide +kernel
theorem dX0_foundOnDayOfPlan_9 : decode cX0_foundOnDayOfPlan 9 = .ok (.getfield 40, 3) := by decide +kernel
theorem dX0_foundOnDayOfPlan_12 : decode cX0_foundOnDayOfPlan 12 = .ok (.if_icmp .ge 32, 3) := by decide +kernel
theorem dX0_foundOnDayOfPlan_15 : decode cX0_foundOnDayOfPlan 15 = .ok (.iload 4, 2) := by decide +kernel
theorem dX0_foundOnDayOfPlan_17 : decode cX0_foundOnDayOfPlan 17 = .ok (.aload_n 0, 1) := by decide +kernel
theorem dX0_foundOnDayOfPlan_18 : decode cX0_foundOnDayOfPlan 18 = .ok (.iload 5, 2) := by decide +kernel
theorem dX0_foundOnDayOfPlan_20 : decode cX0_foundOnDayOfPlan 20 = .ok (.aload_n 1, 1) := by decide +kernel
theorem dX0_foundOnDayOfPlan_21 : decode cX0_foundOnDayOfPlan 21 = .ok (.iload_n 2, 1) := by decide +kernel
theorem dX0_foundOnDayOfPlan_22 : decode cX0_foundOnDayOfPlan 22 = .ok (.iload 5, 2) := by decide +kernel
theorem dX0_foundOnDayOfPlan_24 : decode cX0_foundOnDayOfPlan 24 = .ok (.iadd, 1) := by decide +kernel
theorem dX0_foundOnDayOfPlan_25 : decode cX0_foundOnDayOfPlan 25 = .ok (.invokevirtual 51, 3) := by decide +kernel
theorem dX0_foundOnDayOfPlan_28 : decode cX0_foundOnDayOfPlan 28 = .ok (.invokevirtual 81, 3) := by decide +kernel
theorem dX0_foundOnDayOfPlan_31 : decode cX0_foundOnDayOfPlan 31 = .ok (.iload_n 3, 1) := by decide +kernel
theorem dX0_foundOnDayOfPlan_32 : decode cX0_foundOnDayOfPlan 32 = .ok (.ishr, 1) := by decide +kernel
theorem dX0_foundOnDayOfPlan_33 : decode cX0_foundOnDayOfPlan 33 = .ok (.iconst 1, 1) := by decide +kernel
theorem dX0_foundOnDayOfPlan_34 : decode cX0_foundOnDayOfPlan 34 = .ok (.iand, 1) := by decide +kernel
theorem dX0_foundOnDayOfPlan_35 : decode cX0_foundOnDayOfPlan 35 = .ok (.iadd, 1) := by decide +kernel
theorem dX0_foundOnDayOfPlan_36 : decode cX0_foundOnDayOfPlan 36 = .ok (.istore 4, 2) := by decide +kernel
theorem dX0_foundOnDayOfPlan_38 : decode cX0_foundOnDayOfPlan 38 = .ok (.iinc 5 1, 3) := by decide +kernel
theorem dX0_foundOnDayOfPlan_41 : decode cX0_foundOnDayOfPlan 41 = .ok (.goto (-35), 3) := by decide +kernel
theorem dX0_foundOnDayOfPlan_44 : decode cX0_foundOnDayOfPlan 44 = .ok (.iload 4, 2) := by decide +kernel
theorem dX0_foundOnDayOfPlan_46 : decode cX0_foundOnDayOfPlan 46 = .ok (.ireturn, 1) := by decide +kernel
set_option maxRecDepth 20000 in
theorem ggX0_bestSet_X0_lastsOf : GoodIn wsX0_bestSet wsX0_lastsOf := goodIn_r _ [5, 6, 7, 8, 9, 10, 11, 12, 4, 13, 38, 39, 40, 41, 42, 43, 44, 45] (by decide +kernel) (by decide +kernel)
set_option maxRecDepth 20000 in
theorem gX0_bestSet_X0_lastsOf : GoodIn wsX0_bestSet (wsV RX0 75 RX0 yX0_lastsOf wsX0_lastsOf) := goodIn_app (goodIn_of _ (by decide +kernel)) ggX0_bestSet_X0_lastsOf
set_option maxRecDepth 20000 in
theorem ggX0_bestSet_X0_allDays : GoodIn wsX0_bestSet wsX0_allDays := goodIn_r _ [17, 18, 38, 39, 40, 41, 42, 43, 44, 45] (by decide +kernel) (by decide +kernel)
set_option maxRecDepth 20000 in
theorem gX0_bestSet_X0_allDays : GoodIn wsX0_bestSet (wsV RX0 60 RX0 yX0_allDays wsX0_allDays) := goodIn_app (goodIn_of _ (by decide +kernel)) ggX0_bestSet_X0_allDays
set_option maxRecDepth 20000 in
theorem ggX0_bestSet_X0_yellowDays : GoodIn wsX0_bestSet wsX0_yellowDays := goodIn_r _ [22, 14, 15, 16, 4, 17, 18, 38, 39, 40, 41, 42, 43, 44, 45] (by decide +kernel) (by decide +kernel)
set_option maxRecDepth 20000 in
theorem gX0_bestSet_X0_yellowDays : GoodIn wsX0_bestSet (wsV RX0 78 RX0 yX0_yellowDays wsX0_yellowDays) := goodIn_app (goodIn_of _ (by decide +kernel)) ggX0_bestSet_X0_yellowDays
set_option maxRecDepth 20000 in
theorem ggX0_bestSet_J6_bitCount_0f7a4 : GoodIn wsX0_bestSet wsJ6_bitCount_0f7a4 := goodIn_r _ [26, 27, 28, 29] (by decide +kernel) (by decide +kernel)
set_option maxRecDepth 20000 in
theorem gX0_bestSet_J6_bitCount_0f7a4 : GoodIn wsX0_bestSet (va_wsS RX0 84 yJ6_bitCount_0f7a4 wsJ6_bitCount_0f7a4) := goodIn_app (goodIn_of _ (by decide +kernel)) ggX0_bestSet_J6_bitCount_0f7a4
set_option maxRecDepth 20000 in
theorem ggX0_bestSet_X0_needOf : GoodIn wsX0_bestSet wsX0_needOf := goodIn_r _ [33, 34, 8, 9, 10, 38, 39, 40, 41, 42, 43, 44, 45] (by decide +kernel) (by decide +kernel)
set_option maxRecDepth 20000 in
theorem gX0_bestSet_X0_needOf : GoodIn wsX0_bestSet (wsV RX0 102 RX0 yX0_needOf wsX0_needOf) := goodIn_app (goodIn_of _ (by decide +kernel)) ggX0_bestSet_X0_needOf
set_option maxRecDepth 20000 in
theorem ggX0_bestSet_X0_isBetter : GoodIn wsX0_bestSet wsX0_isBetter := goodIn_r _ [37, 23, 24, 25, 26, 27, 28, 29] (by decide +kernel) (by decide +kernel)
set_option maxRecDepth 20000 in
theorem gX0_bestSet_X0_isBetter : GoodIn wsX0_bestSet (va_wsS RX0 105 yX0_isBetter wsX0_isBetter) := goodIn_app (goodIn_of _ (by decide +kernel)) ggX0_bestSet_X0_isBetter
theorem dX0_bestSet_0 : decode cX0_bestSet 0 = .ok (.aload_n 0, 1) := by decide +kernel
theorem dX0_bestSet_1 : decode cX0_bestSet 1 = .ok (.iload_n 1, 1) := by decide +kernel
theorem dX0_bestSet_2 : decode cX0_bestSet 2 = .ok (.invokevirtual 75, 3) := by decide +kernel
theorem dX0_bestSet_5 : decode cX0_bestSet 5 = .ok (.istore_n 3, 1) := by decide +kernel
theorem dX0_bestSet_6 : decode cX0_bestSet 6 = .ok (.aload_n 0, 1) := by decide +kernel
theorem dX0_bestSet_7 : decode cX0_bestSet 7 = .ok (.invokevirtual 60, 3) := by decide +kernel
theorem dX0_bestSet_10 : decode cX0_bestSet 10 = .ok (.istore 4, 2) := by decide +kernel
theorem dX0_bestSet_12 : decode cX0_bestSet 12 = .ok (.bipush (-9), 2) := by decide +kernel
theorem dX0_bestSet_14 : decode cX0_bestSet 14 = .ok (.istore 5, 2) := by decide +kernel
theorem dX0_bestSet_16 : decode cX0_bestSet 16 = .ok (.iconst 0, 1) := by decide +kernel
theorem dX0_bestSet_17 : decode cX0_bestSet 17 = .ok (.istore 6, 2) := by decide +kernel
theorem dX0_bestSet_19 : decode cX0_bestSet 19 = .ok (.iconst 0, 1) := by decide +kernel
theorem dX0_bestSet_20 : decode cX0_bestSet 20 = .ok (.istore 7, 2) := by decide +kernel
theorem dX0_bestSet_22 : decode cX0_bestSet 22 = .ok (.iload 7, 2) := by decide +kernel
theorem dX0_bestSet_24 : decode cX0_bestSet 24 = .ok (.iload 4, 2) := by decide +kernel
theorem dX0_bestSet_26 : decode cX0_bestSet 26 = .ok (.if_icmp .gt 77, 3) := by decide +kernel
theorem dX0_bestSet_29 : decode cX0_bestSet 29 = .ok (.aload_n 0, 1) := by decide +kernel
theorem dX0_bestSet_30 : decode cX0_bestSet 30 = .ok (.iload_n 3, 1) := by decide +kernel
theorem dX0_bestSet_31 : decode cX0_bestSet 31 = .ok (.iload 7, 2) := by decide +kernel
theorem dX0_bestSet_33 : decode cX0_bestSet 33 = .ok (.invokevirtual 78, 3) := by decide +kernel
theorem dX0_bestSet_36 : decode cX0_bestSet 36 = .ok (.iload_n 2, 1) := by decide +kernel
theorem dX0_bestSet_37 : decode cX0_bestSet 37 = .ok (.iand, 1) := by decide +kernel
theorem dX0_bestSet_38 : decode cX0_bestSet 38 = .ok (.invokestatic 84, 3) := by decide +kernel
theorem dX0_bestSet_41 : decode cX0_bestSet 41 = .ok (.istore 8, 2) := by decide +kernel
theorem dX0_bestSet_43 : decode cX0_bestSet 43 = .ok (.iload 7, 2) := by decide +kernel
theorem dX0_bestSet_45 : decode cX0_bestSet 45 = .ok (.invokestatic 84, 3) := by decide +kernel
theorem dX0_bestSet_48 : decode cX0_bestSet 48 = .ok (.aload_n 0, 1) := by decide +kernel
theorem dX0_bestSet_49 : decode cX0_bestSet 49 = .ok (.iload_n 1, 1) := by decide +kernel
theorem dX0_bestSet_50 : decode cX0_bestSet 50 = .ok (.invokevirtual 102, 3) := by decide +kernel
theorem dX0_bestSet_53 : decode cX0_bestSet 53 = .ok (.if_icmp .lt 7, 3) := by decide +kernel
theorem dX0_bestSet_56 : decode cX0_bestSet 56 = .ok (.iconst 1, 1) := by decide +kernel
theorem dX0_bestSet_57 : decode cX0_bestSet 57 = .ok (.goto 4, 3) := by decide +kernel
theorem dX0_bestSet_60 : decode cX0_bestSet 60 = .ok (.iconst 0, 1) := by decide +kernel
theorem dX0_bestSet_61 : decode cX0_bestSet 61 = .ok (.istore 9, 2) := by decide +kernel
theorem dX0_bestSet_63 : decode cX0_bestSet 63 = .ok (.iload 9, 2) := by decide +kernel
theorem dX0_bestSet_65 : decode cX0_bestSet 65 = .ok (.ifCond .eq 32, 3) := by decide +kernel
theorem dX0_bestSet_68 : decode cX0_bestSet 68 = .ok (.iload 5, 2) := by decide +kernel
theorem dX0_bestSet_70 : decode cX0_bestSet 70 = .ok (.bipush (-9), 2) := by decide +kernel
theorem dX0_bestSet_72 : decode cX0_bestSet 72 = .ok (.if_icmp .eq 17, 3) := by decide +kernel
theorem dX0_bestSet_75 : decode cX0_bestSet 75 = .ok (.iload 8, 2) := by decide +kernel
theorem dX0_bestSet_77 : decode cX0_bestSet 77 = .ok (.iload 7, 2) := by decide +kernel
theorem dX0_bestSet_79 : decode cX0_bestSet 79 = .ok (.iload 6, 2) := by decide +kernel
theorem dX0_bestSet_81 : decode cX0_bestSet 81 = .ok (.iload 5, 2) := by decide +kernel
theorem dX0_bestSet_83 : decode cX0_bestSet 83 = .ok (.invokestatic 105, 3) := by decide +kernel
theorem dX0_bestSet_86 : decode cX0_bestSet 86 = .ok (.ifCond .eq 11, 3) := by decide +kernel
theorem dX0_bestSet_89 : decode cX0_bestSet 89 = .ok (.iload 7, 2) := by decide +kernel
theorem dX0_bestSet_91 : decode cX0_bestSet 91 = .ok (.istore 5, 2) := by decide +kernel
theorem dX0_bestSet_93 : decode cX0_bestSet 93 = .ok (.iload 8, 2) := by decide +kernel
theorem dX0_bestSet_95 : decode cX0_bestSet 95 = .ok (.istore 6, 2) := by decide +kernel
theorem dX0_bestSet_97 : decode cX0_bestSet 97 = .ok (.iinc 7 1, 3) := by decide +kernel
theorem dX0_bestSet_100 : decode cX0_bestSet 100 = .ok (.goto (-78), 3) := by decide +kernel
theorem dX0_bestSet_103 : decode cX0_bestSet 103 = .ok (.iload 5, 2) := by decide +kernel
theorem dX0_bestSet_105 : decode cX0_bestSet 105 = .ok (.ireturn, 1) := by decide +kernel
set_option maxRecDepth 20000 in
theorem ggX0_isBetter_J6_bitCount_0f7a4 : GoodIn wsX0_isBetter wsJ6_bitCount_0f7a4 := goodIn_r _ [4, 5, 6, 7] (by decide +kernel) (by decide +kernel)
set_option maxRecDepth 20000 in
theorem gX0_isBetter_J6_bitCount_0f7a4 : GoodIn wsX0_isBetter (va_wsS RX0 84 yJ6_bitCount_0f7a4 wsJ6_bitCount_0f7a4) := goodIn_app (goodIn_of _ (by decide +kernel)) ggX0_isBetter_J6_bitCount_0f7a4
theorem dX0_isBetter_0 : decode cX0_isBetter 0 = .ok (.iload_n 0, 1) := by decide +kernel
theorem dX0_isBetter_1 : decode cX0_isBetter 1 = .ok (.iload_n 2, 1) := by decide +kernel
theorem dX0_isBetter_2 : decode cX0_isBetter 2 = .ok (.if_icmp .lt 19, 3) := by decide +kernel
theorem dX0_isBetter_5 : decode cX0_isBetter 5 = .ok (.iload_n 0, 1) := by decide +kernel
theorem dX0_isBetter_6 : decode cX0_isBetter 6 = .ok (.iload_n 2, 1) := by decide +kernel
theorem dX0_isBetter_7 : decode cX0_isBetter 7 = .ok (.if_icmp .ne 18, 3) := by decide +kernel
theorem dX0_isBetter_10 : decode cX0_isBetter 10 = .ok (.iload_n 1, 1) := by decide +kernel
theorem dX0_isBetter_11 : decode cX0_isBetter 11 = .ok (.invokestatic 84, 3) := by decide +kernel
theorem dX0_isBetter_14 : decode cX0_isBetter 14 = .ok (.iload_n 3, 1) := by decide +kernel
theorem dX0_isBetter_15 : decode cX0_isBetter 15 = .ok (.invokestatic 84, 3) := by decide +kernel
theorem dX0_isBetter_18 : decode cX0_isBetter 18 = .ok (.if_icmp .ge 7, 3) := by decide +kernel
theorem dX0_isBetter_21 : decode cX0_isBetter 21 = .ok (.iconst 1, 1) := by decide +kernel
theorem dX0_isBetter_22 : decode cX0_isBetter 22 = .ok (.goto 4, 3) := by decide +kernel
theorem dX0_isBetter_25 : decode cX0_isBetter 25 = .ok (.iconst 0, 1) := by decide +kernel
theorem dX0_isBetter_26 : decode cX0_isBetter 26 = .ok (.ireturn, 1) := by decide +kernel
set_option maxRecDepth 20000 in
theorem ggX0_villagePays_X0_bestSet : GoodIn wsX0_villagePays wsX0_bestSet := goodIn_r _ [6, 7, 8, 9, 5, 10, 11, 12, 13, 14, 15, 16, 17, 18, 19, 20, 21, 22, 23, 24, 25, 26, 27, 28, 29, 30, 31, 32, 33, 34, 35, 36, 37, 38, 39, 40, 41, 42, 48, 49, 50, 51, 52, 53, 54, 55] (by decide +kernel) (by decide +kernel)
set_option maxRecDepth 20000 in
theorem gX0_villagePays_X0_bestSet : GoodIn wsX0_villagePays (wsV RX0 109 RX0 yX0_bestSet wsX0_bestSet) := goodIn_app (goodIn_of _ (by decide +kernel)) ggX0_villagePays_X0_bestSet
set_option maxRecDepth 20000 in
theorem ggX0_villagePays_X0_lastsOf : GoodIn wsX0_villagePays wsX0_lastsOf := goodIn_r _ [10, 11, 12, 13, 14, 15, 16, 17, 5, 18, 48, 49, 50, 51, 52, 53, 54, 55] (by decide +kernel) (by decide +kernel)
set_option maxRecDepth 20000 in
theorem gX0_villagePays_X0_lastsOf : GoodIn wsX0_villagePays (wsV RX0 75 RX0 yX0_lastsOf wsX0_lastsOf) := goodIn_app (goodIn_of _ (by decide +kernel)) ggX0_villagePays_X0_lastsOf
set_option maxRecDepth 20000 in
theorem ggX0_villagePays_X0_yellowDays : GoodIn wsX0_villagePays wsX0_yellowDays := goodIn_r _ [27, 19, 20, 21, 5, 22, 23, 48, 49, 50, 51, 52, 53, 54, 55] (by decide +kernel) (by decide +kernel)
set_option maxRecDepth 20000 in
theorem gX0_villagePays_X0_yellowDays : GoodIn wsX0_villagePays (wsV RX0 78 RX0 yX0_yellowDays wsX0_yellowDays) := goodIn_app (goodIn_of _ (by decide +kernel)) ggX0_villagePays_X0_yellowDays
set_option maxRecDepth 20000 in
theorem ggX0_villagePays_J6_bitCount_0f7a4 : GoodIn wsX0_villagePays wsJ6_bitCount_0f7a4 := goodIn_r _ [31, 32, 33, 34] (by decide +kernel) (by decide +kernel)
set_option maxRecDepth 20000 in
theorem gX0_villagePays_J6_bitCount_0f7a4 : GoodIn wsX0_villagePays (va_wsS RX0 84 yJ6_bitCount_0f7a4 wsJ6_bitCount_0f7a4) := goodIn_app (goodIn_of _ (by decide +kernel)) ggX0_villagePays_J6_bitCount_0f7a4
set_option maxRecDepth 20000 in
theorem ggX0_villagePays_X0_spoonsOf : GoodIn wsX0_villagePays wsX0_spoonsOf := goodIn_r _ [46, 47, 13, 14, 15, 48, 49, 50, 51, 52, 53, 54, 55] (by decide +kernel) (by decide +kernel)
set_option maxRecDepth 20000 in
theorem gX0_villagePays_X0_spoonsOf : GoodIn wsX0_villagePays (wsV RX0 89 RX0 yX0_spoonsOf wsX0_spoonsOf) := goodIn_app (goodIn_of _ (by decide +kernel)) ggX0_villagePays_X0_spoonsOf
theorem dX0_villagePays_0 : decode cX0_villagePays 0 = .ok (.iconst 0, 1) := by decide +kernel
theorem dX0_villagePays_1 : decode cX0_villagePays 1 = .ok (.istore_n 2, 1) := by decide +kernel
theorem dX0_villagePays_2 : decode cX0_villagePays 2 = .ok (.iconst 0, 1) := by decide +kernel
theorem dX0_villagePays_3 : decode cX0_villagePays 3 = .ok (.istore_n 3, 1) := by decide +kernel
theorem dX0_villagePays_4 : decode cX0_villagePays 4 = .ok (.iload_n 3, 1) := by decide +kernel
theorem dX0_villagePays_5 : decode cX0_villagePays 5 = .ok (.aload_n 0, 1) := by decide +kernel
theorem dX0_villagePays_6 : decode cX0_villagePays 6 = .ok (.getfield 40, 3) := by decide +kernel
theorem dX0_villagePays_9 : decode cX0_villagePays 9 = .ok (.if_icmp .ge 52, 3) := by decide +kernel
theorem dX0_villagePays_12 : decode cX0_villagePays 12 = .ok (.aload_n 0, 1) := by decide +kernel
theorem dX0_villagePays_13 : decode cX0_villagePays 13 = .ok (.iload_n 3, 1) := by decide +kernel
theorem dX0_villagePays_14 : decode cX0_villagePays 14 = .ok (.iload_n 1, 1) := by decide +kernel
theorem dX0_villagePays_15 : decode cX0_villagePays 15 = .ok (.invokevirtual 109, 3) := by decide +kernel
theorem dX0_villagePays_18 : decode cX0_villagePays 18 = .ok (.istore 4, 2) := by decide +kernel
theorem dX0_villagePays_20 : decode cX0_villagePays 20 = .ok (.iload 4, 2) := by decide +kernel
theorem dX0_villagePays_22 : decode cX0_villagePays 22 = .ok (.bipush (-9), 2) := by decide +kernel
theorem dX0_villagePays_24 : decode cX0_villagePays 24 = .ok (.if_icmp .ne 6, 3) := by decide +kernel
theorem dX0_villagePays_27 : decode cX0_villagePays 27 = .ok (.bipush (-9), 2) := by decide +kernel
theorem dX0_villagePays_29 : decode cX0_villagePays 29 = .ok (.ireturn, 1) := by decide +kernel
theorem dX0_villagePays_30 : decode cX0_villagePays 30 = .ok (.iload_n 2, 1) := by decide +kernel
theorem dX0_villagePays_31 : decode cX0_villagePays 31 = .ok (.aload_n 0, 1) := by decide +kernel
theorem dX0_villagePays_32 : decode cX0_villagePays 32 = .ok (.aload_n 0, 1) := by decide +kernel
theorem dX0_villagePays_33 : decode cX0_villagePays 33 = .ok (.iload_n 3, 1) := by decide +kernel
theorem dX0_villagePays_34 : decode cX0_villagePays 34 = .ok (.invokevirtual 75, 3) := by decide +kernel
theorem dX0_villagePays_37 : decode cX0_villagePays 37 = .ok (.iload 4, 2) := by decide +kernel
theorem dX0_villagePays_39 : decode cX0_villagePays 39 = .ok (.invokevirtual 78, 3) := by decide +kernel
theorem dX0_villagePays_42 : decode cX0_villagePays 42 = .ok (.iload_n 1, 1) := by decide +kernel
theorem dX0_villagePays_43 : decode cX0_villagePays 43 = .ok (.iand, 1) := by decide +kernel
theorem dX0_villagePays_44 : decode cX0_villagePays 44 = .ok (.invokestatic 84, 3) := by decide +kernel
theorem dX0_villagePays_47 : decode cX0_villagePays 47 = .ok (.aload_n 0, 1) := by decide +kernel
theorem dX0_villagePays_48 : decode cX0_villagePays 48 = .ok (.iload_n 3, 1) := by decide +kernel
theorem dX0_villagePays_49 : decode cX0_villagePays 49 = .ok (.invokevirtual 89, 3) := by decide +kernel
theorem dX0_villagePays_52 : decode cX0_villagePays 52 = .ok (.imul, 1) := by decide +kernel
theorem dX0_villagePays_53 : decode cX0_villagePays 53 = .ok (.iadd, 1) := by decide +kernel
theorem dX0_villagePays_54 : decode cX0_villagePays 54 = .ok (.istore_n 2, 1) := by decide +kernel
theorem dX0_villagePays_55 : decode cX0_villagePays 55 = .ok (.iinc 3 1, 3) := by decide +kernel
theorem dX0_villagePays_58 : decode cX0_villagePays 58 = .ok (.goto (-54), 3) := by decide +kernel
theorem dX0_villagePays_61 : decode cX0_villagePays 61 = .ok (.iload_n 2, 1) := by decide +kernel
theorem dX0_villagePays_62 : decode cX0_villagePays 62 = .ok (.ireturn, 1) := by decide +kernel
set_option maxRecDepth 20000 in
theorem ggX0_smileDay_X0_fastDays : GoodIn wsX0_smileDay wsX0_fastDays := goodIn_r _ [6, 1, 7, 8, 9, 10, 11, 62, 63, 64, 65, 66, 67, 68, 69] (by decide +kernel) (by decide +kernel)
set_option maxRecDepth 20000 in
theorem gX0_smileDay_X0_fastDays : GoodIn wsX0_smileDay (wsV RX0 72 RX0 yX0_fastDays wsX0_fastDays) := goodIn_app (goodIn_of _ (by decide +kernel)) ggX0_smileDay_X0_fastDays
set_option maxRecDepth 20000 in
theorem ggX0_smileDay_X0_fastDaysBut : GoodIn wsX0_smileDay wsX0_fastDaysBut := goodIn_r _ [15, 2, 3, 4, 5, 6, 1, 7, 8, 9, 10, 11, 62, 63, 64, 65, 66, 67, 68, 69] (by decide +kernel) (by decide +kernel)
set_option maxRecDepth 20000 in
theorem gX0_smileDay_X0_fastDaysBut : GoodIn wsX0_smileDay (wsV RX0 112 RX0 yX0_fastDaysBut wsX0_fastDaysBut) := goodIn_app (goodIn_of _ (by decide +kernel)) ggX0_smileDay_X0_fastDaysBut
set_option maxRecDepth 20000 in
theorem ggX0_smileDay_X0_villagePays : GoodIn wsX0_smileDay wsX0_villagePays := goodIn_r _ [19, 20, 21, 22, 23, 5, 24, 25, 26, 27, 28, 29, 30, 9, 10, 11, 31, 32, 33, 34, 35, 36, 37, 1, 38, 39, 40, 41, 42, 43, 44, 45, 46, 47, 48, 49, 50, 51, 52, 53, 54, 55, 56, 57, 58, 59, 60, 61, 62, 63, 64, 65, 66, 67, 68, 69] (by decide +kernel) (by decide +kernel)
set_option maxRecDepth 20000 in
theorem gX0_smileDay_X0_villagePays : GoodIn wsX0_smileDay (wsV RX0 115 RX0 yX0_villagePays wsX0_villagePays) := goodIn_app (goodIn_of _ (by decide +kernel)) ggX0_smileDay_X0_villagePays
theorem dX0_smileDay_0 : decode cX0_smileDay 0 = .ok (.aload_n 0, 1) := by decide +kernel
theorem dX0_smileDay_1 : decode cX0_smileDay 1 = .ok (.invokevirtual 72, 3) := by decide +kernel
theorem dX0_smileDay_4 : decode cX0_smileDay 4 = .ok (.istore_n 1, 1) := by decide +kernel
theorem dX0_smileDay_5 : decode cX0_smileDay 5 = .ok (.bipush (-9), 2) := by decide +kernel
theorem dX0_smileDay_7 : decode cX0_smileDay 7 = .ok (.istore_n 2, 1) := by decide +kernel
theorem dX0_smileDay_8 : decode cX0_smileDay 8 = .ok (.iconst 0, 1) := by decide +kernel
theorem dX0_smileDay_9 : decode cX0_smileDay 9 = .ok (.istore_n 3, 1) := by decide +kernel
theorem dX0_smileDay_10 : decode cX0_smileDay 10 = .ok (.iconst 0, 1) := by decide +kernel
theorem dX0_smileDay_11 : decode cX0_smileDay 11 = .ok (.istore 4, 2) := by decide +kernel
theorem dX0_smileDay_13 : decode cX0_smileDay 13 = .ok (.iload 4, 2) := by decide +kernel
theorem dX0_smileDay_15 : decode cX0_smileDay 15 = .ok (.aload_n 0, 1) := by decide +kernel
theorem dX0_smileDay_16 : decode cX0_smileDay 16 = .ok (.getfield 37, 3) := by decide +kernel
theorem dX0_smileDay_19 : decode cX0_smileDay 19 = .ok (.if_icmp .ge 60, 3) := by decide +kernel
theorem dX0_smileDay_22 : decode cX0_smileDay 22 = .ok (.iload_n 1, 1) := by decide +kernel
theorem dX0_smileDay_23 : decode cX0_smileDay 23 = .ok (.iload 4, 2) := by decide +kernel
theorem dX0_smileDay_25 : decode cX0_smileDay 25 = .ok (.ishr, 1) := by decide +kernel
theorem dX0_smileDay_26 : decode cX0_smileDay 26 = .ok (.iconst 1, 1) := by decide +kernel
theorem dX0_smileDay_27 : decode cX0_smileDay 27 = .ok (.iand, 1) := by decide +kernel
theorem dX0_smileDay_28 : decode cX0_smileDay 28 = .ok (.ifCond .ne 8, 3) := by decide +kernel
theorem dX0_smileDay_31 : decode cX0_smileDay 31 = .ok (.bipush (-9), 2) := by decide +kernel
theorem dX0_smileDay_33 : decode cX0_smileDay 33 = .ok (.goto 13, 3) := by decide +kernel
theorem dX0_smileDay_36 : decode cX0_smileDay 36 = .ok (.aload_n 0, 1) := by decide +kernel
theorem dX0_smileDay_37 : decode cX0_smileDay 37 = .ok (.aload_n 0, 1) := by decide +kernel
theorem dX0_smileDay_38 : decode cX0_smileDay 38 = .ok (.iload 4, 2) := by decide +kernel
theorem dX0_smileDay_40 : decode cX0_smileDay 40 = .ok (.invokevirtual 112, 3) := by decide +kernel
theorem dX0_smileDay_43 : decode cX0_smileDay 43 = .ok (.invokevirtual 115, 3) := by decide +kernel
theorem dX0_smileDay_46 : decode cX0_smileDay 46 = .ok (.istore 5, 2) := by decide +kernel
theorem dX0_smileDay_48 : decode cX0_smileDay 48 = .ok (.iload 5, 2) := by decide +kernel
theorem dX0_smileDay_50 : decode cX0_smileDay 50 = .ok (.bipush (-9), 2) := by decide +kernel
theorem dX0_smileDay_52 : decode cX0_smileDay 52 = .ok (.if_icmp .eq 21, 3) := by decide +kernel
theorem dX0_smileDay_55 : decode cX0_smileDay 55 = .ok (.iload_n 2, 1) := by decide +kernel
theorem dX0_smileDay_56 : decode cX0_smileDay 56 = .ok (.bipush (-9), 2) := by decide +kernel
theorem dX0_smileDay_58 : decode cX0_smileDay 58 = .ok (.if_icmp .eq 9, 3) := by decide +kernel
theorem dX0_smileDay_61 : decode cX0_smileDay 61 = .ok (.iload 5, 2) := by decide +kernel
theorem dX0_smileDay_63 : decode cX0_smileDay 63 = .ok (.iload_n 3, 1) := by decide +kernel
theorem dX0_smileDay_64 : decode cX0_smileDay 64 = .ok (.if_icmp .ge 9, 3) := by decide +kernel
theorem dX0_smileDay_67 : decode cX0_smileDay 67 = .ok (.iload 4, 2) := by decide +kernel
theorem dX0_smileDay_69 : decode cX0_smileDay 69 = .ok (.istore_n 2, 1) := by decide +kernel
theorem dX0_smileDay_70 : decode cX0_smileDay 70 = .ok (.iload 5, 2) := by decide +kernel
theorem dX0_smileDay_72 : decode cX0_smileDay 72 = .ok (.istore_n 3, 1) := by decide +kernel
theorem dX0_smileDay_73 : decode cX0_smileDay 73 = .ok (.iinc 4 1, 3) := by decide +kernel
theorem dX0_smileDay_76 : decode cX0_smileDay 76 = .ok (.goto (-63), 3) := by decide +kernel
theorem dX0_smileDay_79 : decode cX0_smileDay 79 = .ok (.iload_n 2, 1) := by decide +kernel
theorem dX0_smileDay_80 : decode cX0_smileDay 80 = .ok (.ireturn, 1) := by decide +kernel
theorem dX1_init_0 : decode cX1_init 0 = .ok (.aload_n 0, 1) := by decide +kernel
theorem dX1_init_1 : decode cX1_init 1 = .ok (.invokespecial 3, 3) := by decide +kernel
theorem dX1_init_4 : decode cX1_init 4 = .ok (.aload_n 0, 1) := by decide +kernel
theorem dX1_init_5 : decode cX1_init 5 = .ok (.bipush 8, 2) := by decide +kernel
theorem dX1_init_7 : decode cX1_init 7 = .ok (.newarray .int, 2) := by decide +kernel
theorem dX1_init_9 : decode cX1_init 9 = .ok (.putfield 9, 3) := by decide +kernel
theorem dX1_init_12 : decode cX1_init 12 = .ok (.aload_n 0, 1) := by decide +kernel
theorem dX1_init_13 : decode cX1_init 13 = .ok (.bipush 8, 2) := by decide +kernel
theorem dX1_init_15 : decode cX1_init 15 = .ok (.newarray .int, 2) := by decide +kernel
theorem dX1_init_17 : decode cX1_init 17 = .ok (.putfield 15, 3) := by decide +kernel
theorem dX1_init_20 : decode cX1_init 20 = .ok (.aload_n 0, 1) := by decide +kernel
theorem dX1_init_21 : decode cX1_init 21 = .ok (.bipush 8, 2) := by decide +kernel
theorem dX1_init_23 : decode cX1_init 23 = .ok (.newarray .int, 2) := by decide +kernel
theorem dX1_init_25 : decode cX1_init 25 = .ok (.putfield 18, 3) := by decide +kernel
theorem dX1_init_28 : decode cX1_init 28 = .ok (.aload_n 0, 1) := by decide +kernel
theorem dX1_init_29 : decode cX1_init 29 = .ok (.bipush 8, 2) := by decide +kernel
theorem dX1_init_31 : decode cX1_init 31 = .ok (.newarray .boolean, 2) := by decide +kernel
theorem dX1_init_33 : decode cX1_init 33 = .ok (.putfield 21, 3) := by decide +kernel
theorem dX1_init_36 : decode cX1_init 36 = .ok (.return_, 1) := by decide +kernel
theorem dX1_keptCount_0 : decode cX1_keptCount 0 = .ok (.aload_n 0, 1) := by decide +kernel
theorem dX1_keptCount_1 : decode cX1_keptCount 1 = .ok (.getfield 25, 3) := by decide +kernel
theorem dX1_keptCount_4 : decode cX1_keptCount 4 = .ok (.ireturn, 1) := by decide +kernel
theorem dX1_isFull_0 : decode cX1_isFull 0 = .ok (.aload_n 0, 1) := by decide +kernel
theorem dX1_isFull_1 : decode cX1_isFull 1 = .ok (.getfield 25, 3) := by decide +kernel
theorem dX1_isFull_4 : decode cX1_isFull 4 = .ok (.bipush 8, 2) := by decide +kernel
theorem dX1_isFull_6 : decode cX1_isFull 6 = .ok (.if_icmp .lt 7, 3) := by decide +kernel
theorem dX1_isFull_9 : decode cX1_isFull 9 = .ok (.iconst 1, 1) := by decide +kernel
theorem dX1_isFull_10 : decode cX1_isFull 10 = .ok (.goto 4, 3) := by decide +kernel
theorem dX1_isFull_13 : decode cX1_isFull 13 = .ok (.iconst 0, 1) := by decide +kernel
theorem dX1_isFull_14 : decode cX1_isFull 14 = .ok (.ireturn, 1) := by decide +kernel
set_option maxRecDepth 20000 in
theorem ggX1_keep_X4_changeIn : GoodIn wsX1_keep wsX4_changeIn := goodIn_r _ [8] (by decide +kernel) (by decide +kernel)
set_option maxRecDepth 20000 in
theorem gX1_keep_X4_changeIn_n29 : GoodIn wsX1_keep (wsX4_changeIn) := ggX1_keep_X4_changeIn
theorem dX1_keep_0 : decode cX1_keep 0 = .ok (.aload_n 0, 1) := by decide +kernel
theorem dX1_keep_1 : decode cX1_keep 1 = .ok (.getfield 25, 3) := by decide +kernel
theorem dX1_keep_4 : decode cX1_keep 4 = .ok (.ifCond .lt 15, 3) := by decide +kernel
theorem dX1_keep_7 : decode cX1_keep 7 = .ok (.aload_n 0, 1) := by decide +kernel
theorem dX1_keep_8 : decode cX1_keep 8 = .ok (.getfield 25, 3) := by decide +kernel
theorem dX1_keep_11 : decode cX1_keep 11 = .ok (.aload_n 0, 1) := by decide +kernel
theorem dX1_keep_12 : decode cX1_keep 12 = .ok (.getfield 21, 3) := by decide +kernel
theorem dX1_keep_15 : decode cX1_keep 15 = .ok (.arraylength, 1) := by decide +kernel
theorem dX1_keep_16 : decode cX1_keep 16 = .ok (.if_icmp .lt 4, 3) := by decide +kernel
theorem dX1_keep_19 : decode cX1_keep 19 = .ok (.return_, 1) := by decide +kernel
theorem dX1_keep_20 : decode cX1_keep 20 = .ok (.aload_n 0, 1) := by decide +kernel
theorem dX1_keep_21 : decode cX1_keep 21 = .ok (.getfield 9, 3) := by decide +kernel
theorem dX1_keep_24 : decode cX1_keep 24 = .ok (.aload_n 0, 1) := by decide +kernel
theorem dX1_keep_25 : decode cX1_keep 25 = .ok (.getfield 25, 3) := by decide +kernel
theorem dX1_keep_28 : decode cX1_keep 28 = .ok (.iload_n 1, 1) := by decide +kernel
theorem dX1_keep_29 : decode cX1_keep 29 = .ok (.invokestatic 29, 3) := by decide +kernel
theorem dX1_keep_32 : decode cX1_keep 32 = .ok (.aload_n 0, 1) := by decide +kernel
theorem dX1_keep_33 : decode cX1_keep 33 = .ok (.getfield 15, 3) := by decide +kernel
theorem dX1_keep_36 : decode cX1_keep 36 = .ok (.aload_n 0, 1) := by decide +kernel
theorem dX1_keep_37 : decode cX1_keep 37 = .ok (.getfield 25, 3) := by decide +kernel
theorem dX1_keep_40 : decode cX1_keep 40 = .ok (.iload_n 2, 1) := by decide +kernel
theorem dX1_keep_41 : decode cX1_keep 41 = .ok (.invokestatic 29, 3) := by decide +kernel
theorem dX1_keep_44 : decode cX1_keep 44 = .ok (.aload_n 0, 1) := by decide +kernel
theorem dX1_keep_45 : decode cX1_keep 45 = .ok (.getfield 18, 3) := by decide +kernel
theorem dX1_keep_48 : decode cX1_keep 48 = .ok (.aload_n 0, 1) := by decide +kernel
theorem dX1_keep_49 : decode cX1_keep 49 = .ok (.getfield 25, 3) := by decide +kernel
theorem dX1_keep_52 : decode cX1_keep 52 = .ok (.iload_n 3, 1) := by decide +kernel
theorem dX1_keep_53 : decode cX1_keep 53 = .ok (.invokestatic 29, 3) := by decide +kernel
theorem dX1_keep_56 : decode cX1_keep 56 = .ok (.aload_n 0, 1) := by decide +kernel
theorem dX1_keep_57 : decode cX1_keep 57 = .ok (.getfield 21, 3) := by decide +kernel
theorem dX1_keep_60 : decode cX1_keep 60 = .ok (.aload_n 0, 1) := by decide +kernel
theorem dX1_keep_61 : decode cX1_keep 61 = .ok (.getfield 25, 3) := by decide +kernel
theorem dX1_keep_64 : decode cX1_keep 64 = .ok (.iload 4, 2) := by decide +kernel
theorem dX1_keep_66 : decode cX1_keep 66 = .ok (.bastore, 1) := by decide +kernel
theorem dX1_keep_67 : decode cX1_keep 67 = .ok (.aload_n 0, 1) := by decide +kernel
theorem dX1_keep_68 : decode cX1_keep 68 = .ok (.dup, 1) := by decide +kernel
theorem dX1_keep_69 : decode cX1_keep 69 = .ok (.getfield 25, 3) := by decide +kernel
theorem dX1_keep_72 : decode cX1_keep 72 = .ok (.iconst 1, 1) := by decide +kernel
theorem dX1_keep_73 : decode cX1_keep 73 = .ok (.iadd, 1) := by decide +kernel
theorem dX1_keep_74 : decode cX1_keep 74 = .ok (.putfield 25, 3) := by decide +kernel
theorem dX1_keep_77 : decode cX1_keep 77 = .ok (.return_, 1) := by decide +kernel
theorem dX1_dropLast_0 : decode cX1_dropLast 0 = .ok (.aload_n 0, 1) := by decide +kernel
theorem dX1_dropLast_1 : decode cX1_dropLast 1 = .ok (.dup, 1) := by decide +kernel
theorem dX1_dropLast_2 : decode cX1_dropLast 2 = .ok (.getfield 25, 3) := by decide +kernel
theorem dX1_dropLast_5 : decode cX1_dropLast 5 = .ok (.iload_n 1, 1) := by decide +kernel
theorem dX1_dropLast_6 : decode cX1_dropLast 6 = .ok (.isub, 1) := by decide +kernel
theorem dX1_dropLast_7 : decode cX1_dropLast 7 = .ok (.putfield 25, 3) := by decide +kernel
theorem dX1_dropLast_10 : decode cX1_dropLast 10 = .ok (.return_, 1) := by decide +kernel
theorem dX1_dropAll_0 : decode cX1_dropAll 0 = .ok (.aload_n 0, 1) := by decide +kernel
theorem dX1_dropAll_1 : decode cX1_dropAll 1 = .ok (.iconst 0, 1) := by decide +kernel
theorem dX1_dropAll_2 : decode cX1_dropAll 2 = .ok (.putfield 25, 3) := by decide +kernel
theorem dX1_dropAll_5 : decode cX1_dropAll 5 = .ok (.return_, 1) := by decide +kernel
set_option maxRecDepth 20000 in
theorem ggX1_allAreSo_X4_numberIn : GoodIn wsX1_allAreSo wsX4_numberIn := goodIn_r _ [8] (by decide +kernel) (by decide +kernel)
set_option maxRecDepth 20000 in
theorem gX1_allAreSo_X4_numberIn_n33 : GoodIn wsX1_allAreSo (wsX4_numberIn) := ggX1_allAreSo_X4_numberIn
set_option maxRecDepth 20000 in
theorem ggX1_allAreSo_X0_lastsOf : GoodIn wsX1_allAreSo wsX0_lastsOf := goodIn_r _ [13, 14, 15, 6, 7, 8, 16, 17, 12, 18, 42, 43, 44, 45, 46, 47, 48, 49] (by decide +kernel) (by decide +kernel)
set_option maxRecDepth 20000 in
theorem gX1_allAreSo_X0_lastsOf : GoodIn wsX1_allAreSo (wsV RX1 37 RX0 yX0_lastsOf wsX0_lastsOf) := goodIn_app (goodIn_of _ (by decide +kernel)) ggX1_allAreSo_X0_lastsOf
set_option maxRecDepth 20000 in
theorem ggX1_allAreSo_X0_isFoundOn : GoodIn wsX1_allAreSo wsX0_isFoundOn := goodIn_r _ [22, 23, 24, 25, 12, 26, 27, 28, 29, 30, 31, 32, 33, 34, 35, 36, 6, 7, 8, 42, 43, 44, 45, 46, 47, 48, 49] (by decide +kernel) (by decide +kernel)
set_option maxRecDepth 20000 in
theorem gX1_allAreSo_X0_isFoundOn : GoodIn wsX1_allAreSo (wsV RX1 43 RX0 yX0_isFoundOn wsX0_isFoundOn) := goodIn_app (goodIn_of _ (by decide +kernel)) ggX1_allAreSo_X0_isFoundOn
theorem dX1_allAreSo_0 : decode cX1_allAreSo 0 = .ok (.iconst 0, 1) := by decide +kernel
theorem dX1_allAreSo_1 : decode cX1_allAreSo 1 = .ok (.istore 5, 2) := by decide +kernel
theorem dX1_allAreSo_3 : decode cX1_allAreSo 3 = .ok (.iload 5, 2) := by decide +kernel
theorem dX1_allAreSo_5 : decode cX1_allAreSo 5 = .ok (.aload_n 0, 1) := by decide +kernel
theorem dX1_allAreSo_6 : decode cX1_allAreSo 6 = .ok (.getfield 25, 3) := by decide +kernel
theorem dX1_allAreSo_9 : decode cX1_allAreSo 9 = .ok (.if_icmp .ge 90, 3) := by decide +kernel
theorem dX1_allAreSo_12 : decode cX1_allAreSo 12 = .ok (.iload 5, 2) := by decide +kernel
theorem dX1_allAreSo_14 : decode cX1_allAreSo 14 = .ok (.aload_n 0, 1) := by decide +kernel
theorem dX1_allAreSo_15 : decode cX1_allAreSo 15 = .ok (.getfield 21, 3) := by decide +kernel
theorem dX1_allAreSo_18 : decode cX1_allAreSo 18 = .ok (.arraylength, 1) := by decide +kernel
theorem dX1_allAreSo_19 : decode cX1_allAreSo 19 = .ok (.if_icmp .ge 80, 3) := by decide +kernel
theorem dX1_allAreSo_22 : decode cX1_allAreSo 22 = .ok (.aload_n 0, 1) := by decide +kernel
theorem dX1_allAreSo_23 : decode cX1_allAreSo 23 = .ok (.getfield 9, 3) := by decide +kernel
theorem dX1_allAreSo_26 : decode cX1_allAreSo 26 = .ok (.iload 5, 2) := by decide +kernel
theorem dX1_allAreSo_28 : decode cX1_allAreSo 28 = .ok (.invokestatic 33, 3) := by decide +kernel
theorem dX1_allAreSo_31 : decode cX1_allAreSo 31 = .ok (.istore 6, 2) := by decide +kernel
theorem dX1_allAreSo_33 : decode cX1_allAreSo 33 = .ok (.iload 6, 2) := by decide +kernel
theorem dX1_allAreSo_35 : decode cX1_allAreSo 35 = .ok (.iload_n 2, 1) := by decide +kernel
theorem dX1_allAreSo_36 : decode cX1_allAreSo 36 = .ok (.if_icmp .ne 7, 3) := by decide +kernel
theorem dX1_allAreSo_39 : decode cX1_allAreSo 39 = .ok (.iload_n 3, 1) := by decide +kernel
theorem dX1_allAreSo_40 : decode cX1_allAreSo 40 = .ok (.goto 9, 3) := by decide +kernel
theorem dX1_allAreSo_43 : decode cX1_allAreSo 43 = .ok (.aload_n 1, 1) := by decide +kernel
theorem dX1_allAreSo_44 : decode cX1_allAreSo 44 = .ok (.iload 6, 2) := by decide +kernel
theorem dX1_allAreSo_46 : decode cX1_allAreSo 46 = .ok (.invokevirtual 37, 3) := by decide +kernel
theorem dX1_allAreSo_49 : decode cX1_allAreSo 49 = .ok (.istore 7, 2) := by decide +kernel
theorem dX1_allAreSo_51 : decode cX1_allAreSo 51 = .ok (.aload_n 1, 1) := by decide +kernel
theorem dX1_allAreSo_52 : decode cX1_allAreSo 52 = .ok (.aload_n 0, 1) := by decide +kernel
theorem dX1_allAreSo_53 : decode cX1_allAreSo 53 = .ok (.getfield 18, 3) := by decide +kernel
theorem dX1_allAreSo_56 : decode cX1_allAreSo 56 = .ok (.iload 5, 2) := by decide +kernel
theorem dX1_allAreSo_58 : decode cX1_allAreSo 58 = .ok (.invokestatic 33, 3) := by decide +kernel
theorem dX1_allAreSo_61 : decode cX1_allAreSo 61 = .ok (.aload_n 0, 1) := by decide +kernel
theorem dX1_allAreSo_62 : decode cX1_allAreSo 62 = .ok (.getfield 15, 3) := by decide +kernel
theorem dX1_allAreSo_65 : decode cX1_allAreSo 65 = .ok (.iload 5, 2) := by decide +kernel
theorem dX1_allAreSo_67 : decode cX1_allAreSo 67 = .ok (.invokestatic 33, 3) := by decide +kernel
theorem dX1_allAreSo_70 : decode cX1_allAreSo 70 = .ok (.iload 7, 2) := by decide +kernel
theorem dX1_allAreSo_72 : decode cX1_allAreSo 72 = .ok (.iload 4, 2) := by decide +kernel
theorem dX1_allAreSo_74 : decode cX1_allAreSo 74 = .ok (.invokevirtual 43, 3) := by decide +kernel
theorem dX1_allAreSo_77 : decode cX1_allAreSo 77 = .ok (.istore 8, 2) := by decide +kernel
theorem dX1_allAreSo_79 : decode cX1_allAreSo 79 = .ok (.iload 8, 2) := by decide +kernel
theorem dX1_allAreSo_81 : decode cX1_allAreSo 81 = .ok (.aload_n 0, 1) := by decide +kernel
theorem dX1_allAreSo_82 : decode cX1_allAreSo 82 = .ok (.getfield 21, 3) := by decide +kernel
theorem dX1_allAreSo_85 : decode cX1_allAreSo 85 = .ok (.iload 5, 2) := by decide +kernel
theorem dX1_allAreSo_87 : decode cX1_allAreSo 87 = .ok (.baload, 1) := by decide +kernel
theorem dX1_allAreSo_88 : decode cX1_allAreSo 88 = .ok (.if_icmp .eq 5, 3) := by decide +kernel
theorem dX1_allAreSo_91 : decode cX1_allAreSo 91 = .ok (.iconst 0, 1) := by decide +kernel
theorem dX1_allAreSo_92 : decode cX1_allAreSo 92 = .ok (.ireturn, 1) := by decide +kernel
theorem dX1_allAreSo_93 : decode cX1_allAreSo 93 = .ok (.iinc 5 1, 3) := by decide +kernel
theorem dX1_allAreSo_96 : decode cX1_allAreSo 96 = .ok (.goto (-93), 3) := by decide +kernel
theorem dX1_allAreSo_99 : decode cX1_allAreSo 99 = .ok (.iconst 1, 1) := by decide +kernel
theorem dX1_allAreSo_100 : decode cX1_allAreSo 100 = .ok (.ireturn, 1) := by decide +kernel
theorem dX2_init_0 : decode cX2_init 0 = .ok (.aload_n 0, 1) := by decide +kernel
theorem dX2_init_1 : decode cX2_init 1 = .ok (.invokespecial 3, 3) := by decide +kernel
theorem dX2_init_4 : decode cX2_init 4 = .ok (.aload_n 0, 1) := by decide +kernel
theorem dX2_init_5 : decode cX2_init 5 = .ok (.bipush 60, 2) := by decide +kernel
theorem dX2_init_7 : decode cX2_init 7 = .ok (.newarray .int, 2) := by decide +kernel
theorem dX2_init_9 : decode cX2_init 9 = .ok (.putfield 9, 3) := by decide +kernel
theorem dX2_init_12 : decode cX2_init 12 = .ok (.aload_n 0, 1) := by decide +kernel
theorem dX2_init_13 : decode cX2_init 13 = .ok (.iconst (-1), 1) := by decide +kernel
theorem dX2_init_14 : decode cX2_init 14 = .ok (.putfield 15, 3) := by decide +kernel
theorem dX2_init_17 : decode cX2_init 17 = .ok (.return_, 1) := by decide +kernel
theorem dX2_hasRow_0 : decode cX2_hasRow 0 = .ok (.aload_n 0, 1) := by decide +kernel
theorem dX2_hasRow_1 : decode cX2_hasRow 1 = .ok (.getfield 15, 3) := by decide +kernel
theorem dX2_hasRow_4 : decode cX2_hasRow 4 = .ok (.iconst (-1), 1) := by decide +kernel
theorem dX2_hasRow_5 : decode cX2_hasRow 5 = .ok (.if_icmp .eq 7, 3) := by decide +kernel
theorem dX2_hasRow_8 : decode cX2_hasRow 8 = .ok (.iconst 1, 1) := by decide +kernel
theorem dX2_hasRow_9 : decode cX2_hasRow 9 = .ok (.goto 4, 3) := by decide +kernel
theorem dX2_hasRow_12 : decode cX2_hasRow 12 = .ok (.iconst 0, 1) := by decide +kernel
theorem dX2_hasRow_13 : decode cX2_hasRow 13 = .ok (.ireturn, 1) := by decide +kernel
theorem dX2_rowLane_0 : decode cX2_rowLane 0 = .ok (.aload_n 0, 1) := by decide +kernel
theorem dX2_rowLane_1 : decode cX2_rowLane 1 = .ok (.getfield 19, 3) := by decide +kernel
theorem dX2_rowLane_4 : decode cX2_rowLane 4 = .ok (.ireturn, 1) := by decide +kernel
set_option maxRecDepth 20000 in
theorem ggX2_makeRow_J7_fill_53178 : GoodIn wsX2_makeRow wsJ7_fill_53178 := goodIn_r _ [7] (by decide +kernel) (by decide +kernel)
set_option maxRecDepth 20000 in
theorem gX2_makeRow_J7_fill_53178 : GoodIn wsX2_makeRow (va_wsS RX2 22 yJ7_fill_53178 wsJ7_fill_53178) := goodIn_app (goodIn_of _ (by decide +kernel)) ggX2_makeRow_J7_fill_53178
theorem dX2_makeRow_0 : decode cX2_makeRow 0 = .ok (.aload_n 0, 1) := by decide +kernel
theorem dX2_makeRow_1 : decode cX2_makeRow 1 = .ok (.getfield 9, 3) := by decide +kernel
theorem dX2_makeRow_4 : decode cX2_makeRow 4 = .ok (.iconst 0, 1) := by decide +kernel
theorem dX2_makeRow_5 : decode cX2_makeRow 5 = .ok (.invokestatic 22, 3) := by decide +kernel
theorem dX2_makeRow_8 : decode cX2_makeRow 8 = .ok (.aload_n 0, 1) := by decide +kernel
theorem dX2_makeRow_9 : decode cX2_makeRow 9 = .ok (.iload_n 1, 1) := by decide +kernel
theorem dX2_makeRow_10 : decode cX2_makeRow 10 = .ok (.putfield 19, 3) := by decide +kernel
theorem dX2_makeRow_13 : decode cX2_makeRow 13 = .ok (.aload_n 0, 1) := by decide +kernel
theorem dX2_makeRow_14 : decode cX2_makeRow 14 = .ok (.iload_n 2, 1) := by decide +kernel
theorem dX2_makeRow_15 : decode cX2_makeRow 15 = .ok (.putfield 15, 3) := by decide +kernel
theorem dX2_makeRow_18 : decode cX2_makeRow 18 = .ok (.return_, 1) := by decide +kernel
theorem dX2_dropRow_0 : decode cX2_dropRow 0 = .ok (.aload_n 0, 1) := by decide +kernel
theorem dX2_dropRow_1 : decode cX2_dropRow 1 = .ok (.iconst (-1), 1) := by decide +kernel
theorem dX2_dropRow_2 : decode cX2_dropRow 2 = .ok (.putfield 15, 3) := by decide +kernel
theorem dX2_dropRow_5 : decode cX2_dropRow 5 = .ok (.return_, 1) := by decide +kernel
set_option maxRecDepth 20000 in
theorem ggX2_faultOfCells_X2_hasRow : GoodIn wsX2_faultOfCells wsX2_hasRow := goodIn_r _ [6, 7, 12, 13, 14] (by decide +kernel) (by decide +kernel)
set_option maxRecDepth 20000 in
theorem gX2_faultOfCells_X2_hasRow : GoodIn wsX2_faultOfCells (wsV RX2 28 RX2 yX2_hasRow wsX2_hasRow) := goodIn_app (goodIn_of _ (by decide +kernel)) ggX2_faultOfCells_X2_hasRow
set_option maxRecDepth 20000 in
theorem ggX2_faultOfCells_X2_hasCells : GoodIn wsX2_faultOfCells wsX2_hasCells := goodIn_r _ [11, 7, 12, 13, 14] (by decide +kernel) (by decide +kernel)
set_option maxRecDepth 20000 in
theorem gX2_faultOfCells_X2_hasCells : GoodIn wsX2_faultOfCells (wsV RX2 32 RX2 yX2_hasCells wsX2_hasCells) := goodIn_app (goodIn_of _ (by decide +kernel)) ggX2_faultOfCells_X2_hasCells
theorem dX2_faultOfCells_0 : decode cX2_faultOfCells 0 = .ok (.aload_n 0, 1) := by decide +kernel
theorem dX2_faultOfCells_1 : decode cX2_faultOfCells 1 = .ok (.invokevirtual 28, 3) := by decide +kernel
theorem dX2_faultOfCells_4 : decode cX2_faultOfCells 4 = .ok (.ifCond .eq 13, 3) := by decide +kernel
theorem dX2_faultOfCells_7 : decode cX2_faultOfCells 7 = .ok (.aload_n 0, 1) := by decide +kernel
theorem dX2_faultOfCells_8 : decode cX2_faultOfCells 8 = .ok (.getfield 19, 3) := by decide +kernel
theorem dX2_faultOfCells_11 : decode cX2_faultOfCells 11 = .ok (.iload_n 1, 1) := by decide +kernel
theorem dX2_faultOfCells_12 : decode cX2_faultOfCells 12 = .ok (.if_icmp .eq 5, 3) := by decide +kernel
theorem dX2_faultOfCells_15 : decode cX2_faultOfCells 15 = .ok (.iconst 2, 1) := by decide +kernel
theorem dX2_faultOfCells_16 : decode cX2_faultOfCells 16 = .ok (.ireturn, 1) := by decide +kernel
theorem dX2_faultOfCells_17 : decode cX2_faultOfCells 17 = .ok (.aload_n 0, 1) := by decide +kernel
theorem dX2_faultOfCells_18 : decode cX2_faultOfCells 18 = .ok (.invokevirtual 28, 3) := by decide +kernel
theorem dX2_faultOfCells_21 : decode cX2_faultOfCells 21 = .ok (.ifCond .ne 5, 3) := by decide +kernel
theorem dX2_faultOfCells_24 : decode cX2_faultOfCells 24 = .ok (.iconst 1, 1) := by decide +kernel
theorem dX2_faultOfCells_25 : decode cX2_faultOfCells 25 = .ok (.ireturn, 1) := by decide +kernel
theorem dX2_faultOfCells_26 : decode cX2_faultOfCells 26 = .ok (.iload_n 3, 1) := by decide +kernel
theorem dX2_faultOfCells_27 : decode cX2_faultOfCells 27 = .ok (.ifCond .ge 5, 3) := by decide +kernel
theorem dX2_faultOfCells_30 : decode cX2_faultOfCells 30 = .ok (.iconst 4, 1) := by decide +kernel
theorem dX2_faultOfCells_31 : decode cX2_faultOfCells 31 = .ok (.ireturn, 1) := by decide +kernel
theorem dX2_faultOfCells_32 : decode cX2_faultOfCells 32 = .ok (.aload_n 0, 1) := by decide +kernel
theorem dX2_faultOfCells_33 : decode cX2_faultOfCells 33 = .ok (.iload_n 2, 1) := by decide +kernel
theorem dX2_faultOfCells_34 : decode cX2_faultOfCells 34 = .ok (.iload_n 3, 1) := by decide +kernel
theorem dX2_faultOfCells_35 : decode cX2_faultOfCells 35 = .ok (.invokevirtual 32, 3) := by decide +kernel
theorem dX2_faultOfCells_38 : decode cX2_faultOfCells 38 = .ok (.ifCond .eq 7, 3) := by decide +kernel
theorem dX2_faultOfCells_41 : decode cX2_faultOfCells 41 = .ok (.iconst 0, 1) := by decide +kernel
theorem dX2_faultOfCells_42 : decode cX2_faultOfCells 42 = .ok (.goto 4, 3) := by decide +kernel
theorem dX2_faultOfCells_45 : decode cX2_faultOfCells 45 = .ok (.iconst 3, 1) := by decide +kernel
theorem dX2_faultOfCells_46 : decode cX2_faultOfCells 46 = .ok (.ireturn, 1) := by decide +kernel
theorem dX2_hasCells_0 : decode cX2_hasCells 0 = .ok (.iload_n 1, 1) := by decide +kernel
theorem dX2_hasCells_1 : decode cX2_hasCells 1 = .ok (.ifCond .lt 29, 3) := by decide +kernel
theorem dX2_hasCells_4 : decode cX2_hasCells 4 = .ok (.iload_n 1, 1) := by decide +kernel
theorem dX2_hasCells_5 : decode cX2_hasCells 5 = .ok (.aload_n 0, 1) := by decide +kernel
theorem dX2_hasCells_6 : decode cX2_hasCells 6 = .ok (.getfield 15, 3) := by decide +kernel
theorem dX2_hasCells_9 : decode cX2_hasCells 9 = .ok (.if_icmp .gt 21, 3) := by decide +kernel
theorem dX2_hasCells_12 : decode cX2_hasCells 12 = .ok (.iload_n 2, 1) := by decide +kernel
theorem dX2_hasCells_13 : decode cX2_hasCells 13 = .ok (.ifCond .lt 17, 3) := by decide +kernel
theorem dX2_hasCells_16 : decode cX2_hasCells 16 = .ok (.iload_n 2, 1) := by decide +kernel
theorem dX2_hasCells_17 : decode cX2_hasCells 17 = .ok (.aload_n 0, 1) := by decide +kernel
theorem dX2_hasCells_18 : decode cX2_hasCells 18 = .ok (.getfield 15, 3) := by decide +kernel
theorem dX2_hasCells_21 : decode cX2_hasCells 21 = .ok (.iload_n 1, 1) := by decide +kernel
theorem dX2_hasCells_22 : decode cX2_hasCells 22 = .ok (.isub, 1) := by decide +kernel
theorem dX2_hasCells_23 : decode cX2_hasCells 23 = .ok (.if_icmp .gt 7, 3) := by decide +kernel
theorem dX2_hasCells_26 : decode cX2_hasCells 26 = .ok (.iconst 1, 1) := by decide +kernel
theorem dX2_hasCells_27 : decode cX2_hasCells 27 = .ok (.goto 4, 3) := by decide +kernel
theorem dX2_hasCells_30 : decode cX2_hasCells 30 = .ok (.iconst 0, 1) := by decide +kernel
theorem dX2_hasCells_31 : decode cX2_hasCells 31 = .ok (.ireturn, 1) := by decide +kernel
set_option maxRecDepth 20000 in
theorem ggX2_numberAt_X4_numberIn : GoodIn wsX2_numberAt wsX4_numberIn := goodIn_r _ [4] (by decide +kernel) (by decide +kernel)
set_option maxRecDepth 20000 in
theorem gX2_numberAt_X4_numberIn_n36 : GoodIn wsX2_numberAt (wsX4_numberIn) := ggX2_numberAt_X4_numberIn
theorem dX2_numberAt_0 : decode cX2_numberAt 0 = .ok (.aload_n 0, 1) := by decide +kernel
theorem dX2_numberAt_1 : decode cX2_numberAt 1 = .ok (.getfield 9, 3) := by decide +kernel
theorem dX2_numberAt_4 : decode cX2_numberAt 4 = .ok (.iload_n 1, 1) := by decide +kernel
theorem dX2_numberAt_5 : decode cX2_numberAt 5 = .ok (.invokestatic 36, 3) := by decide +kernel
theorem dX2_numberAt_8 : decode cX2_numberAt 8 = .ok (.ireturn, 1) := by decide +kernel
set_option maxRecDepth 20000 in
theorem ggX2_write_X2_cutToLane : GoodIn wsX2_write wsX2_cutToLane := goodIn_r _ [6, 7, 11, 12, 13] (by decide +kernel) (by decide +kernel)
set_option maxRecDepth 20000 in
theorem gX2_write_X2_cutToLane : GoodIn wsX2_write (wsV RX2 40 RX2 yX2_cutToLane wsX2_cutToLane) := goodIn_app (goodIn_of _ (by decide +kernel)) ggX2_write_X2_cutToLane
set_option maxRecDepth 20000 in
theorem ggX2_write_X4_changeIn : GoodIn wsX2_write wsX4_changeIn := goodIn_r _ [10] (by decide +kernel) (by decide +kernel)
set_option maxRecDepth 20000 in
theorem gX2_write_X4_changeIn_n44 : GoodIn wsX2_write (wsX4_changeIn) := ggX2_write_X4_changeIn
theorem dX2_write_0 : decode cX2_write 0 = .ok (.aload_n 0, 1) := by decide +kernel
theorem dX2_write_1 : decode cX2_write 1 = .ok (.getfield 9, 3) := by decide +kernel
theorem dX2_write_4 : decode cX2_write 4 = .ok (.iload_n 1, 1) := by decide +kernel
theorem dX2_write_5 : decode cX2_write 5 = .ok (.aload_n 0, 1) := by decide +kernel
theorem dX2_write_6 : decode cX2_write 6 = .ok (.iload_n 2, 1) := by decide +kernel
theorem dX2_write_7 : decode cX2_write 7 = .ok (.invokevirtual 40, 3) := by decide +kernel
theorem dX2_write_10 : decode cX2_write 10 = .ok (.invokestatic 44, 3) := by decide +kernel
theorem dX2_write_13 : decode cX2_write 13 = .ok (.return_, 1) := by decide +kernel
theorem dX2_cutToLane_0 : decode cX2_cutToLane 0 = .ok (.aload_n 0, 1) := by decide +kernel
theorem dX2_cutToLane_1 : decode cX2_cutToLane 1 = .ok (.getfield 19, 3) := by decide +kernel
theorem dX2_cutToLane_4 : decode cX2_cutToLane 4 = .ok (.lookupswitch 34 #[(0, 28), (1, 31)], 28) := by decide +kernel
theorem dX2_cutToLane_32 : decode cX2_cutToLane 32 = .ok (.iload_n 1, 1) := by decide +kernel
theorem dX2_cutToLane_33 : decode cX2_cutToLane 33 = .ok (.i2b, 1) := by decide +kernel
theorem dX2_cutToLane_34 : decode cX2_cutToLane 34 = .ok (.ireturn, 1) := by decide +kernel
theorem dX2_cutToLane_35 : decode cX2_cutToLane 35 = .ok (.iload_n 1, 1) := by decide +kernel
theorem dX2_cutToLane_36 : decode cX2_cutToLane 36 = .ok (.i2s, 1) := by decide +kernel
theorem dX2_cutToLane_37 : decode cX2_cutToLane 37 = .ok (.ireturn, 1) := by decide +kernel
theorem dX2_cutToLane_38 : decode cX2_cutToLane 38 = .ok (.iload_n 1, 1) := by decide +kernel
theorem dX2_cutToLane_39 : decode cX2_cutToLane 39 = .ok (.ireturn, 1) := by decide +kernel
set_option maxRecDepth 20000 in
theorem ggX2_copyTo_X2_hasCells : GoodIn wsX2_copyTo wsX2_hasCells := goodIn_r _ [10, 11, 12, 13, 14] (by decide +kernel) (by decide +kernel)
set_option maxRecDepth 20000 in
theorem gX2_copyTo_X2_hasCells : GoodIn wsX2_copyTo (wsV RX2 32 RX2 yX2_hasCells wsX2_hasCells) := goodIn_app (goodIn_of _ (by decide +kernel)) ggX2_copyTo_X2_hasCells
theorem dX2_copyTo_0 : decode cX2_copyTo 0 = .ok (.aload_n 0, 1) := by decide +kernel
theorem dX2_copyTo_1 : decode cX2_copyTo 1 = .ok (.iload_n 1, 1) := by decide +kernel
theorem dX2_copyTo_2 : decode cX2_copyTo 2 = .ok (.iload 4, 2) := by decide +kernel
theorem dX2_copyTo_4 : decode cX2_copyTo 4 = .ok (.invokevirtual 32, 3) := by decide +kernel
theorem dX2_copyTo_7 : decode cX2_copyTo 7 = .ok (.ifCond .eq 28, 3) := by decide +kernel
theorem dX2_copyTo_10 : decode cX2_copyTo 10 = .ok (.aload_n 2, 1) := by decide +kernel
theorem dX2_copyTo_11 : decode cX2_copyTo 11 = .ok (.iload_n 3, 1) := by decide +kernel
theorem dX2_copyTo_12 : decode cX2_copyTo 12 = .ok (.iload 4, 2) := by decide +kernel
theorem dX2_copyTo_14 : decode cX2_copyTo 14 = .ok (.invokevirtual 32, 3) := by decide +kernel
theorem dX2_copyTo_17 : decode cX2_copyTo 17 = .ok (.ifCond .eq 18, 3) := by decide +kernel
theorem dX2_copyTo_20 : decode cX2_copyTo 20 = .ok (.aload_n 0, 1) := by decide +kernel
theorem dX2_copyTo_21 : decode cX2_copyTo 21 = .ok (.getfield 9, 3) := by decide +kernel
theorem dX2_copyTo_24 : decode cX2_copyTo 24 = .ok (.iload_n 1, 1) := by decide +kernel
theorem dX2_copyTo_25 : decode cX2_copyTo 25 = .ok (.aload_n 2, 1) := by decide +kernel
theorem dX2_copyTo_26 : decode cX2_copyTo 26 = .ok (.getfield 9, 3) := by decide +kernel
theorem dX2_copyTo_29 : decode cX2_copyTo 29 = .ok (.iload_n 3, 1) := by decide +kernel
theorem dX2_copyTo_30 : decode cX2_copyTo 30 = .ok (.iload 4, 2) := by decide +kernel
theorem dX2_copyTo_32 : decode cX2_copyTo 32 = .ok (.invokestatic 48, 3) := by decide +kernel
theorem dX2_copyTo_35 : decode cX2_copyTo 35 = .ok (.return_, 1) := by decide +kernel
set_option maxRecDepth 20000 in
theorem ggX3_firstFault_X2_numberAt : GoodIn wsX3_firstFault wsX2_numberAt := goodIn_r _ [5, 6, 7, 8, 9, 23, 24, 25] (by decide +kernel) (by decide +kernel)
set_option maxRecDepth 20000 in
theorem gX3_firstFault_X2_numberAt : GoodIn wsX3_firstFault (wsV RX3 11 RX2 yX2_numberAt wsX2_numberAt) := goodIn_app (goodIn_of _ (by decide +kernel)) ggX3_firstFault_X2_numberAt
set_option maxRecDepth 20000 in
theorem ggX3_firstFault_X3_stepAfter : GoodIn wsX3_firstFault wsX3_stepAfter := goodIn_r _ [13, 14, 15, 12, 16, 17, 18, 19, 20, 21, 22] (by decide +kernel) (by decide +kernel)
set_option maxRecDepth 20000 in
theorem gX3_firstFault_X3_stepAfter : GoodIn wsX3_firstFault (va_wsS RX3 17 yX3_stepAfter wsX3_stepAfter) := goodIn_app (goodIn_of _ (by decide +kernel)) ggX3_firstFault_X3_stepAfter
theorem dX3_firstFault_0 : decode cX3_firstFault 0 = .ok (.iconst 0, 1) := by decide +kernel
theorem dX3_firstFault_1 : decode cX3_firstFault 1 = .ok (.istore_n 3, 1) := by decide +kernel
theorem dX3_firstFault_2 : decode cX3_firstFault 2 = .ok (.iconst 0, 1) := by decide +kernel
theorem dX3_firstFault_3 : decode cX3_firstFault 3 = .ok (.istore 4, 2) := by decide +kernel
theorem dX3_firstFault_5 : decode cX3_firstFault 5 = .ok (.iconst 0, 1) := by decide +kernel
theorem dX3_firstFault_6 : decode cX3_firstFault 6 = .ok (.istore 5, 2) := by decide +kernel
theorem dX3_firstFault_8 : decode cX3_firstFault 8 = .ok (.iconst 0, 1) := by decide +kernel
theorem dX3_firstFault_9 : decode cX3_firstFault 9 = .ok (.istore 6, 2) := by decide +kernel
theorem dX3_firstFault_11 : decode cX3_firstFault 11 = .ok (.iload 6, 2) := by decide +kernel
theorem dX3_firstFault_13 : decode cX3_firstFault 13 = .ok (.iload_n 2, 1) := by decide +kernel
theorem dX3_firstFault_14 : decode cX3_firstFault 14 = .ok (.if_icmp .ge 64, 3) := by decide +kernel
theorem dX3_firstFault_17 : decode cX3_firstFault 17 = .ok (.iload_n 3, 1) := by decide +kernel
theorem dX3_firstFault_18 : decode cX3_firstFault 18 = .ok (.aload_n 0, 1) := by decide +kernel
theorem dX3_firstFault_19 : decode cX3_firstFault 19 = .ok (.iload_n 1, 1) := by decide +kernel
theorem dX3_firstFault_20 : decode cX3_firstFault 20 = .ok (.iload 6, 2) := by decide +kernel
theorem dX3_firstFault_22 : decode cX3_firstFault 22 = .ok (.iadd, 1) := by decide +kernel
theorem dX3_firstFault_23 : decode cX3_firstFault 23 = .ok (.invokevirtual 11, 3) := by decide +kernel
theorem dX3_firstFault_26 : decode cX3_firstFault 26 = .ok (.iload 4, 2) := by decide +kernel
theorem dX3_firstFault_28 : decode cX3_firstFault 28 = .ok (.iload 5, 2) := by decide +kernel
theorem dX3_firstFault_30 : decode cX3_firstFault 30 = .ok (.invokestatic 17, 3) := by decide +kernel
theorem dX3_firstFault_33 : decode cX3_firstFault 33 = .ok (.istore_n 3, 1) := by decide +kernel
theorem dX3_firstFault_34 : decode cX3_firstFault 34 = .ok (.iload_n 3, 1) := by decide +kernel
theorem dX3_firstFault_35 : decode cX3_firstFault 35 = .ok (.iconst (-1), 1) := by decide +kernel
theorem dX3_firstFault_36 : decode cX3_firstFault 36 = .ok (.if_icmp .ne 6, 3) := by decide +kernel
theorem dX3_firstFault_39 : decode cX3_firstFault 39 = .ok (.iload 6, 2) := by decide +kernel
theorem dX3_firstFault_41 : decode cX3_firstFault 41 = .ok (.ireturn, 1) := by decide +kernel
theorem dX3_firstFault_42 : decode cX3_firstFault 42 = .ok (.iload 4, 2) := by decide +kernel
theorem dX3_firstFault_44 : decode cX3_firstFault 44 = .ok (.iload_n 3, 1) := by decide +kernel
theorem dX3_firstFault_45 : decode cX3_firstFault 45 = .ok (.iconst 4, 1) := by decide +kernel
theorem dX3_firstFault_46 : decode cX3_firstFault 46 = .ok (.if_icmp .ne 7, 3) := by decide +kernel
theorem dX3_firstFault_49 : decode cX3_firstFault 49 = .ok (.iconst 1, 1) := by decide +kernel
theorem dX3_firstFault_50 : decode cX3_firstFault 50 = .ok (.goto 4, 3) := by decide +kernel
theorem dX3_firstFault_53 : decode cX3_firstFault 53 = .ok (.iconst 0, 1) := by decide +kernel
theorem dX3_firstFault_54 : decode cX3_firstFault 54 = .ok (.iadd, 1) := by decide +kernel
theorem dX3_firstFault_55 : decode cX3_firstFault 55 = .ok (.istore 4, 2) := by decide +kernel
theorem dX3_firstFault_57 : decode cX3_firstFault 57 = .ok (.iload 5, 2) := by decide +kernel
theorem dX3_firstFault_59 : decode cX3_firstFault 59 = .ok (.iload_n 3, 1) := by decide +kernel
theorem dX3_firstFault_60 : decode cX3_firstFault 60 = .ok (.iconst 5, 1) := by decide +kernel
theorem dX3_firstFault_61 : decode cX3_firstFault 61 = .ok (.if_icmp .ne 7, 3) := by decide +kernel
theorem dX3_firstFault_64 : decode cX3_firstFault 64 = .ok (.iconst 1, 1) := by decide +kernel
theorem dX3_firstFault_65 : decode cX3_firstFault 65 = .ok (.goto 4, 3) := by decide +kernel
theorem dX3_firstFault_68 : decode cX3_firstFault 68 = .ok (.iconst 0, 1) := by decide +kernel
theorem dX3_firstFault_69 : decode cX3_firstFault 69 = .ok (.iadd, 1) := by decide +kernel
theorem dX3_firstFault_70 : decode cX3_firstFault 70 = .ok (.istore 5, 2) := by decide +kernel
theorem dX3_firstFault_72 : decode cX3_firstFault 72 = .ok (.iinc 6 1, 3) := by decide +kernel
theorem dX3_firstFault_75 : decode cX3_firstFault 75 = .ok (.goto (-64), 3) := by decide +kernel
theorem dX3_firstFault_78 : decode cX3_firstFault 78 = .ok (.iload_n 3, 1) := by decide +kernel
theorem dX3_firstFault_79 : decode cX3_firstFault 79 = .ok (.bipush 9, 2) := by decide +kernel
theorem dX3_firstFault_81 : decode cX3_firstFault 81 = .ok (.if_icmp .ne 7, 3) := by decide +kernel
theorem dX3_firstFault_84 : decode cX3_firstFault 84 = .ok (.iconst (-1), 1) := by decide +kernel
theorem dX3_firstFault_85 : decode cX3_firstFault 85 = .ok (.goto 4, 3) := by decide +kernel
theorem dX3_firstFault_88 : decode cX3_firstFault 88 = .ok (.iload_n 2, 1) := by decide +kernel
theorem dX3_firstFault_89 : decode cX3_firstFault 89 = .ok (.ireturn, 1) := by decide +kernel
set_option maxRecDepth 20000 in
theorem ggX3_stepAfter_X3_isDigit : GoodIn wsX3_stepAfter wsX3_isDigit := goodIn_r _ [4] (by decide +kernel) (by decide +kernel)
set_option maxRecDepth 20000 in
theorem gX3_stepAfter_X3_isDigit : GoodIn wsX3_stepAfter (va_wsS RX3 21 yX3_isDigit wsX3_isDigit) := goodIn_app (goodIn_of _ (by decide +kernel)) ggX3_stepAfter_X3_isDigit
set_option maxRecDepth 20000 in
theorem ggX3_stepAfter_X3_stepAfterDay : GoodIn wsX3_stepAfter wsX3_stepAfterDay := goodIn_r _ [7, 1, 2, 3, 4] (by decide +kernel) (by decide +kernel)
set_option maxRecDepth 20000 in
theorem gX3_stepAfter_X3_stepAfterDay : GoodIn wsX3_stepAfter (va_wsS RX3 25 yX3_stepAfterDay wsX3_stepAfterDay) := goodIn_app (goodIn_of _ (by decide +kernel)) ggX3_stepAfter_X3_stepAfterDay
set_option maxRecDepth 20000 in
theorem ggX3_stepAfter_X3_kindByLetter : GoodIn wsX3_stepAfter wsX3_kindByLetter := goodIn_r _ [10] (by decide +kernel) (by decide +kernel)
set_option maxRecDepth 20000 in
theorem gX3_stepAfter_X3_kindByLetter : GoodIn wsX3_stepAfter (va_wsS RX3 29 yX3_kindByLetter wsX3_kindByLetter) := goodIn_app (goodIn_of _ (by decide +kernel)) ggX3_stepAfter_X3_kindByLetter
theorem dX3_stepAfter_0 : decode cX3_stepAfter 0 = .ok (.iload_n 0, 1) := by decide +kernel
theorem dX3_stepAfter_1 : decode cX3_stepAfter 1 = .ok (.tableswitch 200 0 9 #[55, 67, 83, 95, 111, 117, 133, 149, 166, 183], 55) := by decide +kernel
theorem dX3_stepAfter_56 : decode cX3_stepAfter 56 = .ok (.iload_n 1, 1) := by decide +kernel
theorem dX3_stepAfter_57 : decode cX3_stepAfter 57 = .ok (.bipush 100, 2) := by decide +kernel
theorem dX3_stepAfter_59 : decode cX3_stepAfter 59 = .ok (.if_icmp .ne 7, 3) := by decide +kernel
theorem dX3_stepAfter_62 : decode cX3_stepAfter 62 = .ok (.iconst 1, 1) := by decide +kernel
theorem dX3_stepAfter_63 : decode cX3_stepAfter 63 = .ok (.goto 4, 3) := by decide +kernel
theorem dX3_stepAfter_66 : decode cX3_stepAfter 66 = .ok (.iconst (-1), 1) := by decide +kernel
theorem dX3_stepAfter_67 : decode cX3_stepAfter 67 = .ok (.ireturn, 1) := by decide +kernel
theorem dX3_stepAfter_68 : decode cX3_stepAfter 68 = .ok (.iload_n 1, 1) := by decide +kernel
theorem dX3_stepAfter_69 : decode cX3_stepAfter 69 = .ok (.iconst 0, 1) := by decide +kernel
theorem dX3_stepAfter_70 : decode cX3_stepAfter 70 = .ok (.bipush 9, 2) := by decide +kernel
theorem dX3_stepAfter_72 : decode cX3_stepAfter 72 = .ok (.invokestatic 21, 3) := by decide +kernel
theorem dX3_stepAfter_75 : decode cX3_stepAfter 75 = .ok (.ifCond .eq 7, 3) := by decide +kernel
theorem dX3_stepAfter_78 : decode cX3_stepAfter 78 = .ok (.iconst 2, 1) := by decide +kernel
theorem dX3_stepAfter_79 : decode cX3_stepAfter 79 = .ok (.goto 4, 3) := by decide +kernel
theorem dX3_stepAfter_82 : decode cX3_stepAfter 82 = .ok (.iconst (-1), 1) := by decide +kernel
theorem dX3_stepAfter_83 : decode cX3_stepAfter 83 = .ok (.ireturn, 1) := by decide +kernel
theorem dX3_stepAfter_84 : decode cX3_stepAfter 84 = .ok (.iload_n 1, 1) := by decide +kernel
theorem dX3_stepAfter_85 : decode cX3_stepAfter 85 = .ok (.bipush 44, 2) := by decide +kernel
theorem dX3_stepAfter_87 : decode cX3_stepAfter 87 = .ok (.if_icmp .ne 7, 3) := by decide +kernel
theorem dX3_stepAfter_90 : decode cX3_stepAfter 90 = .ok (.iconst 3, 1) := by decide +kernel
theorem dX3_stepAfter_91 : decode cX3_stepAfter 91 = .ok (.goto 4, 3) := by decide +kernel
theorem dX3_stepAfter_94 : decode cX3_stepAfter 94 = .ok (.iconst (-1), 1) := by decide +kernel
theorem dX3_stepAfter_95 : decode cX3_stepAfter 95 = .ok (.ireturn, 1) := by decide +kernel
theorem dX3_stepAfter_96 : decode cX3_stepAfter 96 = .ok (.iload_n 1, 1) := by decide +kernel
theorem dX3_stepAfter_97 : decode cX3_stepAfter 97 = .ok (.iconst 0, 1) := by decide +kernel
theorem dX3_stepAfter_98 : decode cX3_stepAfter 98 = .ok (.bipush 9, 2) := by decide +kernel
theorem dX3_stepAfter_100 : decode cX3_stepAfter 100 = .ok (.invokestatic 21, 3) := by decide +kernel
theorem dX3_stepAfter_103 : decode cX3_stepAfter 103 = .ok (.ifCond .eq 7, 3) := by decide +kernel
theorem dX3_stepAfter_106 : decode cX3_stepAfter 106 = .ok (.iconst 4, 1) := by decide +kernel
theorem dX3_stepAfter_107 : decode cX3_stepAfter 107 = .ok (.goto 4, 3) := by decide +kernel
theorem dX3_stepAfter_110 : decode cX3_stepAfter 110 = .ok (.iconst (-1), 1) := by decide +kernel
theorem dX3_stepAfter_111 : decode cX3_stepAfter 111 = .ok (.ireturn, 1) := by decide +kernel
theorem dX3_stepAfter_112 : decode cX3_stepAfter 112 = .ok (.iload_n 1, 1) := by decide +kernel
theorem dX3_stepAfter_113 : decode cX3_stepAfter 113 = .ok (.iload_n 2, 1) := by decide +kernel
theorem dX3_stepAfter_114 : decode cX3_stepAfter 114 = .ok (.invokestatic 25, 3) := by decide +kernel
theorem dX3_stepAfter_117 : decode cX3_stepAfter 117 = .ok (.ireturn, 1) := by decide +kernel
theorem dX3_stepAfter_118 : decode cX3_stepAfter 118 = .ok (.iload_n 1, 1) := by decide +kernel
theorem dX3_stepAfter_119 : decode cX3_stepAfter 119 = .ok (.invokestatic 29, 3) := by decide +kernel
theorem dX3_stepAfter_122 : decode cX3_stepAfter 122 = .ok (.bipush (-9), 2) := by decide +kernel
theorem dX3_stepAfter_124 : decode cX3_stepAfter 124 = .ok (.if_icmp .ne 7, 3) := by decide +kernel
theorem dX3_stepAfter_127 : decode cX3_stepAfter 127 = .ok (.iconst (-1), 1) := by decide +kernel
theorem dX3_stepAfter_128 : decode cX3_stepAfter 128 = .ok (.goto 5, 3) := by decide +kernel
theorem dX3_stepAfter_131 : decode cX3_stepAfter 131 = .ok (.bipush 6, 2) := by decide +kernel
theorem dX3_stepAfter_133 : decode cX3_stepAfter 133 = .ok (.ireturn, 1) := by decide +kernel
theorem dX3_stepAfter_134 : decode cX3_stepAfter 134 = .ok (.iload_n 1, 1) := by decide +kernel
theorem dX3_stepAfter_135 : decode cX3_stepAfter 135 = .ok (.iconst 0, 1) := by decide +kernel
theorem dX3_stepAfter_136 : decode cX3_stepAfter 136 = .ok (.iconst 5, 1) := by decide +kernel
theorem dX3_stepAfter_137 : decode cX3_stepAfter 137 = .ok (.invokestatic 21, 3) := by decide +kernel
theorem dX3_stepAfter_140 : decode cX3_stepAfter 140 = .ok (.ifCond .eq 8, 3) := by decide +kernel
theorem dX3_stepAfter_143 : decode cX3_stepAfter 143 = .ok (.bipush 7, 2) := by decide +kernel
theorem dX3_stepAfter_145 : decode cX3_stepAfter 145 = .ok (.goto 4, 3) := by decide +kernel
theorem dX3_stepAfter_148 : decode cX3_stepAfter 148 = .ok (.iconst (-1), 1) := by decide +kernel
theorem dX3_stepAfter_149 : decode cX3_stepAfter 149 = .ok (.ireturn, 1) := by decide +kernel
theorem dX3_stepAfter_150 : decode cX3_stepAfter 150 = .ok (.iload_n 1, 1) := by decide +kernel
theorem dX3_stepAfter_151 : decode cX3_stepAfter 151 = .ok (.iconst 1, 1) := by decide +kernel
theorem dX3_stepAfter_152 : decode cX3_stepAfter 152 = .ok (.bipush 9, 2) := by decide +kernel
theorem dX3_stepAfter_154 : decode cX3_stepAfter 154 = .ok (.invokestatic 21, 3) := by decide +kernel
theorem dX3_stepAfter_157 : decode cX3_stepAfter 157 = .ok (.ifCond .eq 8, 3) := by decide +kernel
theorem dX3_stepAfter_160 : decode cX3_stepAfter 160 = .ok (.bipush 8, 2) := by decide +kernel
theorem dX3_stepAfter_162 : decode cX3_stepAfter 162 = .ok (.goto 4, 3) := by decide +kernel
theorem dX3_stepAfter_165 : decode cX3_stepAfter 165 = .ok (.iconst (-1), 1) := by decide +kernel
theorem dX3_stepAfter_166 : decode cX3_stepAfter 166 = .ok (.ireturn, 1) := by decide +kernel
theorem dX3_stepAfter_167 : decode cX3_stepAfter 167 = .ok (.iload_n 1, 1) := by decide +kernel
theorem dX3_stepAfter_168 : decode cX3_stepAfter 168 = .ok (.iconst 0, 1) := by decide +kernel
theorem dX3_stepAfter_169 : decode cX3_stepAfter 169 = .ok (.bipush 6, 2) := by decide +kernel
theorem dX3_stepAfter_171 : decode cX3_stepAfter 171 = .ok (.invokestatic 21, 3) := by decide +kernel
theorem dX3_stepAfter_174 : decode cX3_stepAfter 174 = .ok (.ifCond .eq 8, 3) := by decide +kernel
theorem dX3_stepAfter_177 : decode cX3_stepAfter 177 = .ok (.bipush 9, 2) := by decide +kernel
theorem dX3_stepAfter_179 : decode cX3_stepAfter 179 = .ok (.goto 4, 3) := by decide +kernel
theorem dX3_stepAfter_182 : decode cX3_stepAfter 182 = .ok (.iconst (-1), 1) := by decide +kernel
theorem dX3_stepAfter_183 : decode cX3_stepAfter 183 = .ok (.ireturn, 1) := by decide +kernel
theorem dX3_stepAfter_184 : decode cX3_stepAfter 184 = .ok (.iload_n 1, 1) := by decide +kernel
theorem dX3_stepAfter_185 : decode cX3_stepAfter 185 = .ok (.bipush 59, 2) := by decide +kernel
theorem dX3_stepAfter_187 : decode cX3_stepAfter 187 = .ok (.if_icmp .ne 12, 3) := by decide +kernel
theorem dX3_stepAfter_190 : decode cX3_stepAfter 190 = .ok (.iload_n 3, 1) := by decide +kernel
theorem dX3_stepAfter_191 : decode cX3_stepAfter 191 = .ok (.iconst 4, 1) := by decide +kernel
theorem dX3_stepAfter_192 : decode cX3_stepAfter 192 = .ok (.if_icmp .ge 7, 3) := by decide +kernel
theorem dX3_stepAfter_195 : decode cX3_stepAfter 195 = .ok (.iconst 5, 1) := by decide +kernel
theorem dX3_stepAfter_196 : decode cX3_stepAfter 196 = .ok (.goto 4, 3) := by decide +kernel
theorem dX3_stepAfter_199 : decode cX3_stepAfter 199 = .ok (.iconst (-1), 1) := by decide +kernel
theorem dX3_stepAfter_200 : decode cX3_stepAfter 200 = .ok (.ireturn, 1) := by decide +kernel
theorem dX3_stepAfter_201 : decode cX3_stepAfter 201 = .ok (.iconst (-1), 1) := by decide +kernel
theorem dX3_stepAfter_202 : decode cX3_stepAfter 202 = .ok (.ireturn, 1) := by decide +kernel
set_option maxRecDepth 20000 in
theorem ggX3_stepAfterDay_X3_isDigit : GoodIn wsX3_stepAfterDay wsX3_isDigit := goodIn_r _ [4] (by decide +kernel) (by decide +kernel)
set_option maxRecDepth 20000 in
theorem gX3_stepAfterDay_X3_isDigit : GoodIn wsX3_stepAfterDay (va_wsS RX3 21 yX3_isDigit wsX3_isDigit) := goodIn_app (goodIn_of _ (by decide +kernel)) ggX3_stepAfterDay_X3_isDigit
theorem dX3_stepAfterDay_0 : decode cX3_stepAfterDay 0 = .ok (.iload_n 0, 1) := by decide +kernel
theorem dX3_stepAfterDay_1 : decode cX3_stepAfterDay 1 = .ok (.bipush 59, 2) := by decide +kernel
theorem dX3_stepAfterDay_3 : decode cX3_stepAfterDay 3 = .ok (.if_icmp .ne 5, 3) := by decide +kernel
theorem dX3_stepAfterDay_6 : decode cX3_stepAfterDay 6 = .ok (.iconst 5, 1) := by decide +kernel
theorem dX3_stepAfterDay_7 : decode cX3_stepAfterDay 7 = .ok (.ireturn, 1) := by decide +kernel
theorem dX3_stepAfterDay_8 : decode cX3_stepAfterDay 8 = .ok (.iload_n 0, 1) := by decide +kernel
theorem dX3_stepAfterDay_9 : decode cX3_stepAfterDay 9 = .ok (.iconst 0, 1) := by decide +kernel
theorem dX3_stepAfterDay_10 : decode cX3_stepAfterDay 10 = .ok (.bipush 9, 2) := by decide +kernel
theorem dX3_stepAfterDay_12 : decode cX3_stepAfterDay 12 = .ok (.invokestatic 21, 3) := by decide +kernel
theorem dX3_stepAfterDay_15 : decode cX3_stepAfterDay 15 = .ok (.ifCond .eq 13, 3) := by decide +kernel
theorem dX3_stepAfterDay_18 : decode cX3_stepAfterDay 18 = .ok (.iload_n 1, 1) := by decide +kernel
theorem dX3_stepAfterDay_19 : decode cX3_stepAfterDay 19 = .ok (.bipush 6, 2) := by decide +kernel
theorem dX3_stepAfterDay_21 : decode cX3_stepAfterDay 21 = .ok (.if_icmp .ge 7, 3) := by decide +kernel
theorem dX3_stepAfterDay_24 : decode cX3_stepAfterDay 24 = .ok (.iconst 4, 1) := by decide +kernel
theorem dX3_stepAfterDay_25 : decode cX3_stepAfterDay 25 = .ok (.goto 4, 3) := by decide +kernel
theorem dX3_stepAfterDay_28 : decode cX3_stepAfterDay 28 = .ok (.iconst (-1), 1) := by decide +kernel
theorem dX3_stepAfterDay_29 : decode cX3_stepAfterDay 29 = .ok (.ireturn, 1) := by decide +kernel
theorem dX3_kindByLetter_0 : decode cX3_kindByLetter 0 = .ok (.iload_n 0, 1) := by decide +kernel
theorem dX3_kindByLetter_1 : decode cX3_kindByLetter 1 = .ok (.lookupswitch 41 #[(101, 35), (108, 39), (115, 37)], 35) := by decide +kernel
theorem dX3_kindByLetter_36 : decode cX3_kindByLetter 36 = .ok (.iconst 0, 1) := by decide +kernel
theorem dX3_kindByLetter_37 : decode cX3_kindByLetter 37 = .ok (.ireturn, 1) := by decide +kernel
theorem dX3_kindByLetter_38 : decode cX3_kindByLetter 38 = .ok (.iconst 1, 1) := by decide +kernel
theorem dX3_kindByLetter_39 : decode cX3_kindByLetter 39 = .ok (.ireturn, 1) := by decide +kernel
theorem dX3_kindByLetter_40 : decode cX3_kindByLetter 40 = .ok (.iconst 2, 1) := by decide +kernel
theorem dX3_kindByLetter_41 : decode cX3_kindByLetter 41 = .ok (.ireturn, 1) := by decide +kernel
theorem dX3_kindByLetter_42 : decode cX3_kindByLetter 42 = .ok (.bipush (-9), 2) := by decide +kernel
theorem dX3_kindByLetter_44 : decode cX3_kindByLetter 44 = .ok (.ireturn, 1) := by decide +kernel
theorem dX3_isDigit_0 : decode cX3_isDigit 0 = .ok (.iload_n 0, 1) := by decide +kernel
theorem dX3_isDigit_1 : decode cX3_isDigit 1 = .ok (.bipush 48, 2) := by decide +kernel
theorem dX3_isDigit_3 : decode cX3_isDigit 3 = .ok (.iload_n 1, 1) := by decide +kernel
theorem dX3_isDigit_4 : decode cX3_isDigit 4 = .ok (.iadd, 1) := by decide +kernel
theorem dX3_isDigit_5 : decode cX3_isDigit 5 = .ok (.if_icmp .lt 15, 3) := by decide +kernel
theorem dX3_isDigit_8 : decode cX3_isDigit 8 = .ok (.iload_n 0, 1) := by decide +kernel
theorem dX3_isDigit_9 : decode cX3_isDigit 9 = .ok (.bipush 48, 2) := by decide +kernel
theorem dX3_isDigit_11 : decode cX3_isDigit 11 = .ok (.iload_n 2, 1) := by decide +kernel
theorem dX3_isDigit_12 : decode cX3_isDigit 12 = .ok (.iadd, 1) := by decide +kernel
theorem dX3_isDigit_13 : decode cX3_isDigit 13 = .ok (.if_icmp .gt 7, 3) := by decide +kernel
theorem dX3_isDigit_16 : decode cX3_isDigit 16 = .ok (.iconst 1, 1) := by decide +kernel
theorem dX3_isDigit_17 : decode cX3_isDigit 17 = .ok (.goto 4, 3) := by decide +kernel
theorem dX3_isDigit_20 : decode cX3_isDigit 20 = .ok (.iconst 0, 1) := by decide +kernel
theorem dX3_isDigit_21 : decode cX3_isDigit 21 = .ok (.ireturn, 1) := by decide +kernel
set_option maxRecDepth 20000 in
theorem ggX3_isDigitAt_X2_numberAt : GoodIn wsX3_isDigitAt wsX2_numberAt := goodIn_r _ [5, 6, 7, 8, 9, 14, 15, 16] (by decide +kernel) (by decide +kernel)
set_option maxRecDepth 20000 in
theorem gX3_isDigitAt_X2_numberAt : GoodIn wsX3_isDigitAt (wsV RX3 11 RX2 yX2_numberAt wsX2_numberAt) := goodIn_app (goodIn_of _ (by decide +kernel)) ggX3_isDigitAt_X2_numberAt
set_option maxRecDepth 20000 in
theorem ggX3_isDigitAt_X3_isDigit : GoodIn wsX3_isDigitAt wsX3_isDigit := goodIn_r _ [13] (by decide +kernel) (by decide +kernel)
set_option maxRecDepth 20000 in
theorem gX3_isDigitAt_X3_isDigit : GoodIn wsX3_isDigitAt (va_wsS RX3 21 yX3_isDigit wsX3_isDigit) := goodIn_app (goodIn_of _ (by decide +kernel)) ggX3_isDigitAt_X3_isDigit
theorem dX3_isDigitAt_0 : decode cX3_isDigitAt 0 = .ok (.aload_n 0, 1) := by decide +kernel
theorem dX3_isDigitAt_1 : decode cX3_isDigitAt 1 = .ok (.iload_n 1, 1) := by decide +kernel
theorem dX3_isDigitAt_2 : decode cX3_isDigitAt 2 = .ok (.invokevirtual 11, 3) := by decide +kernel
theorem dX3_isDigitAt_5 : decode cX3_isDigitAt 5 = .ok (.iconst 0, 1) := by decide +kernel
theorem dX3_isDigitAt_6 : decode cX3_isDigitAt 6 = .ok (.bipush 9, 2) := by decide +kernel
theorem dX3_isDigitAt_8 : decode cX3_isDigitAt 8 = .ok (.invokestatic 21, 3) := by decide +kernel
theorem dX3_isDigitAt_11 : decode cX3_isDigitAt 11 = .ok (.ireturn, 1) := by decide +kernel
set_option maxRecDepth 20000 in
theorem ggX3_digitAt_X2_numberAt : GoodIn wsX3_digitAt wsX2_numberAt := goodIn_r _ [5, 6, 7, 8, 9, 10, 11, 12] (by decide +kernel) (by decide +kernel)
set_option maxRecDepth 20000 in
theorem gX3_digitAt_X2_numberAt : GoodIn wsX3_digitAt (wsV RX3 11 RX2 yX2_numberAt wsX2_numberAt) := goodIn_app (goodIn_of _ (by decide +kernel)) ggX3_digitAt_X2_numberAt
theorem dX3_digitAt_0 : decode cX3_digitAt 0 = .ok (.aload_n 0, 1) := by decide +kernel
theorem dX3_digitAt_1 : decode cX3_digitAt 1 = .ok (.iload_n 1, 1) := by decide +kernel
theorem dX3_digitAt_2 : decode cX3_digitAt 2 = .ok (.invokevirtual 11, 3) := by decide +kernel
theorem dX3_digitAt_5 : decode cX3_digitAt 5 = .ok (.bipush 48, 2) := by decide +kernel
theorem dX3_digitAt_7 : decode cX3_digitAt 7 = .ok (.isub, 1) := by decide +kernel
theorem dX3_digitAt_8 : decode cX3_digitAt 8 = .ok (.ireturn, 1) := by decide +kernel
set_option maxRecDepth 20000 in
theorem ggX4_init_X0_init : GoodIn wsX4_init wsX0_init := goodIn_r _ [17, 18, 2, 3, 19, 20, 21, 22, 23, 24, 38, 39, 40, 41, 42, 43, 44, 45] (by decide +kernel) (by decide +kernel)
set_option maxRecDepth 20000 in
theorem gX4_init_X0_init_n11 : GoodIn wsX4_init (wsX0_init) := ggX4_init_X0_init
set_option maxRecDepth 20000 in
theorem ggX4_init_X1_init : GoodIn wsX4_init wsX1_init := goodIn_r _ [26, 27, 2, 3, 19, 28, 29, 30, 31, 32, 51, 52, 53, 54, 55] (by decide +kernel) (by decide +kernel)
set_option maxRecDepth 20000 in
theorem gX4_init_X1_init_n20 : GoodIn wsX4_init (wsX1_init) := ggX4_init_X1_init
set_option maxRecDepth 20000 in
theorem ggX4_init_X2_init : GoodIn wsX4_init wsX2_init := goodIn_r _ [34, 35, 2, 3, 19, 36, 37, 56, 57, 58] (by decide +kernel) (by decide +kernel)
set_option maxRecDepth 20000 in
theorem gX4_init_X2_init_n31 : GoodIn wsX4_init (wsX2_init) := ggX4_init_X2_init
theorem dX4_init_0 : decode cX4_init 0 = .ok (.aload_n 0, 1) := by decide +kernel
theorem dX4_init_1 : decode cX4_init 1 = .ok (.invokespecial 3, 3) := by decide +kernel
theorem dX4_init_4 : decode cX4_init 4 = .ok (.aload_n 0, 1) := by decide +kernel
theorem dX4_init_5 : decode cX4_init 5 = .ok (.new 9, 3) := by decide +kernel
theorem dX4_init_8 : decode cX4_init 8 = .ok (.dup, 1) := by decide +kernel
theorem dX4_init_9 : decode cX4_init 9 = .ok (.invokespecial 11, 3) := by decide +kernel
theorem dX4_init_12 : decode cX4_init 12 = .ok (.putfield 12, 3) := by decide +kernel
theorem dX4_init_15 : decode cX4_init 15 = .ok (.aload_n 0, 1) := by decide +kernel
theorem dX4_init_16 : decode cX4_init 16 = .ok (.new 18, 3) := by decide +kernel
theorem dX4_init_19 : decode cX4_init 19 = .ok (.dup, 1) := by decide +kernel
theorem dX4_init_20 : decode cX4_init 20 = .ok (.invokespecial 20, 3) := by decide +kernel
theorem dX4_init_23 : decode cX4_init 23 = .ok (.putfield 21, 3) := by decide +kernel
theorem dX4_init_26 : decode cX4_init 26 = .ok (.aload_n 0, 1) := by decide +kernel
theorem dX4_init_27 : decode cX4_init 27 = .ok (.iconst 4, 1) := by decide +kernel
theorem dX4_init_28 : decode cX4_init 28 = .ok (.anewarray 25, 3) := by decide +kernel
theorem dX4_init_31 : decode cX4_init 31 = .ok (.putfield 27, 3) := by decide +kernel
theorem dX4_init_34 : decode cX4_init 34 = .ok (.iconst 0, 1) := by decide +kernel
theorem dX4_init_35 : decode cX4_init 35 = .ok (.istore_n 1, 1) := by decide +kernel
theorem dX4_init_36 : decode cX4_init 36 = .ok (.iload_n 1, 1) := by decide +kernel
theorem dX4_init_37 : decode cX4_init 37 = .ok (.aload_n 0, 1) := by decide +kernel
theorem dX4_init_38 : decode cX4_init 38 = .ok (.getfield 27, 3) := by decide +kernel
theorem dX4_init_41 : decode cX4_init 41 = .ok (.arraylength, 1) := by decide +kernel
theorem dX4_init_42 : decode cX4_init 42 = .ok (.if_icmp .ge 22, 3) := by decide +kernel
theorem dX4_init_45 : decode cX4_init 45 = .ok (.aload_n 0, 1) := by decide +kernel
theorem dX4_init_46 : decode cX4_init 46 = .ok (.getfield 27, 3) := by decide +kernel
theorem dX4_init_49 : decode cX4_init 49 = .ok (.iload_n 1, 1) := by decide +kernel
theorem dX4_init_50 : decode cX4_init 50 = .ok (.new 25, 3) := by decide +kernel
theorem dX4_init_53 : decode cX4_init 53 = .ok (.dup, 1) := by decide +kernel
theorem dX4_init_54 : decode cX4_init 54 = .ok (.invokespecial 31, 3) := by decide +kernel
theorem dX4_init_57 : decode cX4_init 57 = .ok (.aastore, 1) := by decide +kernel
theorem dX4_init_58 : decode cX4_init 58 = .ok (.iinc 1 1, 3) := by decide +kernel
theorem dX4_init_61 : decode cX4_init 61 = .ok (.goto (-25), 3) := by decide +kernel
theorem dX4_init_64 : decode cX4_init 64 = .ok (.return_, 1) := by decide +kernel
set_option maxRecDepth 20000 in
theorem ggX4_duchy_X4_sheetAt : GoodIn wsX4_duchy wsX4_sheetAt := goodIn_r _ [8, 9, 88, 89, 90, 91, 92] (by decide +kernel) (by decide +kernel)
set_option maxRecDepth 20000 in
theorem gX4_duchy_X4_sheetAt : GoodIn wsX4_duchy (wsV RX4 36 RX4 yX4_sheetAt wsX4_sheetAt) := goodIn_app (goodIn_of _ (by decide +kernel)) ggX4_duchy_X4_sheetAt
set_option maxRecDepth 20000 in
theorem ggX4_duchy_X4_isLane : GoodIn wsX4_duchy wsX4_isLane := goodIn_r _ [12] (by decide +kernel) (by decide +kernel)
set_option maxRecDepth 20000 in
theorem gX4_duchy_X4_isLane : GoodIn wsX4_duchy (va_wsS RX4 40 yX4_isLane wsX4_isLane) := goodIn_app (goodIn_of _ (by decide +kernel)) ggX4_duchy_X4_isLane
set_option maxRecDepth 20000 in
theorem ggX4_duchy_X2_faultOfCells : GoodIn wsX4_duchy wsX2_faultOfCells := goodIn_r _ [17, 18, 19, 20, 21, 16, 22, 23, 24, 25, 26, 27, 93, 94, 95] (by decide +kernel) (by decide +kernel)
set_option maxRecDepth 20000 in
theorem gX4_duchy_X2_faultOfCells : GoodIn wsX4_duchy (wsV RX4 44 RX2 yX2_faultOfCells wsX2_faultOfCells) := goodIn_app (goodIn_of _ (by decide +kernel)) ggX4_duchy_X2_faultOfCells
set_option maxRecDepth 20000 in
theorem ggX4_duchy_X4_faulted : GoodIn wsX4_duchy wsX4_faulted := goodIn_r _ [31, 1, 88, 89, 90, 91, 92] (by decide +kernel) (by decide +kernel)
set_option maxRecDepth 20000 in
theorem gX4_duchy_X4_faulted : GoodIn wsX4_duchy (wsV RX4 48 RX4 yX4_faulted wsX4_faulted) := goodIn_app (goodIn_of _ (by decide +kernel)) ggX4_duchy_X4_faulted
set_option maxRecDepth 20000 in
theorem ggX4_duchy_X3_firstFault : GoodIn wsX4_duchy wsX3_firstFault := goodIn_r _ [35, 36, 37, 38, 16, 39, 40, 41, 7, 42, 43, 44, 34, 45, 46, 47, 48, 49, 50, 51, 52, 53, 54, 93, 94, 95] (by decide +kernel) (by decide +kernel)
set_option maxRecDepth 20000 in
theorem gX4_duchy_X3_firstFault : GoodIn wsX4_duchy (va_wsS RX4 52 yX3_firstFault wsX3_firstFault) := goodIn_app (goodIn_of _ (by decide +kernel)) ggX4_duchy_X3_firstFault
set_option maxRecDepth 20000 in
theorem ggX4_duchy_X0_takeText : GoodIn wsX4_duchy wsX0_takeText := goodIn_r _ [59, 60, 61, 62, 63, 64, 65, 66, 67, 68, 69, 34, 70, 36, 37, 38, 16, 39, 40, 41, 7, 42, 71, 72, 73, 46, 47, 48, 74, 75, 76, 77, 53, 54, 96, 97, 98, 99, 100, 101, 102, 103, 93, 94, 95] (by decide +kernel) (by decide +kernel)
set_option maxRecDepth 20000 in
theorem gX4_duchy_X0_takeText : GoodIn wsX4_duchy (wsV RX4 58 RX0 yX0_takeText wsX0_takeText) := goodIn_app (goodIn_of _ (by decide +kernel)) ggX4_duchy_X0_takeText
set_option maxRecDepth 20000 in
theorem ggX4_duchy_X1_dropAll : GoodIn wsX4_duchy wsX1_dropAll := goodIn_r _ [82, 83, 104, 105, 106, 107, 108] (by decide +kernel) (by decide +kernel)
set_option maxRecDepth 20000 in
theorem gX4_duchy_X1_dropAll : GoodIn wsX4_duchy (wsV RX4 62 RX1 yX1_dropAll wsX1_dropAll) := goodIn_app (goodIn_of _ (by decide +kernel)) ggX4_duchy_X1_dropAll
set_option maxRecDepth 20000 in
theorem ggX4_duchy_X0_eaterCount : GoodIn wsX4_duchy wsX0_eaterCount := goodIn_r _ [87, 62, 96, 97, 98, 99, 100, 101, 102, 103] (by decide +kernel) (by decide +kernel)
set_option maxRecDepth 20000 in
theorem gX4_duchy_X0_eaterCount : GoodIn wsX4_duchy (wsV RX4 65 RX0 yX0_eaterCount wsX0_eaterCount) := goodIn_app (goodIn_of _ (by decide +kernel)) ggX4_duchy_X0_eaterCount
theorem dX4_duchy_0 : decode cX4_duchy 0 = .ok (.aload_n 0, 1) := by decide +kernel
theorem dX4_duchy_1 : decode cX4_duchy 1 = .ok (.iconst 0, 1) := by decide +kernel
theorem dX4_duchy_2 : decode cX4_duchy 2 = .ok (.putfield 32, 3) := by decide +kernel
theorem dX4_duchy_5 : decode cX4_duchy 5 = .ok (.aload_n 0, 1) := by decide +kernel
theorem dX4_duchy_6 : decode cX4_duchy 6 = .ok (.iload_n 1, 1) := by decide +kernel
theorem dX4_duchy_7 : decode cX4_duchy 7 = .ok (.invokevirtual 36, 3) := by decide +kernel
theorem dX4_duchy_10 : decode cX4_duchy 10 = .ok (.astore 5, 2) := by decide +kernel
theorem dX4_duchy_12 : decode cX4_duchy 12 = .ok (.aload 5, 2) := by decide +kernel
theorem dX4_duchy_14 : decode cX4_duchy 14 = .ok (.ifnonnull 5, 3) := by decide +kernel
theorem dX4_duchy_17 : decode cX4_duchy 17 = .ok (.iconst (-1), 1) := by decide +kernel
theorem dX4_duchy_18 : decode cX4_duchy 18 = .ok (.ireturn, 1) := by decide +kernel
theorem dX4_duchy_19 : decode cX4_duchy 19 = .ok (.iload_n 2, 1) := by decide +kernel
theorem dX4_duchy_20 : decode cX4_duchy 20 = .ok (.invokestatic 40, 3) := by decide +kernel
theorem dX4_duchy_23 : decode cX4_duchy 23 = .ok (.ifCond .ne 6, 3) := by decide +kernel
theorem dX4_duchy_26 : decode cX4_duchy 26 = .ok (.bipush (-2), 2) := by decide +kernel
theorem dX4_duchy_28 : decode cX4_duchy 28 = .ok (.ireturn, 1) := by decide +kernel
theorem dX4_duchy_29 : decode cX4_duchy 29 = .ok (.aload 5, 2) := by decide +kernel
theorem dX4_duchy_31 : decode cX4_duchy 31 = .ok (.iload_n 2, 1) := by decide +kernel
theorem dX4_duchy_32 : decode cX4_duchy 32 = .ok (.iload_n 3, 1) := by decide +kernel
theorem dX4_duchy_33 : decode cX4_duchy 33 = .ok (.iload 4, 2) := by decide +kernel
theorem dX4_duchy_35 : decode cX4_duchy 35 = .ok (.invokevirtual 44, 3) := by decide +kernel
theorem dX4_duchy_38 : decode cX4_duchy 38 = .ok (.istore 6, 2) := by decide +kernel
theorem dX4_duchy_40 : decode cX4_duchy 40 = .ok (.iload 6, 2) := by decide +kernel
theorem dX4_duchy_42 : decode cX4_duchy 42 = .ok (.ifCond .eq 10, 3) := by decide +kernel
theorem dX4_duchy_45 : decode cX4_duchy 45 = .ok (.aload_n 0, 1) := by decide +kernel
theorem dX4_duchy_46 : decode cX4_duchy 46 = .ok (.iload 6, 2) := by decide +kernel
theorem dX4_duchy_48 : decode cX4_duchy 48 = .ok (.invokevirtual 48, 3) := by decide +kernel
theorem dX4_duchy_51 : decode cX4_duchy 51 = .ok (.ireturn, 1) := by decide +kernel
theorem dX4_duchy_52 : decode cX4_duchy 52 = .ok (.aload 5, 2) := by decide +kernel
theorem dX4_duchy_54 : decode cX4_duchy 54 = .ok (.iload_n 3, 1) := by decide +kernel
theorem dX4_duchy_55 : decode cX4_duchy 55 = .ok (.iload 4, 2) := by decide +kernel
theorem dX4_duchy_57 : decode cX4_duchy 57 = .ok (.invokestatic 52, 3) := by decide +kernel
theorem dX4_duchy_60 : decode cX4_duchy 60 = .ok (.istore 7, 2) := by decide +kernel
theorem dX4_duchy_62 : decode cX4_duchy 62 = .ok (.iload 7, 2) := by decide +kernel
theorem dX4_duchy_64 : decode cX4_duchy 64 = .ok (.iconst (-1), 1) := by decide +kernel
theorem dX4_duchy_65 : decode cX4_duchy 65 = .ok (.if_icmp .eq 9, 3) := by decide +kernel
theorem dX4_duchy_68 : decode cX4_duchy 68 = .ok (.bipush (-100), 2) := by decide +kernel
theorem dX4_duchy_70 : decode cX4_duchy 70 = .ok (.iload 7, 2) := by decide +kernel
theorem dX4_duchy_72 : decode cX4_duchy 72 = .ok (.isub, 1) := by decide +kernel
theorem dX4_duchy_73 : decode cX4_duchy 73 = .ok (.ireturn, 1) := by decide +kernel
theorem dX4_duchy_74 : decode cX4_duchy 74 = .ok (.aload_n 0, 1) := by decide +kernel
theorem dX4_duchy_75 : decode cX4_duchy 75 = .ok (.getfield 12, 3) := by decide +kernel
theorem dX4_duchy_78 : decode cX4_duchy 78 = .ok (.aload 5, 2) := by decide +kernel
theorem dX4_duchy_80 : decode cX4_duchy 80 = .ok (.iload_n 3, 1) := by decide +kernel
theorem dX4_duchy_81 : decode cX4_duchy 81 = .ok (.iload 4, 2) := by decide +kernel
theorem dX4_duchy_83 : decode cX4_duchy 83 = .ok (.invokevirtual 58, 3) := by decide +kernel
theorem dX4_duchy_86 : decode cX4_duchy 86 = .ok (.aload_n 0, 1) := by decide +kernel
theorem dX4_duchy_87 : decode cX4_duchy 87 = .ok (.getfield 21, 3) := by decide +kernel
theorem dX4_duchy_90 : decode cX4_duchy 90 = .ok (.invokevirtual 62, 3) := by decide +kernel
theorem dX4_duchy_93 : decode cX4_duchy 93 = .ok (.aload_n 0, 1) := by decide +kernel
theorem dX4_duchy_94 : decode cX4_duchy 94 = .ok (.getfield 12, 3) := by decide +kernel
theorem dX4_duchy_97 : decode cX4_duchy 97 = .ok (.invokevirtual 65, 3) := by decide +kernel
theorem dX4_duchy_100 : decode cX4_duchy 100 = .ok (.ireturn, 1) := by decide +kernel
set_option maxRecDepth 20000 in
theorem ggX4_ofEater_X0_hasEater : GoodIn wsX4_ofEater wsX0_hasEater := goodIn_r _ [6, 7, 43, 44, 45, 46, 47, 48, 49, 50] (by decide +kernel) (by decide +kernel)
set_option maxRecDepth 20000 in
theorem gX4_ofEater_X0_hasEater : GoodIn wsX4_ofEater (wsV RX4 69 RX0 yX0_hasEater wsX0_hasEater) := goodIn_app (goodIn_of _ (by decide +kernel)) ggX4_ofEater_X0_hasEater
set_option maxRecDepth 20000 in
theorem ggX4_ofEater_X0_kindOf : GoodIn wsX4_ofEater wsX0_kindOf := goodIn_r _ [11, 12, 13, 14, 15, 43, 44, 45, 46, 47, 48, 49, 50] (by decide +kernel) (by decide +kernel)
set_option maxRecDepth 20000 in
theorem gX4_ofEater_X0_kindOf : GoodIn wsX4_ofEater (wsV RX4 72 RX0 yX0_kindOf wsX0_kindOf) := goodIn_app (goodIn_of _ (by decide +kernel)) ggX4_ofEater_X0_kindOf
set_option maxRecDepth 20000 in
theorem ggX4_ofEater_X0_stayOf : GoodIn wsX4_ofEater wsX0_stayOf := goodIn_r _ [19, 20, 13, 14, 15, 43, 44, 45, 46, 47, 48, 49, 50] (by decide +kernel) (by decide +kernel)
set_option maxRecDepth 20000 in
theorem gX4_ofEater_X0_stayOf : GoodIn wsX4_ofEater (wsV RX4 75 RX0 yX0_stayOf wsX0_stayOf) := goodIn_app (goodIn_of _ (by decide +kernel)) ggX4_ofEater_X0_stayOf
set_option maxRecDepth 20000 in
theorem ggX4_ofEater_X0_spoonsOf : GoodIn wsX4_ofEater wsX0_spoonsOf := goodIn_r _ [24, 25, 13, 14, 15, 43, 44, 45, 46, 47, 48, 49, 50] (by decide +kernel) (by decide +kernel)
set_option maxRecDepth 20000 in
theorem gX4_ofEater_X0_spoonsOf : GoodIn wsX4_ofEater (wsV RX4 78 RX0 yX0_spoonsOf wsX0_spoonsOf) := goodIn_app (goodIn_of _ (by decide +kernel)) ggX4_ofEater_X0_spoonsOf
set_option maxRecDepth 20000 in
theorem ggX4_ofEater_X0_needOf : GoodIn wsX4_ofEater wsX0_needOf := goodIn_r _ [29, 30, 13, 14, 15, 43, 44, 45, 46, 47, 48, 49, 50] (by decide +kernel) (by decide +kernel)
set_option maxRecDepth 20000 in
theorem gX4_ofEater_X0_needOf : GoodIn wsX4_ofEater (wsV RX4 81 RX0 yX0_needOf wsX0_needOf) := goodIn_app (goodIn_of _ (by decide +kernel)) ggX4_ofEater_X0_needOf
set_option maxRecDepth 20000 in
theorem ggX4_ofEater_X0_lastsOf : GoodIn wsX4_ofEater wsX0_lastsOf := goodIn_r _ [34, 12, 20, 13, 14, 15, 35, 36, 5, 37, 43, 44, 45, 46, 47, 48, 49, 50] (by decide +kernel) (by decide +kernel)
set_option maxRecDepth 20000 in
theorem gX4_ofEater_X0_lastsOf : GoodIn wsX4_ofEater (wsV RX4 84 RX0 yX0_lastsOf wsX0_lastsOf) := goodIn_app (goodIn_of _ (by decide +kernel)) ggX4_ofEater_X0_lastsOf
theorem dX4_ofEater_0 : decode cX4_ofEater 0 = .ok (.aload_n 0, 1) := by decide +kernel
theorem dX4_ofEater_1 : decode cX4_ofEater 1 = .ok (.getfield 12, 3) := by decide +kernel
theorem dX4_ofEater_4 : decode cX4_ofEater 4 = .ok (.iload_n 1, 1) := by decide +kernel
theorem dX4_ofEater_5 : decode cX4_ofEater 5 = .ok (.invokevirtual 69, 3) := by decide +kernel
theorem dX4_ofEater_8 : decode cX4_ofEater 8 = .ok (.ifCond .ne 5, 3) := by decide +kernel
theorem dX4_ofEater_11 : decode cX4_ofEater 11 = .ok (.iconst (-1), 1) := by decide +kernel
theorem dX4_ofEater_12 : decode cX4_ofEater 12 = .ok (.ireturn, 1) := by decide +kernel
theorem dX4_ofEater_13 : decode cX4_ofEater 13 = .ok (.iload_n 2, 1) := by decide +kernel
theorem dX4_ofEater_14 : decode cX4_ofEater 14 = .ok (.tableswitch 79 0 4 #[34, 43, 52, 61, 70], 34) := by decide +kernel
theorem dX4_ofEater_48 : decode cX4_ofEater 48 = .ok (.aload_n 0, 1) := by decide +kernel
theorem dX4_ofEater_49 : decode cX4_ofEater 49 = .ok (.getfield 12, 3) := by decide +kernel
theorem dX4_ofEater_52 : decode cX4_ofEater 52 = .ok (.iload_n 1, 1) := by decide +kernel
theorem dX4_ofEater_53 : decode cX4_ofEater 53 = .ok (.invokevirtual 72, 3) := by decide +kernel
theorem dX4_ofEater_56 : decode cX4_ofEater 56 = .ok (.ireturn, 1) := by decide +kernel
theorem dX4_ofEater_57 : decode cX4_ofEater 57 = .ok (.aload_n 0, 1) := by decide +kernel
theorem dX4_ofEater_58 : decode cX4_ofEater 58 = .ok (.getfield 12, 3) := by decide +kernel
theorem dX4_ofEater_61 : decode cX4_ofEater 61 = .ok (.iload_n 1, 1) := by decide +kernel
theorem dX4_ofEater_62 : decode cX4_ofEater 62 = .ok (.invokevirtual 75, 3) := by decide +kernel
theorem dX4_ofEater_65 : decode cX4_ofEater 65 = .ok (.ireturn, 1) := by decide +kernel
theorem dX4_ofEater_66 : decode cX4_ofEater 66 = .ok (.aload_n 0, 1) := by decide +kernel
theorem dX4_ofEater_67 : decode cX4_ofEater 67 = .ok (.getfield 12, 3) := by decide +kernel
theorem dX4_ofEater_70 : decode cX4_ofEater 70 = .ok (.iload_n 1, 1) := by decide +kernel
theorem dX4_ofEater_71 : decode cX4_ofEater 71 = .ok (.invokevirtual 78, 3) := by decide +kernel
theorem dX4_ofEater_74 : decode cX4_ofEater 74 = .ok (.ireturn, 1) := by decide +kernel
theorem dX4_ofEater_75 : decode cX4_ofEater 75 = .ok (.aload_n 0, 1) := by decide +kernel
theorem dX4_ofEater_76 : decode cX4_ofEater 76 = .ok (.getfield 12, 3) := by decide +kernel
theorem dX4_ofEater_79 : decode cX4_ofEater 79 = .ok (.iload_n 1, 1) := by decide +kernel
theorem dX4_ofEater_80 : decode cX4_ofEater 80 = .ok (.invokevirtual 81, 3) := by decide +kernel
theorem dX4_ofEater_83 : decode cX4_ofEater 83 = .ok (.ireturn, 1) := by decide +kernel
theorem dX4_ofEater_84 : decode cX4_ofEater 84 = .ok (.aload_n 0, 1) := by decide +kernel
theorem dX4_ofEater_85 : decode cX4_ofEater 85 = .ok (.getfield 12, 3) := by decide +kernel
theorem dX4_ofEater_88 : decode cX4_ofEater 88 = .ok (.iload_n 1, 1) := by decide +kernel
theorem dX4_ofEater_89 : decode cX4_ofEater 89 = .ok (.invokevirtual 84, 3) := by decide +kernel
theorem dX4_ofEater_92 : decode cX4_ofEater 92 = .ok (.ireturn, 1) := by decide +kernel
theorem dX4_ofEater_93 : decode cX4_ofEater 93 = .ok (.bipush (-2), 2) := by decide +kernel
theorem dX4_ofEater_95 : decode cX4_ofEater 95 = .ok (.ireturn, 1) := by decide +kernel
set_option maxRecDepth 20000 in
theorem ggX4_look_X0_hasDay : GoodIn wsX4_look wsX0_hasDay := goodIn_r _ [6, 7, 21, 22, 23, 24, 25, 26, 27, 28] (by decide +kernel) (by decide +kernel)
set_option maxRecDepth 20000 in
theorem gX4_look_X0_hasDay : GoodIn wsX4_look (wsV RX4 87 RX0 yX0_hasDay wsX0_hasDay) := goodIn_app (goodIn_of _ (by decide +kernel)) ggX4_look_X0_hasDay
set_option maxRecDepth 20000 in
theorem ggX4_look_X0_lookOf : GoodIn wsX4_look wsX0_lookOf := goodIn_r _ [11, 12, 13, 14, 15, 21, 22, 23, 24, 25, 26, 27, 28] (by decide +kernel) (by decide +kernel)
set_option maxRecDepth 20000 in
theorem gX4_look_X0_lookOf : GoodIn wsX4_look (wsV RX4 90 RX0 yX0_lookOf wsX0_lookOf) := goodIn_app (goodIn_of _ (by decide +kernel)) ggX4_look_X0_lookOf
theorem dX4_look_0 : decode cX4_look 0 = .ok (.aload_n 0, 1) := by decide +kernel
theorem dX4_look_1 : decode cX4_look 1 = .ok (.getfield 12, 3) := by decide +kernel
theorem dX4_look_4 : decode cX4_look 4 = .ok (.iload_n 1, 1) := by decide +kernel
theorem dX4_look_5 : decode cX4_look 5 = .ok (.invokevirtual 87, 3) := by decide +kernel
theorem dX4_look_8 : decode cX4_look 8 = .ok (.ifCond .eq 14, 3) := by decide +kernel
theorem dX4_look_11 : decode cX4_look 11 = .ok (.aload_n 0, 1) := by decide +kernel
theorem dX4_look_12 : decode cX4_look 12 = .ok (.getfield 12, 3) := by decide +kernel
theorem dX4_look_15 : decode cX4_look 15 = .ok (.iload_n 1, 1) := by decide +kernel
theorem dX4_look_16 : decode cX4_look 16 = .ok (.invokevirtual 90, 3) := by decide +kernel
theorem dX4_look_19 : decode cX4_look 19 = .ok (.goto 4, 3) := by decide +kernel
theorem dX4_look_22 : decode cX4_look 22 = .ok (.iconst (-1), 1) := by decide +kernel
theorem dX4_look_23 : decode cX4_look 23 = .ok (.ireturn, 1) := by decide +kernel
set_option maxRecDepth 20000 in
theorem ggX4_pull_X0_hasDay : GoodIn wsX4_pull wsX0_hasDay := goodIn_r _ [6, 7, 30, 31, 32, 33, 34, 35, 36, 37] (by decide +kernel) (by decide +kernel)
set_option maxRecDepth 20000 in
theorem gX4_pull_X0_hasDay : GoodIn wsX4_pull (wsV RX4 87 RX0 yX0_hasDay wsX0_hasDay) := goodIn_app (goodIn_of _ (by decide +kernel)) ggX4_pull_X0_hasDay
set_option maxRecDepth 20000 in
theorem ggX4_pull_X4_isFrom0To : GoodIn wsX4_pull wsX4_isFrom0To := goodIn_r _ [11] (by decide +kernel) (by decide +kernel)
set_option maxRecDepth 20000 in
theorem gX4_pull_X4_isFrom0To : GoodIn wsX4_pull (va_wsS RX4 93 yX4_isFrom0To wsX4_isFrom0To) := goodIn_app (goodIn_of _ (by decide +kernel)) ggX4_pull_X4_isFrom0To
set_option maxRecDepth 20000 in
theorem ggX4_pull_X0_lookOf : GoodIn wsX4_pull wsX0_lookOf := goodIn_r _ [15, 16, 17, 10, 18, 30, 31, 32, 33, 34, 35, 36, 37] (by decide +kernel) (by decide +kernel)
set_option maxRecDepth 20000 in
theorem gX4_pull_X0_lookOf : GoodIn wsX4_pull (wsV RX4 90 RX0 yX0_lookOf wsX0_lookOf) := goodIn_app (goodIn_of _ (by decide +kernel)) ggX4_pull_X0_lookOf
set_option maxRecDepth 20000 in
theorem ggX4_pull_X0_changeLook : GoodIn wsX4_pull wsX0_changeLook := goodIn_r _ [22, 16, 23, 10, 24, 30, 31, 32, 33, 34, 35, 36, 37] (by decide +kernel) (by decide +kernel)
set_option maxRecDepth 20000 in
theorem gX4_pull_X0_changeLook : GoodIn wsX4_pull (wsV RX4 97 RX0 yX0_changeLook wsX0_changeLook) := goodIn_app (goodIn_of _ (by decide +kernel)) ggX4_pull_X0_changeLook
theorem dX4_pull_0 : decode cX4_pull 0 = .ok (.aload_n 0, 1) := by decide +kernel
theorem dX4_pull_1 : decode cX4_pull 1 = .ok (.getfield 12, 3) := by decide +kernel
theorem dX4_pull_4 : decode cX4_pull 4 = .ok (.iload_n 1, 1) := by decide +kernel
theorem dX4_pull_5 : decode cX4_pull 5 = .ok (.invokevirtual 87, 3) := by decide +kernel
theorem dX4_pull_8 : decode cX4_pull 8 = .ok (.ifCond .ne 5, 3) := by decide +kernel
theorem dX4_pull_11 : decode cX4_pull 11 = .ok (.iconst (-1), 1) := by decide +kernel
theorem dX4_pull_12 : decode cX4_pull 12 = .ok (.ireturn, 1) := by decide +kernel
theorem dX4_pull_13 : decode cX4_pull 13 = .ok (.iload_n 2, 1) := by decide +kernel
theorem dX4_pull_14 : decode cX4_pull 14 = .ok (.bipush 9, 2) := by decide +kernel
theorem dX4_pull_16 : decode cX4_pull 16 = .ok (.invokestatic 93, 3) := by decide +kernel
theorem dX4_pull_19 : decode cX4_pull 19 = .ok (.ifCond .ne 6, 3) := by decide +kernel
theorem dX4_pull_22 : decode cX4_pull 22 = .ok (.bipush (-2), 2) := by decide +kernel
theorem dX4_pull_24 : decode cX4_pull 24 = .ok (.ireturn, 1) := by decide +kernel
theorem dX4_pull_25 : decode cX4_pull 25 = .ok (.aload_n 0, 1) := by decide +kernel
theorem dX4_pull_26 : decode cX4_pull 26 = .ok (.getfield 12, 3) := by decide +kernel
theorem dX4_pull_29 : decode cX4_pull 29 = .ok (.iload_n 1, 1) := by decide +kernel
theorem dX4_pull_30 : decode cX4_pull 30 = .ok (.invokevirtual 90, 3) := by decide +kernel
theorem dX4_pull_33 : decode cX4_pull 33 = .ok (.istore_n 3, 1) := by decide +kernel
theorem dX4_pull_34 : decode cX4_pull 34 = .ok (.aload_n 0, 1) := by decide +kernel
theorem dX4_pull_35 : decode cX4_pull 35 = .ok (.getfield 12, 3) := by decide +kernel
theorem dX4_pull_38 : decode cX4_pull 38 = .ok (.iload_n 1, 1) := by decide +kernel
theorem dX4_pull_39 : decode cX4_pull 39 = .ok (.iload_n 2, 1) := by decide +kernel
theorem dX4_pull_40 : decode cX4_pull 40 = .ok (.invokevirtual 97, 3) := by decide +kernel
theorem dX4_pull_43 : decode cX4_pull 43 = .ok (.iload_n 3, 1) := by decide +kernel
theorem dX4_pull_44 : decode cX4_pull 44 = .ok (.ireturn, 1) := by decide +kernel
set_option maxRecDepth 20000 in
theorem ggX4_sour_X4_isFrom0To : GoodIn wsX4_sour wsX4_isFrom0To := goodIn_r _ [5] (by decide +kernel) (by decide +kernel)
set_option maxRecDepth 20000 in
theorem gX4_sour_X4_isFrom0To : GoodIn wsX4_sour (va_wsS RX4 93 yX4_isFrom0To wsX4_isFrom0To) := goodIn_app (goodIn_of _ (by decide +kernel)) ggX4_sour_X4_isFrom0To
set_option maxRecDepth 20000 in
theorem ggX4_sour_X0_isTold : GoodIn wsX4_sour wsX0_isTold := goodIn_r _ [10, 11, 26, 27, 28, 29, 30, 31, 32, 33] (by decide +kernel) (by decide +kernel)
set_option maxRecDepth 20000 in
theorem gX4_sour_X0_isTold : GoodIn wsX4_sour (wsV RX4 101 RX0 yX0_isTold wsX0_isTold) := goodIn_app (goodIn_of _ (by decide +kernel)) ggX4_sour_X0_isTold
set_option maxRecDepth 20000 in
theorem ggX4_sour_X0_sourLook : GoodIn wsX4_sour wsX0_sourLook := goodIn_r _ [15, 16, 26, 27, 28, 29, 30, 31, 32, 33] (by decide +kernel) (by decide +kernel)
set_option maxRecDepth 20000 in
theorem gX4_sour_X0_sourLook : GoodIn wsX4_sour (wsV RX4 105 RX0 yX0_sourLook wsX0_sourLook) := goodIn_app (goodIn_of _ (by decide +kernel)) ggX4_sour_X0_sourLook
set_option maxRecDepth 20000 in
theorem ggX4_sour_X0_changeSour : GoodIn wsX4_sour wsX0_changeSour := goodIn_r _ [20, 16, 26, 27, 28, 29, 30, 31, 32, 33] (by decide +kernel) (by decide +kernel)
set_option maxRecDepth 20000 in
theorem gX4_sour_X0_changeSour : GoodIn wsX4_sour (wsV RX4 108 RX0 yX0_changeSour wsX0_changeSour) := goodIn_app (goodIn_of _ (by decide +kernel)) ggX4_sour_X0_changeSour
theorem dX4_sour_0 : decode cX4_sour 0 = .ok (.iload_n 1, 1) := by decide +kernel
theorem dX4_sour_1 : decode cX4_sour 1 = .ok (.bipush 9, 2) := by decide +kernel
theorem dX4_sour_3 : decode cX4_sour 3 = .ok (.invokestatic 93, 3) := by decide +kernel
theorem dX4_sour_6 : decode cX4_sour 6 = .ok (.ifCond .ne 6, 3) := by decide +kernel
theorem dX4_sour_9 : decode cX4_sour 9 = .ok (.bipush (-2), 2) := by decide +kernel
theorem dX4_sour_11 : decode cX4_sour 11 = .ok (.ireturn, 1) := by decide +kernel
theorem dX4_sour_12 : decode cX4_sour 12 = .ok (.aload_n 0, 1) := by decide +kernel
theorem dX4_sour_13 : decode cX4_sour 13 = .ok (.getfield 12, 3) := by decide +kernel
theorem dX4_sour_16 : decode cX4_sour 16 = .ok (.invokevirtual 101, 3) := by decide +kernel
theorem dX4_sour_19 : decode cX4_sour 19 = .ok (.ifCond .ne 6, 3) := by decide +kernel
theorem dX4_sour_22 : decode cX4_sour 22 = .ok (.bipush (-3), 2) := by decide +kernel
theorem dX4_sour_24 : decode cX4_sour 24 = .ok (.ireturn, 1) := by decide +kernel
theorem dX4_sour_25 : decode cX4_sour 25 = .ok (.aload_n 0, 1) := by decide +kernel
theorem dX4_sour_26 : decode cX4_sour 26 = .ok (.getfield 12, 3) := by decide +kernel
theorem dX4_sour_29 : decode cX4_sour 29 = .ok (.invokevirtual 105, 3) := by decide +kernel
theorem dX4_sour_32 : decode cX4_sour 32 = .ok (.istore_n 2, 1) := by decide +kernel
theorem dX4_sour_33 : decode cX4_sour 33 = .ok (.aload_n 0, 1) := by decide +kernel
theorem dX4_sour_34 : decode cX4_sour 34 = .ok (.getfield 12, 3) := by decide +kernel
theorem dX4_sour_37 : decode cX4_sour 37 = .ok (.iload_n 1, 1) := by decide +kernel
theorem dX4_sour_38 : decode cX4_sour 38 = .ok (.invokevirtual 108, 3) := by decide +kernel
theorem dX4_sour_41 : decode cX4_sour 41 = .ok (.iload_n 2, 1) := by decide +kernel
theorem dX4_sour_42 : decode cX4_sour 42 = .ok (.ireturn, 1) := by decide +kernel
set_option maxRecDepth 20000 in
theorem ggX4_crave_X0_hasEater : GoodIn wsX4_crave wsX0_hasEater := goodIn_r _ [6, 7, 30, 31, 32, 33, 34, 35, 36, 37] (by decide +kernel) (by decide +kernel)
set_option maxRecDepth 20000 in
theorem gX4_crave_X0_hasEater : GoodIn wsX4_crave (wsV RX4 69 RX0 yX0_hasEater wsX0_hasEater) := goodIn_app (goodIn_of _ (by decide +kernel)) ggX4_crave_X0_hasEater
set_option maxRecDepth 20000 in
theorem ggX4_crave_X4_isFrom0To : GoodIn wsX4_crave wsX4_isFrom0To := goodIn_r _ [11] (by decide +kernel) (by decide +kernel)
set_option maxRecDepth 20000 in
theorem gX4_crave_X4_isFrom0To : GoodIn wsX4_crave (va_wsS RX4 93 yX4_isFrom0To wsX4_isFrom0To) := goodIn_app (goodIn_of _ (by decide +kernel)) ggX4_crave_X4_isFrom0To
set_option maxRecDepth 20000 in
theorem ggX4_crave_X0_needOf : GoodIn wsX4_crave wsX0_needOf := goodIn_r _ [15, 16, 17, 10, 18, 30, 31, 32, 33, 34, 35, 36, 37] (by decide +kernel) (by decide +kernel)
set_option maxRecDepth 20000 in
theorem gX4_crave_X0_needOf : GoodIn wsX4_crave (wsV RX4 81 RX0 yX0_needOf wsX0_needOf) := goodIn_app (goodIn_of _ (by decide +kernel)) ggX4_crave_X0_needOf
set_option maxRecDepth 20000 in
theorem ggX4_crave_X0_changeNeed : GoodIn wsX4_crave wsX0_changeNeed := goodIn_r _ [22, 16, 23, 10, 24, 30, 31, 32, 33, 34, 35, 36, 37] (by decide +kernel) (by decide +kernel)
set_option maxRecDepth 20000 in
theorem gX4_crave_X0_changeNeed : GoodIn wsX4_crave (wsV RX4 112 RX0 yX0_changeNeed wsX0_changeNeed) := goodIn_app (goodIn_of _ (by decide +kernel)) ggX4_crave_X0_changeNeed
theorem dX4_crave_0 : decode cX4_crave 0 = .ok (.aload_n 0, 1) := by decide +kernel
theorem dX4_crave_1 : decode cX4_crave 1 = .ok (.getfield 12, 3) := by decide +kernel
theorem dX4_crave_4 : decode cX4_crave 4 = .ok (.iload_n 1, 1) := by decide +kernel
theorem dX4_crave_5 : decode cX4_crave 5 = .ok (.invokevirtual 69, 3) := by decide +kernel
theorem dX4_crave_8 : decode cX4_crave 8 = .ok (.ifCond .ne 5, 3) := by decide +kernel
theorem dX4_crave_11 : decode cX4_crave 11 = .ok (.iconst (-1), 1) := by decide +kernel
theorem dX4_crave_12 : decode cX4_crave 12 = .ok (.ireturn, 1) := by decide +kernel
theorem dX4_crave_13 : decode cX4_crave 13 = .ok (.iload_n 2, 1) := by decide +kernel
theorem dX4_crave_14 : decode cX4_crave 14 = .ok (.bipush 6, 2) := by decide +kernel
theorem dX4_crave_16 : decode cX4_crave 16 = .ok (.invokestatic 93, 3) := by decide +kernel
theorem dX4_crave_19 : decode cX4_crave 19 = .ok (.ifCond .ne 6, 3) := by decide +kernel
theorem dX4_crave_22 : decode cX4_crave 22 = .ok (.bipush (-2), 2) := by decide +kernel
theorem dX4_crave_24 : decode cX4_crave 24 = .ok (.ireturn, 1) := by decide +kernel
theorem dX4_crave_25 : decode cX4_crave 25 = .ok (.aload_n 0, 1) := by decide +kernel
theorem dX4_crave_26 : decode cX4_crave 26 = .ok (.getfield 12, 3) := by decide +kernel
theorem dX4_crave_29 : decode cX4_crave 29 = .ok (.iload_n 1, 1) := by decide +kernel
theorem dX4_crave_30 : decode cX4_crave 30 = .ok (.invokevirtual 81, 3) := by decide +kernel
theorem dX4_crave_33 : decode cX4_crave 33 = .ok (.istore_n 3, 1) := by decide +kernel
theorem dX4_crave_34 : decode cX4_crave 34 = .ok (.aload_n 0, 1) := by decide +kernel
theorem dX4_crave_35 : decode cX4_crave 35 = .ok (.getfield 12, 3) := by decide +kernel
theorem dX4_crave_38 : decode cX4_crave 38 = .ok (.iload_n 1, 1) := by decide +kernel
theorem dX4_crave_39 : decode cX4_crave 39 = .ok (.iload_n 2, 1) := by decide +kernel
theorem dX4_crave_40 : decode cX4_crave 40 = .ok (.invokevirtual 112, 3) := by decide +kernel
theorem dX4_crave_43 : decode cX4_crave 43 = .ok (.iload_n 3, 1) := by decide +kernel
theorem dX4_crave_44 : decode cX4_crave 44 = .ok (.ireturn, 1) := by decide +kernel
set_option maxRecDepth 20000 in
theorem ggX4_fasts_X0_isTold : GoodIn wsX4_fasts wsX0_isTold := goodIn_r _ [6, 7, 23, 24, 25, 26, 27, 28, 29, 30] (by decide +kernel) (by decide +kernel)
set_option maxRecDepth 20000 in
theorem gX4_fasts_X0_isTold : GoodIn wsX4_fasts (wsV RX4 101 RX0 yX0_isTold wsX0_isTold) := goodIn_app (goodIn_of _ (by decide +kernel)) ggX4_fasts_X0_isTold
set_option maxRecDepth 20000 in
theorem ggX4_fasts_X0_fastDays : GoodIn wsX4_fasts wsX0_fastDays := goodIn_r _ [11, 12, 13, 14, 15, 16, 17, 23, 24, 25, 26, 27, 28, 29, 30] (by decide +kernel) (by decide +kernel)
set_option maxRecDepth 20000 in
theorem gX4_fasts_X0_fastDays : GoodIn wsX4_fasts (wsV RX4 115 RX0 yX0_fastDays wsX0_fastDays) := goodIn_app (goodIn_of _ (by decide +kernel)) ggX4_fasts_X0_fastDays
theorem dX4_fasts_0 : decode cX4_fasts 0 = .ok (.aload_n 0, 1) := by decide +kernel
theorem dX4_fasts_1 : decode cX4_fasts 1 = .ok (.getfield 12, 3) := by decide +kernel
theorem dX4_fasts_4 : decode cX4_fasts 4 = .ok (.invokevirtual 101, 3) := by decide +kernel
theorem dX4_fasts_7 : decode cX4_fasts 7 = .ok (.ifCond .eq 13, 3) := by decide +kernel
theorem dX4_fasts_10 : decode cX4_fasts 10 = .ok (.aload_n 0, 1) := by decide +kernel
theorem dX4_fasts_11 : decode cX4_fasts 11 = .ok (.getfield 12, 3) := by decide +kernel
theorem dX4_fasts_14 : decode cX4_fasts 14 = .ok (.invokevirtual 115, 3) := by decide +kernel
theorem dX4_fasts_17 : decode cX4_fasts 17 = .ok (.goto 5, 3) := by decide +kernel
theorem dX4_fasts_20 : decode cX4_fasts 20 = .ok (.bipush (-3), 2) := by decide +kernel
theorem dX4_fasts_22 : decode cX4_fasts 22 = .ok (.ireturn, 1) := by decide +kernel
set_option maxRecDepth 20000 in
theorem ggX4_yellow_X0_hasEater : GoodIn wsX4_yellow wsX0_hasEater := goodIn_r _ [6, 7, 38, 39, 40, 41, 42, 43, 44, 45] (by decide +kernel) (by decide +kernel)
set_option maxRecDepth 20000 in
theorem gX4_yellow_X0_hasEater : GoodIn wsX4_yellow (wsV RX4 69 RX0 yX0_hasEater wsX0_hasEater) := goodIn_app (goodIn_of _ (by decide +kernel)) ggX4_yellow_X0_hasEater
set_option maxRecDepth 20000 in
theorem ggX4_yellow_X0_hasDays : GoodIn wsX4_yellow wsX0_hasDays := goodIn_r _ [11, 12, 13, 14, 5, 15, 16, 38, 39, 40, 41, 42, 43, 44, 45] (by decide +kernel) (by decide +kernel)
set_option maxRecDepth 20000 in
theorem gX4_yellow_X0_hasDays : GoodIn wsX4_yellow (wsV RX4 118 RX0 yX0_hasDays wsX0_hasDays) := goodIn_app (goodIn_of _ (by decide +kernel)) ggX4_yellow_X0_hasDays
set_option maxRecDepth 20000 in
theorem ggX4_yellow_X0_lastsOf : GoodIn wsX4_yellow wsX0_lastsOf := goodIn_r _ [20, 21, 22, 23, 24, 25, 26, 27, 5, 28, 38, 39, 40, 41, 42, 43, 44, 45] (by decide +kernel) (by decide +kernel)
set_option maxRecDepth 20000 in
theorem gX4_yellow_X0_lastsOf : GoodIn wsX4_yellow (wsV RX4 84 RX0 yX0_lastsOf wsX0_lastsOf) := goodIn_app (goodIn_of _ (by decide +kernel)) ggX4_yellow_X0_lastsOf
set_option maxRecDepth 20000 in
theorem ggX4_yellow_X0_yellowDays : GoodIn wsX4_yellow wsX0_yellowDays := goodIn_r _ [32, 12, 13, 14, 5, 15, 16, 38, 39, 40, 41, 42, 43, 44, 45] (by decide +kernel) (by decide +kernel)
set_option maxRecDepth 20000 in
theorem gX4_yellow_X0_yellowDays : GoodIn wsX4_yellow (wsV RX4 121 RX0 yX0_yellowDays wsX0_yellowDays) := goodIn_app (goodIn_of _ (by decide +kernel)) ggX4_yellow_X0_yellowDays
theorem dX4_yellow_0 : decode cX4_yellow 0 = .ok (.aload_n 0, 1) := by decide +kernel
theorem dX4_yellow_1 : decode cX4_yellow 1 = .ok (.getfield 12, 3) := by decide +kernel
theorem dX4_yellow_4 : decode cX4_yellow 4 = .ok (.iload_n 1, 1) := by decide +kernel
theorem dX4_yellow_5 : decode cX4_yellow 5 = .ok (.invokevirtual 69, 3) := by decide +kernel
theorem dX4_yellow_8 : decode cX4_yellow 8 = .ok (.ifCond .ne 5, 3) := by decide +kernel
theorem dX4_yellow_11 : decode cX4_yellow 11 = .ok (.iconst (-1), 1) := by decide +kernel
theorem dX4_yellow_12 : decode cX4_yellow 12 = .ok (.ireturn, 1) := by decide +kernel
theorem dX4_yellow_13 : decode cX4_yellow 13 = .ok (.aload_n 0, 1) := by decide +kernel
theorem dX4_yellow_14 : decode cX4_yellow 14 = .ok (.getfield 12, 3) := by decide +kernel
theorem dX4_yellow_17 : decode cX4_yellow 17 = .ok (.iload_n 2, 1) := by decide +kernel
theorem dX4_yellow_18 : decode cX4_yellow 18 = .ok (.invokevirtual 118, 3) := by decide +kernel
theorem dX4_yellow_21 : decode cX4_yellow 21 = .ok (.ifCond .ne 6, 3) := by decide +kernel
theorem dX4_yellow_24 : decode cX4_yellow 24 = .ok (.bipush (-2), 2) := by decide +kernel
theorem dX4_yellow_26 : decode cX4_yellow 26 = .ok (.ireturn, 1) := by decide +kernel
theorem dX4_yellow_27 : decode cX4_yellow 27 = .ok (.aload_n 0, 1) := by decide +kernel
theorem dX4_yellow_28 : decode cX4_yellow 28 = .ok (.getfield 12, 3) := by decide +kernel
theorem dX4_yellow_31 : decode cX4_yellow 31 = .ok (.aload_n 0, 1) := by decide +kernel
theorem dX4_yellow_32 : decode cX4_yellow 32 = .ok (.getfield 12, 3) := by decide +kernel
theorem dX4_yellow_35 : decode cX4_yellow 35 = .ok (.iload_n 1, 1) := by decide +kernel
theorem dX4_yellow_36 : decode cX4_yellow 36 = .ok (.invokevirtual 84, 3) := by decide +kernel
theorem dX4_yellow_39 : decode cX4_yellow 39 = .ok (.iload_n 2, 1) := by decide +kernel
theorem dX4_yellow_40 : decode cX4_yellow 40 = .ok (.invokevirtual 121, 3) := by decide +kernel
theorem dX4_yellow_43 : decode cX4_yellow 43 = .ok (.ireturn, 1) := by decide +kernel
set_option maxRecDepth 20000 in
theorem ggX4_found_X0_hasEater : GoodIn wsX4_found wsX0_hasEater := goodIn_r _ [6, 7, 68, 69, 70, 71, 72, 73, 74, 75] (by decide +kernel) (by decide +kernel)
set_option maxRecDepth 20000 in
theorem gX4_found_X0_hasEater : GoodIn wsX4_found (wsV RX4 69 RX0 yX0_hasEater wsX0_hasEater) := goodIn_app (goodIn_of _ (by decide +kernel)) ggX4_found_X0_hasEater
set_option maxRecDepth 20000 in
theorem ggX4_found_X0_hasDays : GoodIn wsX4_found wsX0_hasDays := goodIn_r _ [11, 12, 13, 14, 5, 15, 16, 68, 69, 70, 71, 72, 73, 74, 75] (by decide +kernel) (by decide +kernel)
set_option maxRecDepth 20000 in
theorem gX4_found_X0_hasDays : GoodIn wsX4_found (wsV RX4 118 RX0 yX0_hasDays wsX0_hasDays) := goodIn_app (goodIn_of _ (by decide +kernel)) ggX4_found_X0_hasDays
set_option maxRecDepth 20000 in
theorem ggX4_found_X4_isFrom0To : GoodIn wsX4_found wsX4_isFrom0To := goodIn_r _ [20] (by decide +kernel) (by decide +kernel)
set_option maxRecDepth 20000 in
theorem gX4_found_X4_isFrom0To : GoodIn wsX4_found (va_wsS RX4 93 yX4_isFrom0To wsX4_isFrom0To) := goodIn_app (goodIn_of _ (by decide +kernel)) ggX4_found_X4_isFrom0To
set_option maxRecDepth 20000 in
theorem ggX4_found_X0_foundDays : GoodIn wsX4_found wsX0_foundDays := goodIn_r _ [24, 25, 26, 27, 5, 28, 29, 30, 31, 19, 32, 33, 34, 35, 36, 37, 38, 39, 12, 13, 14, 15, 16, 40, 41, 42, 43, 44, 45, 68, 69, 70, 71, 72, 73, 74, 75] (by decide +kernel) (by decide +kernel)
set_option maxRecDepth 20000 in
theorem gX4_found_X0_foundDays : GoodIn wsX4_found (wsV RX4 125 RX0 yX0_foundDays wsX0_foundDays) := goodIn_app (goodIn_of _ (by decide +kernel)) ggX4_found_X0_foundDays
set_option maxRecDepth 20000 in
theorem ggX4_found_X0_fineOf : GoodIn wsX4_found wsX0_fineOf := goodIn_r _ [49, 50, 22, 23, 5, 24, 25, 26, 27, 28, 29, 30, 31, 19, 32, 33, 34, 35, 36, 37, 38, 39, 12, 13, 14, 15, 16, 40, 41, 42, 43, 44, 45, 51, 52, 53, 54, 55, 56, 57, 58, 59, 60, 61, 62, 68, 69, 70, 71, 72, 73, 74, 75] (by decide +kernel) (by decide +kernel)
set_option maxRecDepth 20000 in
theorem gX4_found_X0_fineOf : GoodIn wsX4_found (wsV RX4 128 RX0 yX0_fineOf wsX0_fineOf) := goodIn_app (goodIn_of _ (by decide +kernel)) ggX4_found_X0_fineOf
theorem dX4_found_0 : decode cX4_found 0 = .ok (.aload_n 0, 1) := by decide +kernel
theorem dX4_found_1 : decode cX4_found 1 = .ok (.getfield 12, 3) := by decide +kernel
theorem dX4_found_4 : decode cX4_found 4 = .ok (.iload_n 1, 1) := by decide +kernel
theorem dX4_found_5 : decode cX4_found 5 = .ok (.invokevirtual 69, 3) := by decide +kernel
theorem dX4_found_8 : decode cX4_found 8 = .ok (.ifCond .ne 5, 3) := by decide +kernel
theorem dX4_found_11 : decode cX4_found 11 = .ok (.iconst (-1), 1) := by decide +kernel
theorem dX4_found_12 : decode cX4_found 12 = .ok (.ireturn, 1) := by decide +kernel
theorem dX4_found_13 : decode cX4_found 13 = .ok (.aload_n 0, 1) := by decide +kernel
theorem dX4_found_14 : decode cX4_found 14 = .ok (.getfield 12, 3) := by decide +kernel
theorem dX4_found_17 : decode cX4_found 17 = .ok (.iload_n 2, 1) := by decide +kernel
theorem dX4_found_18 : decode cX4_found 18 = .ok (.invokevirtual 118, 3) := by decide +kernel
theorem dX4_found_21 : decode cX4_found 21 = .ok (.ifCond .eq 11, 3) := by decide +kernel
theorem dX4_found_24 : decode cX4_found 24 = .ok (.iload_n 3, 1) := by decide +kernel
theorem dX4_found_25 : decode cX4_found 25 = .ok (.iconst 1, 1) := by decide +kernel
theorem dX4_found_26 : decode cX4_found 26 = .ok (.invokestatic 93, 3) := by decide +kernel
theorem dX4_found_29 : decode cX4_found 29 = .ok (.ifCond .ne 6, 3) := by decide +kernel
theorem dX4_found_32 : decode cX4_found 32 = .ok (.bipush (-2), 2) := by decide +kernel
theorem dX4_found_34 : decode cX4_found 34 = .ok (.ireturn, 1) := by decide +kernel
theorem dX4_found_35 : decode cX4_found 35 = .ok (.iload_n 3, 1) := by decide +kernel
theorem dX4_found_36 : decode cX4_found 36 = .ok (.ifCond .ne 15, 3) := by decide +kernel
theorem dX4_found_39 : decode cX4_found 39 = .ok (.aload_n 0, 1) := by decide +kernel
theorem dX4_found_40 : decode cX4_found 40 = .ok (.getfield 12, 3) := by decide +kernel
theorem dX4_found_43 : decode cX4_found 43 = .ok (.iload_n 1, 1) := by decide +kernel
theorem dX4_found_44 : decode cX4_found 44 = .ok (.iload_n 2, 1) := by decide +kernel
theorem dX4_found_45 : decode cX4_found 45 = .ok (.invokevirtual 125, 3) := by decide +kernel
theorem dX4_found_48 : decode cX4_found 48 = .ok (.goto 12, 3) := by decide +kernel
theorem dX4_found_51 : decode cX4_found 51 = .ok (.aload_n 0, 1) := by decide +kernel
theorem dX4_found_52 : decode cX4_found 52 = .ok (.getfield 12, 3) := by decide +kernel
theorem dX4_found_55 : decode cX4_found 55 = .ok (.iload_n 1, 1) := by decide +kernel
theorem dX4_found_56 : decode cX4_found 56 = .ok (.iload_n 2, 1) := by decide +kernel
theorem dX4_found_57 : decode cX4_found 57 = .ok (.invokevirtual 128, 3) := by decide +kernel
theorem dX4_found_60 : decode cX4_found 60 = .ok (.ireturn, 1) := by decide +kernel
set_option maxRecDepth 20000 in
theorem ggX4_plan_X4_sheetAt : GoodIn wsX4_plan wsX4_sheetAt := goodIn_r _ [7, 8, 135, 136, 137, 138, 139] (by decide +kernel) (by decide +kernel)
set_option maxRecDepth 20000 in
theorem gX4_plan_X4_sheetAt : GoodIn wsX4_plan (wsV RX4 36 RX4 yX4_sheetAt wsX4_sheetAt) := goodIn_app (goodIn_of _ (by decide +kernel)) ggX4_plan_X4_sheetAt
set_option maxRecDepth 20000 in
theorem ggX4_plan_X4_isLane : GoodIn wsX4_plan wsX4_isLane := goodIn_r _ [11] (by decide +kernel) (by decide +kernel)
set_option maxRecDepth 20000 in
theorem gX4_plan_X4_isLane : GoodIn wsX4_plan (va_wsS RX4 40 yX4_isLane wsX4_isLane) := goodIn_app (goodIn_of _ (by decide +kernel)) ggX4_plan_X4_isLane
set_option maxRecDepth 20000 in
theorem ggX4_plan_X4_isAskedOfPlans : GoodIn wsX4_plan wsX4_isAskedOfPlans := goodIn_r _ [14, 15, 16, 6, 17] (by decide +kernel) (by decide +kernel)
set_option maxRecDepth 20000 in
theorem gX4_plan_X4_isAskedOfPlans : GoodIn wsX4_plan (va_wsS RX4 131 yX4_isAskedOfPlans wsX4_isAskedOfPlans) := goodIn_app (goodIn_of _ (by decide +kernel)) ggX4_plan_X4_isAskedOfPlans
set_option maxRecDepth 20000 in
theorem ggX4_plan_X0_isTold : GoodIn wsX4_plan wsX0_isTold := goodIn_r _ [22, 23, 140, 141, 142, 143, 144, 145, 146, 147] (by decide +kernel) (by decide +kernel)
set_option maxRecDepth 20000 in
theorem gX4_plan_X0_isTold : GoodIn wsX4_plan (wsV RX4 101 RX0 yX0_isTold wsX0_isTold) := goodIn_app (goodIn_of _ (by decide +kernel)) ggX4_plan_X0_isTold
set_option maxRecDepth 20000 in
theorem ggX4_plan_X2_faultOfCells : GoodIn wsX4_plan wsX2_faultOfCells := goodIn_r _ [28, 29, 30, 31, 32, 27, 33, 34, 35, 36, 37, 38, 148, 149, 150] (by decide +kernel) (by decide +kernel)
set_option maxRecDepth 20000 in
theorem gX4_plan_X2_faultOfCells : GoodIn wsX4_plan (wsV RX4 44 RX2 yX2_faultOfCells wsX2_faultOfCells) := goodIn_app (goodIn_of _ (by decide +kernel)) ggX4_plan_X2_faultOfCells
set_option maxRecDepth 20000 in
theorem ggX4_plan_X4_faulted : GoodIn wsX4_plan wsX4_faulted := goodIn_r _ [42, 1, 135, 136, 137, 138, 139] (by decide +kernel) (by decide +kernel)
set_option maxRecDepth 20000 in
theorem gX4_plan_X4_faulted : GoodIn wsX4_plan (wsV RX4 48 RX4 yX4_faulted wsX4_faulted) := goodIn_app (goodIn_of _ (by decide +kernel)) ggX4_plan_X4_faulted
set_option maxRecDepth 20000 in
theorem ggX4_plan_X0_hasPlan : GoodIn wsX4_plan wsX0_hasPlan := goodIn_r _ [46, 23, 47, 48, 49, 27, 50, 51, 52, 6, 53, 54, 55, 56, 21, 57, 58, 59, 60, 61, 62, 140, 141, 142, 143, 144, 145, 146, 147, 148, 149, 150] (by decide +kernel) (by decide +kernel)
set_option maxRecDepth 20000 in
theorem gX4_plan_X0_hasPlan : GoodIn wsX4_plan (wsV RX4 134 RX0 yX0_hasPlan wsX0_hasPlan) := goodIn_app (goodIn_of _ (by decide +kernel)) ggX4_plan_X0_hasPlan
set_option maxRecDepth 20000 in
theorem ggX4_plan_X4_ofPlan : GoodIn wsX4_plan wsX4_ofPlan := goodIn_r _ [66, 2, 67, 68, 69, 21, 70, 23, 47, 48, 49, 27, 50, 51, 52, 6, 53, 71, 72, 73, 74, 75, 76, 77, 78, 79, 80, 81, 82, 83, 84, 85, 86, 87, 88, 89, 90, 91, 58, 59, 60, 61, 62, 92, 93, 94, 95, 96, 97, 98, 99, 100, 101, 102, 103, 104, 105, 106, 107, 108, 109, 110, 111, 112, 113, 114, 115, 116, 117, 118, 119, 120, 121, 122, 123, 124, 125, 126, 127, 128, 129, 130, 131, 132, 133, 134, 135, 136, 137, 138, 139, 140, 141, 142, 143, 144, 145, 146, 147, 148, 149, 150] (by decide +kernel) (by decide +kernel)
set_option maxRecDepth 20000 in
theorem gX4_plan_X4_ofPlan : GoodIn wsX4_plan (wsV RX4 138 RX4 yX4_ofPlan wsX4_ofPlan) := goodIn_app (goodIn_of _ (by decide +kernel)) ggX4_plan_X4_ofPlan
theorem dX4_plan_0 : decode cX4_plan 0 = .ok (.aload_n 0, 1) := by decide +kernel
theorem dX4_plan_1 : decode cX4_plan 1 = .ok (.iconst 0, 1) := by decide +kernel
theorem dX4_plan_2 : decode cX4_plan 2 = .ok (.putfield 32, 3) := by decide +kernel
theorem dX4_plan_5 : decode cX4_plan 5 = .ok (.aload_n 0, 1) := by decide +kernel
theorem dX4_plan_6 : decode cX4_plan 6 = .ok (.iload_n 1, 1) := by decide +kernel
theorem dX4_plan_7 : decode cX4_plan 7 = .ok (.invokevirtual 36, 3) := by decide +kernel
theorem dX4_plan_10 : decode cX4_plan 10 = .ok (.astore 6, 2) := by decide +kernel
theorem dX4_plan_12 : decode cX4_plan 12 = .ok (.aload 6, 2) := by decide +kernel
theorem dX4_plan_14 : decode cX4_plan 14 = .ok (.ifnonnull 5, 3) := by decide +kernel
theorem dX4_plan_17 : decode cX4_plan 17 = .ok (.iconst (-1), 1) := by decide +kernel
theorem dX4_plan_18 : decode cX4_plan 18 = .ok (.ireturn, 1) := by decide +kernel
theorem dX4_plan_19 : decode cX4_plan 19 = .ok (.iload_n 2, 1) := by decide +kernel
theorem dX4_plan_20 : decode cX4_plan 20 = .ok (.invokestatic 40, 3) := by decide +kernel
theorem dX4_plan_23 : decode cX4_plan 23 = .ok (.ifCond .eq 11, 3) := by decide +kernel
theorem dX4_plan_26 : decode cX4_plan 26 = .ok (.iload 5, 2) := by decide +kernel
theorem dX4_plan_28 : decode cX4_plan 28 = .ok (.invokestatic 131, 3) := by decide +kernel
theorem dX4_plan_31 : decode cX4_plan 31 = .ok (.ifCond .ne 6, 3) := by decide +kernel
theorem dX4_plan_34 : decode cX4_plan 34 = .ok (.bipush (-2), 2) := by decide +kernel
theorem dX4_plan_36 : decode cX4_plan 36 = .ok (.ireturn, 1) := by decide +kernel
theorem dX4_plan_37 : decode cX4_plan 37 = .ok (.aload_n 0, 1) := by decide +kernel
theorem dX4_plan_38 : decode cX4_plan 38 = .ok (.getfield 12, 3) := by decide +kernel
theorem dX4_plan_41 : decode cX4_plan 41 = .ok (.invokevirtual 101, 3) := by decide +kernel
theorem dX4_plan_44 : decode cX4_plan 44 = .ok (.ifCond .ne 6, 3) := by decide +kernel
theorem dX4_plan_47 : decode cX4_plan 47 = .ok (.bipush (-3), 2) := by decide +kernel
theorem dX4_plan_49 : decode cX4_plan 49 = .ok (.ireturn, 1) := by decide +kernel
theorem dX4_plan_50 : decode cX4_plan 50 = .ok (.aload 6, 2) := by decide +kernel
theorem dX4_plan_52 : decode cX4_plan 52 = .ok (.iload_n 2, 1) := by decide +kernel
theorem dX4_plan_53 : decode cX4_plan 53 = .ok (.iload_n 3, 1) := by decide +kernel
theorem dX4_plan_54 : decode cX4_plan 54 = .ok (.iload 4, 2) := by decide +kernel
theorem dX4_plan_56 : decode cX4_plan 56 = .ok (.invokevirtual 44, 3) := by decide +kernel
theorem dX4_plan_59 : decode cX4_plan 59 = .ok (.istore 7, 2) := by decide +kernel
theorem dX4_plan_61 : decode cX4_plan 61 = .ok (.iload 7, 2) := by decide +kernel
theorem dX4_plan_63 : decode cX4_plan 63 = .ok (.ifCond .eq 10, 3) := by decide +kernel
theorem dX4_plan_66 : decode cX4_plan 66 = .ok (.aload_n 0, 1) := by decide +kernel
theorem dX4_plan_67 : decode cX4_plan 67 = .ok (.iload 7, 2) := by decide +kernel
theorem dX4_plan_69 : decode cX4_plan 69 = .ok (.invokevirtual 48, 3) := by decide +kernel
theorem dX4_plan_72 : decode cX4_plan 72 = .ok (.ireturn, 1) := by decide +kernel
theorem dX4_plan_73 : decode cX4_plan 73 = .ok (.aload_n 0, 1) := by decide +kernel
theorem dX4_plan_74 : decode cX4_plan 74 = .ok (.getfield 12, 3) := by decide +kernel
theorem dX4_plan_77 : decode cX4_plan 77 = .ok (.aload 6, 2) := by decide +kernel
theorem dX4_plan_79 : decode cX4_plan 79 = .ok (.iload_n 3, 1) := by decide +kernel
theorem dX4_plan_80 : decode cX4_plan 80 = .ok (.iload 4, 2) := by decide +kernel
theorem dX4_plan_82 : decode cX4_plan 82 = .ok (.invokevirtual 134, 3) := by decide +kernel
theorem dX4_plan_85 : decode cX4_plan 85 = .ok (.ifCond .ne 6, 3) := by decide +kernel
theorem dX4_plan_88 : decode cX4_plan 88 = .ok (.bipush (-2), 2) := by decide +kernel
theorem dX4_plan_90 : decode cX4_plan 90 = .ok (.ireturn, 1) := by decide +kernel
theorem dX4_plan_91 : decode cX4_plan 91 = .ok (.aload_n 0, 1) := by decide +kernel
theorem dX4_plan_92 : decode cX4_plan 92 = .ok (.aload 6, 2) := by decide +kernel
theorem dX4_plan_94 : decode cX4_plan 94 = .ok (.iload_n 3, 1) := by decide +kernel
theorem dX4_plan_95 : decode cX4_plan 95 = .ok (.iload 5, 2) := by decide +kernel
theorem dX4_plan_97 : decode cX4_plan 97 = .ok (.invokevirtual 138, 3) := by decide +kernel
theorem dX4_plan_100 : decode cX4_plan 100 = .ok (.ireturn, 1) := by decide +kernel
set_option maxRecDepth 20000 in
theorem ggX4_isAskedOfPlans_X4_isFrom0To : GoodIn wsX4_isAskedOfPlans wsX4_isFrom0To := goodIn_r _ [4] (by decide +kernel) (by decide +kernel)
set_option maxRecDepth 20000 in
theorem gX4_isAskedOfPlans_X4_isFrom0To : GoodIn wsX4_isAskedOfPlans (va_wsS RX4 93 yX4_isFrom0To wsX4_isFrom0To) := goodIn_app (goodIn_of _ (by decide +kernel)) ggX4_isAskedOfPlans_X4_isFrom0To
theorem dX4_isAskedOfPlans_0 : decode cX4_isAskedOfPlans 0 = .ok (.iload_n 0, 1) := by decide +kernel
theorem dX4_isAskedOfPlans_1 : decode cX4_isAskedOfPlans 1 = .ok (.iconst 3, 1) := by decide +kernel
theorem dX4_isAskedOfPlans_2 : decode cX4_isAskedOfPlans 2 = .ok (.invokestatic 93, 3) := by decide +kernel
theorem dX4_isAskedOfPlans_5 : decode cX4_isAskedOfPlans 5 = .ok (.ifCond .ne 15, 3) := by decide +kernel
theorem dX4_isAskedOfPlans_8 : decode cX4_isAskedOfPlans 8 = .ok (.iload_n 0, 1) := by decide +kernel
theorem dX4_isAskedOfPlans_9 : decode cX4_isAskedOfPlans 9 = .ok (.bipush 10, 2) := by decide +kernel
theorem dX4_isAskedOfPlans_11 : decode cX4_isAskedOfPlans 11 = .ok (.if_icmp .lt 13, 3) := by decide +kernel
theorem dX4_isAskedOfPlans_14 : decode cX4_isAskedOfPlans 14 = .ok (.iload_n 0, 1) := by decide +kernel
theorem dX4_isAskedOfPlans_15 : decode cX4_isAskedOfPlans 15 = .ok (.bipush 16, 2) := by decide +kernel
theorem dX4_isAskedOfPlans_17 : decode cX4_isAskedOfPlans 17 = .ok (.if_icmp .ge 7, 3) := by decide +kernel
theorem dX4_isAskedOfPlans_20 : decode cX4_isAskedOfPlans 20 = .ok (.iconst 1, 1) := by decide +kernel
theorem dX4_isAskedOfPlans_21 : decode cX4_isAskedOfPlans 21 = .ok (.goto 4, 3) := by decide +kernel
theorem dX4_isAskedOfPlans_24 : decode cX4_isAskedOfPlans 24 = .ok (.iconst 0, 1) := by decide +kernel
theorem dX4_isAskedOfPlans_25 : decode cX4_isAskedOfPlans 25 = .ok (.ireturn, 1) := by decide +kernel
set_option maxRecDepth 20000 in
theorem ggX4_ofPlan_X0_finesOfPlan : GoodIn wsX4_ofPlan wsX0_finesOfPlan := goodIn_r _ [6, 7, 8, 9, 10, 11, 12, 13, 14, 15, 16, 17, 18, 19, 5, 20, 21, 22, 23, 24, 25, 26, 27, 28, 29, 30, 31, 32, 33, 34, 35, 36, 37, 38, 39, 40, 41, 42, 43, 44, 45, 46, 47, 48, 49, 50, 51, 52, 53, 54, 55, 56, 57, 58, 59, 60, 91, 92, 93, 94, 95, 96, 97, 98, 99, 100, 101] (by decide +kernel) (by decide +kernel)
set_option maxRecDepth 20000 in
theorem gX4_ofPlan_X0_finesOfPlan : GoodIn wsX4_ofPlan (wsV RX4 141 RX0 yX0_finesOfPlan wsX0_finesOfPlan) := goodIn_app (goodIn_of _ (by decide +kernel)) ggX4_ofPlan_X0_finesOfPlan
set_option maxRecDepth 20000 in
theorem ggX4_ofPlan_X0_firstDayOfPlan : GoodIn wsX4_ofPlan wsX0_firstDayOfPlan := goodIn_r _ [64, 7, 42, 8, 9, 10, 11, 12, 13, 14, 15, 16, 21, 22, 23, 5, 24, 25, 26, 27, 28, 29, 30, 31, 32, 33, 34, 35, 36, 37, 38, 39, 40, 41, 43, 44, 45, 46, 47, 48, 91, 92, 93, 94, 95, 96, 97, 98, 99, 100, 101] (by decide +kernel) (by decide +kernel)
set_option maxRecDepth 20000 in
theorem gX4_ofPlan_X0_firstDayOfPlan : GoodIn wsX4_ofPlan (wsV RX4 145 RX0 yX0_firstDayOfPlan wsX0_firstDayOfPlan) := goodIn_app (goodIn_of _ (by decide +kernel)) ggX4_ofPlan_X0_firstDayOfPlan
set_option maxRecDepth 20000 in
theorem ggX4_ofPlan_X0_foundEatersOfPlan : GoodIn wsX4_ofPlan wsX0_foundEatersOfPlan := goodIn_r _ [68, 7, 8, 9, 10, 11, 12, 13, 14, 15, 16, 21, 22, 23, 5, 24, 25, 26, 27, 28, 29, 30, 31, 32, 33, 34, 35, 36, 37, 38, 39, 40, 41, 42, 43, 44, 45, 46, 47, 48, 91, 92, 93, 94, 95, 96, 97, 98, 99, 100, 101] (by decide +kernel) (by decide +kernel)
set_option maxRecDepth 20000 in
theorem gX4_ofPlan_X0_foundEatersOfPlan : GoodIn wsX4_ofPlan (wsV RX4 148 RX0 yX0_foundEatersOfPlan wsX0_foundEatersOfPlan) := goodIn_app (goodIn_of _ (by decide +kernel)) ggX4_ofPlan_X0_foundEatersOfPlan
set_option maxRecDepth 20000 in
theorem ggX4_ofPlan_X0_starvedEatersOfPlan : GoodIn wsX4_ofPlan wsX0_starvedEatersOfPlan := goodIn_r _ [72, 7, 8, 9, 10, 11, 12, 13, 14, 15, 16, 49, 50, 51, 52, 53, 54, 55, 73, 74, 75, 5, 76, 77, 91, 92, 93, 94, 95, 96, 97, 98, 99, 100, 101] (by decide +kernel) (by decide +kernel)
set_option maxRecDepth 20000 in
theorem gX4_ofPlan_X0_starvedEatersOfPlan : GoodIn wsX4_ofPlan (wsV RX4 151 RX0 yX0_starvedEatersOfPlan wsX0_starvedEatersOfPlan) := goodIn_app (goodIn_of _ (by decide +kernel)) ggX4_ofPlan_X0_starvedEatersOfPlan
set_option maxRecDepth 20000 in
theorem ggX4_ofPlan_X0_hasDay : GoodIn wsX4_ofPlan wsX0_hasDay := goodIn_r _ [81, 42, 91, 92, 93, 94, 95, 96, 97, 98] (by decide +kernel) (by decide +kernel)
set_option maxRecDepth 20000 in
theorem gX4_ofPlan_X0_hasDay : GoodIn wsX4_ofPlan (wsV RX4 87 RX0 yX0_hasDay wsX0_hasDay) := goodIn_app (goodIn_of _ (by decide +kernel)) ggX4_ofPlan_X0_hasDay
set_option maxRecDepth 20000 in
theorem ggX4_ofPlan_X0_foundOnDayOfPlan : GoodIn wsX4_ofPlan wsX0_foundOnDayOfPlan := goodIn_r _ [85, 7, 8, 9, 10, 11, 12, 13, 14, 15, 16, 21, 22, 23, 5, 24, 25, 26, 27, 28, 29, 30, 31, 32, 33, 34, 35, 36, 37, 38, 39, 40, 41, 42, 43, 44, 45, 46, 47, 48, 91, 92, 93, 94, 95, 96, 97, 98, 99, 100, 101] (by decide +kernel) (by decide +kernel)
set_option maxRecDepth 20000 in
theorem gX4_ofPlan_X0_foundOnDayOfPlan : GoodIn wsX4_ofPlan (wsV RX4 154 RX0 yX0_foundOnDayOfPlan wsX0_foundOnDayOfPlan) := goodIn_app (goodIn_of _ (by decide +kernel)) ggX4_ofPlan_X0_foundOnDayOfPlan
theorem dX4_ofPlan_0 : decode cX4_ofPlan 0 = .ok (.iload_n 3, 1) := by decide +kernel
theorem dX4_ofPlan_1 : decode cX4_ofPlan 1 = .ok (.tableswitch 71 0 3 #[31, 41, 51, 61], 31) := by decide +kernel
theorem dX4_ofPlan_32 : decode cX4_ofPlan 32 = .ok (.aload_n 0, 1) := by decide +kernel
theorem dX4_ofPlan_33 : decode cX4_ofPlan 33 = .ok (.getfield 12, 3) := by decide +kernel
theorem dX4_ofPlan_36 : decode cX4_ofPlan 36 = .ok (.aload_n 1, 1) := by decide +kernel
theorem dX4_ofPlan_37 : decode cX4_ofPlan 37 = .ok (.iload_n 2, 1) := by decide +kernel
theorem dX4_ofPlan_38 : decode cX4_ofPlan 38 = .ok (.invokevirtual 141, 3) := by decide +kernel
theorem dX4_ofPlan_41 : decode cX4_ofPlan 41 = .ok (.ireturn, 1) := by decide +kernel
theorem dX4_ofPlan_42 : decode cX4_ofPlan 42 = .ok (.aload_n 0, 1) := by decide +kernel
theorem dX4_ofPlan_43 : decode cX4_ofPlan 43 = .ok (.getfield 12, 3) := by decide +kernel
theorem dX4_ofPlan_46 : decode cX4_ofPlan 46 = .ok (.aload_n 1, 1) := by decide +kernel
theorem dX4_ofPlan_47 : decode cX4_ofPlan 47 = .ok (.iload_n 2, 1) := by decide +kernel
theorem dX4_ofPlan_48 : decode cX4_ofPlan 48 = .ok (.invokevirtual 145, 3) := by decide +kernel
theorem dX4_ofPlan_51 : decode cX4_ofPlan 51 = .ok (.ireturn, 1) := by decide +kernel
theorem dX4_ofPlan_52 : decode cX4_ofPlan 52 = .ok (.aload_n 0, 1) := by decide +kernel
theorem dX4_ofPlan_53 : decode cX4_ofPlan 53 = .ok (.getfield 12, 3) := by decide +kernel
theorem dX4_ofPlan_56 : decode cX4_ofPlan 56 = .ok (.aload_n 1, 1) := by decide +kernel
theorem dX4_ofPlan_57 : decode cX4_ofPlan 57 = .ok (.iload_n 2, 1) := by decide +kernel
theorem dX4_ofPlan_58 : decode cX4_ofPlan 58 = .ok (.invokevirtual 148, 3) := by decide +kernel
theorem dX4_ofPlan_61 : decode cX4_ofPlan 61 = .ok (.ireturn, 1) := by decide +kernel
theorem dX4_ofPlan_62 : decode cX4_ofPlan 62 = .ok (.aload_n 0, 1) := by decide +kernel
theorem dX4_ofPlan_63 : decode cX4_ofPlan 63 = .ok (.getfield 12, 3) := by decide +kernel
theorem dX4_ofPlan_66 : decode cX4_ofPlan 66 = .ok (.aload_n 1, 1) := by decide +kernel
theorem dX4_ofPlan_67 : decode cX4_ofPlan 67 = .ok (.iload_n 2, 1) := by decide +kernel
theorem dX4_ofPlan_68 : decode cX4_ofPlan 68 = .ok (.invokevirtual 151, 3) := by decide +kernel
theorem dX4_ofPlan_71 : decode cX4_ofPlan 71 = .ok (.ireturn, 1) := by decide +kernel
theorem dX4_ofPlan_72 : decode cX4_ofPlan 72 = .ok (.aload_n 0, 1) := by decide +kernel
theorem dX4_ofPlan_73 : decode cX4_ofPlan 73 = .ok (.getfield 12, 3) := by decide +kernel
theorem dX4_ofPlan_76 : decode cX4_ofPlan 76 = .ok (.iload_n 3, 1) := by decide +kernel
theorem dX4_ofPlan_77 : decode cX4_ofPlan 77 = .ok (.bipush 10, 2) := by decide +kernel
theorem dX4_ofPlan_79 : decode cX4_ofPlan 79 = .ok (.isub, 1) := by decide +kernel
theorem dX4_ofPlan_80 : decode cX4_ofPlan 80 = .ok (.invokevirtual 87, 3) := by decide +kernel
theorem dX4_ofPlan_83 : decode cX4_ofPlan 83 = .ok (.ifCond .eq 19, 3) := by decide +kernel
theorem dX4_ofPlan_86 : decode cX4_ofPlan 86 = .ok (.aload_n 0, 1) := by decide +kernel
theorem dX4_ofPlan_87 : decode cX4_ofPlan 87 = .ok (.getfield 12, 3) := by decide +kernel
theorem dX4_ofPlan_90 : decode cX4_ofPlan 90 = .ok (.aload_n 1, 1) := by decide +kernel
theorem dX4_ofPlan_91 : decode cX4_ofPlan 91 = .ok (.iload_n 2, 1) := by decide +kernel
theorem dX4_ofPlan_92 : decode cX4_ofPlan 92 = .ok (.iload_n 3, 1) := by decide +kernel
theorem dX4_ofPlan_93 : decode cX4_ofPlan 93 = .ok (.bipush 10, 2) := by decide +kernel
theorem dX4_ofPlan_95 : decode cX4_ofPlan 95 = .ok (.isub, 1) := by decide +kernel
theorem dX4_ofPlan_96 : decode cX4_ofPlan 96 = .ok (.invokevirtual 154, 3) := by decide +kernel
theorem dX4_ofPlan_99 : decode cX4_ofPlan 99 = .ok (.goto 5, 3) := by decide +kernel
theorem dX4_ofPlan_102 : decode cX4_ofPlan 102 = .ok (.bipush (-9), 2) := by decide +kernel
theorem dX4_ofPlan_104 : decode cX4_ofPlan 104 = .ok (.ireturn, 1) := by decide +kernel
set_option maxRecDepth 20000 in
theorem ggX4_best_X0_hasEater : GoodIn wsX4_best wsX0_hasEater := goodIn_r _ [6, 7, 76, 77, 78, 79, 80, 81, 82, 83] (by decide +kernel) (by decide +kernel)
set_option maxRecDepth 20000 in
theorem gX4_best_X0_hasEater : GoodIn wsX4_best (wsV RX4 69 RX0 yX0_hasEater wsX0_hasEater) := goodIn_app (goodIn_of _ (by decide +kernel)) ggX4_best_X0_hasEater
set_option maxRecDepth 20000 in
theorem ggX4_best_X4_isFrom0To : GoodIn wsX4_best wsX4_isFrom0To := goodIn_r _ [11] (by decide +kernel) (by decide +kernel)
set_option maxRecDepth 20000 in
theorem gX4_best_X4_isFrom0To : GoodIn wsX4_best (va_wsS RX4 93 yX4_isFrom0To wsX4_isFrom0To) := goodIn_app (goodIn_of _ (by decide +kernel)) ggX4_best_X4_isFrom0To
set_option maxRecDepth 20000 in
theorem ggX4_best_X0_fastDays : GoodIn wsX4_best wsX0_fastDays := goodIn_r _ [15, 16, 17, 18, 19, 10, 20, 76, 77, 78, 79, 80, 81, 82, 83] (by decide +kernel) (by decide +kernel)
set_option maxRecDepth 20000 in
theorem gX4_best_X0_fastDays : GoodIn wsX4_best (wsV RX4 115 RX0 yX0_fastDays wsX0_fastDays) := goodIn_app (goodIn_of _ (by decide +kernel)) ggX4_best_X0_fastDays
set_option maxRecDepth 20000 in
theorem ggX4_best_X0_bestSet : GoodIn wsX4_best wsX0_bestSet := goodIn_r _ [24, 25, 26, 27, 5, 28, 29, 30, 19, 10, 20, 31, 32, 33, 34, 35, 36, 37, 16, 38, 39, 40, 41, 42, 43, 44, 45, 46, 47, 48, 49, 50, 51, 52, 53, 54, 55, 56, 76, 77, 78, 79, 80, 81, 82, 83] (by decide +kernel) (by decide +kernel)
set_option maxRecDepth 20000 in
theorem gX4_best_X0_bestSet : GoodIn wsX4_best (wsV RX4 157 RX0 yX0_bestSet wsX0_bestSet) := goodIn_app (goodIn_of _ (by decide +kernel)) ggX4_best_X0_bestSet
set_option maxRecDepth 20000 in
theorem ggX4_best_X0_fineOf : GoodIn wsX4_best wsX0_fineOf := goodIn_r _ [60, 61, 62, 63, 5, 64, 25, 26, 27, 28, 29, 30, 19, 10, 20, 31, 32, 33, 38, 39, 40, 41, 34, 35, 36, 37, 16, 65, 13, 14, 15, 17, 18, 42, 43, 44, 45, 46, 47, 48, 66, 67, 68, 69, 70, 76, 77, 78, 79, 80, 81, 82, 83] (by decide +kernel) (by decide +kernel)
set_option maxRecDepth 20000 in
theorem gX4_best_X0_fineOf : GoodIn wsX4_best (wsV RX4 128 RX0 yX0_fineOf wsX0_fineOf) := goodIn_app (goodIn_of _ (by decide +kernel)) ggX4_best_X0_fineOf
theorem dX4_best_0 : decode cX4_best 0 = .ok (.aload_n 0, 1) := by decide +kernel
theorem dX4_best_1 : decode cX4_best 1 = .ok (.getfield 12, 3) := by decide +kernel
theorem dX4_best_4 : decode cX4_best 4 = .ok (.iload_n 1, 1) := by decide +kernel
theorem dX4_best_5 : decode cX4_best 5 = .ok (.invokevirtual 69, 3) := by decide +kernel
theorem dX4_best_8 : decode cX4_best 8 = .ok (.ifCond .ne 5, 3) := by decide +kernel
theorem dX4_best_11 : decode cX4_best 11 = .ok (.iconst (-1), 1) := by decide +kernel
theorem dX4_best_12 : decode cX4_best 12 = .ok (.ireturn, 1) := by decide +kernel
theorem dX4_best_13 : decode cX4_best 13 = .ok (.iload_n 2, 1) := by decide +kernel
theorem dX4_best_14 : decode cX4_best 14 = .ok (.iconst 1, 1) := by decide +kernel
theorem dX4_best_15 : decode cX4_best 15 = .ok (.invokestatic 93, 3) := by decide +kernel
theorem dX4_best_18 : decode cX4_best 18 = .ok (.ifCond .ne 6, 3) := by decide +kernel
theorem dX4_best_21 : decode cX4_best 21 = .ok (.bipush (-2), 2) := by decide +kernel
theorem dX4_best_23 : decode cX4_best 23 = .ok (.ireturn, 1) := by decide +kernel
theorem dX4_best_24 : decode cX4_best 24 = .ok (.aload_n 0, 1) := by decide +kernel
theorem dX4_best_25 : decode cX4_best 25 = .ok (.getfield 12, 3) := by decide +kernel
theorem dX4_best_28 : decode cX4_best 28 = .ok (.iload_n 1, 1) := by decide +kernel
theorem dX4_best_29 : decode cX4_best 29 = .ok (.aload_n 0, 1) := by decide +kernel
theorem dX4_best_30 : decode cX4_best 30 = .ok (.getfield 12, 3) := by decide +kernel
theorem dX4_best_33 : decode cX4_best 33 = .ok (.invokevirtual 115, 3) := by decide +kernel
theorem dX4_best_36 : decode cX4_best 36 = .ok (.invokevirtual 157, 3) := by decide +kernel
theorem dX4_best_39 : decode cX4_best 39 = .ok (.istore_n 3, 1) := by decide +kernel
theorem dX4_best_40 : decode cX4_best 40 = .ok (.iload_n 3, 1) := by decide +kernel
theorem dX4_best_41 : decode cX4_best 41 = .ok (.bipush (-9), 2) := by decide +kernel
theorem dX4_best_43 : decode cX4_best 43 = .ok (.if_icmp .eq 7, 3) := by decide +kernel
theorem dX4_best_46 : decode cX4_best 46 = .ok (.iload_n 2, 1) := by decide +kernel
theorem dX4_best_47 : decode cX4_best 47 = .ok (.ifCond .ne 7, 3) := by decide +kernel
theorem dX4_best_50 : decode cX4_best 50 = .ok (.iload_n 3, 1) := by decide +kernel
theorem dX4_best_51 : decode cX4_best 51 = .ok (.goto 12, 3) := by decide +kernel
theorem dX4_best_54 : decode cX4_best 54 = .ok (.aload_n 0, 1) := by decide +kernel
theorem dX4_best_55 : decode cX4_best 55 = .ok (.getfield 12, 3) := by decide +kernel
theorem dX4_best_58 : decode cX4_best 58 = .ok (.iload_n 1, 1) := by decide +kernel
theorem dX4_best_59 : decode cX4_best 59 = .ok (.iload_n 3, 1) := by decide +kernel
theorem dX4_best_60 : decode cX4_best 60 = .ok (.invokevirtual 128, 3) := by decide +kernel
theorem dX4_best_63 : decode cX4_best 63 = .ok (.ireturn, 1) := by decide +kernel
set_option maxRecDepth 20000 in
theorem ggX4_village_X0_isTold : GoodIn wsX4_village wsX0_isTold := goodIn_r _ [6, 7, 68, 69, 70, 71, 72, 73, 74, 75] (by decide +kernel) (by decide +kernel)
set_option maxRecDepth 20000 in
theorem gX4_village_X0_isTold : GoodIn wsX4_village (wsV RX4 101 RX0 yX0_isTold wsX0_isTold) := goodIn_app (goodIn_of _ (by decide +kernel)) ggX4_village_X0_isTold
set_option maxRecDepth 20000 in
theorem ggX4_village_X0_fastDays : GoodIn wsX4_village wsX0_fastDays := goodIn_r _ [11, 12, 13, 14, 15, 16, 17, 68, 69, 70, 71, 72, 73, 74, 75] (by decide +kernel) (by decide +kernel)
set_option maxRecDepth 20000 in
theorem gX4_village_X0_fastDays : GoodIn wsX4_village (wsV RX4 115 RX0 yX0_fastDays wsX0_fastDays) := goodIn_app (goodIn_of _ (by decide +kernel)) ggX4_village_X0_fastDays
set_option maxRecDepth 20000 in
theorem ggX4_village_X0_villagePays : GoodIn wsX4_village wsX0_villagePays := goodIn_r _ [21, 7, 22, 23, 24, 5, 25, 26, 27, 28, 29, 30, 31, 15, 16, 17, 32, 33, 34, 35, 36, 37, 38, 12, 39, 40, 41, 42, 43, 44, 45, 46, 47, 48, 49, 50, 51, 52, 53, 54, 55, 56, 57, 58, 59, 60, 61, 62, 68, 69, 70, 71, 72, 73, 74, 75] (by decide +kernel) (by decide +kernel)
set_option maxRecDepth 20000 in
theorem gX4_village_X0_villagePays : GoodIn wsX4_village (wsV RX4 160 RX0 yX0_villagePays wsX0_villagePays) := goodIn_app (goodIn_of _ (by decide +kernel)) ggX4_village_X0_villagePays
theorem dX4_village_0 : decode cX4_village 0 = .ok (.aload_n 0, 1) := by decide +kernel
theorem dX4_village_1 : decode cX4_village 1 = .ok (.getfield 12, 3) := by decide +kernel
theorem dX4_village_4 : decode cX4_village 4 = .ok (.invokevirtual 101, 3) := by decide +kernel
theorem dX4_village_7 : decode cX4_village 7 = .ok (.ifCond .eq 20, 3) := by decide +kernel
theorem dX4_village_10 : decode cX4_village 10 = .ok (.aload_n 0, 1) := by decide +kernel
theorem dX4_village_11 : decode cX4_village 11 = .ok (.getfield 12, 3) := by decide +kernel
theorem dX4_village_14 : decode cX4_village 14 = .ok (.aload_n 0, 1) := by decide +kernel
theorem dX4_village_15 : decode cX4_village 15 = .ok (.getfield 12, 3) := by decide +kernel
theorem dX4_village_18 : decode cX4_village 18 = .ok (.invokevirtual 115, 3) := by decide +kernel
theorem dX4_village_21 : decode cX4_village 21 = .ok (.invokevirtual 160, 3) := by decide +kernel
theorem dX4_village_24 : decode cX4_village 24 = .ok (.goto 5, 3) := by decide +kernel
theorem dX4_village_27 : decode cX4_village 27 = .ok (.bipush (-3), 2) := by decide +kernel
theorem dX4_village_29 : decode cX4_village 29 = .ok (.ireturn, 1) := by decide +kernel
set_option maxRecDepth 20000 in
theorem ggX4_smile_X4_isFrom0To : GoodIn wsX4_smile wsX4_isFrom0To := goodIn_r _ [5] (by decide +kernel) (by decide +kernel)
set_option maxRecDepth 20000 in
theorem gX4_smile_X4_isFrom0To : GoodIn wsX4_smile (va_wsS RX4 93 yX4_isFrom0To wsX4_isFrom0To) := goodIn_app (goodIn_of _ (by decide +kernel)) ggX4_smile_X4_isFrom0To
set_option maxRecDepth 20000 in
theorem ggX4_smile_X0_isTold : GoodIn wsX4_smile wsX0_isTold := goodIn_r _ [10, 11, 81, 82, 83, 84, 85, 86, 87, 88] (by decide +kernel) (by decide +kernel)
set_option maxRecDepth 20000 in
theorem gX4_smile_X0_isTold : GoodIn wsX4_smile (wsV RX4 101 RX0 yX0_isTold wsX0_isTold) := goodIn_app (goodIn_of _ (by decide +kernel)) ggX4_smile_X0_isTold
set_option maxRecDepth 20000 in
theorem ggX4_smile_X0_smileDay : GoodIn wsX4_smile wsX0_smileDay := goodIn_r _ [15, 16, 17, 18, 19, 9, 20, 21, 22, 23, 4, 24, 25, 26, 27, 28, 29, 30, 31, 32, 11, 33, 34, 35, 36, 37, 38, 39, 40, 41, 42, 43, 44, 45, 46, 47, 48, 49, 50, 51, 52, 53, 54, 55, 56, 57, 58, 59, 60, 61, 62, 63, 64, 65, 66, 67, 68, 69, 70, 71, 72, 73, 81, 82, 83, 84, 85, 86, 87, 88] (by decide +kernel) (by decide +kernel)
set_option maxRecDepth 20000 in
theorem gX4_smile_X0_smileDay : GoodIn wsX4_smile (wsV RX4 163 RX0 yX0_smileDay wsX0_smileDay) := goodIn_app (goodIn_of _ (by decide +kernel)) ggX4_smile_X0_smileDay
set_option maxRecDepth 20000 in
theorem ggX4_smile_X0_fastDaysBut : GoodIn wsX4_smile wsX0_fastDaysBut := goodIn_r _ [28, 17, 18, 19, 9, 20, 16, 21, 22, 23, 4, 24, 81, 82, 83, 84, 85, 86, 87, 88] (by decide +kernel) (by decide +kernel)
set_option maxRecDepth 20000 in
theorem gX4_smile_X0_fastDaysBut : GoodIn wsX4_smile (wsV RX4 166 RX0 yX0_fastDaysBut wsX0_fastDaysBut) := goodIn_app (goodIn_of _ (by decide +kernel)) ggX4_smile_X0_fastDaysBut
set_option maxRecDepth 20000 in
theorem ggX4_smile_X0_villagePays : GoodIn wsX4_smile wsX0_villagePays := goodIn_r _ [32, 11, 33, 34, 35, 9, 36, 37, 38, 39, 40, 41, 42, 23, 4, 24, 43, 44, 45, 46, 47, 48, 49, 16, 50, 51, 52, 53, 54, 55, 56, 57, 58, 59, 60, 61, 62, 63, 64, 65, 66, 67, 68, 69, 70, 71, 72, 73, 81, 82, 83, 84, 85, 86, 87, 88] (by decide +kernel) (by decide +kernel)
set_option maxRecDepth 20000 in
theorem gX4_smile_X0_villagePays : GoodIn wsX4_smile (wsV RX4 160 RX0 yX0_villagePays wsX0_villagePays) := goodIn_app (goodIn_of _ (by decide +kernel)) ggX4_smile_X0_villagePays
theorem dX4_smile_0 : decode cX4_smile 0 = .ok (.iload_n 1, 1) := by decide +kernel
theorem dX4_smile_1 : decode cX4_smile 1 = .ok (.iconst 1, 1) := by decide +kernel
theorem dX4_smile_2 : decode cX4_smile 2 = .ok (.invokestatic 93, 3) := by decide +kernel
theorem dX4_smile_5 : decode cX4_smile 5 = .ok (.ifCond .ne 6, 3) := by decide +kernel
theorem dX4_smile_8 : decode cX4_smile 8 = .ok (.bipush (-2), 2) := by decide +kernel
theorem dX4_smile_10 : decode cX4_smile 10 = .ok (.ireturn, 1) := by decide +kernel
theorem dX4_smile_11 : decode cX4_smile 11 = .ok (.aload_n 0, 1) := by decide +kernel
theorem dX4_smile_12 : decode cX4_smile 12 = .ok (.getfield 12, 3) := by decide +kernel
theorem dX4_smile_15 : decode cX4_smile 15 = .ok (.invokevirtual 101, 3) := by decide +kernel
theorem dX4_smile_18 : decode cX4_smile 18 = .ok (.ifCond .ne 6, 3) := by decide +kernel
theorem dX4_smile_21 : decode cX4_smile 21 = .ok (.bipush (-3), 2) := by decide +kernel
theorem dX4_smile_23 : decode cX4_smile 23 = .ok (.ireturn, 1) := by decide +kernel
theorem dX4_smile_24 : decode cX4_smile 24 = .ok (.aload_n 0, 1) := by decide +kernel
theorem dX4_smile_25 : decode cX4_smile 25 = .ok (.getfield 12, 3) := by decide +kernel
theorem dX4_smile_28 : decode cX4_smile 28 = .ok (.invokevirtual 163, 3) := by decide +kernel
theorem dX4_smile_31 : decode cX4_smile 31 = .ok (.istore_n 2, 1) := by decide +kernel
theorem dX4_smile_32 : decode cX4_smile 32 = .ok (.iload_n 2, 1) := by decide +kernel
theorem dX4_smile_33 : decode cX4_smile 33 = .ok (.bipush (-9), 2) := by decide +kernel
theorem dX4_smile_35 : decode cX4_smile 35 = .ok (.if_icmp .eq 7, 3) := by decide +kernel
theorem dX4_smile_38 : decode cX4_smile 38 = .ok (.iload_n 1, 1) := by decide +kernel
theorem dX4_smile_39 : decode cX4_smile 39 = .ok (.ifCond .ne 7, 3) := by decide +kernel
theorem dX4_smile_42 : decode cX4_smile 42 = .ok (.iload_n 2, 1) := by decide +kernel
theorem dX4_smile_43 : decode cX4_smile 43 = .ok (.goto 18, 3) := by decide +kernel
theorem dX4_smile_46 : decode cX4_smile 46 = .ok (.aload_n 0, 1) := by decide +kernel
theorem dX4_smile_47 : decode cX4_smile 47 = .ok (.getfield 12, 3) := by decide +kernel
theorem dX4_smile_50 : decode cX4_smile 50 = .ok (.aload_n 0, 1) := by decide +kernel
theorem dX4_smile_51 : decode cX4_smile 51 = .ok (.getfield 12, 3) := by decide +kernel
theorem dX4_smile_54 : decode cX4_smile 54 = .ok (.iload_n 2, 1) := by decide +kernel
theorem dX4_smile_55 : decode cX4_smile 55 = .ok (.invokevirtual 166, 3) := by decide +kernel
theorem dX4_smile_58 : decode cX4_smile 58 = .ok (.invokevirtual 160, 3) := by decide +kernel
theorem dX4_smile_61 : decode cX4_smile 61 = .ok (.ireturn, 1) := by decide +kernel
set_option maxRecDepth 20000 in
theorem ggX4_reading_X0_hasEater : GoodIn wsX4_reading wsX0_hasEater := goodIn_r _ [7, 8, 48, 49, 50, 51, 52, 53, 54, 55] (by decide +kernel) (by decide +kernel)
set_option maxRecDepth 20000 in
theorem gX4_reading_X0_hasEater : GoodIn wsX4_reading (wsV RX4 69 RX0 yX0_hasEater wsX0_hasEater) := goodIn_app (goodIn_of _ (by decide +kernel)) ggX4_reading_X0_hasEater
set_option maxRecDepth 20000 in
theorem ggX4_reading_X0_hasDays : GoodIn wsX4_reading wsX0_hasDays := goodIn_r _ [12, 13, 14, 15, 6, 16, 17, 48, 49, 50, 51, 52, 53, 54, 55] (by decide +kernel) (by decide +kernel)
set_option maxRecDepth 20000 in
theorem gX4_reading_X0_hasDays : GoodIn wsX4_reading (wsV RX4 118 RX0 yX0_hasDays wsX0_hasDays) := goodIn_app (goodIn_of _ (by decide +kernel)) ggX4_reading_X0_hasDays
set_option maxRecDepth 20000 in
theorem ggX4_reading_X0_hasDay : GoodIn wsX4_reading wsX0_hasDay := goodIn_r _ [21, 17, 48, 49, 50, 51, 52, 53, 54, 55] (by decide +kernel) (by decide +kernel)
set_option maxRecDepth 20000 in
theorem gX4_reading_X0_hasDay : GoodIn wsX4_reading (wsV RX4 87 RX0 yX0_hasDay wsX0_hasDay) := goodIn_app (goodIn_of _ (by decide +kernel)) ggX4_reading_X0_hasDay
set_option maxRecDepth 20000 in
theorem ggX4_reading_X1_isFull : GoodIn wsX4_reading wsX1_isFull := goodIn_r _ [26, 27, 56, 57, 58, 59, 60] (by decide +kernel) (by decide +kernel)
set_option maxRecDepth 20000 in
theorem gX4_reading_X1_isFull : GoodIn wsX4_reading (wsV RX4 169 RX1 yX1_isFull wsX1_isFull) := goodIn_app (goodIn_of _ (by decide +kernel)) ggX4_reading_X1_isFull
set_option maxRecDepth 20000 in
theorem ggX4_reading_X1_keep : GoodIn wsX4_reading wsX1_keep := goodIn_r _ [31, 27, 32, 33, 34, 35, 36, 37, 38, 56, 57, 58, 59, 60] (by decide +kernel) (by decide +kernel)
set_option maxRecDepth 20000 in
theorem gX4_reading_X1_keep : GoodIn wsX4_reading (wsV RX4 172 RX1 yX1_keep wsX1_keep) := goodIn_app (goodIn_of _ (by decide +kernel)) ggX4_reading_X1_keep
set_option maxRecDepth 20000 in
theorem ggX4_reading_X1_keptCount : GoodIn wsX4_reading wsX1_keptCount := goodIn_r _ [42, 27, 56, 57, 58, 59, 60] (by decide +kernel) (by decide +kernel)
set_option maxRecDepth 20000 in
theorem gX4_reading_X1_keptCount : GoodIn wsX4_reading (wsV RX4 176 RX1 yX1_keptCount wsX1_keptCount) := goodIn_app (goodIn_of _ (by decide +kernel)) ggX4_reading_X1_keptCount
theorem dX4_reading_0 : decode cX4_reading 0 = .ok (.aload_n 0, 1) := by decide +kernel
theorem dX4_reading_1 : decode cX4_reading 1 = .ok (.getfield 12, 3) := by decide +kernel
theorem dX4_reading_4 : decode cX4_reading 4 = .ok (.iload_n 1, 1) := by decide +kernel
theorem dX4_reading_5 : decode cX4_reading 5 = .ok (.invokevirtual 69, 3) := by decide +kernel
theorem dX4_reading_8 : decode cX4_reading 8 = .ok (.ifCond .ne 5, 3) := by decide +kernel
theorem dX4_reading_11 : decode cX4_reading 11 = .ok (.iconst (-1), 1) := by decide +kernel
theorem dX4_reading_12 : decode cX4_reading 12 = .ok (.ireturn, 1) := by decide +kernel
theorem dX4_reading_13 : decode cX4_reading 13 = .ok (.aload_n 0, 1) := by decide +kernel
theorem dX4_reading_14 : decode cX4_reading 14 = .ok (.getfield 12, 3) := by decide +kernel
theorem dX4_reading_17 : decode cX4_reading 17 = .ok (.iload_n 2, 1) := by decide +kernel
theorem dX4_reading_18 : decode cX4_reading 18 = .ok (.invokevirtual 118, 3) := by decide +kernel
theorem dX4_reading_21 : decode cX4_reading 21 = .ok (.ifCond .ne 6, 3) := by decide +kernel
theorem dX4_reading_24 : decode cX4_reading 24 = .ok (.bipush (-2), 2) := by decide +kernel
theorem dX4_reading_26 : decode cX4_reading 26 = .ok (.ireturn, 1) := by decide +kernel
theorem dX4_reading_27 : decode cX4_reading 27 = .ok (.aload_n 0, 1) := by decide +kernel
theorem dX4_reading_28 : decode cX4_reading 28 = .ok (.getfield 12, 3) := by decide +kernel
theorem dX4_reading_31 : decode cX4_reading 31 = .ok (.iload_n 3, 1) := by decide +kernel
theorem dX4_reading_32 : decode cX4_reading 32 = .ok (.invokevirtual 87, 3) := by decide +kernel
theorem dX4_reading_35 : decode cX4_reading 35 = .ok (.ifCond .ne 5, 3) := by decide +kernel
theorem dX4_reading_38 : decode cX4_reading 38 = .ok (.iconst (-1), 1) := by decide +kernel
theorem dX4_reading_39 : decode cX4_reading 39 = .ok (.ireturn, 1) := by decide +kernel
theorem dX4_reading_40 : decode cX4_reading 40 = .ok (.aload_n 0, 1) := by decide +kernel
theorem dX4_reading_41 : decode cX4_reading 41 = .ok (.getfield 21, 3) := by decide +kernel
theorem dX4_reading_44 : decode cX4_reading 44 = .ok (.invokevirtual 169, 3) := by decide +kernel
theorem dX4_reading_47 : decode cX4_reading 47 = .ok (.ifCond .eq 6, 3) := by decide +kernel
theorem dX4_reading_50 : decode cX4_reading 50 = .ok (.bipush (-4), 2) := by decide +kernel
theorem dX4_reading_52 : decode cX4_reading 52 = .ok (.ireturn, 1) := by decide +kernel
theorem dX4_reading_53 : decode cX4_reading 53 = .ok (.aload_n 0, 1) := by decide +kernel
theorem dX4_reading_54 : decode cX4_reading 54 = .ok (.getfield 21, 3) := by decide +kernel
theorem dX4_reading_57 : decode cX4_reading 57 = .ok (.iload_n 1, 1) := by decide +kernel
theorem dX4_reading_58 : decode cX4_reading 58 = .ok (.iload_n 2, 1) := by decide +kernel
theorem dX4_reading_59 : decode cX4_reading 59 = .ok (.iload_n 3, 1) := by decide +kernel
theorem dX4_reading_60 : decode cX4_reading 60 = .ok (.iload 4, 2) := by decide +kernel
theorem dX4_reading_62 : decode cX4_reading 62 = .ok (.invokevirtual 172, 3) := by decide +kernel
theorem dX4_reading_65 : decode cX4_reading 65 = .ok (.aload_n 0, 1) := by decide +kernel
theorem dX4_reading_66 : decode cX4_reading 66 = .ok (.getfield 21, 3) := by decide +kernel
theorem dX4_reading_69 : decode cX4_reading 69 = .ok (.invokevirtual 176, 3) := by decide +kernel
theorem dX4_reading_72 : decode cX4_reading 72 = .ok (.iconst 1, 1) := by decide +kernel
theorem dX4_reading_73 : decode cX4_reading 73 = .ok (.isub, 1) := by decide +kernel
theorem dX4_reading_74 : decode cX4_reading 74 = .ok (.ireturn, 1) := by decide +kernel
set_option maxRecDepth 20000 in
theorem ggX4_back_X1_keptCount : GoodIn wsX4_back wsX1_keptCount := goodIn_r _ [6, 7, 21, 22, 23, 24, 25] (by decide +kernel) (by decide +kernel)
set_option maxRecDepth 20000 in
theorem gX4_back_X1_keptCount : GoodIn wsX4_back (wsV RX4 176 RX1 yX1_keptCount wsX1_keptCount) := goodIn_app (goodIn_of _ (by decide +kernel)) ggX4_back_X1_keptCount
set_option maxRecDepth 20000 in
theorem ggX4_back_X4_isFrom0To : GoodIn wsX4_back wsX4_isFrom0To := goodIn_r _ [11] (by decide +kernel) (by decide +kernel)
set_option maxRecDepth 20000 in
theorem gX4_back_X4_isFrom0To : GoodIn wsX4_back (va_wsS RX4 93 yX4_isFrom0To wsX4_isFrom0To) := goodIn_app (goodIn_of _ (by decide +kernel)) ggX4_back_X4_isFrom0To
set_option maxRecDepth 20000 in
theorem ggX4_back_X1_dropLast : GoodIn wsX4_back wsX1_dropLast := goodIn_r _ [15, 7, 21, 22, 23, 24, 25] (by decide +kernel) (by decide +kernel)
set_option maxRecDepth 20000 in
theorem gX4_back_X1_dropLast : GoodIn wsX4_back (wsV RX4 179 RX1 yX1_dropLast wsX1_dropLast) := goodIn_app (goodIn_of _ (by decide +kernel)) ggX4_back_X1_dropLast
theorem dX4_back_0 : decode cX4_back 0 = .ok (.iload_n 1, 1) := by decide +kernel
theorem dX4_back_1 : decode cX4_back 1 = .ok (.aload_n 0, 1) := by decide +kernel
theorem dX4_back_2 : decode cX4_back 2 = .ok (.getfield 21, 3) := by decide +kernel
theorem dX4_back_5 : decode cX4_back 5 = .ok (.invokevirtual 176, 3) := by decide +kernel
theorem dX4_back_8 : decode cX4_back 8 = .ok (.invokestatic 93, 3) := by decide +kernel
theorem dX4_back_11 : decode cX4_back 11 = .ok (.ifCond .ne 6, 3) := by decide +kernel
theorem dX4_back_14 : decode cX4_back 14 = .ok (.bipush (-2), 2) := by decide +kernel
theorem dX4_back_16 : decode cX4_back 16 = .ok (.ireturn, 1) := by decide +kernel
theorem dX4_back_17 : decode cX4_back 17 = .ok (.aload_n 0, 1) := by decide +kernel
theorem dX4_back_18 : decode cX4_back 18 = .ok (.getfield 21, 3) := by decide +kernel
theorem dX4_back_21 : decode cX4_back 21 = .ok (.iload_n 1, 1) := by decide +kernel
theorem dX4_back_22 : decode cX4_back 22 = .ok (.invokevirtual 179, 3) := by decide +kernel
theorem dX4_back_25 : decode cX4_back 25 = .ok (.aload_n 0, 1) := by decide +kernel
theorem dX4_back_26 : decode cX4_back 26 = .ok (.getfield 21, 3) := by decide +kernel
theorem dX4_back_29 : decode cX4_back 29 = .ok (.invokevirtual 176, 3) := by decide +kernel
theorem dX4_back_32 : decode cX4_back 32 = .ok (.ireturn, 1) := by decide +kernel
set_option maxRecDepth 20000 in
theorem ggX4_stays_X0_hasEater : GoodIn wsX4_stays wsX0_hasEater := goodIn_r _ [7, 8, 64, 65, 66, 67, 68, 69, 70, 71] (by decide +kernel) (by decide +kernel)
set_option maxRecDepth 20000 in
theorem gX4_stays_X0_hasEater : GoodIn wsX4_stays (wsV RX4 69 RX0 yX0_hasEater wsX0_hasEater) := goodIn_app (goodIn_of _ (by decide +kernel)) ggX4_stays_X0_hasEater
set_option maxRecDepth 20000 in
theorem ggX4_stays_X0_kindOf : GoodIn wsX4_stays wsX0_kindOf := goodIn_r _ [12, 13, 14, 15, 16, 64, 65, 66, 67, 68, 69, 70, 71] (by decide +kernel) (by decide +kernel)
set_option maxRecDepth 20000 in
theorem gX4_stays_X0_kindOf : GoodIn wsX4_stays (wsV RX4 72 RX0 yX0_kindOf wsX0_kindOf) := goodIn_app (goodIn_of _ (by decide +kernel)) ggX4_stays_X0_kindOf
set_option maxRecDepth 20000 in
theorem ggX4_stays_X0_lastsBy : GoodIn wsX4_stays wsX0_lastsBy := goodIn_r _ [19] (by decide +kernel) (by decide +kernel)
set_option maxRecDepth 20000 in
theorem gX4_stays_X0_lastsBy : GoodIn wsX4_stays (va_wsS RX4 182 yX0_lastsBy wsX0_lastsBy) := goodIn_app (goodIn_of _ (by decide +kernel)) ggX4_stays_X0_lastsBy
set_option maxRecDepth 20000 in
theorem ggX4_stays_X0_sourLook : GoodIn wsX4_stays wsX0_sourLook := goodIn_r _ [23, 24, 64, 65, 66, 67, 68, 69, 70, 71] (by decide +kernel) (by decide +kernel)
set_option maxRecDepth 20000 in
theorem gX4_stays_X0_sourLook : GoodIn wsX4_stays (wsV RX4 105 RX0 yX0_sourLook wsX0_sourLook) := goodIn_app (goodIn_of _ (by decide +kernel)) ggX4_stays_X0_sourLook
set_option maxRecDepth 20000 in
theorem ggX4_stays_X1_allAreSo : GoodIn wsX4_stays wsX1_allAreSo := goodIn_r _ [29, 30, 31, 32, 33, 34, 14, 15, 16, 35, 36, 37, 6, 38, 13, 39, 40, 18, 19, 41, 42, 43, 44, 45, 46, 47, 48, 49, 50, 51, 52, 53, 54, 55, 56, 57, 58, 72, 73, 74, 75, 76, 64, 65, 66, 67, 68, 69, 70, 71] (by decide +kernel) (by decide +kernel)
set_option maxRecDepth 20000 in
theorem gX4_stays_X1_allAreSo : GoodIn wsX4_stays (wsV RX4 185 RX1 yX1_allAreSo wsX1_allAreSo) := goodIn_app (goodIn_of _ (by decide +kernel)) ggX4_stays_X1_allAreSo
theorem dX4_stays_0 : decode cX4_stays 0 = .ok (.aload_n 0, 1) := by decide +kernel
