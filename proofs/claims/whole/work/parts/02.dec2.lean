theorem dX4_stays_1 : decode cX4_stays 1 = .ok (.getfield 12, 3) := by decide +kernel
theorem dX4_stays_4 : decode cX4_stays 4 = .ok (.iload_n 1, 1) := by decide +kernel
theorem dX4_stays_5 : decode cX4_stays 5 = .ok (.invokevirtual 69, 3) := by decide +kernel
theorem dX4_stays_8 : decode cX4_stays 8 = .ok (.ifCond .ne 5, 3) := by decide +kernel
theorem dX4_stays_11 : decode cX4_stays 11 = .ok (.iconst (-1), 1) := by decide +kernel
theorem dX4_stays_12 : decode cX4_stays 12 = .ok (.ireturn, 1) := by decide +kernel
theorem dX4_stays_13 : decode cX4_stays 13 = .ok (.iconst 0, 1) := by decide +kernel
theorem dX4_stays_14 : decode cX4_stays 14 = .ok (.istore_n 2, 1) := by decide +kernel
theorem dX4_stays_15 : decode cX4_stays 15 = .ok (.iconst 0, 1) := by decide +kernel
theorem dX4_stays_16 : decode cX4_stays 16 = .ok (.istore_n 3, 1) := by decide +kernel
theorem dX4_stays_17 : decode cX4_stays 17 = .ok (.iload_n 3, 1) := by decide +kernel
theorem dX4_stays_18 : decode cX4_stays 18 = .ok (.iconst 5, 1) := by decide +kernel
theorem dX4_stays_19 : decode cX4_stays 19 = .ok (.if_icmp .gt 53, 3) := by decide +kernel
theorem dX4_stays_22 : decode cX4_stays 22 = .ok (.aload_n 0, 1) := by decide +kernel
theorem dX4_stays_23 : decode cX4_stays 23 = .ok (.getfield 12, 3) := by decide +kernel
theorem dX4_stays_26 : decode cX4_stays 26 = .ok (.iload_n 1, 1) := by decide +kernel
theorem dX4_stays_27 : decode cX4_stays 27 = .ok (.invokevirtual 72, 3) := by decide +kernel
theorem dX4_stays_30 : decode cX4_stays 30 = .ok (.iload_n 3, 1) := by decide +kernel
theorem dX4_stays_31 : decode cX4_stays 31 = .ok (.invokestatic 182, 3) := by decide +kernel
theorem dX4_stays_34 : decode cX4_stays 34 = .ok (.istore 4, 2) := by decide +kernel
theorem dX4_stays_36 : decode cX4_stays 36 = .ok (.aload_n 0, 1) := by decide +kernel
theorem dX4_stays_37 : decode cX4_stays 37 = .ok (.getfield 21, 3) := by decide +kernel
theorem dX4_stays_40 : decode cX4_stays 40 = .ok (.aload_n 0, 1) := by decide +kernel
theorem dX4_stays_41 : decode cX4_stays 41 = .ok (.getfield 12, 3) := by decide +kernel
theorem dX4_stays_44 : decode cX4_stays 44 = .ok (.iload_n 1, 1) := by decide +kernel
theorem dX4_stays_45 : decode cX4_stays 45 = .ok (.iload 4, 2) := by decide +kernel
theorem dX4_stays_47 : decode cX4_stays 47 = .ok (.aload_n 0, 1) := by decide +kernel
theorem dX4_stays_48 : decode cX4_stays 48 = .ok (.getfield 12, 3) := by decide +kernel
theorem dX4_stays_51 : decode cX4_stays 51 = .ok (.invokevirtual 105, 3) := by decide +kernel
theorem dX4_stays_54 : decode cX4_stays 54 = .ok (.invokevirtual 185, 3) := by decide +kernel
theorem dX4_stays_57 : decode cX4_stays 57 = .ok (.ifCond .eq 9, 3) := by decide +kernel
theorem dX4_stays_60 : decode cX4_stays 60 = .ok (.iload_n 2, 1) := by decide +kernel
theorem dX4_stays_61 : decode cX4_stays 61 = .ok (.iconst 1, 1) := by decide +kernel
theorem dX4_stays_62 : decode cX4_stays 62 = .ok (.iload_n 3, 1) := by decide +kernel
theorem dX4_stays_63 : decode cX4_stays 63 = .ok (.ishl, 1) := by decide +kernel
theorem dX4_stays_64 : decode cX4_stays 64 = .ok (.ior, 1) := by decide +kernel
theorem dX4_stays_65 : decode cX4_stays 65 = .ok (.istore_n 2, 1) := by decide +kernel
theorem dX4_stays_66 : decode cX4_stays 66 = .ok (.iinc 3 1, 3) := by decide +kernel
theorem dX4_stays_69 : decode cX4_stays 69 = .ok (.goto (-52), 3) := by decide +kernel
theorem dX4_stays_72 : decode cX4_stays 72 = .ok (.iload_n 2, 1) := by decide +kernel
theorem dX4_stays_73 : decode cX4_stays 73 = .ok (.ireturn, 1) := by decide +kernel
set_option maxRecDepth 20000 in
theorem ggX4_kinds_X0_hasEater : GoodIn wsX4_kinds wsX0_hasEater := goodIn_r _ [7, 8, 64, 65, 66, 67, 68, 69, 70, 71] (by decide +kernel) (by decide +kernel)
set_option maxRecDepth 20000 in
theorem gX4_kinds_X0_hasEater : GoodIn wsX4_kinds (wsV RX4 69 RX0 yX0_hasEater wsX0_hasEater) := goodIn_app (goodIn_of _ (by decide +kernel)) ggX4_kinds_X0_hasEater
set_option maxRecDepth 20000 in
theorem ggX4_kinds_X0_stayOf : GoodIn wsX4_kinds wsX0_stayOf := goodIn_r _ [12, 13, 14, 15, 16, 64, 65, 66, 67, 68, 69, 70, 71] (by decide +kernel) (by decide +kernel)
set_option maxRecDepth 20000 in
theorem gX4_kinds_X0_stayOf : GoodIn wsX4_kinds (wsV RX4 75 RX0 yX0_stayOf wsX0_stayOf) := goodIn_app (goodIn_of _ (by decide +kernel)) ggX4_kinds_X0_stayOf
set_option maxRecDepth 20000 in
theorem ggX4_kinds_X0_lastsBy : GoodIn wsX4_kinds wsX0_lastsBy := goodIn_r _ [19] (by decide +kernel) (by decide +kernel)
set_option maxRecDepth 20000 in
theorem gX4_kinds_X0_lastsBy : GoodIn wsX4_kinds (va_wsS RX4 182 yX0_lastsBy wsX0_lastsBy) := goodIn_app (goodIn_of _ (by decide +kernel)) ggX4_kinds_X0_lastsBy
set_option maxRecDepth 20000 in
theorem ggX4_kinds_X0_sourLook : GoodIn wsX4_kinds wsX0_sourLook := goodIn_r _ [23, 24, 64, 65, 66, 67, 68, 69, 70, 71] (by decide +kernel) (by decide +kernel)
set_option maxRecDepth 20000 in
theorem gX4_kinds_X0_sourLook : GoodIn wsX4_kinds (wsV RX4 105 RX0 yX0_sourLook wsX0_sourLook) := goodIn_app (goodIn_of _ (by decide +kernel)) ggX4_kinds_X0_sourLook
set_option maxRecDepth 20000 in
theorem ggX4_kinds_X1_allAreSo : GoodIn wsX4_kinds wsX1_allAreSo := goodIn_r _ [29, 30, 31, 32, 33, 34, 14, 15, 16, 35, 36, 37, 6, 38, 39, 13, 40, 18, 19, 41, 42, 43, 44, 45, 46, 47, 48, 49, 50, 51, 52, 53, 54, 55, 56, 57, 58, 72, 73, 74, 75, 76, 64, 65, 66, 67, 68, 69, 70, 71] (by decide +kernel) (by decide +kernel)
set_option maxRecDepth 20000 in
theorem gX4_kinds_X1_allAreSo : GoodIn wsX4_kinds (wsV RX4 185 RX1 yX1_allAreSo wsX1_allAreSo) := goodIn_app (goodIn_of _ (by decide +kernel)) ggX4_kinds_X1_allAreSo
theorem dX4_kinds_0 : decode cX4_kinds 0 = .ok (.aload_n 0, 1) := by decide +kernel
theorem dX4_kinds_1 : decode cX4_kinds 1 = .ok (.getfield 12, 3) := by decide +kernel
theorem dX4_kinds_4 : decode cX4_kinds 4 = .ok (.iload_n 1, 1) := by decide +kernel
theorem dX4_kinds_5 : decode cX4_kinds 5 = .ok (.invokevirtual 69, 3) := by decide +kernel
theorem dX4_kinds_8 : decode cX4_kinds 8 = .ok (.ifCond .ne 5, 3) := by decide +kernel
theorem dX4_kinds_11 : decode cX4_kinds 11 = .ok (.iconst (-1), 1) := by decide +kernel
theorem dX4_kinds_12 : decode cX4_kinds 12 = .ok (.ireturn, 1) := by decide +kernel
theorem dX4_kinds_13 : decode cX4_kinds 13 = .ok (.iconst 0, 1) := by decide +kernel
theorem dX4_kinds_14 : decode cX4_kinds 14 = .ok (.istore_n 2, 1) := by decide +kernel
theorem dX4_kinds_15 : decode cX4_kinds 15 = .ok (.iconst 0, 1) := by decide +kernel
theorem dX4_kinds_16 : decode cX4_kinds 16 = .ok (.istore_n 3, 1) := by decide +kernel
theorem dX4_kinds_17 : decode cX4_kinds 17 = .ok (.iload_n 3, 1) := by decide +kernel
theorem dX4_kinds_18 : decode cX4_kinds 18 = .ok (.iconst 2, 1) := by decide +kernel
theorem dX4_kinds_19 : decode cX4_kinds 19 = .ok (.if_icmp .gt 53, 3) := by decide +kernel
theorem dX4_kinds_22 : decode cX4_kinds 22 = .ok (.iload_n 3, 1) := by decide +kernel
theorem dX4_kinds_23 : decode cX4_kinds 23 = .ok (.aload_n 0, 1) := by decide +kernel
theorem dX4_kinds_24 : decode cX4_kinds 24 = .ok (.getfield 12, 3) := by decide +kernel
theorem dX4_kinds_27 : decode cX4_kinds 27 = .ok (.iload_n 1, 1) := by decide +kernel
theorem dX4_kinds_28 : decode cX4_kinds 28 = .ok (.invokevirtual 75, 3) := by decide +kernel
theorem dX4_kinds_31 : decode cX4_kinds 31 = .ok (.invokestatic 182, 3) := by decide +kernel
theorem dX4_kinds_34 : decode cX4_kinds 34 = .ok (.istore 4, 2) := by decide +kernel
theorem dX4_kinds_36 : decode cX4_kinds 36 = .ok (.aload_n 0, 1) := by decide +kernel
theorem dX4_kinds_37 : decode cX4_kinds 37 = .ok (.getfield 21, 3) := by decide +kernel
theorem dX4_kinds_40 : decode cX4_kinds 40 = .ok (.aload_n 0, 1) := by decide +kernel
theorem dX4_kinds_41 : decode cX4_kinds 41 = .ok (.getfield 12, 3) := by decide +kernel
theorem dX4_kinds_44 : decode cX4_kinds 44 = .ok (.iload_n 1, 1) := by decide +kernel
theorem dX4_kinds_45 : decode cX4_kinds 45 = .ok (.iload 4, 2) := by decide +kernel
theorem dX4_kinds_47 : decode cX4_kinds 47 = .ok (.aload_n 0, 1) := by decide +kernel
theorem dX4_kinds_48 : decode cX4_kinds 48 = .ok (.getfield 12, 3) := by decide +kernel
theorem dX4_kinds_51 : decode cX4_kinds 51 = .ok (.invokevirtual 105, 3) := by decide +kernel
theorem dX4_kinds_54 : decode cX4_kinds 54 = .ok (.invokevirtual 185, 3) := by decide +kernel
theorem dX4_kinds_57 : decode cX4_kinds 57 = .ok (.ifCond .eq 9, 3) := by decide +kernel
theorem dX4_kinds_60 : decode cX4_kinds 60 = .ok (.iload_n 2, 1) := by decide +kernel
theorem dX4_kinds_61 : decode cX4_kinds 61 = .ok (.iconst 1, 1) := by decide +kernel
theorem dX4_kinds_62 : decode cX4_kinds 62 = .ok (.iload_n 3, 1) := by decide +kernel
theorem dX4_kinds_63 : decode cX4_kinds 63 = .ok (.ishl, 1) := by decide +kernel
theorem dX4_kinds_64 : decode cX4_kinds 64 = .ok (.ior, 1) := by decide +kernel
theorem dX4_kinds_65 : decode cX4_kinds 65 = .ok (.istore_n 2, 1) := by decide +kernel
theorem dX4_kinds_66 : decode cX4_kinds 66 = .ok (.iinc 3 1, 3) := by decide +kernel
theorem dX4_kinds_69 : decode cX4_kinds 69 = .ok (.goto (-52), 3) := by decide +kernel
theorem dX4_kinds_72 : decode cX4_kinds 72 = .ok (.iload_n 2, 1) := by decide +kernel
theorem dX4_kinds_73 : decode cX4_kinds 73 = .ok (.ireturn, 1) := by decide +kernel
set_option maxRecDepth 20000 in
theorem ggX4_sours_X0_isTold : GoodIn wsX4_sours wsX0_isTold := goodIn_r _ [7, 8, 54, 55, 56, 57, 58, 59, 60, 61] (by decide +kernel) (by decide +kernel)
set_option maxRecDepth 20000 in
theorem gX4_sours_X0_isTold : GoodIn wsX4_sours (wsV RX4 101 RX0 yX0_isTold wsX0_isTold) := goodIn_app (goodIn_of _ (by decide +kernel)) ggX4_sours_X0_isTold
set_option maxRecDepth 20000 in
theorem ggX4_sours_X1_allAreSo : GoodIn wsX4_sours wsX1_allAreSo := goodIn_r _ [13, 14, 15, 16, 17, 18, 19, 20, 21, 22, 23, 24, 6, 25, 26, 27, 28, 29, 30, 31, 32, 33, 34, 35, 36, 37, 38, 39, 40, 41, 42, 43, 44, 45, 46, 47, 48, 62, 63, 64, 65, 66, 54, 55, 56, 57, 58, 59, 60, 61] (by decide +kernel) (by decide +kernel)
set_option maxRecDepth 20000 in
theorem gX4_sours_X1_allAreSo : GoodIn wsX4_sours (wsV RX4 185 RX1 yX1_allAreSo wsX1_allAreSo) := goodIn_app (goodIn_of _ (by decide +kernel)) ggX4_sours_X1_allAreSo
theorem dX4_sours_0 : decode cX4_sours 0 = .ok (.aload_n 0, 1) := by decide +kernel
theorem dX4_sours_1 : decode cX4_sours 1 = .ok (.getfield 12, 3) := by decide +kernel
theorem dX4_sours_4 : decode cX4_sours 4 = .ok (.invokevirtual 101, 3) := by decide +kernel
theorem dX4_sours_7 : decode cX4_sours 7 = .ok (.ifCond .ne 6, 3) := by decide +kernel
theorem dX4_sours_10 : decode cX4_sours 10 = .ok (.bipush (-3), 2) := by decide +kernel
theorem dX4_sours_12 : decode cX4_sours 12 = .ok (.ireturn, 1) := by decide +kernel
theorem dX4_sours_13 : decode cX4_sours 13 = .ok (.iconst 0, 1) := by decide +kernel
theorem dX4_sours_14 : decode cX4_sours 14 = .ok (.istore_n 1, 1) := by decide +kernel
theorem dX4_sours_15 : decode cX4_sours 15 = .ok (.iconst 0, 1) := by decide +kernel
theorem dX4_sours_16 : decode cX4_sours 16 = .ok (.istore_n 2, 1) := by decide +kernel
theorem dX4_sours_17 : decode cX4_sours 17 = .ok (.iload_n 2, 1) := by decide +kernel
theorem dX4_sours_18 : decode cX4_sours 18 = .ok (.bipush 9, 2) := by decide +kernel
theorem dX4_sours_20 : decode cX4_sours 20 = .ok (.if_icmp .gt 32, 3) := by decide +kernel
theorem dX4_sours_23 : decode cX4_sours 23 = .ok (.aload_n 0, 1) := by decide +kernel
theorem dX4_sours_24 : decode cX4_sours 24 = .ok (.getfield 21, 3) := by decide +kernel
theorem dX4_sours_27 : decode cX4_sours 27 = .ok (.aload_n 0, 1) := by decide +kernel
theorem dX4_sours_28 : decode cX4_sours 28 = .ok (.getfield 12, 3) := by decide +kernel
theorem dX4_sours_31 : decode cX4_sours 31 = .ok (.iconst (-1), 1) := by decide +kernel
theorem dX4_sours_32 : decode cX4_sours 32 = .ok (.iconst 0, 1) := by decide +kernel
theorem dX4_sours_33 : decode cX4_sours 33 = .ok (.iload_n 2, 1) := by decide +kernel
theorem dX4_sours_34 : decode cX4_sours 34 = .ok (.invokevirtual 185, 3) := by decide +kernel
theorem dX4_sours_37 : decode cX4_sours 37 = .ok (.ifCond .eq 9, 3) := by decide +kernel
theorem dX4_sours_40 : decode cX4_sours 40 = .ok (.iload_n 1, 1) := by decide +kernel
theorem dX4_sours_41 : decode cX4_sours 41 = .ok (.iconst 1, 1) := by decide +kernel
theorem dX4_sours_42 : decode cX4_sours 42 = .ok (.iload_n 2, 1) := by decide +kernel
theorem dX4_sours_43 : decode cX4_sours 43 = .ok (.ishl, 1) := by decide +kernel
theorem dX4_sours_44 : decode cX4_sours 44 = .ok (.ior, 1) := by decide +kernel
theorem dX4_sours_45 : decode cX4_sours 45 = .ok (.istore_n 1, 1) := by decide +kernel
theorem dX4_sours_46 : decode cX4_sours 46 = .ok (.iinc 2 1, 3) := by decide +kernel
theorem dX4_sours_49 : decode cX4_sours 49 = .ok (.goto (-32), 3) := by decide +kernel
theorem dX4_sours_52 : decode cX4_sours 52 = .ok (.iload_n 1, 1) := by decide +kernel
theorem dX4_sours_53 : decode cX4_sours 53 = .ok (.ireturn, 1) := by decide +kernel
set_option maxRecDepth 20000 in
theorem ggX4_odds_X0_hasEater : GoodIn wsX4_odds wsX0_hasEater := goodIn_r _ [7, 8, 49, 50, 51, 52, 53, 54, 55, 56] (by decide +kernel) (by decide +kernel)
set_option maxRecDepth 20000 in
theorem gX4_odds_X0_hasEater : GoodIn wsX4_odds (wsV RX4 69 RX0 yX0_hasEater wsX0_hasEater) := goodIn_app (goodIn_of _ (by decide +kernel)) ggX4_odds_X0_hasEater
set_option maxRecDepth 20000 in
theorem ggX4_odds_X0_hasDays : GoodIn wsX4_odds wsX0_hasDays := goodIn_r _ [12, 13, 14, 15, 6, 16, 17, 49, 50, 51, 52, 53, 54, 55, 56] (by decide +kernel) (by decide +kernel)
set_option maxRecDepth 20000 in
theorem gX4_odds_X0_hasDays : GoodIn wsX4_odds (wsV RX4 118 RX0 yX0_hasDays wsX0_hasDays) := goodIn_app (goodIn_of _ (by decide +kernel)) ggX4_odds_X0_hasDays
set_option maxRecDepth 20000 in
theorem ggX4_odds_X4_isFrom0To : GoodIn wsX4_odds wsX4_isFrom0To := goodIn_r _ [21] (by decide +kernel) (by decide +kernel)
set_option maxRecDepth 20000 in
theorem gX4_odds_X4_isFrom0To : GoodIn wsX4_odds (va_wsS RX4 93 yX4_isFrom0To wsX4_isFrom0To) := goodIn_app (goodIn_of _ (by decide +kernel)) ggX4_odds_X4_isFrom0To
set_option maxRecDepth 20000 in
theorem ggX4_odds_X0_lastsOf : GoodIn wsX4_odds wsX0_lastsOf := goodIn_r _ [25, 26, 27, 28, 20, 29, 30, 31, 6, 32, 49, 50, 51, 52, 53, 54, 55, 56] (by decide +kernel) (by decide +kernel)
set_option maxRecDepth 20000 in
theorem gX4_odds_X0_lastsOf : GoodIn wsX4_odds (wsV RX4 84 RX0 yX0_lastsOf wsX0_lastsOf) := goodIn_app (goodIn_of _ (by decide +kernel)) ggX4_odds_X0_lastsOf
set_option maxRecDepth 20000 in
theorem ggX4_odds_X0_yellowDays : GoodIn wsX4_odds wsX0_yellowDays := goodIn_r _ [36, 13, 14, 15, 6, 16, 17, 49, 50, 51, 52, 53, 54, 55, 56] (by decide +kernel) (by decide +kernel)
set_option maxRecDepth 20000 in
theorem gX4_odds_X0_yellowDays : GoodIn wsX4_odds (wsV RX4 121 RX0 yX0_yellowDays wsX0_yellowDays) := goodIn_app (goodIn_of _ (by decide +kernel)) ggX4_odds_X0_yellowDays
set_option maxRecDepth 20000 in
theorem ggX4_odds_J6_bitCount_0f7a4 : GoodIn wsX4_odds wsJ6_bitCount_0f7a4 := goodIn_r _ [40, 41, 42, 43] (by decide +kernel) (by decide +kernel)
set_option maxRecDepth 20000 in
theorem gX4_odds_J6_bitCount_0f7a4 : GoodIn wsX4_odds (va_wsS RX4 191 yJ6_bitCount_0f7a4 wsJ6_bitCount_0f7a4) := goodIn_app (goodIn_of _ (by decide +kernel)) ggX4_odds_J6_bitCount_0f7a4
theorem dX4_odds_0 : decode cX4_odds 0 = .ok (.aload_n 0, 1) := by decide +kernel
theorem dX4_odds_1 : decode cX4_odds 1 = .ok (.getfield 12, 3) := by decide +kernel
theorem dX4_odds_4 : decode cX4_odds 4 = .ok (.iload_n 1, 1) := by decide +kernel
theorem dX4_odds_5 : decode cX4_odds 5 = .ok (.invokevirtual 69, 3) := by decide +kernel
theorem dX4_odds_8 : decode cX4_odds 8 = .ok (.ifCond .eq 22, 3) := by decide +kernel
theorem dX4_odds_11 : decode cX4_odds 11 = .ok (.aload_n 0, 1) := by decide +kernel
theorem dX4_odds_12 : decode cX4_odds 12 = .ok (.getfield 12, 3) := by decide +kernel
theorem dX4_odds_15 : decode cX4_odds 15 = .ok (.iload_n 2, 1) := by decide +kernel
theorem dX4_odds_16 : decode cX4_odds 16 = .ok (.invokevirtual 118, 3) := by decide +kernel
theorem dX4_odds_19 : decode cX4_odds 19 = .ok (.ifCond .eq 11, 3) := by decide +kernel
theorem dX4_odds_22 : decode cX4_odds 22 = .ok (.iload_n 3, 1) := by decide +kernel
theorem dX4_odds_23 : decode cX4_odds 23 = .ok (.iconst 1, 1) := by decide +kernel
theorem dX4_odds_24 : decode cX4_odds 24 = .ok (.invokestatic 93, 3) := by decide +kernel
theorem dX4_odds_27 : decode cX4_odds 27 = .ok (.ifCond .ne 7, 3) := by decide +kernel
theorem dX4_odds_30 : decode cX4_odds 30 = .ok (.ldc2_w 189, 3) := by decide +kernel
theorem dX4_odds_33 : decode cX4_odds 33 = .ok (.lreturn, 1) := by decide +kernel
theorem dX4_odds_34 : decode cX4_odds 34 = .ok (.iload_n 3, 1) := by decide +kernel
theorem dX4_odds_35 : decode cX4_odds 35 = .ok (.ifCond .ne 7, 3) := by decide +kernel
theorem dX4_odds_38 : decode cX4_odds 38 = .ok (.lconst 1, 1) := by decide +kernel
theorem dX4_odds_39 : decode cX4_odds 39 = .ok (.goto 24, 3) := by decide +kernel
theorem dX4_odds_42 : decode cX4_odds 42 = .ok (.lconst 1, 1) := by decide +kernel
theorem dX4_odds_43 : decode cX4_odds 43 = .ok (.aload_n 0, 1) := by decide +kernel
theorem dX4_odds_44 : decode cX4_odds 44 = .ok (.getfield 12, 3) := by decide +kernel
theorem dX4_odds_47 : decode cX4_odds 47 = .ok (.aload_n 0, 1) := by decide +kernel
theorem dX4_odds_48 : decode cX4_odds 48 = .ok (.getfield 12, 3) := by decide +kernel
theorem dX4_odds_51 : decode cX4_odds 51 = .ok (.iload_n 1, 1) := by decide +kernel
theorem dX4_odds_52 : decode cX4_odds 52 = .ok (.invokevirtual 84, 3) := by decide +kernel
theorem dX4_odds_55 : decode cX4_odds 55 = .ok (.iload_n 2, 1) := by decide +kernel
theorem dX4_odds_56 : decode cX4_odds 56 = .ok (.invokevirtual 121, 3) := by decide +kernel
theorem dX4_odds_59 : decode cX4_odds 59 = .ok (.invokestatic 191, 3) := by decide +kernel
theorem dX4_odds_62 : decode cX4_odds 62 = .ok (.lshl, 1) := by decide +kernel
theorem dX4_odds_63 : decode cX4_odds 63 = .ok (.lreturn, 1) := by decide +kernel
set_option maxRecDepth 20000 in
theorem ggX4_sheet_X4_sheetAt : GoodIn wsX4_sheet wsX4_sheetAt := goodIn_r _ [6, 7, 27, 28, 29, 30, 31] (by decide +kernel) (by decide +kernel)
set_option maxRecDepth 20000 in
theorem gX4_sheet_X4_sheetAt : GoodIn wsX4_sheet (wsV RX4 36 RX4 yX4_sheetAt wsX4_sheetAt) := goodIn_app (goodIn_of _ (by decide +kernel)) ggX4_sheet_X4_sheetAt
set_option maxRecDepth 20000 in
theorem ggX4_sheet_X4_isLane : GoodIn wsX4_sheet wsX4_isLane := goodIn_r _ [10] (by decide +kernel) (by decide +kernel)
set_option maxRecDepth 20000 in
theorem gX4_sheet_X4_isLane : GoodIn wsX4_sheet (va_wsS RX4 40 yX4_isLane wsX4_isLane) := goodIn_app (goodIn_of _ (by decide +kernel)) ggX4_sheet_X4_isLane
set_option maxRecDepth 20000 in
theorem ggX4_sheet_X4_faulted : GoodIn wsX4_sheet wsX4_faulted := goodIn_r _ [14, 1, 27, 28, 29, 30, 31] (by decide +kernel) (by decide +kernel)
set_option maxRecDepth 20000 in
theorem gX4_sheet_X4_faulted : GoodIn wsX4_sheet (wsV RX4 48 RX4 yX4_faulted wsX4_faulted) := goodIn_app (goodIn_of _ (by decide +kernel)) ggX4_sheet_X4_faulted
set_option maxRecDepth 20000 in
theorem ggX4_sheet_X2_makeRow : GoodIn wsX4_sheet wsX2_makeRow := goodIn_r _ [19, 20, 21, 22, 23, 24, 25, 26, 32, 33, 34] (by decide +kernel) (by decide +kernel)
set_option maxRecDepth 20000 in
theorem gX4_sheet_X2_makeRow : GoodIn wsX4_sheet (wsV RX4 196 RX2 yX2_makeRow wsX2_makeRow) := goodIn_app (goodIn_of _ (by decide +kernel)) ggX4_sheet_X2_makeRow
theorem dX4_sheet_0 : decode cX4_sheet 0 = .ok (.aload_n 0, 1) := by decide +kernel
theorem dX4_sheet_1 : decode cX4_sheet 1 = .ok (.iconst 0, 1) := by decide +kernel
theorem dX4_sheet_2 : decode cX4_sheet 2 = .ok (.putfield 32, 3) := by decide +kernel
theorem dX4_sheet_5 : decode cX4_sheet 5 = .ok (.aload_n 0, 1) := by decide +kernel
theorem dX4_sheet_6 : decode cX4_sheet 6 = .ok (.iload_n 1, 1) := by decide +kernel
theorem dX4_sheet_7 : decode cX4_sheet 7 = .ok (.invokevirtual 36, 3) := by decide +kernel
theorem dX4_sheet_10 : decode cX4_sheet 10 = .ok (.astore 4, 2) := by decide +kernel
theorem dX4_sheet_12 : decode cX4_sheet 12 = .ok (.aload 4, 2) := by decide +kernel
theorem dX4_sheet_14 : decode cX4_sheet 14 = .ok (.ifnonnull 5, 3) := by decide +kernel
theorem dX4_sheet_17 : decode cX4_sheet 17 = .ok (.iconst (-1), 1) := by decide +kernel
theorem dX4_sheet_18 : decode cX4_sheet 18 = .ok (.ireturn, 1) := by decide +kernel
theorem dX4_sheet_19 : decode cX4_sheet 19 = .ok (.iload_n 2, 1) := by decide +kernel
theorem dX4_sheet_20 : decode cX4_sheet 20 = .ok (.invokestatic 40, 3) := by decide +kernel
theorem dX4_sheet_23 : decode cX4_sheet 23 = .ok (.ifCond .eq 9, 3) := by decide +kernel
theorem dX4_sheet_26 : decode cX4_sheet 26 = .ok (.iload_n 3, 1) := by decide +kernel
theorem dX4_sheet_27 : decode cX4_sheet 27 = .ok (.bipush 60, 2) := by decide +kernel
theorem dX4_sheet_29 : decode cX4_sheet 29 = .ok (.if_icmp .le 6, 3) := by decide +kernel
theorem dX4_sheet_32 : decode cX4_sheet 32 = .ok (.bipush (-2), 2) := by decide +kernel
theorem dX4_sheet_34 : decode cX4_sheet 34 = .ok (.ireturn, 1) := by decide +kernel
theorem dX4_sheet_35 : decode cX4_sheet 35 = .ok (.iload_n 3, 1) := by decide +kernel
theorem dX4_sheet_36 : decode cX4_sheet 36 = .ok (.ifCond .ge 9, 3) := by decide +kernel
theorem dX4_sheet_39 : decode cX4_sheet 39 = .ok (.aload_n 0, 1) := by decide +kernel
theorem dX4_sheet_40 : decode cX4_sheet 40 = .ok (.iconst 4, 1) := by decide +kernel
theorem dX4_sheet_41 : decode cX4_sheet 41 = .ok (.invokevirtual 48, 3) := by decide +kernel
theorem dX4_sheet_44 : decode cX4_sheet 44 = .ok (.ireturn, 1) := by decide +kernel
theorem dX4_sheet_45 : decode cX4_sheet 45 = .ok (.aload 4, 2) := by decide +kernel
theorem dX4_sheet_47 : decode cX4_sheet 47 = .ok (.iload_n 2, 1) := by decide +kernel
theorem dX4_sheet_48 : decode cX4_sheet 48 = .ok (.iload_n 3, 1) := by decide +kernel
theorem dX4_sheet_49 : decode cX4_sheet 49 = .ok (.invokevirtual 196, 3) := by decide +kernel
theorem dX4_sheet_52 : decode cX4_sheet 52 = .ok (.iconst 1, 1) := by decide +kernel
theorem dX4_sheet_53 : decode cX4_sheet 53 = .ok (.ireturn, 1) := by decide +kernel
set_option maxRecDepth 20000 in
theorem ggX4_lose_X4_sheetAt : GoodIn wsX4_lose wsX4_sheetAt := goodIn_r _ [5, 6, 17, 18, 19, 20, 21] (by decide +kernel) (by decide +kernel)
set_option maxRecDepth 20000 in
theorem gX4_lose_X4_sheetAt : GoodIn wsX4_lose (wsV RX4 36 RX4 yX4_sheetAt wsX4_sheetAt) := goodIn_app (goodIn_of _ (by decide +kernel)) ggX4_lose_X4_sheetAt
set_option maxRecDepth 20000 in
theorem ggX4_lose_X2_hasRow : GoodIn wsX4_lose wsX2_hasRow := goodIn_r _ [11, 12, 22, 23, 24] (by decide +kernel) (by decide +kernel)
set_option maxRecDepth 20000 in
theorem gX4_lose_X2_hasRow : GoodIn wsX4_lose (wsV RX4 199 RX2 yX2_hasRow wsX2_hasRow) := goodIn_app (goodIn_of _ (by decide +kernel)) ggX4_lose_X2_hasRow
set_option maxRecDepth 20000 in
theorem ggX4_lose_X2_dropRow : GoodIn wsX4_lose wsX2_dropRow := goodIn_r _ [16, 12, 22, 23, 24] (by decide +kernel) (by decide +kernel)
set_option maxRecDepth 20000 in
theorem gX4_lose_X2_dropRow : GoodIn wsX4_lose (wsV RX4 202 RX2 yX2_dropRow wsX2_dropRow) := goodIn_app (goodIn_of _ (by decide +kernel)) ggX4_lose_X2_dropRow
theorem dX4_lose_0 : decode cX4_lose 0 = .ok (.aload_n 0, 1) := by decide +kernel
theorem dX4_lose_1 : decode cX4_lose 1 = .ok (.iload_n 1, 1) := by decide +kernel
theorem dX4_lose_2 : decode cX4_lose 2 = .ok (.invokevirtual 36, 3) := by decide +kernel
theorem dX4_lose_5 : decode cX4_lose 5 = .ok (.astore_n 2, 1) := by decide +kernel
theorem dX4_lose_6 : decode cX4_lose 6 = .ok (.aload_n 2, 1) := by decide +kernel
theorem dX4_lose_7 : decode cX4_lose 7 = .ok (.ifnonnull 5, 3) := by decide +kernel
theorem dX4_lose_10 : decode cX4_lose 10 = .ok (.iconst (-1), 1) := by decide +kernel
theorem dX4_lose_11 : decode cX4_lose 11 = .ok (.ireturn, 1) := by decide +kernel
theorem dX4_lose_12 : decode cX4_lose 12 = .ok (.aload_n 2, 1) := by decide +kernel
theorem dX4_lose_13 : decode cX4_lose 13 = .ok (.invokevirtual 199, 3) := by decide +kernel
theorem dX4_lose_16 : decode cX4_lose 16 = .ok (.ifCond .ne 5, 3) := by decide +kernel
theorem dX4_lose_19 : decode cX4_lose 19 = .ok (.iconst 0, 1) := by decide +kernel
theorem dX4_lose_20 : decode cX4_lose 20 = .ok (.ireturn, 1) := by decide +kernel
theorem dX4_lose_21 : decode cX4_lose 21 = .ok (.aload_n 2, 1) := by decide +kernel
theorem dX4_lose_22 : decode cX4_lose 22 = .ok (.invokevirtual 202, 3) := by decide +kernel
theorem dX4_lose_25 : decode cX4_lose 25 = .ok (.iconst 1, 1) := by decide +kernel
theorem dX4_lose_26 : decode cX4_lose 26 = .ok (.ireturn, 1) := by decide +kernel
set_option maxRecDepth 20000 in
theorem ggX4_put_X4_sheetAt : GoodIn wsX4_put wsX4_sheetAt := goodIn_r _ [6, 7, 42, 43, 44, 45, 46] (by decide +kernel) (by decide +kernel)
set_option maxRecDepth 20000 in
theorem gX4_put_X4_sheetAt : GoodIn wsX4_put (wsV RX4 36 RX4 yX4_sheetAt wsX4_sheetAt) := goodIn_app (goodIn_of _ (by decide +kernel)) ggX4_put_X4_sheetAt
set_option maxRecDepth 20000 in
theorem ggX4_put_X2_rowLane : GoodIn wsX4_put wsX2_rowLane := goodIn_r _ [12, 13, 47, 48, 49] (by decide +kernel) (by decide +kernel)
set_option maxRecDepth 20000 in
theorem gX4_put_X2_rowLane : GoodIn wsX4_put (wsV RX4 205 RX2 yX2_rowLane wsX2_rowLane) := goodIn_app (goodIn_of _ (by decide +kernel)) ggX4_put_X2_rowLane
set_option maxRecDepth 20000 in
theorem ggX4_put_X2_faultOfCells : GoodIn wsX4_put wsX2_faultOfCells := goodIn_r _ [17, 13, 18, 19, 20, 11, 21, 22, 23, 24, 25, 26, 47, 48, 49] (by decide +kernel) (by decide +kernel)
set_option maxRecDepth 20000 in
theorem gX4_put_X2_faultOfCells : GoodIn wsX4_put (wsV RX4 44 RX2 yX2_faultOfCells wsX2_faultOfCells) := goodIn_app (goodIn_of _ (by decide +kernel)) ggX4_put_X2_faultOfCells
set_option maxRecDepth 20000 in
theorem ggX4_put_X4_faulted : GoodIn wsX4_put wsX4_faulted := goodIn_r _ [30, 1, 42, 43, 44, 45, 46] (by decide +kernel) (by decide +kernel)
set_option maxRecDepth 20000 in
theorem gX4_put_X4_faulted : GoodIn wsX4_put (wsV RX4 48 RX4 yX4_faulted wsX4_faulted) := goodIn_app (goodIn_of _ (by decide +kernel)) ggX4_put_X4_faulted
set_option maxRecDepth 20000 in
theorem ggX4_put_X2_write : GoodIn wsX4_put wsX2_write := goodIn_r _ [34, 35, 36, 37, 38, 11, 39, 13, 40, 5, 41, 47, 48, 49] (by decide +kernel) (by decide +kernel)
set_option maxRecDepth 20000 in
theorem gX4_put_X2_write : GoodIn wsX4_put (wsV RX4 208 RX2 yX2_write wsX2_write) := goodIn_app (goodIn_of _ (by decide +kernel)) ggX4_put_X2_write
theorem dX4_put_0 : decode cX4_put 0 = .ok (.aload_n 0, 1) := by decide +kernel
theorem dX4_put_1 : decode cX4_put 1 = .ok (.iconst 0, 1) := by decide +kernel
theorem dX4_put_2 : decode cX4_put 2 = .ok (.putfield 32, 3) := by decide +kernel
theorem dX4_put_5 : decode cX4_put 5 = .ok (.aload_n 0, 1) := by decide +kernel
theorem dX4_put_6 : decode cX4_put 6 = .ok (.iload_n 1, 1) := by decide +kernel
theorem dX4_put_7 : decode cX4_put 7 = .ok (.invokevirtual 36, 3) := by decide +kernel
theorem dX4_put_10 : decode cX4_put 10 = .ok (.astore 4, 2) := by decide +kernel
theorem dX4_put_12 : decode cX4_put 12 = .ok (.aload 4, 2) := by decide +kernel
theorem dX4_put_14 : decode cX4_put 14 = .ok (.ifnonnull 5, 3) := by decide +kernel
theorem dX4_put_17 : decode cX4_put 17 = .ok (.iconst (-1), 1) := by decide +kernel
theorem dX4_put_18 : decode cX4_put 18 = .ok (.ireturn, 1) := by decide +kernel
theorem dX4_put_19 : decode cX4_put 19 = .ok (.aload 4, 2) := by decide +kernel
theorem dX4_put_21 : decode cX4_put 21 = .ok (.aload 4, 2) := by decide +kernel
theorem dX4_put_23 : decode cX4_put 23 = .ok (.invokevirtual 205, 3) := by decide +kernel
theorem dX4_put_26 : decode cX4_put 26 = .ok (.iload_n 2, 1) := by decide +kernel
theorem dX4_put_27 : decode cX4_put 27 = .ok (.iconst 1, 1) := by decide +kernel
theorem dX4_put_28 : decode cX4_put 28 = .ok (.invokevirtual 44, 3) := by decide +kernel
theorem dX4_put_31 : decode cX4_put 31 = .ok (.istore 5, 2) := by decide +kernel
theorem dX4_put_33 : decode cX4_put 33 = .ok (.iload 5, 2) := by decide +kernel
theorem dX4_put_35 : decode cX4_put 35 = .ok (.ifCond .eq 10, 3) := by decide +kernel
theorem dX4_put_38 : decode cX4_put 38 = .ok (.aload_n 0, 1) := by decide +kernel
theorem dX4_put_39 : decode cX4_put 39 = .ok (.iload 5, 2) := by decide +kernel
theorem dX4_put_41 : decode cX4_put 41 = .ok (.invokevirtual 48, 3) := by decide +kernel
theorem dX4_put_44 : decode cX4_put 44 = .ok (.ireturn, 1) := by decide +kernel
theorem dX4_put_45 : decode cX4_put 45 = .ok (.aload 4, 2) := by decide +kernel
theorem dX4_put_47 : decode cX4_put 47 = .ok (.iload_n 2, 1) := by decide +kernel
theorem dX4_put_48 : decode cX4_put 48 = .ok (.iload_n 3, 1) := by decide +kernel
theorem dX4_put_49 : decode cX4_put 49 = .ok (.invokevirtual 208, 3) := by decide +kernel
theorem dX4_put_52 : decode cX4_put 52 = .ok (.iconst 1, 1) := by decide +kernel
theorem dX4_put_53 : decode cX4_put 53 = .ok (.ireturn, 1) := by decide +kernel
set_option maxRecDepth 20000 in
theorem ggX4_cell_X4_sheetAt : GoodIn wsX4_cell wsX4_sheetAt := goodIn_r _ [7, 8, 34, 35, 36, 37, 38] (by decide +kernel) (by decide +kernel)
set_option maxRecDepth 20000 in
theorem gX4_cell_X4_sheetAt : GoodIn wsX4_cell (wsV RX4 36 RX4 yX4_sheetAt wsX4_sheetAt) := goodIn_app (goodIn_of _ (by decide +kernel)) ggX4_cell_X4_sheetAt
set_option maxRecDepth 20000 in
theorem ggX4_cell_X4_isLane : GoodIn wsX4_cell wsX4_isLane := goodIn_r _ [11] (by decide +kernel) (by decide +kernel)
set_option maxRecDepth 20000 in
theorem gX4_cell_X4_isLane : GoodIn wsX4_cell (va_wsS RX4 40 yX4_isLane wsX4_isLane) := goodIn_app (goodIn_of _ (by decide +kernel)) ggX4_cell_X4_isLane
set_option maxRecDepth 20000 in
theorem ggX4_cell_X2_faultOfCells : GoodIn wsX4_cell wsX2_faultOfCells := goodIn_r _ [16, 17, 18, 19, 20, 15, 21, 22, 23, 24, 25, 26, 39, 40, 41] (by decide +kernel) (by decide +kernel)
set_option maxRecDepth 20000 in
theorem gX4_cell_X2_faultOfCells : GoodIn wsX4_cell (wsV RX4 44 RX2 yX2_faultOfCells wsX2_faultOfCells) := goodIn_app (goodIn_of _ (by decide +kernel)) ggX4_cell_X2_faultOfCells
set_option maxRecDepth 20000 in
theorem ggX4_cell_X2_numberAt : GoodIn wsX4_cell wsX2_numberAt := goodIn_r _ [30, 31, 32, 6, 33, 39, 40, 41] (by decide +kernel) (by decide +kernel)
set_option maxRecDepth 20000 in
theorem gX4_cell_X2_numberAt : GoodIn wsX4_cell (wsV RX4 211 RX2 yX2_numberAt wsX2_numberAt) := goodIn_app (goodIn_of _ (by decide +kernel)) ggX4_cell_X2_numberAt
theorem dX4_cell_0 : decode cX4_cell 0 = .ok (.aload_n 0, 1) := by decide +kernel
theorem dX4_cell_1 : decode cX4_cell 1 = .ok (.iconst 0, 1) := by decide +kernel
theorem dX4_cell_2 : decode cX4_cell 2 = .ok (.putfield 32, 3) := by decide +kernel
theorem dX4_cell_5 : decode cX4_cell 5 = .ok (.aload_n 0, 1) := by decide +kernel
theorem dX4_cell_6 : decode cX4_cell 6 = .ok (.iload_n 1, 1) := by decide +kernel
theorem dX4_cell_7 : decode cX4_cell 7 = .ok (.invokevirtual 36, 3) := by decide +kernel
theorem dX4_cell_10 : decode cX4_cell 10 = .ok (.astore 4, 2) := by decide +kernel
theorem dX4_cell_12 : decode cX4_cell 12 = .ok (.aload 4, 2) := by decide +kernel
theorem dX4_cell_14 : decode cX4_cell 14 = .ok (.ifnull 10, 3) := by decide +kernel
theorem dX4_cell_17 : decode cX4_cell 17 = .ok (.iload_n 3, 1) := by decide +kernel
theorem dX4_cell_18 : decode cX4_cell 18 = .ok (.invokestatic 40, 3) := by decide +kernel
theorem dX4_cell_21 : decode cX4_cell 21 = .ok (.ifCond .ne 7, 3) := by decide +kernel
theorem dX4_cell_24 : decode cX4_cell 24 = .ok (.ldc2_w 189, 3) := by decide +kernel
theorem dX4_cell_27 : decode cX4_cell 27 = .ok (.lreturn, 1) := by decide +kernel
theorem dX4_cell_28 : decode cX4_cell 28 = .ok (.aload 4, 2) := by decide +kernel
theorem dX4_cell_30 : decode cX4_cell 30 = .ok (.iload_n 3, 1) := by decide +kernel
theorem dX4_cell_31 : decode cX4_cell 31 = .ok (.iload_n 2, 1) := by decide +kernel
theorem dX4_cell_32 : decode cX4_cell 32 = .ok (.iconst 1, 1) := by decide +kernel
theorem dX4_cell_33 : decode cX4_cell 33 = .ok (.invokevirtual 44, 3) := by decide +kernel
theorem dX4_cell_36 : decode cX4_cell 36 = .ok (.istore 5, 2) := by decide +kernel
theorem dX4_cell_38 : decode cX4_cell 38 = .ok (.iload 5, 2) := by decide +kernel
theorem dX4_cell_40 : decode cX4_cell 40 = .ok (.ifCond .eq 13, 3) := by decide +kernel
theorem dX4_cell_43 : decode cX4_cell 43 = .ok (.aload_n 0, 1) := by decide +kernel
theorem dX4_cell_44 : decode cX4_cell 44 = .ok (.iload 5, 2) := by decide +kernel
theorem dX4_cell_46 : decode cX4_cell 46 = .ok (.putfield 32, 3) := by decide +kernel
theorem dX4_cell_49 : decode cX4_cell 49 = .ok (.ldc2_w 189, 3) := by decide +kernel
theorem dX4_cell_52 : decode cX4_cell 52 = .ok (.lreturn, 1) := by decide +kernel
theorem dX4_cell_53 : decode cX4_cell 53 = .ok (.aload 4, 2) := by decide +kernel
theorem dX4_cell_55 : decode cX4_cell 55 = .ok (.iload_n 2, 1) := by decide +kernel
theorem dX4_cell_56 : decode cX4_cell 56 = .ok (.invokevirtual 211, 3) := by decide +kernel
theorem dX4_cell_59 : decode cX4_cell 59 = .ok (.i2l, 1) := by decide +kernel
theorem dX4_cell_60 : decode cX4_cell 60 = .ok (.lreturn, 1) := by decide +kernel
set_option maxRecDepth 20000 in
theorem ggX4_copy_X4_sheetAt : GoodIn wsX4_copy wsX4_sheetAt := goodIn_r _ [6, 7, 37, 38, 39, 40, 41] (by decide +kernel) (by decide +kernel)
set_option maxRecDepth 20000 in
theorem gX4_copy_X4_sheetAt : GoodIn wsX4_copy (wsV RX4 36 RX4 yX4_sheetAt wsX4_sheetAt) := goodIn_app (goodIn_of _ (by decide +kernel)) ggX4_copy_X4_sheetAt
set_option maxRecDepth 20000 in
theorem ggX4_copy_X2_hasRow : GoodIn wsX4_copy wsX2_hasRow := goodIn_r _ [12, 13, 42, 43, 44] (by decide +kernel) (by decide +kernel)
set_option maxRecDepth 20000 in
theorem gX4_copy_X2_hasRow : GoodIn wsX4_copy (wsV RX4 199 RX2 yX2_hasRow wsX2_hasRow) := goodIn_app (goodIn_of _ (by decide +kernel)) ggX4_copy_X2_hasRow
set_option maxRecDepth 20000 in
theorem ggX4_copy_X4_faulted : GoodIn wsX4_copy wsX4_faulted := goodIn_r _ [17, 1, 37, 38, 39, 40, 41] (by decide +kernel) (by decide +kernel)
set_option maxRecDepth 20000 in
theorem gX4_copy_X4_faulted : GoodIn wsX4_copy (wsV RX4 48 RX4 yX4_faulted wsX4_faulted) := goodIn_app (goodIn_of _ (by decide +kernel)) ggX4_copy_X4_faulted
set_option maxRecDepth 20000 in
theorem ggX4_copy_X2_rowLane : GoodIn wsX4_copy wsX2_rowLane := goodIn_r _ [21, 22, 42, 43, 44] (by decide +kernel) (by decide +kernel)
set_option maxRecDepth 20000 in
theorem gX4_copy_X2_rowLane : GoodIn wsX4_copy (wsV RX4 205 RX2 yX2_rowLane wsX2_rowLane) := goodIn_app (goodIn_of _ (by decide +kernel)) ggX4_copy_X2_rowLane
set_option maxRecDepth 20000 in
theorem ggX4_copy_X2_hasCells : GoodIn wsX4_copy wsX2_hasCells := goodIn_r _ [26, 13, 42, 43, 44] (by decide +kernel) (by decide +kernel)
set_option maxRecDepth 20000 in
theorem gX4_copy_X2_hasCells : GoodIn wsX4_copy (wsV RX4 214 RX2 yX2_hasCells wsX2_hasCells) := goodIn_app (goodIn_of _ (by decide +kernel)) ggX4_copy_X2_hasCells
set_option maxRecDepth 20000 in
theorem ggX4_copy_X2_copyTo : GoodIn wsX4_copy wsX2_copyTo := goodIn_r _ [30, 31, 32, 33, 34, 35, 36, 24, 25, 11, 26, 13, 42, 43, 44] (by decide +kernel) (by decide +kernel)
set_option maxRecDepth 20000 in
theorem gX4_copy_X2_copyTo : GoodIn wsX4_copy (wsV RX4 217 RX2 yX2_copyTo wsX2_copyTo) := goodIn_app (goodIn_of _ (by decide +kernel)) ggX4_copy_X2_copyTo
theorem dX4_copy_0 : decode cX4_copy 0 = .ok (.aload_n 0, 1) := by decide +kernel
theorem dX4_copy_1 : decode cX4_copy 1 = .ok (.iconst 0, 1) := by decide +kernel
theorem dX4_copy_2 : decode cX4_copy 2 = .ok (.putfield 32, 3) := by decide +kernel
theorem dX4_copy_5 : decode cX4_copy 5 = .ok (.aload_n 0, 1) := by decide +kernel
theorem dX4_copy_6 : decode cX4_copy 6 = .ok (.iload_n 1, 1) := by decide +kernel
theorem dX4_copy_7 : decode cX4_copy 7 = .ok (.invokevirtual 36, 3) := by decide +kernel
theorem dX4_copy_10 : decode cX4_copy 10 = .ok (.astore 6, 2) := by decide +kernel
theorem dX4_copy_12 : decode cX4_copy 12 = .ok (.aload_n 0, 1) := by decide +kernel
theorem dX4_copy_13 : decode cX4_copy 13 = .ok (.iload_n 3, 1) := by decide +kernel
theorem dX4_copy_14 : decode cX4_copy 14 = .ok (.invokevirtual 36, 3) := by decide +kernel
theorem dX4_copy_17 : decode cX4_copy 17 = .ok (.astore 7, 2) := by decide +kernel
theorem dX4_copy_19 : decode cX4_copy 19 = .ok (.aload 6, 2) := by decide +kernel
theorem dX4_copy_21 : decode cX4_copy 21 = .ok (.ifnull 8, 3) := by decide +kernel
theorem dX4_copy_24 : decode cX4_copy 24 = .ok (.aload 7, 2) := by decide +kernel
theorem dX4_copy_26 : decode cX4_copy 26 = .ok (.ifnonnull 5, 3) := by decide +kernel
theorem dX4_copy_29 : decode cX4_copy 29 = .ok (.iconst (-1), 1) := by decide +kernel
theorem dX4_copy_30 : decode cX4_copy 30 = .ok (.ireturn, 1) := by decide +kernel
theorem dX4_copy_31 : decode cX4_copy 31 = .ok (.aload 6, 2) := by decide +kernel
theorem dX4_copy_33 : decode cX4_copy 33 = .ok (.invokevirtual 199, 3) := by decide +kernel
theorem dX4_copy_36 : decode cX4_copy 36 = .ok (.ifCond .eq 11, 3) := by decide +kernel
theorem dX4_copy_39 : decode cX4_copy 39 = .ok (.aload 7, 2) := by decide +kernel
theorem dX4_copy_41 : decode cX4_copy 41 = .ok (.invokevirtual 199, 3) := by decide +kernel
theorem dX4_copy_44 : decode cX4_copy 44 = .ok (.ifCond .ne 9, 3) := by decide +kernel
theorem dX4_copy_47 : decode cX4_copy 47 = .ok (.aload_n 0, 1) := by decide +kernel
theorem dX4_copy_48 : decode cX4_copy 48 = .ok (.iconst 1, 1) := by decide +kernel
theorem dX4_copy_49 : decode cX4_copy 49 = .ok (.invokevirtual 48, 3) := by decide +kernel
theorem dX4_copy_52 : decode cX4_copy 52 = .ok (.ireturn, 1) := by decide +kernel
theorem dX4_copy_53 : decode cX4_copy 53 = .ok (.aload 6, 2) := by decide +kernel
theorem dX4_copy_55 : decode cX4_copy 55 = .ok (.invokevirtual 205, 3) := by decide +kernel
theorem dX4_copy_58 : decode cX4_copy 58 = .ok (.aload 7, 2) := by decide +kernel
theorem dX4_copy_60 : decode cX4_copy 60 = .ok (.invokevirtual 205, 3) := by decide +kernel
theorem dX4_copy_63 : decode cX4_copy 63 = .ok (.if_icmp .eq 9, 3) := by decide +kernel
theorem dX4_copy_66 : decode cX4_copy 66 = .ok (.aload_n 0, 1) := by decide +kernel
theorem dX4_copy_67 : decode cX4_copy 67 = .ok (.iconst 2, 1) := by decide +kernel
theorem dX4_copy_68 : decode cX4_copy 68 = .ok (.invokevirtual 48, 3) := by decide +kernel
theorem dX4_copy_71 : decode cX4_copy 71 = .ok (.ireturn, 1) := by decide +kernel
theorem dX4_copy_72 : decode cX4_copy 72 = .ok (.aload 6, 2) := by decide +kernel
theorem dX4_copy_74 : decode cX4_copy 74 = .ok (.iload_n 2, 1) := by decide +kernel
theorem dX4_copy_75 : decode cX4_copy 75 = .ok (.iload 5, 2) := by decide +kernel
theorem dX4_copy_77 : decode cX4_copy 77 = .ok (.invokevirtual 214, 3) := by decide +kernel
theorem dX4_copy_80 : decode cX4_copy 80 = .ok (.ifCond .eq 15, 3) := by decide +kernel
theorem dX4_copy_83 : decode cX4_copy 83 = .ok (.aload 7, 2) := by decide +kernel
theorem dX4_copy_85 : decode cX4_copy 85 = .ok (.iload 4, 2) := by decide +kernel
theorem dX4_copy_87 : decode cX4_copy 87 = .ok (.iload 5, 2) := by decide +kernel
theorem dX4_copy_89 : decode cX4_copy 89 = .ok (.invokevirtual 214, 3) := by decide +kernel
theorem dX4_copy_92 : decode cX4_copy 92 = .ok (.ifCond .ne 9, 3) := by decide +kernel
theorem dX4_copy_95 : decode cX4_copy 95 = .ok (.aload_n 0, 1) := by decide +kernel
theorem dX4_copy_96 : decode cX4_copy 96 = .ok (.iconst 3, 1) := by decide +kernel
theorem dX4_copy_97 : decode cX4_copy 97 = .ok (.invokevirtual 48, 3) := by decide +kernel
theorem dX4_copy_100 : decode cX4_copy 100 = .ok (.ireturn, 1) := by decide +kernel
theorem dX4_copy_101 : decode cX4_copy 101 = .ok (.aload 6, 2) := by decide +kernel
theorem dX4_copy_103 : decode cX4_copy 103 = .ok (.iload_n 2, 1) := by decide +kernel
theorem dX4_copy_104 : decode cX4_copy 104 = .ok (.aload 7, 2) := by decide +kernel
theorem dX4_copy_106 : decode cX4_copy 106 = .ok (.iload 4, 2) := by decide +kernel
theorem dX4_copy_108 : decode cX4_copy 108 = .ok (.iload 5, 2) := by decide +kernel
theorem dX4_copy_110 : decode cX4_copy 110 = .ok (.invokevirtual 217, 3) := by decide +kernel
theorem dX4_copy_113 : decode cX4_copy 113 = .ok (.iload 5, 2) := by decide +kernel
theorem dX4_copy_115 : decode cX4_copy 115 = .ok (.ireturn, 1) := by decide +kernel
set_option maxRecDepth 20000 in
theorem ggX4_tell_X0_hasEater : GoodIn wsX4_tell wsX0_hasEater := goodIn_r _ [6, 7, 43, 44, 45, 46, 47, 48, 49, 50] (by decide +kernel) (by decide +kernel)
set_option maxRecDepth 20000 in
theorem gX4_tell_X0_hasEater : GoodIn wsX4_tell (wsV RX4 69 RX0 yX0_hasEater wsX0_hasEater) := goodIn_app (goodIn_of _ (by decide +kernel)) ggX4_tell_X0_hasEater
set_option maxRecDepth 20000 in
theorem ggX4_tell_X0_kindOf : GoodIn wsX4_tell wsX0_kindOf := goodIn_r _ [11, 12, 13, 14, 15, 43, 44, 45, 46, 47, 48, 49, 50] (by decide +kernel) (by decide +kernel)
set_option maxRecDepth 20000 in
theorem gX4_tell_X0_kindOf : GoodIn wsX4_tell (wsV RX4 72 RX0 yX0_kindOf wsX0_kindOf) := goodIn_app (goodIn_of _ (by decide +kernel)) ggX4_tell_X0_kindOf
set_option maxRecDepth 20000 in
theorem ggX4_tell_X4_strangerTelling : GoodIn wsX4_tell wsX4_strangerTelling := goodIn_r _ [19, 20, 21, 22, 14, 23, 24, 25, 26, 27, 28, 29, 30, 31, 32, 1, 33, 34, 35, 5, 36, 37, 13, 15, 38, 39, 40, 41, 42, 43, 44, 45, 46, 47, 48, 49, 50] (by decide +kernel) (by decide +kernel)
set_option maxRecDepth 20000 in
theorem gX4_tell_X4_strangerTelling : GoodIn wsX4_tell (wsV RX4 221 RX4 yX4_strangerTelling wsX4_strangerTelling) := goodIn_app (goodIn_of _ (by decide +kernel)) ggX4_tell_X4_strangerTelling
set_option maxRecDepth 20000 in
theorem ggX4_tell_X4_slyTelling : GoodIn wsX4_tell wsX4_slyTelling := goodIn_r _ [28, 20, 21, 22, 14, 23, 24, 29, 30, 31, 32, 1, 33, 34, 35, 5, 36, 37, 13, 15, 38, 39, 40, 41, 42, 43, 44, 45, 46, 47, 48, 49, 50] (by decide +kernel) (by decide +kernel)
set_option maxRecDepth 20000 in
theorem gX4_tell_X4_slyTelling : GoodIn wsX4_tell (wsV RX4 224 RX4 yX4_slyTelling wsX4_slyTelling) := goodIn_app (goodIn_of _ (by decide +kernel)) ggX4_tell_X4_slyTelling
set_option maxRecDepth 20000 in
theorem ggX4_tell_X4_eaterTelling : GoodIn wsX4_tell wsX4_eaterTelling := goodIn_r _ [32, 1, 20, 21, 22, 14, 23, 24, 33, 34, 35, 5, 36, 37, 13, 15, 38, 39, 40, 41, 42, 43, 44, 45, 46, 47, 48, 49, 50] (by decide +kernel) (by decide +kernel)
set_option maxRecDepth 20000 in
theorem gX4_tell_X4_eaterTelling : GoodIn wsX4_tell (wsV RX4 227 RX4 yX4_eaterTelling wsX4_eaterTelling) := goodIn_app (goodIn_of _ (by decide +kernel)) ggX4_tell_X4_eaterTelling
theorem dX4_tell_0 : decode cX4_tell 0 = .ok (.aload_n 0, 1) := by decide +kernel
theorem dX4_tell_1 : decode cX4_tell 1 = .ok (.getfield 12, 3) := by decide +kernel
theorem dX4_tell_4 : decode cX4_tell 4 = .ok (.iload_n 1, 1) := by decide +kernel
theorem dX4_tell_5 : decode cX4_tell 5 = .ok (.invokevirtual 69, 3) := by decide +kernel
theorem dX4_tell_8 : decode cX4_tell 8 = .ok (.ifCond .ne 5, 3) := by decide +kernel
theorem dX4_tell_11 : decode cX4_tell 11 = .ok (.iconst (-1), 1) := by decide +kernel
theorem dX4_tell_12 : decode cX4_tell 12 = .ok (.ireturn, 1) := by decide +kernel
theorem dX4_tell_13 : decode cX4_tell 13 = .ok (.aload_n 0, 1) := by decide +kernel
theorem dX4_tell_14 : decode cX4_tell 14 = .ok (.getfield 12, 3) := by decide +kernel
theorem dX4_tell_17 : decode cX4_tell 17 = .ok (.iload_n 1, 1) := by decide +kernel
theorem dX4_tell_18 : decode cX4_tell 18 = .ok (.invokevirtual 72, 3) := by decide +kernel
theorem dX4_tell_21 : decode cX4_tell 21 = .ok (.lookupswitch 39 #[(1, 33), (2, 27)], 27) := by decide +kernel
theorem dX4_tell_48 : decode cX4_tell 48 = .ok (.aload_n 0, 1) := by decide +kernel
theorem dX4_tell_49 : decode cX4_tell 49 = .ok (.iload_n 1, 1) := by decide +kernel
theorem dX4_tell_50 : decode cX4_tell 50 = .ok (.invokevirtual 221, 3) := by decide +kernel
theorem dX4_tell_53 : decode cX4_tell 53 = .ok (.ireturn, 1) := by decide +kernel
theorem dX4_tell_54 : decode cX4_tell 54 = .ok (.aload_n 0, 1) := by decide +kernel
theorem dX4_tell_55 : decode cX4_tell 55 = .ok (.iload_n 1, 1) := by decide +kernel
theorem dX4_tell_56 : decode cX4_tell 56 = .ok (.invokevirtual 224, 3) := by decide +kernel
theorem dX4_tell_59 : decode cX4_tell 59 = .ok (.ireturn, 1) := by decide +kernel
theorem dX4_tell_60 : decode cX4_tell 60 = .ok (.aload_n 0, 1) := by decide +kernel
theorem dX4_tell_61 : decode cX4_tell 61 = .ok (.iload_n 1, 1) := by decide +kernel
theorem dX4_tell_62 : decode cX4_tell 62 = .ok (.invokevirtual 227, 3) := by decide +kernel
theorem dX4_tell_65 : decode cX4_tell 65 = .ok (.ireturn, 1) := by decide +kernel
set_option maxRecDepth 20000 in
theorem ggX4_eaterTelling_X4_leaveInTrace : GoodIn wsX4_eaterTelling wsX4_leaveInTrace := goodIn_r _ [6, 7, 16, 17, 18, 19, 20] (by decide +kernel) (by decide +kernel)
set_option maxRecDepth 20000 in
theorem gX4_eaterTelling_X4_leaveInTrace : GoodIn wsX4_eaterTelling (wsV RX4 230 RX4 yX4_leaveInTrace wsX4_leaveInTrace) := goodIn_app (goodIn_of _ (by decide +kernel)) ggX4_eaterTelling_X4_leaveInTrace
set_option maxRecDepth 20000 in
theorem ggX4_eaterTelling_X0_spoonsOf : GoodIn wsX4_eaterTelling wsX0_spoonsOf := goodIn_r _ [12, 13, 14, 5, 15, 21, 22, 23, 24, 25, 26, 27, 28] (by decide +kernel) (by decide +kernel)
set_option maxRecDepth 20000 in
theorem gX4_eaterTelling_X0_spoonsOf : GoodIn wsX4_eaterTelling (wsV RX4 78 RX0 yX0_spoonsOf wsX0_spoonsOf) := goodIn_app (goodIn_of _ (by decide +kernel)) ggX4_eaterTelling_X0_spoonsOf
theorem dX4_eaterTelling_0 : decode cX4_eaterTelling 0 = .ok (.aload_n 0, 1) := by decide +kernel
theorem dX4_eaterTelling_1 : decode cX4_eaterTelling 1 = .ok (.iconst 1, 1) := by decide +kernel
theorem dX4_eaterTelling_2 : decode cX4_eaterTelling 2 = .ok (.invokevirtual 230, 3) := by decide +kernel
theorem dX4_eaterTelling_5 : decode cX4_eaterTelling 5 = .ok (.aload_n 0, 1) := by decide +kernel
theorem dX4_eaterTelling_6 : decode cX4_eaterTelling 6 = .ok (.getfield 12, 3) := by decide +kernel
theorem dX4_eaterTelling_9 : decode cX4_eaterTelling 9 = .ok (.iload_n 1, 1) := by decide +kernel
theorem dX4_eaterTelling_10 : decode cX4_eaterTelling 10 = .ok (.invokevirtual 78, 3) := by decide +kernel
theorem dX4_eaterTelling_13 : decode cX4_eaterTelling 13 = .ok (.ireturn, 1) := by decide +kernel
set_option maxRecDepth 20000 in
theorem ggX4_slyTelling_X4_leaveInTrace : GoodIn wsX4_slyTelling wsX4_leaveInTrace := goodIn_r _ [5, 6, 20, 21, 22, 23, 24] (by decide +kernel) (by decide +kernel)
set_option maxRecDepth 20000 in
theorem gX4_slyTelling_X4_leaveInTrace : GoodIn wsX4_slyTelling (wsV RX4 230 RX4 yX4_leaveInTrace wsX4_leaveInTrace) := goodIn_app (goodIn_of _ (by decide +kernel)) ggX4_slyTelling_X4_leaveInTrace
set_option maxRecDepth 20000 in
theorem ggX4_slyTelling_X4_eaterTelling : GoodIn wsX4_slyTelling wsX4_eaterTelling := goodIn_r _ [10, 11, 1, 2, 3, 4, 5, 6, 12, 13, 14, 15, 16, 17, 18, 19, 20, 21, 22, 23, 24, 25, 26, 27, 28, 29, 30, 31, 32] (by decide +kernel) (by decide +kernel)
set_option maxRecDepth 20000 in
theorem gX4_slyTelling_X4_eaterTelling : GoodIn wsX4_slyTelling (wsV RX4 227 RX4 yX4_eaterTelling wsX4_eaterTelling) := goodIn_app (goodIn_of _ (by decide +kernel)) ggX4_slyTelling_X4_eaterTelling
theorem dX4_slyTelling_0 : decode cX4_slyTelling 0 = .ok (.aload_n 0, 1) := by decide +kernel
theorem dX4_slyTelling_1 : decode cX4_slyTelling 1 = .ok (.iconst 2, 1) := by decide +kernel
theorem dX4_slyTelling_2 : decode cX4_slyTelling 2 = .ok (.invokevirtual 230, 3) := by decide +kernel
theorem dX4_slyTelling_5 : decode cX4_slyTelling 5 = .ok (.aload_n 0, 1) := by decide +kernel
theorem dX4_slyTelling_6 : decode cX4_slyTelling 6 = .ok (.iload_n 1, 1) := by decide +kernel
theorem dX4_slyTelling_7 : decode cX4_slyTelling 7 = .ok (.invokevirtual 227, 3) := by decide +kernel
theorem dX4_slyTelling_10 : decode cX4_slyTelling 10 = .ok (.bipush 100, 2) := by decide +kernel
theorem dX4_slyTelling_12 : decode cX4_slyTelling 12 = .ok (.iadd, 1) := by decide +kernel
theorem dX4_slyTelling_13 : decode cX4_slyTelling 13 = .ok (.ireturn, 1) := by decide +kernel
set_option maxRecDepth 20000 in
theorem ggX4_strangerTelling_X4_leaveInTrace : GoodIn wsX4_strangerTelling wsX4_leaveInTrace := goodIn_r _ [5, 6, 24, 25, 26, 27, 28] (by decide +kernel) (by decide +kernel)
set_option maxRecDepth 20000 in
theorem gX4_strangerTelling_X4_leaveInTrace : GoodIn wsX4_strangerTelling (wsV RX4 230 RX4 yX4_leaveInTrace wsX4_leaveInTrace) := goodIn_app (goodIn_of _ (by decide +kernel)) ggX4_strangerTelling_X4_leaveInTrace
set_option maxRecDepth 20000 in
theorem ggX4_strangerTelling_X4_slyTelling : GoodIn wsX4_strangerTelling wsX4_slyTelling := goodIn_r _ [10, 1, 2, 3, 4, 5, 6, 11, 12, 13, 14, 15, 16, 17, 18, 19, 20, 21, 22, 23, 24, 25, 26, 27, 28, 29, 30, 31, 32, 33, 34, 35, 36] (by decide +kernel) (by decide +kernel)
set_option maxRecDepth 20000 in
theorem gX4_strangerTelling_X4_slyTelling : GoodIn wsX4_strangerTelling (wsV RX4 224 RX4 yX4_slyTelling wsX4_slyTelling) := goodIn_app (goodIn_of _ (by decide +kernel)) ggX4_strangerTelling_X4_slyTelling
set_option maxRecDepth 20000 in
theorem ggX4_strangerTelling_X4_eaterTelling : GoodIn wsX4_strangerTelling wsX4_eaterTelling := goodIn_r _ [14, 15, 1, 2, 3, 4, 5, 6, 16, 17, 18, 19, 20, 21, 22, 23, 24, 25, 26, 27, 28, 29, 30, 31, 32, 33, 34, 35, 36] (by decide +kernel) (by decide +kernel)
set_option maxRecDepth 20000 in
theorem gX4_strangerTelling_X4_eaterTelling : GoodIn wsX4_strangerTelling (wsV RX4 227 RX4 yX4_eaterTelling wsX4_eaterTelling) := goodIn_app (goodIn_of _ (by decide +kernel)) ggX4_strangerTelling_X4_eaterTelling
theorem dX4_strangerTelling_0 : decode cX4_strangerTelling 0 = .ok (.aload_n 0, 1) := by decide +kernel
theorem dX4_strangerTelling_1 : decode cX4_strangerTelling 1 = .ok (.iconst 3, 1) := by decide +kernel
theorem dX4_strangerTelling_2 : decode cX4_strangerTelling 2 = .ok (.invokevirtual 230, 3) := by decide +kernel
theorem dX4_strangerTelling_5 : decode cX4_strangerTelling 5 = .ok (.aload_n 0, 1) := by decide +kernel
theorem dX4_strangerTelling_6 : decode cX4_strangerTelling 6 = .ok (.iload_n 1, 1) := by decide +kernel
theorem dX4_strangerTelling_7 : decode cX4_strangerTelling 7 = .ok (.invokevirtual 224, 3) := by decide +kernel
theorem dX4_strangerTelling_10 : decode cX4_strangerTelling 10 = .ok (.istore_n 2, 1) := by decide +kernel
theorem dX4_strangerTelling_11 : decode cX4_strangerTelling 11 = .ok (.iload_n 2, 1) := by decide +kernel
theorem dX4_strangerTelling_12 : decode cX4_strangerTelling 12 = .ok (.aload_n 0, 1) := by decide +kernel
theorem dX4_strangerTelling_13 : decode cX4_strangerTelling 13 = .ok (.iload_n 1, 1) := by decide +kernel
theorem dX4_strangerTelling_14 : decode cX4_strangerTelling 14 = .ok (.invokevirtual 227, 3) := by decide +kernel
theorem dX4_strangerTelling_17 : decode cX4_strangerTelling 17 = .ok (.iadd, 1) := by decide +kernel
theorem dX4_strangerTelling_18 : decode cX4_strangerTelling 18 = .ok (.ireturn, 1) := by decide +kernel
set_option maxRecDepth 20000 in
theorem ggX4_sniff_X0_hasEater : GoodIn wsX4_sniff wsX0_hasEater := goodIn_r _ [6, 7, 34, 35, 36, 37, 38, 39, 40, 41] (by decide +kernel) (by decide +kernel)
set_option maxRecDepth 20000 in
theorem gX4_sniff_X0_hasEater : GoodIn wsX4_sniff (wsV RX4 69 RX0 yX0_hasEater wsX0_hasEater) := goodIn_app (goodIn_of _ (by decide +kernel)) ggX4_sniff_X0_hasEater
set_option maxRecDepth 20000 in
theorem ggX4_sniff_X0_kindOf : GoodIn wsX4_sniff wsX0_kindOf := goodIn_r _ [11, 12, 13, 14, 15, 34, 35, 36, 37, 38, 39, 40, 41] (by decide +kernel) (by decide +kernel)
set_option maxRecDepth 20000 in
theorem gX4_sniff_X0_kindOf : GoodIn wsX4_sniff (wsV RX4 72 RX0 yX0_kindOf wsX0_kindOf) := goodIn_app (goodIn_of _ (by decide +kernel)) ggX4_sniff_X0_kindOf
set_option maxRecDepth 20000 in
theorem ggX4_sniff_X4_strangerSniffing : GoodIn wsX4_sniff wsX4_strangerSniffing := goodIn_r _ [19, 20, 21, 22, 14, 23, 24, 29, 30, 31, 32, 33] (by decide +kernel) (by decide +kernel)
set_option maxRecDepth 20000 in
theorem gX4_sniff_X4_strangerSniffing : GoodIn wsX4_sniff (wsV RX4 233 RX4 yX4_strangerSniffing wsX4_strangerSniffing) := goodIn_app (goodIn_of _ (by decide +kernel)) ggX4_sniff_X4_strangerSniffing
set_option maxRecDepth 20000 in
theorem ggX4_sniff_X4_lentSniffing : GoodIn wsX4_sniff wsX4_lentSniffing := goodIn_r _ [28, 20, 21, 22, 14, 23, 24, 29, 30, 31, 32, 33] (by decide +kernel) (by decide +kernel)
set_option maxRecDepth 20000 in
theorem gX4_sniff_X4_lentSniffing : GoodIn wsX4_sniff (wsV RX4 236 RX4 yX4_lentSniffing wsX4_lentSniffing) := goodIn_app (goodIn_of _ (by decide +kernel)) ggX4_sniff_X4_lentSniffing
theorem dX4_sniff_0 : decode cX4_sniff 0 = .ok (.aload_n 0, 1) := by decide +kernel
theorem dX4_sniff_1 : decode cX4_sniff 1 = .ok (.getfield 12, 3) := by decide +kernel
theorem dX4_sniff_4 : decode cX4_sniff 4 = .ok (.iload_n 1, 1) := by decide +kernel
theorem dX4_sniff_5 : decode cX4_sniff 5 = .ok (.invokevirtual 69, 3) := by decide +kernel
theorem dX4_sniff_8 : decode cX4_sniff 8 = .ok (.ifCond .ne 5, 3) := by decide +kernel
theorem dX4_sniff_11 : decode cX4_sniff 11 = .ok (.iconst (-1), 1) := by decide +kernel
theorem dX4_sniff_12 : decode cX4_sniff 12 = .ok (.ireturn, 1) := by decide +kernel
theorem dX4_sniff_13 : decode cX4_sniff 13 = .ok (.aload_n 0, 1) := by decide +kernel
theorem dX4_sniff_14 : decode cX4_sniff 14 = .ok (.getfield 12, 3) := by decide +kernel
theorem dX4_sniff_17 : decode cX4_sniff 17 = .ok (.iload_n 1, 1) := by decide +kernel
theorem dX4_sniff_18 : decode cX4_sniff 18 = .ok (.invokevirtual 72, 3) := by decide +kernel
theorem dX4_sniff_21 : decode cX4_sniff 21 = .ok (.iconst 2, 1) := by decide +kernel
theorem dX4_sniff_22 : decode cX4_sniff 22 = .ok (.if_icmp .ne 10, 3) := by decide +kernel
theorem dX4_sniff_25 : decode cX4_sniff 25 = .ok (.aload_n 0, 1) := by decide +kernel
theorem dX4_sniff_26 : decode cX4_sniff 26 = .ok (.invokevirtual 233, 3) := by decide +kernel
theorem dX4_sniff_29 : decode cX4_sniff 29 = .ok (.goto 8, 3) := by decide +kernel
theorem dX4_sniff_32 : decode cX4_sniff 32 = .ok (.aload_n 0, 1) := by decide +kernel
theorem dX4_sniff_33 : decode cX4_sniff 33 = .ok (.iload_n 1, 1) := by decide +kernel
theorem dX4_sniff_34 : decode cX4_sniff 34 = .ok (.invokevirtual 236, 3) := by decide +kernel
theorem dX4_sniff_37 : decode cX4_sniff 37 = .ok (.ireturn, 1) := by decide +kernel
set_option maxRecDepth 20000 in
theorem ggX4_lentSniffing_X4_leaveInTrace : GoodIn wsX4_lentSniffing wsX4_leaveInTrace := goodIn_r _ [5, 6, 7, 8, 9, 10, 11] (by decide +kernel) (by decide +kernel)
set_option maxRecDepth 20000 in
theorem gX4_lentSniffing_X4_leaveInTrace : GoodIn wsX4_lentSniffing (wsV RX4 230 RX4 yX4_leaveInTrace wsX4_leaveInTrace) := goodIn_app (goodIn_of _ (by decide +kernel)) ggX4_lentSniffing_X4_leaveInTrace
theorem dX4_lentSniffing_0 : decode cX4_lentSniffing 0 = .ok (.aload_n 0, 1) := by decide +kernel
theorem dX4_lentSniffing_1 : decode cX4_lentSniffing 1 = .ok (.iconst 4, 1) := by decide +kernel
theorem dX4_lentSniffing_2 : decode cX4_lentSniffing 2 = .ok (.invokevirtual 230, 3) := by decide +kernel
theorem dX4_lentSniffing_5 : decode cX4_lentSniffing 5 = .ok (.iload_n 1, 1) := by decide +kernel
theorem dX4_lentSniffing_6 : decode cX4_lentSniffing 6 = .ok (.ireturn, 1) := by decide +kernel
set_option maxRecDepth 20000 in
theorem ggX4_strangerSniffing_X4_leaveInTrace : GoodIn wsX4_strangerSniffing wsX4_leaveInTrace := goodIn_r _ [5, 6, 7, 8, 9, 10, 11] (by decide +kernel) (by decide +kernel)
set_option maxRecDepth 20000 in
theorem gX4_strangerSniffing_X4_leaveInTrace : GoodIn wsX4_strangerSniffing (wsV RX4 230 RX4 yX4_leaveInTrace wsX4_leaveInTrace) := goodIn_app (goodIn_of _ (by decide +kernel)) ggX4_strangerSniffing_X4_leaveInTrace
theorem dX4_strangerSniffing_0 : decode cX4_strangerSniffing 0 = .ok (.aload_n 0, 1) := by decide +kernel
theorem dX4_strangerSniffing_1 : decode cX4_strangerSniffing 1 = .ok (.iconst 5, 1) := by decide +kernel
theorem dX4_strangerSniffing_2 : decode cX4_strangerSniffing 2 = .ok (.invokevirtual 230, 3) := by decide +kernel
theorem dX4_strangerSniffing_5 : decode cX4_strangerSniffing 5 = .ok (.bipush 40, 2) := by decide +kernel
theorem dX4_strangerSniffing_7 : decode cX4_strangerSniffing 7 = .ok (.ireturn, 1) := by decide +kernel
theorem dX4_leaveInTrace_0 : decode cX4_leaveInTrace 0 = .ok (.aload_n 0, 1) := by decide +kernel
theorem dX4_leaveInTrace_1 : decode cX4_leaveInTrace 1 = .ok (.bipush 31, 2) := by decide +kernel
theorem dX4_leaveInTrace_3 : decode cX4_leaveInTrace 3 = .ok (.aload_n 0, 1) := by decide +kernel
theorem dX4_leaveInTrace_4 : decode cX4_leaveInTrace 4 = .ok (.getfield 239, 3) := by decide +kernel
theorem dX4_leaveInTrace_7 : decode cX4_leaveInTrace 7 = .ok (.imul, 1) := by decide +kernel
theorem dX4_leaveInTrace_8 : decode cX4_leaveInTrace 8 = .ok (.iload_n 1, 1) := by decide +kernel
theorem dX4_leaveInTrace_9 : decode cX4_leaveInTrace 9 = .ok (.iadd, 1) := by decide +kernel
theorem dX4_leaveInTrace_10 : decode cX4_leaveInTrace 10 = .ok (.putfield 239, 3) := by decide +kernel
theorem dX4_leaveInTrace_13 : decode cX4_leaveInTrace 13 = .ok (.return_, 1) := by decide +kernel
set_option maxRecDepth 20000 in
theorem ggX4_as_X0_hasEater : GoodIn wsX4_as wsX0_hasEater := goodIn_r _ [7, 8, 29, 30, 31, 32, 33, 34, 35, 36] (by decide +kernel) (by decide +kernel)
set_option maxRecDepth 20000 in
theorem gX4_as_X0_hasEater : GoodIn wsX4_as (wsV RX4 69 RX0 yX0_hasEater wsX0_hasEater) := goodIn_app (goodIn_of _ (by decide +kernel)) ggX4_as_X0_hasEater
set_option maxRecDepth 20000 in
theorem ggX4_as_X4_isFrom0To : GoodIn wsX4_as wsX4_isFrom0To := goodIn_r _ [12] (by decide +kernel) (by decide +kernel)
set_option maxRecDepth 20000 in
theorem gX4_as_X4_isFrom0To : GoodIn wsX4_as (va_wsS RX4 93 yX4_isFrom0To wsX4_isFrom0To) := goodIn_app (goodIn_of _ (by decide +kernel)) ggX4_as_X4_isFrom0To
set_option maxRecDepth 20000 in
theorem ggX4_as_X0_kindOf : GoodIn wsX4_as wsX0_kindOf := goodIn_r _ [16, 17, 18, 11, 19, 29, 30, 31, 32, 33, 34, 35, 36] (by decide +kernel) (by decide +kernel)
set_option maxRecDepth 20000 in
theorem gX4_as_X0_kindOf : GoodIn wsX4_as (wsV RX4 72 RX0 yX0_kindOf wsX0_kindOf) := goodIn_app (goodIn_of _ (by decide +kernel)) ggX4_as_X0_kindOf
set_option maxRecDepth 20000 in
theorem ggX4_as_X4_faulted : GoodIn wsX4_as wsX4_faulted := goodIn_r _ [23, 1, 24, 25, 26, 27, 28] (by decide +kernel) (by decide +kernel)
set_option maxRecDepth 20000 in
theorem gX4_as_X4_faulted : GoodIn wsX4_as (wsV RX4 48 RX4 yX4_faulted wsX4_faulted) := goodIn_app (goodIn_of _ (by decide +kernel)) ggX4_as_X4_faulted
theorem dX4_as_0 : decode cX4_as 0 = .ok (.aload_n 0, 1) := by decide +kernel
theorem dX4_as_1 : decode cX4_as 1 = .ok (.iconst 0, 1) := by decide +kernel
theorem dX4_as_2 : decode cX4_as 2 = .ok (.putfield 32, 3) := by decide +kernel
theorem dX4_as_5 : decode cX4_as 5 = .ok (.aload_n 0, 1) := by decide +kernel
theorem dX4_as_6 : decode cX4_as 6 = .ok (.getfield 12, 3) := by decide +kernel
theorem dX4_as_9 : decode cX4_as 9 = .ok (.iload_n 1, 1) := by decide +kernel
theorem dX4_as_10 : decode cX4_as 10 = .ok (.invokevirtual 69, 3) := by decide +kernel
theorem dX4_as_13 : decode cX4_as 13 = .ok (.ifCond .ne 5, 3) := by decide +kernel
theorem dX4_as_16 : decode cX4_as 16 = .ok (.iconst (-1), 1) := by decide +kernel
theorem dX4_as_17 : decode cX4_as 17 = .ok (.ireturn, 1) := by decide +kernel
theorem dX4_as_18 : decode cX4_as 18 = .ok (.iload_n 2, 1) := by decide +kernel
theorem dX4_as_19 : decode cX4_as 19 = .ok (.iconst 2, 1) := by decide +kernel
theorem dX4_as_20 : decode cX4_as 20 = .ok (.invokestatic 93, 3) := by decide +kernel
theorem dX4_as_23 : decode cX4_as 23 = .ok (.ifCond .ne 6, 3) := by decide +kernel
theorem dX4_as_26 : decode cX4_as 26 = .ok (.bipush (-2), 2) := by decide +kernel
theorem dX4_as_28 : decode cX4_as 28 = .ok (.ireturn, 1) := by decide +kernel
theorem dX4_as_29 : decode cX4_as 29 = .ok (.aload_n 0, 1) := by decide +kernel
theorem dX4_as_30 : decode cX4_as 30 = .ok (.getfield 12, 3) := by decide +kernel
theorem dX4_as_33 : decode cX4_as 33 = .ok (.iload_n 1, 1) := by decide +kernel
theorem dX4_as_34 : decode cX4_as 34 = .ok (.invokevirtual 72, 3) := by decide +kernel
theorem dX4_as_37 : decode cX4_as 37 = .ok (.iload_n 2, 1) := by decide +kernel
theorem dX4_as_38 : decode cX4_as 38 = .ok (.if_icmp .lt 7, 3) := by decide +kernel
theorem dX4_as_41 : decode cX4_as 41 = .ok (.iconst 1, 1) := by decide +kernel
theorem dX4_as_42 : decode cX4_as 42 = .ok (.goto 8, 3) := by decide +kernel
theorem dX4_as_45 : decode cX4_as 45 = .ok (.aload_n 0, 1) := by decide +kernel
theorem dX4_as_46 : decode cX4_as 46 = .ok (.iconst 2, 1) := by decide +kernel
theorem dX4_as_47 : decode cX4_as 47 = .ok (.invokevirtual 48, 3) := by decide +kernel
theorem dX4_as_50 : decode cX4_as 50 = .ok (.ireturn, 1) := by decide +kernel
theorem dX4_trace_0 : decode cX4_trace 0 = .ok (.aload_n 0, 1) := by decide +kernel
theorem dX4_trace_1 : decode cX4_trace 1 = .ok (.getfield 239, 3) := by decide +kernel
theorem dX4_trace_4 : decode cX4_trace 4 = .ok (.ireturn, 1) := by decide +kernel
theorem dX4_fault_0 : decode cX4_fault 0 = .ok (.aload_n 0, 1) := by decide +kernel
theorem dX4_fault_1 : decode cX4_fault 1 = .ok (.getfield 32, 3) := by decide +kernel
theorem dX4_fault_4 : decode cX4_fault 4 = .ok (.ireturn, 1) := by decide +kernel
set_option maxRecDepth 20000 in
theorem ggX4_many_X0_eaterCount : GoodIn wsX4_many wsX0_eaterCount := goodIn_r _ [7, 8, 30, 31, 32, 33, 34, 35, 36, 37] (by decide +kernel) (by decide +kernel)
set_option maxRecDepth 20000 in
theorem gX4_many_X0_eaterCount : GoodIn wsX4_many (wsV RX4 65 RX0 yX0_eaterCount wsX0_eaterCount) := goodIn_app (goodIn_of _ (by decide +kernel)) ggX4_many_X0_eaterCount
set_option maxRecDepth 20000 in
theorem ggX4_many_X0_dayCount : GoodIn wsX4_many wsX0_dayCount := goodIn_r _ [12, 13, 30, 31, 32, 33, 34, 35, 36, 37] (by decide +kernel) (by decide +kernel)
set_option maxRecDepth 20000 in
theorem gX4_many_X0_dayCount : GoodIn wsX4_many (wsV RX4 242 RX0 yX0_dayCount wsX0_dayCount) := goodIn_app (goodIn_of _ (by decide +kernel)) ggX4_many_X0_dayCount
set_option maxRecDepth 20000 in
theorem ggX4_many_X0_sourLook : GoodIn wsX4_many wsX0_sourLook := goodIn_r _ [17, 18, 30, 31, 32, 33, 34, 35, 36, 37] (by decide +kernel) (by decide +kernel)
set_option maxRecDepth 20000 in
theorem gX4_many_X0_sourLook : GoodIn wsX4_many (wsV RX4 105 RX0 yX0_sourLook wsX0_sourLook) := goodIn_app (goodIn_of _ (by decide +kernel)) ggX4_many_X0_sourLook
set_option maxRecDepth 20000 in
theorem ggX4_many_X1_keptCount : GoodIn wsX4_many wsX1_keptCount := goodIn_r _ [23, 24, 38, 39, 40, 41, 42] (by decide +kernel) (by decide +kernel)
set_option maxRecDepth 20000 in
theorem gX4_many_X1_keptCount : GoodIn wsX4_many (wsV RX4 176 RX1 yX1_keptCount wsX1_keptCount) := goodIn_app (goodIn_of _ (by decide +kernel)) ggX4_many_X1_keptCount
theorem dX4_many_0 : decode cX4_many 0 = .ok (.iload_n 1, 1) := by decide +kernel
theorem dX4_many_1 : decode cX4_many 1 = .ok (.tableswitch 63 0 3 #[31, 39, 47, 55], 31) := by decide +kernel
theorem dX4_many_32 : decode cX4_many 32 = .ok (.aload_n 0, 1) := by decide +kernel
theorem dX4_many_33 : decode cX4_many 33 = .ok (.getfield 12, 3) := by decide +kernel
theorem dX4_many_36 : decode cX4_many 36 = .ok (.invokevirtual 65, 3) := by decide +kernel
theorem dX4_many_39 : decode cX4_many 39 = .ok (.ireturn, 1) := by decide +kernel
theorem dX4_many_40 : decode cX4_many 40 = .ok (.aload_n 0, 1) := by decide +kernel
theorem dX4_many_41 : decode cX4_many 41 = .ok (.getfield 12, 3) := by decide +kernel
theorem dX4_many_44 : decode cX4_many 44 = .ok (.invokevirtual 242, 3) := by decide +kernel
theorem dX4_many_47 : decode cX4_many 47 = .ok (.ireturn, 1) := by decide +kernel
theorem dX4_many_48 : decode cX4_many 48 = .ok (.aload_n 0, 1) := by decide +kernel
theorem dX4_many_49 : decode cX4_many 49 = .ok (.getfield 12, 3) := by decide +kernel
theorem dX4_many_52 : decode cX4_many 52 = .ok (.invokevirtual 105, 3) := by decide +kernel
theorem dX4_many_55 : decode cX4_many 55 = .ok (.ireturn, 1) := by decide +kernel
theorem dX4_many_56 : decode cX4_many 56 = .ok (.aload_n 0, 1) := by decide +kernel
theorem dX4_many_57 : decode cX4_many 57 = .ok (.getfield 21, 3) := by decide +kernel
theorem dX4_many_60 : decode cX4_many 60 = .ok (.invokevirtual 176, 3) := by decide +kernel
theorem dX4_many_63 : decode cX4_many 63 = .ok (.ireturn, 1) := by decide +kernel
theorem dX4_many_64 : decode cX4_many 64 = .ok (.bipush (-2), 2) := by decide +kernel
theorem dX4_many_66 : decode cX4_many 66 = .ok (.ireturn, 1) := by decide +kernel
theorem dX4_sheetAt_0 : decode cX4_sheetAt 0 = .ok (.iload_n 1, 1) := by decide +kernel
theorem dX4_sheetAt_1 : decode cX4_sheetAt 1 = .ok (.ifCond .lt 21, 3) := by decide +kernel
theorem dX4_sheetAt_4 : decode cX4_sheetAt 4 = .ok (.iload_n 1, 1) := by decide +kernel
theorem dX4_sheetAt_5 : decode cX4_sheetAt 5 = .ok (.aload_n 0, 1) := by decide +kernel
theorem dX4_sheetAt_6 : decode cX4_sheetAt 6 = .ok (.getfield 27, 3) := by decide +kernel
theorem dX4_sheetAt_9 : decode cX4_sheetAt 9 = .ok (.arraylength, 1) := by decide +kernel
theorem dX4_sheetAt_10 : decode cX4_sheetAt 10 = .ok (.if_icmp .ge 12, 3) := by decide +kernel
theorem dX4_sheetAt_13 : decode cX4_sheetAt 13 = .ok (.aload_n 0, 1) := by decide +kernel
theorem dX4_sheetAt_14 : decode cX4_sheetAt 14 = .ok (.getfield 27, 3) := by decide +kernel
theorem dX4_sheetAt_17 : decode cX4_sheetAt 17 = .ok (.iload_n 1, 1) := by decide +kernel
theorem dX4_sheetAt_18 : decode cX4_sheetAt 18 = .ok (.aaload, 1) := by decide +kernel
theorem dX4_sheetAt_19 : decode cX4_sheetAt 19 = .ok (.goto 4, 3) := by decide +kernel
theorem dX4_sheetAt_22 : decode cX4_sheetAt 22 = .ok (.aconst_null, 1) := by decide +kernel
theorem dX4_sheetAt_23 : decode cX4_sheetAt 23 = .ok (.areturn, 1) := by decide +kernel
theorem dX4_faulted_0 : decode cX4_faulted 0 = .ok (.aload_n 0, 1) := by decide +kernel
theorem dX4_faulted_1 : decode cX4_faulted 1 = .ok (.iload_n 1, 1) := by decide +kernel
theorem dX4_faulted_2 : decode cX4_faulted 2 = .ok (.putfield 32, 3) := by decide +kernel
theorem dX4_faulted_5 : decode cX4_faulted 5 = .ok (.bipush (-10), 2) := by decide +kernel
theorem dX4_faulted_7 : decode cX4_faulted 7 = .ok (.iload_n 1, 1) := by decide +kernel
theorem dX4_faulted_8 : decode cX4_faulted 8 = .ok (.isub, 1) := by decide +kernel
theorem dX4_faulted_9 : decode cX4_faulted 9 = .ok (.ireturn, 1) := by decide +kernel
theorem dX4_isLane_0 : decode cX4_isLane 0 = .ok (.iload_n 0, 1) := by decide +kernel
theorem dX4_isLane_1 : decode cX4_isLane 1 = .ok (.ifCond .lt 12, 3) := by decide +kernel
theorem dX4_isLane_4 : decode cX4_isLane 4 = .ok (.iload_n 0, 1) := by decide +kernel
theorem dX4_isLane_5 : decode cX4_isLane 5 = .ok (.iconst 2, 1) := by decide +kernel
theorem dX4_isLane_6 : decode cX4_isLane 6 = .ok (.if_icmp .gt 7, 3) := by decide +kernel
theorem dX4_isLane_9 : decode cX4_isLane 9 = .ok (.iconst 1, 1) := by decide +kernel
theorem dX4_isLane_10 : decode cX4_isLane 10 = .ok (.goto 4, 3) := by decide +kernel
theorem dX4_isLane_13 : decode cX4_isLane 13 = .ok (.iconst 0, 1) := by decide +kernel
theorem dX4_isLane_14 : decode cX4_isLane 14 = .ok (.ireturn, 1) := by decide +kernel
theorem dX4_isFrom0To_0 : decode cX4_isFrom0To 0 = .ok (.iload_n 0, 1) := by decide +kernel
theorem dX4_isFrom0To_1 : decode cX4_isFrom0To 1 = .ok (.ifCond .lt 12, 3) := by decide +kernel
theorem dX4_isFrom0To_4 : decode cX4_isFrom0To 4 = .ok (.iload_n 0, 1) := by decide +kernel
theorem dX4_isFrom0To_5 : decode cX4_isFrom0To 5 = .ok (.iload_n 1, 1) := by decide +kernel
theorem dX4_isFrom0To_6 : decode cX4_isFrom0To 6 = .ok (.if_icmp .gt 7, 3) := by decide +kernel
theorem dX4_isFrom0To_9 : decode cX4_isFrom0To 9 = .ok (.iconst 1, 1) := by decide +kernel
theorem dX4_isFrom0To_10 : decode cX4_isFrom0To 10 = .ok (.goto 4, 3) := by decide +kernel
theorem dX4_isFrom0To_13 : decode cX4_isFrom0To 13 = .ok (.iconst 0, 1) := by decide +kernel
theorem dX4_isFrom0To_14 : decode cX4_isFrom0To 14 = .ok (.ireturn, 1) := by decide +kernel
theorem dX4_numberIn_0 : decode cX4_numberIn 0 = .ok (.iload_n 1, 1) := by decide +kernel
theorem dX4_numberIn_1 : decode cX4_numberIn 1 = .ok (.ifCond .lt 15, 3) := by decide +kernel
theorem dX4_numberIn_4 : decode cX4_numberIn 4 = .ok (.iload_n 1, 1) := by decide +kernel
theorem dX4_numberIn_5 : decode cX4_numberIn 5 = .ok (.aload_n 0, 1) := by decide +kernel
theorem dX4_numberIn_6 : decode cX4_numberIn 6 = .ok (.arraylength, 1) := by decide +kernel
theorem dX4_numberIn_7 : decode cX4_numberIn 7 = .ok (.if_icmp .ge 9, 3) := by decide +kernel
theorem dX4_numberIn_10 : decode cX4_numberIn 10 = .ok (.aload_n 0, 1) := by decide +kernel
theorem dX4_numberIn_11 : decode cX4_numberIn 11 = .ok (.iload_n 1, 1) := by decide +kernel
theorem dX4_numberIn_12 : decode cX4_numberIn 12 = .ok (.iaload, 1) := by decide +kernel
theorem dX4_numberIn_13 : decode cX4_numberIn 13 = .ok (.goto 4, 3) := by decide +kernel
theorem dX4_numberIn_16 : decode cX4_numberIn 16 = .ok (.iconst 0, 1) := by decide +kernel
theorem dX4_numberIn_17 : decode cX4_numberIn 17 = .ok (.ireturn, 1) := by decide +kernel
theorem dX4_changeIn_0 : decode cX4_changeIn 0 = .ok (.iload_n 1, 1) := by decide +kernel
theorem dX4_changeIn_1 : decode cX4_changeIn 1 = .ok (.ifCond .lt 13, 3) := by decide +kernel
theorem dX4_changeIn_4 : decode cX4_changeIn 4 = .ok (.iload_n 1, 1) := by decide +kernel
theorem dX4_changeIn_5 : decode cX4_changeIn 5 = .ok (.aload_n 0, 1) := by decide +kernel
theorem dX4_changeIn_6 : decode cX4_changeIn 6 = .ok (.arraylength, 1) := by decide +kernel
theorem dX4_changeIn_7 : decode cX4_changeIn 7 = .ok (.if_icmp .ge 7, 3) := by decide +kernel
theorem dX4_changeIn_10 : decode cX4_changeIn 10 = .ok (.aload_n 0, 1) := by decide +kernel
theorem dX4_changeIn_11 : decode cX4_changeIn 11 = .ok (.iload_n 1, 1) := by decide +kernel
theorem dX4_changeIn_12 : decode cX4_changeIn 12 = .ok (.iload_n 2, 1) := by decide +kernel
theorem dX4_changeIn_13 : decode cX4_changeIn 13 = .ok (.iastore, 1) := by decide +kernel
theorem dX4_changeIn_14 : decode cX4_changeIn 14 = .ok (.return_, 1) := by decide +kernel
theorem dX5_init_0 : decode cX5_init 0 = .ok (.aload_n 0, 1) := by decide +kernel
theorem dX5_init_1 : decode cX5_init 1 = .ok (.invokespecial 1, 3) := by decide +kernel
theorem dX5_init_4 : decode cX5_init 4 = .ok (.aload_n 0, 1) := by decide +kernel
theorem dX5_init_5 : decode cX5_init 5 = .ok (.bipush 6, 2) := by decide +kernel
theorem dX5_init_7 : decode cX5_init 7 = .ok (.newarray .int, 2) := by decide +kernel
theorem dX5_init_9 : decode cX5_init 9 = .ok (.putfield 7, 3) := by decide +kernel
theorem dX5_init_12 : decode cX5_init 12 = .ok (.aload_n 0, 1) := by decide +kernel
theorem dX5_init_13 : decode cX5_init 13 = .ok (.iconst 4, 1) := by decide +kernel
theorem dX5_init_14 : decode cX5_init 14 = .ok (.newarray .int, 2) := by decide +kernel
theorem dX5_init_16 : decode cX5_init 16 = .ok (.putfield 13, 3) := by decide +kernel
theorem dX5_init_19 : decode cX5_init 19 = .ok (.aload_n 0, 1) := by decide +kernel
theorem dX5_init_20 : decode cX5_init 20 = .ok (.iconst 4, 1) := by decide +kernel
theorem dX5_init_21 : decode cX5_init 21 = .ok (.newarray .int, 2) := by decide +kernel
theorem dX5_init_23 : decode cX5_init 23 = .ok (.putfield 16, 3) := by decide +kernel
theorem dX5_init_26 : decode cX5_init 26 = .ok (.aload_n 0, 1) := by decide +kernel
theorem dX5_init_27 : decode cX5_init 27 = .ok (.iconst 4, 1) := by decide +kernel
theorem dX5_init_28 : decode cX5_init 28 = .ok (.newarray .int, 2) := by decide +kernel
theorem dX5_init_30 : decode cX5_init 30 = .ok (.putfield 19, 3) := by decide +kernel
theorem dX5_init_33 : decode cX5_init 33 = .ok (.aload_n 0, 1) := by decide +kernel
theorem dX5_init_34 : decode cX5_init 34 = .ok (.iconst 4, 1) := by decide +kernel
theorem dX5_init_35 : decode cX5_init 35 = .ok (.newarray .int, 2) := by decide +kernel
theorem dX5_init_37 : decode cX5_init 37 = .ok (.putfield 22, 3) := by decide +kernel
theorem dX5_init_40 : decode cX5_init 40 = .ok (.aload_n 0, 1) := by decide +kernel
theorem dX5_init_41 : decode cX5_init 41 = .ok (.bipush (-9), 2) := by decide +kernel
theorem dX5_init_43 : decode cX5_init 43 = .ok (.putfield 25, 3) := by decide +kernel
theorem dX5_init_46 : decode cX5_init 46 = .ok (.aload_n 0, 1) := by decide +kernel
theorem dX5_init_47 : decode cX5_init 47 = .ok (.bipush 6, 2) := by decide +kernel
theorem dX5_init_49 : decode cX5_init 49 = .ok (.newarray .int, 2) := by decide +kernel
theorem dX5_init_51 : decode cX5_init 51 = .ok (.putfield 29, 3) := by decide +kernel
theorem dX5_init_54 : decode cX5_init 54 = .ok (.aload_n 0, 1) := by decide +kernel
theorem dX5_init_55 : decode cX5_init 55 = .ok (.iconst 4, 1) := by decide +kernel
theorem dX5_init_56 : decode cX5_init 56 = .ok (.newarray .int, 2) := by decide +kernel
theorem dX5_init_58 : decode cX5_init 58 = .ok (.putfield 32, 3) := by decide +kernel
theorem dX5_init_61 : decode cX5_init 61 = .ok (.aload_n 0, 1) := by decide +kernel
theorem dX5_init_62 : decode cX5_init 62 = .ok (.iconst 4, 1) := by decide +kernel
theorem dX5_init_63 : decode cX5_init 63 = .ok (.newarray .int, 2) := by decide +kernel
theorem dX5_init_65 : decode cX5_init 65 = .ok (.putfield 35, 3) := by decide +kernel
theorem dX5_init_68 : decode cX5_init 68 = .ok (.aload_n 0, 1) := by decide +kernel
theorem dX5_init_69 : decode cX5_init 69 = .ok (.iconst 4, 1) := by decide +kernel
theorem dX5_init_70 : decode cX5_init 70 = .ok (.newarray .int, 2) := by decide +kernel
theorem dX5_init_72 : decode cX5_init 72 = .ok (.putfield 38, 3) := by decide +kernel
theorem dX5_init_75 : decode cX5_init 75 = .ok (.aload_n 0, 1) := by decide +kernel
theorem dX5_init_76 : decode cX5_init 76 = .ok (.iconst 4, 1) := by decide +kernel
theorem dX5_init_77 : decode cX5_init 77 = .ok (.newarray .int, 2) := by decide +kernel
theorem dX5_init_79 : decode cX5_init 79 = .ok (.putfield 41, 3) := by decide +kernel
theorem dX5_init_82 : decode cX5_init 82 = .ok (.aload_n 0, 1) := by decide +kernel
theorem dX5_init_83 : decode cX5_init 83 = .ok (.bipush 8, 2) := by decide +kernel
theorem dX5_init_85 : decode cX5_init 85 = .ok (.newarray .int, 2) := by decide +kernel
theorem dX5_init_87 : decode cX5_init 87 = .ok (.putfield 44, 3) := by decide +kernel
theorem dX5_init_90 : decode cX5_init 90 = .ok (.aload_n 0, 1) := by decide +kernel
theorem dX5_init_91 : decode cX5_init 91 = .ok (.bipush 8, 2) := by decide +kernel
theorem dX5_init_93 : decode cX5_init 93 = .ok (.newarray .int, 2) := by decide +kernel
theorem dX5_init_95 : decode cX5_init 95 = .ok (.putfield 47, 3) := by decide +kernel
theorem dX5_init_98 : decode cX5_init 98 = .ok (.aload_n 0, 1) := by decide +kernel
theorem dX5_init_99 : decode cX5_init 99 = .ok (.bipush 8, 2) := by decide +kernel
theorem dX5_init_101 : decode cX5_init 101 = .ok (.newarray .int, 2) := by decide +kernel
theorem dX5_init_103 : decode cX5_init 103 = .ok (.putfield 50, 3) := by decide +kernel
theorem dX5_init_106 : decode cX5_init 106 = .ok (.aload_n 0, 1) := by decide +kernel
theorem dX5_init_107 : decode cX5_init 107 = .ok (.bipush 8, 2) := by decide +kernel
theorem dX5_init_109 : decode cX5_init 109 = .ok (.newarray .boolean, 2) := by decide +kernel
theorem dX5_init_111 : decode cX5_init 111 = .ok (.putfield 53, 3) := by decide +kernel
theorem dX5_init_114 : decode cX5_init 114 = .ok (.aload_n 0, 1) := by decide +kernel
theorem dX5_init_115 : decode cX5_init 115 = .ok (.iconst 4, 1) := by decide +kernel
theorem dX5_init_116 : decode cX5_init 116 = .ok (.newarray .int, 2) := by decide +kernel
theorem dX5_init_118 : decode cX5_init 118 = .ok (.putfield 57, 3) := by decide +kernel
theorem dX5_init_121 : decode cX5_init 121 = .ok (.aload_n 0, 1) := by decide +kernel
theorem dX5_init_122 : decode cX5_init 122 = .ok (.iconst 4, 1) := by decide +kernel
theorem dX5_init_123 : decode cX5_init 123 = .ok (.newarray .int, 2) := by decide +kernel
theorem dX5_init_125 : decode cX5_init 125 = .ok (.putfield 60, 3) := by decide +kernel
theorem dX5_init_128 : decode cX5_init 128 = .ok (.aload_n 0, 1) := by decide +kernel
theorem dX5_init_129 : decode cX5_init 129 = .ok (.sipush 240, 3) := by decide +kernel
theorem dX5_init_132 : decode cX5_init 132 = .ok (.newarray .int, 2) := by decide +kernel
theorem dX5_init_134 : decode cX5_init 134 = .ok (.putfield 63, 3) := by decide +kernel
theorem dX5_init_137 : decode cX5_init 137 = .ok (.aload_n 0, 1) := by decide +kernel
theorem dX5_init_138 : decode cX5_init 138 = .ok (.bipush 60, 2) := by decide +kernel
theorem dX5_init_140 : decode cX5_init 140 = .ok (.newarray .int, 2) := by decide +kernel
theorem dX5_init_142 : decode cX5_init 142 = .ok (.putfield 66, 3) := by decide +kernel
theorem dX5_init_145 : decode cX5_init 145 = .ok (.iconst 0, 1) := by decide +kernel
theorem dX5_init_146 : decode cX5_init 146 = .ok (.istore_n 1, 1) := by decide +kernel
theorem dX5_init_147 : decode cX5_init 147 = .ok (.iload_n 1, 1) := by decide +kernel
theorem dX5_init_148 : decode cX5_init 148 = .ok (.iconst 4, 1) := by decide +kernel
theorem dX5_init_149 : decode cX5_init 149 = .ok (.if_icmp .ge 16, 3) := by decide +kernel
theorem dX5_init_152 : decode cX5_init 152 = .ok (.aload_n 0, 1) := by decide +kernel
theorem dX5_init_153 : decode cX5_init 153 = .ok (.getfield 57, 3) := by decide +kernel
theorem dX5_init_156 : decode cX5_init 156 = .ok (.iload_n 1, 1) := by decide +kernel
theorem dX5_init_157 : decode cX5_init 157 = .ok (.iconst (-1), 1) := by decide +kernel
theorem dX5_init_158 : decode cX5_init 158 = .ok (.iastore, 1) := by decide +kernel
theorem dX5_init_159 : decode cX5_init 159 = .ok (.iinc 1 1, 3) := by decide +kernel
theorem dX5_init_162 : decode cX5_init 162 = .ok (.goto (-15), 3) := by decide +kernel
theorem dX5_init_165 : decode cX5_init 165 = .ok (.return_, 1) := by decide +kernel
theorem dX5_in_0 : decode cX5_in 0 = .ok (.lload_n 0, 1) := by decide +kernel
theorem dX5_in_1 : decode cX5_in 1 = .ok (.lload_n 2, 1) := by decide +kernel
theorem dX5_in_2 : decode cX5_in 2 = .ok (.lcmp, 1) := by decide +kernel
theorem dX5_in_3 : decode cX5_in 3 = .ok (.ifCond .lt 14, 3) := by decide +kernel
theorem dX5_in_6 : decode cX5_in 6 = .ok (.lload_n 0, 1) := by decide +kernel
theorem dX5_in_7 : decode cX5_in 7 = .ok (.lload 4, 2) := by decide +kernel
theorem dX5_in_9 : decode cX5_in 9 = .ok (.lcmp, 1) := by decide +kernel
theorem dX5_in_10 : decode cX5_in 10 = .ok (.ifCond .gt 7, 3) := by decide +kernel
theorem dX5_in_13 : decode cX5_in 13 = .ok (.iconst 1, 1) := by decide +kernel
theorem dX5_in_14 : decode cX5_in 14 = .ok (.goto 4, 3) := by decide +kernel
theorem dX5_in_17 : decode cX5_in 17 = .ok (.iconst 0, 1) := by decide +kernel
theorem dX5_in_18 : decode cX5_in 18 = .ok (.ireturn, 1) := by decide +kernel
theorem dX5_lost_0 : decode cX5_lost 0 = .ok (.ldc2_w 69, 3) := by decide +kernel
theorem dX5_lost_3 : decode cX5_lost 3 = .ok (.lreturn, 1) := by decide +kernel
theorem dX5_isIn_0 : decode cX5_isIn 0 = .ok (.iload_n 0, 1) := by decide +kernel
theorem dX5_isIn_1 : decode cX5_isIn 1 = .ok (.iload_n 1, 1) := by decide +kernel
theorem dX5_isIn_2 : decode cX5_isIn 2 = .ok (.ishr, 1) := by decide +kernel
theorem dX5_isIn_3 : decode cX5_isIn 3 = .ok (.iconst 1, 1) := by decide +kernel
theorem dX5_isIn_4 : decode cX5_isIn 4 = .ok (.iand, 1) := by decide +kernel
theorem dX5_isIn_5 : decode cX5_isIn 5 = .ok (.iconst 1, 1) := by decide +kernel
theorem dX5_isIn_6 : decode cX5_isIn 6 = .ok (.if_icmp .ne 7, 3) := by decide +kernel
theorem dX5_isIn_9 : decode cX5_isIn 9 = .ok (.iconst 1, 1) := by decide +kernel
theorem dX5_isIn_10 : decode cX5_isIn 10 = .ok (.goto 4, 3) := by decide +kernel
theorem dX5_isIn_13 : decode cX5_isIn 13 = .ok (.iconst 0, 1) := by decide +kernel
theorem dX5_isIn_14 : decode cX5_isIn 14 = .ok (.ireturn, 1) := by decide +kernel
theorem dX5_bits_0 : decode cX5_bits 0 = .ok (.iconst 0, 1) := by decide +kernel
theorem dX5_bits_1 : decode cX5_bits 1 = .ok (.istore_n 1, 1) := by decide +kernel
theorem dX5_bits_2 : decode cX5_bits 2 = .ok (.iload_n 0, 1) := by decide +kernel
theorem dX5_bits_3 : decode cX5_bits 3 = .ok (.istore_n 2, 1) := by decide +kernel
theorem dX5_bits_4 : decode cX5_bits 4 = .ok (.iload_n 2, 1) := by decide +kernel
theorem dX5_bits_5 : decode cX5_bits 5 = .ok (.ifCond .le 16, 3) := by decide +kernel
theorem dX5_bits_8 : decode cX5_bits 8 = .ok (.iload_n 1, 1) := by decide +kernel
theorem dX5_bits_9 : decode cX5_bits 9 = .ok (.iload_n 2, 1) := by decide +kernel
theorem dX5_bits_10 : decode cX5_bits 10 = .ok (.iconst 1, 1) := by decide +kernel
theorem dX5_bits_11 : decode cX5_bits 11 = .ok (.iand, 1) := by decide +kernel
theorem dX5_bits_12 : decode cX5_bits 12 = .ok (.iadd, 1) := by decide +kernel
theorem dX5_bits_13 : decode cX5_bits 13 = .ok (.istore_n 1, 1) := by decide +kernel
theorem dX5_bits_14 : decode cX5_bits 14 = .ok (.iload_n 2, 1) := by decide +kernel
theorem dX5_bits_15 : decode cX5_bits 15 = .ok (.iconst 1, 1) := by decide +kernel
theorem dX5_bits_16 : decode cX5_bits 16 = .ok (.ishr, 1) := by decide +kernel
theorem dX5_bits_17 : decode cX5_bits 17 = .ok (.istore_n 2, 1) := by decide +kernel
theorem dX5_bits_18 : decode cX5_bits 18 = .ok (.goto (-14), 3) := by decide +kernel
theorem dX5_bits_21 : decode cX5_bits 21 = .ok (.iload_n 1, 1) := by decide +kernel
theorem dX5_bits_22 : decode cX5_bits 22 = .ok (.ireturn, 1) := by decide +kernel
theorem dX5_share_0 : decode cX5_share 0 = .ok (.lload_n 0, 1) := by decide +kernel
theorem dX5_share_1 : decode cX5_share 1 = .ok (.lstore 5, 2) := by decide +kernel
theorem dX5_share_3 : decode cX5_share 3 = .ok (.lload_n 2, 1) := by decide +kernel
theorem dX5_share_4 : decode cX5_share 4 = .ok (.lstore 7, 2) := by decide +kernel
theorem dX5_share_6 : decode cX5_share 6 = .ok (.lload 7, 2) := by decide +kernel
theorem dX5_share_8 : decode cX5_share 8 = .ok (.lconst 0, 1) := by decide +kernel
theorem dX5_share_9 : decode cX5_share 9 = .ok (.lcmp, 1) := by decide +kernel
theorem dX5_share_10 : decode cX5_share 10 = .ok (.ifCond .eq 21, 3) := by decide +kernel
theorem dX5_share_13 : decode cX5_share 13 = .ok (.lload 5, 2) := by decide +kernel
theorem dX5_share_15 : decode cX5_share 15 = .ok (.lload 7, 2) := by decide +kernel
theorem dX5_share_17 : decode cX5_share 17 = .ok (.lrem, 1) := by decide +kernel
theorem dX5_share_18 : decode cX5_share 18 = .ok (.lstore 9, 2) := by decide +kernel
theorem dX5_share_20 : decode cX5_share 20 = .ok (.lload 7, 2) := by decide +kernel
theorem dX5_share_22 : decode cX5_share 22 = .ok (.lstore 5, 2) := by decide +kernel
theorem dX5_share_24 : decode cX5_share 24 = .ok (.lload 9, 2) := by decide +kernel
theorem dX5_share_26 : decode cX5_share 26 = .ok (.lstore 7, 2) := by decide +kernel
theorem dX5_share_28 : decode cX5_share 28 = .ok (.goto (-22), 3) := by decide +kernel
theorem dX5_share_31 : decode cX5_share 31 = .ok (.iload 4, 2) := by decide +kernel
theorem dX5_share_33 : decode cX5_share 33 = .ok (.ifCond .ne 7, 3) := by decide +kernel
theorem dX5_share_36 : decode cX5_share 36 = .ok (.lload_n 0, 1) := by decide +kernel
theorem dX5_share_37 : decode cX5_share 37 = .ok (.goto 4, 3) := by decide +kernel
theorem dX5_share_40 : decode cX5_share 40 = .ok (.lload_n 2, 1) := by decide +kernel
theorem dX5_share_41 : decode cX5_share 41 = .ok (.lload 5, 2) := by decide +kernel
theorem dX5_share_43 : decode cX5_share 43 = .ok (.ldiv, 1) := by decide +kernel
theorem dX5_share_44 : decode cX5_share 44 = .ok (.lreturn, 1) := by decide +kernel
theorem dX5_refused_0 : decode cX5_refused 0 = .ok (.aload_n 0, 1) := by decide +kernel
theorem dX5_refused_1 : decode cX5_refused 1 = .ok (.iconst 0, 1) := by decide +kernel
theorem dX5_refused_2 : decode cX5_refused 2 = .ok (.putfield 71, 3) := by decide +kernel
theorem dX5_refused_5 : decode cX5_refused 5 = .ok (.iload_n 1, 1) := by decide +kernel
theorem dX5_refused_6 : decode cX5_refused 6 = .ok (.ireturn, 1) := by decide +kernel
theorem dX5_failed_0 : decode cX5_failed 0 = .ok (.aload_n 0, 1) := by decide +kernel
theorem dX5_failed_1 : decode cX5_failed 1 = .ok (.iload_n 1, 1) := by decide +kernel
theorem dX5_failed_2 : decode cX5_failed 2 = .ok (.putfield 71, 3) := by decide +kernel
theorem dX5_failed_5 : decode cX5_failed 5 = .ok (.bipush (-10), 2) := by decide +kernel
theorem dX5_failed_7 : decode cX5_failed 7 = .ok (.iload_n 1, 1) := by decide +kernel
theorem dX5_failed_8 : decode cX5_failed 8 = .ok (.isub, 1) := by decide +kernel
theorem dX5_failed_9 : decode cX5_failed 9 = .ok (.ireturn, 1) := by decide +kernel
set_option maxRecDepth 20000 in
theorem ggX5_failedLong_X5_lost : GoodIn wsX5_failedLong wsX5_lost := goodIn_r _ [5, 6] (by decide +kernel) (by decide +kernel)
set_option maxRecDepth 20000 in
theorem gX5_failedLong_X5_lost : GoodIn wsX5_failedLong (va_wsS RX5 74 yX5_lost wsX5_lost) := goodIn_app (goodIn_of _ (by decide +kernel)) ggX5_failedLong_X5_lost
theorem dX5_failedLong_0 : decode cX5_failedLong 0 = .ok (.aload_n 0, 1) := by decide +kernel
theorem dX5_failedLong_1 : decode cX5_failedLong 1 = .ok (.iload_n 1, 1) := by decide +kernel
theorem dX5_failedLong_2 : decode cX5_failedLong 2 = .ok (.putfield 71, 3) := by decide +kernel
theorem dX5_failedLong_5 : decode cX5_failedLong 5 = .ok (.invokestatic 74, 3) := by decide +kernel
theorem dX5_failedLong_8 : decode cX5_failedLong 8 = .ok (.lreturn, 1) := by decide +kernel
set_option maxRecDepth 20000 in
theorem ggX5_noDay_X5_in : GoodIn wsX5_noDay wsX5_in := goodIn_r _ [5] (by decide +kernel) (by decide +kernel)
set_option maxRecDepth 20000 in
theorem gX5_noDay_X5_in : GoodIn wsX5_noDay (va_wsS RX5 81 yX5_in wsX5_in) := goodIn_app (goodIn_of _ (by decide +kernel)) ggX5_noDay_X5_in
theorem dX5_noDay_0 : decode cX5_noDay 0 = .ok (.iload_n 1, 1) := by decide +kernel
theorem dX5_noDay_1 : decode cX5_noDay 1 = .ok (.i2l, 1) := by decide +kernel
theorem dX5_noDay_2 : decode cX5_noDay 2 = .ok (.lconst 0, 1) := by decide +kernel
theorem dX5_noDay_3 : decode cX5_noDay 3 = .ok (.aload_n 0, 1) := by decide +kernel
theorem dX5_noDay_4 : decode cX5_noDay 4 = .ok (.getfield 78, 3) := by decide +kernel
theorem dX5_noDay_7 : decode cX5_noDay 7 = .ok (.i2l, 1) := by decide +kernel
theorem dX5_noDay_8 : decode cX5_noDay 8 = .ok (.lconst 1, 1) := by decide +kernel
theorem dX5_noDay_9 : decode cX5_noDay 9 = .ok (.lsub, 1) := by decide +kernel
theorem dX5_noDay_10 : decode cX5_noDay 10 = .ok (.invokestatic 81, 3) := by decide +kernel
theorem dX5_noDay_13 : decode cX5_noDay 13 = .ok (.ifCond .ne 7, 3) := by decide +kernel
theorem dX5_noDay_16 : decode cX5_noDay 16 = .ok (.iconst 1, 1) := by decide +kernel
theorem dX5_noDay_17 : decode cX5_noDay 17 = .ok (.goto 4, 3) := by decide +kernel
theorem dX5_noDay_20 : decode cX5_noDay 20 = .ok (.iconst 0, 1) := by decide +kernel
theorem dX5_noDay_21 : decode cX5_noDay 21 = .ok (.ireturn, 1) := by decide +kernel
set_option maxRecDepth 20000 in
theorem ggX5_noEater_X5_in : GoodIn wsX5_noEater wsX5_in := goodIn_r _ [5] (by decide +kernel) (by decide +kernel)
set_option maxRecDepth 20000 in
theorem gX5_noEater_X5_in : GoodIn wsX5_noEater (va_wsS RX5 81 yX5_in wsX5_in) := goodIn_app (goodIn_of _ (by decide +kernel)) ggX5_noEater_X5_in
theorem dX5_noEater_0 : decode cX5_noEater 0 = .ok (.iload_n 1, 1) := by decide +kernel
theorem dX5_noEater_1 : decode cX5_noEater 1 = .ok (.i2l, 1) := by decide +kernel
theorem dX5_noEater_2 : decode cX5_noEater 2 = .ok (.lconst 0, 1) := by decide +kernel
theorem dX5_noEater_3 : decode cX5_noEater 3 = .ok (.aload_n 0, 1) := by decide +kernel
theorem dX5_noEater_4 : decode cX5_noEater 4 = .ok (.getfield 85, 3) := by decide +kernel
theorem dX5_noEater_7 : decode cX5_noEater 7 = .ok (.i2l, 1) := by decide +kernel
theorem dX5_noEater_8 : decode cX5_noEater 8 = .ok (.lconst 1, 1) := by decide +kernel
theorem dX5_noEater_9 : decode cX5_noEater 9 = .ok (.lsub, 1) := by decide +kernel
theorem dX5_noEater_10 : decode cX5_noEater 10 = .ok (.invokestatic 81, 3) := by decide +kernel
theorem dX5_noEater_13 : decode cX5_noEater 13 = .ok (.ifCond .ne 7, 3) := by decide +kernel
theorem dX5_noEater_16 : decode cX5_noEater 16 = .ok (.iconst 1, 1) := by decide +kernel
theorem dX5_noEater_17 : decode cX5_noEater 17 = .ok (.goto 4, 3) := by decide +kernel
theorem dX5_noEater_20 : decode cX5_noEater 20 = .ok (.iconst 0, 1) := by decide +kernel
theorem dX5_noEater_21 : decode cX5_noEater 21 = .ok (.ireturn, 1) := by decide +kernel
set_option maxRecDepth 20000 in
theorem ggX5_noSet_X5_in : GoodIn wsX5_noSet wsX5_in := goodIn_r _ [5] (by decide +kernel) (by decide +kernel)
set_option maxRecDepth 20000 in
theorem gX5_noSet_X5_in : GoodIn wsX5_noSet (va_wsS RX5 81 yX5_in wsX5_in) := goodIn_app (goodIn_of _ (by decide +kernel)) ggX5_noSet_X5_in
theorem dX5_noSet_0 : decode cX5_noSet 0 = .ok (.iload_n 1, 1) := by decide +kernel
theorem dX5_noSet_1 : decode cX5_noSet 1 = .ok (.i2l, 1) := by decide +kernel
theorem dX5_noSet_2 : decode cX5_noSet 2 = .ok (.lconst 0, 1) := by decide +kernel
theorem dX5_noSet_3 : decode cX5_noSet 3 = .ok (.iconst 1, 1) := by decide +kernel
theorem dX5_noSet_4 : decode cX5_noSet 4 = .ok (.aload_n 0, 1) := by decide +kernel
theorem dX5_noSet_5 : decode cX5_noSet 5 = .ok (.getfield 78, 3) := by decide +kernel
theorem dX5_noSet_8 : decode cX5_noSet 8 = .ok (.ishl, 1) := by decide +kernel
theorem dX5_noSet_9 : decode cX5_noSet 9 = .ok (.i2l, 1) := by decide +kernel
theorem dX5_noSet_10 : decode cX5_noSet 10 = .ok (.lconst 1, 1) := by decide +kernel
theorem dX5_noSet_11 : decode cX5_noSet 11 = .ok (.lsub, 1) := by decide +kernel
theorem dX5_noSet_12 : decode cX5_noSet 12 = .ok (.invokestatic 81, 3) := by decide +kernel
theorem dX5_noSet_15 : decode cX5_noSet 15 = .ok (.ifCond .ne 7, 3) := by decide +kernel
theorem dX5_noSet_18 : decode cX5_noSet 18 = .ok (.iconst 1, 1) := by decide +kernel
theorem dX5_noSet_19 : decode cX5_noSet 19 = .ok (.goto 4, 3) := by decide +kernel
theorem dX5_noSet_22 : decode cX5_noSet 22 = .ok (.iconst 0, 1) := by decide +kernel
theorem dX5_noSet_23 : decode cX5_noSet 23 = .ok (.ireturn, 1) := by decide +kernel
theorem dX5_codeAt_0 : decode cX5_codeAt 0 = .ok (.aload_n 0, 1) := by decide +kernel
theorem dX5_codeAt_1 : decode cX5_codeAt 1 = .ok (.getfield 88, 3) := by decide +kernel
theorem dX5_codeAt_4 : decode cX5_codeAt 4 = .ok (.iload_n 2, 1) := by decide +kernel
theorem dX5_codeAt_5 : decode cX5_codeAt 5 = .ok (.if_icmp .ge 17, 3) := by decide +kernel
theorem dX5_codeAt_8 : decode cX5_codeAt 8 = .ok (.aload_n 0, 1) := by decide +kernel
theorem dX5_codeAt_9 : decode cX5_codeAt 9 = .ok (.getfield 63, 3) := by decide +kernel
theorem dX5_codeAt_12 : decode cX5_codeAt 12 = .ok (.iload_n 1, 1) := by decide +kernel
theorem dX5_codeAt_13 : decode cX5_codeAt 13 = .ok (.aload_n 0, 1) := by decide +kernel
theorem dX5_codeAt_14 : decode cX5_codeAt 14 = .ok (.getfield 88, 3) := by decide +kernel
theorem dX5_codeAt_17 : decode cX5_codeAt 17 = .ok (.iadd, 1) := by decide +kernel
theorem dX5_codeAt_18 : decode cX5_codeAt 18 = .ok (.iaload, 1) := by decide +kernel
theorem dX5_codeAt_19 : decode cX5_codeAt 19 = .ok (.goto 5, 3) := by decide +kernel
theorem dX5_codeAt_22 : decode cX5_codeAt 22 = .ok (.bipush (-9), 2) := by decide +kernel
theorem dX5_codeAt_24 : decode cX5_codeAt 24 = .ok (.ireturn, 1) := by decide +kernel
set_option maxRecDepth 20000 in
theorem ggX5_figure_X5_codeAt : GoodIn wsX5_figure wsX5_codeAt := goodIn_r _ [6, 1, 7, 11, 12, 13, 14, 15, 16, 17, 18, 19, 20, 21, 22, 23, 24, 25, 26, 27, 28, 29, 30, 31, 32, 33, 34, 35, 36, 37, 38, 39] (by decide +kernel) (by decide +kernel)
set_option maxRecDepth 20000 in
theorem gX5_figure_X5_codeAt : GoodIn wsX5_figure (wsV RX5 91 RX5 yX5_codeAt wsX5_codeAt) := goodIn_app (goodIn_of _ (by decide +kernel)) ggX5_figure_X5_codeAt
set_option maxRecDepth 20000 in
theorem ggX5_figure_X5_in : GoodIn wsX5_figure wsX5_in := goodIn_r _ [10] (by decide +kernel) (by decide +kernel)
set_option maxRecDepth 20000 in
theorem gX5_figure_X5_in : GoodIn wsX5_figure (va_wsS RX5 81 yX5_in wsX5_in) := goodIn_app (goodIn_of _ (by decide +kernel)) ggX5_figure_X5_in
theorem dX5_figure_0 : decode cX5_figure 0 = .ok (.aload_n 0, 1) := by decide +kernel
theorem dX5_figure_1 : decode cX5_figure 1 = .ok (.iload_n 1, 1) := by decide +kernel
theorem dX5_figure_2 : decode cX5_figure 2 = .ok (.iload_n 2, 1) := by decide +kernel
theorem dX5_figure_3 : decode cX5_figure 3 = .ok (.invokevirtual 91, 3) := by decide +kernel
theorem dX5_figure_6 : decode cX5_figure 6 = .ok (.bipush 48, 2) := by decide +kernel
theorem dX5_figure_8 : decode cX5_figure 8 = .ok (.isub, 1) := by decide +kernel
theorem dX5_figure_9 : decode cX5_figure 9 = .ok (.istore 5, 2) := by decide +kernel
theorem dX5_figure_11 : decode cX5_figure 11 = .ok (.iload 5, 2) := by decide +kernel
theorem dX5_figure_13 : decode cX5_figure 13 = .ok (.i2l, 1) := by decide +kernel
theorem dX5_figure_14 : decode cX5_figure 14 = .ok (.iload_n 3, 1) := by decide +kernel
theorem dX5_figure_15 : decode cX5_figure 15 = .ok (.i2l, 1) := by decide +kernel
theorem dX5_figure_16 : decode cX5_figure 16 = .ok (.iload 4, 2) := by decide +kernel
theorem dX5_figure_18 : decode cX5_figure 18 = .ok (.i2l, 1) := by decide +kernel
theorem dX5_figure_19 : decode cX5_figure 19 = .ok (.invokestatic 81, 3) := by decide +kernel
theorem dX5_figure_22 : decode cX5_figure 22 = .ok (.istore 6, 2) := by decide +kernel
theorem dX5_figure_24 : decode cX5_figure 24 = .ok (.aload_n 0, 1) := by decide +kernel
theorem dX5_figure_25 : decode cX5_figure 25 = .ok (.dup, 1) := by decide +kernel
theorem dX5_figure_26 : decode cX5_figure 26 = .ok (.getfield 88, 3) := by decide +kernel
theorem dX5_figure_29 : decode cX5_figure 29 = .ok (.iload 6, 2) := by decide +kernel
theorem dX5_figure_31 : decode cX5_figure 31 = .ok (.ifCond .eq 7, 3) := by decide +kernel
theorem dX5_figure_34 : decode cX5_figure 34 = .ok (.iconst 1, 1) := by decide +kernel
theorem dX5_figure_35 : decode cX5_figure 35 = .ok (.goto 4, 3) := by decide +kernel
theorem dX5_figure_38 : decode cX5_figure 38 = .ok (.iconst 0, 1) := by decide +kernel
theorem dX5_figure_39 : decode cX5_figure 39 = .ok (.iadd, 1) := by decide +kernel
theorem dX5_figure_40 : decode cX5_figure 40 = .ok (.putfield 88, 3) := by decide +kernel
theorem dX5_figure_43 : decode cX5_figure 43 = .ok (.iload 6, 2) := by decide +kernel
theorem dX5_figure_45 : decode cX5_figure 45 = .ok (.ifCond .eq 8, 3) := by decide +kernel
theorem dX5_figure_48 : decode cX5_figure 48 = .ok (.iload 5, 2) := by decide +kernel
theorem dX5_figure_50 : decode cX5_figure 50 = .ok (.goto 5, 3) := by decide +kernel
theorem dX5_figure_53 : decode cX5_figure 53 = .ok (.bipush (-9), 2) := by decide +kernel
theorem dX5_figure_55 : decode cX5_figure 55 = .ok (.ireturn, 1) := by decide +kernel
set_option maxRecDepth 20000 in
theorem ggX5_readsDays_X5_figure : GoodIn wsX5_readsDays wsX5_figure := goodIn_r _ [7, 8, 9, 10, 11, 6, 12, 13, 14, 15, 16, 17, 18, 19, 20, 21, 22, 23, 24, 25, 26, 27, 28, 29, 30, 31, 32, 33, 34, 35, 36, 37, 38, 39, 40, 41, 42, 43, 44, 45] (by decide +kernel) (by decide +kernel)
set_option maxRecDepth 20000 in
theorem gX5_readsDays_X5_figure : GoodIn wsX5_readsDays (wsV RX5 98 RX5 yX5_figure wsX5_figure) := goodIn_app (goodIn_of _ (by decide +kernel)) ggX5_readsDays_X5_figure
theorem dX5_readsDays_0 : decode cX5_readsDays 0 = .ok (.iconst 1, 1) := by decide +kernel
theorem dX5_readsDays_1 : decode cX5_readsDays 1 = .ok (.istore_n 3, 1) := by decide +kernel
theorem dX5_readsDays_2 : decode cX5_readsDays 2 = .ok (.aload_n 0, 1) := by decide +kernel
theorem dX5_readsDays_3 : decode cX5_readsDays 3 = .ok (.getfield 95, 3) := by decide +kernel
theorem dX5_readsDays_6 : decode cX5_readsDays 6 = .ok (.bipush 6, 2) := by decide +kernel
theorem dX5_readsDays_8 : decode cX5_readsDays 8 = .ok (.if_icmp .ge 57, 3) := by decide +kernel
theorem dX5_readsDays_11 : decode cX5_readsDays 11 = .ok (.iload_n 3, 1) := by decide +kernel
theorem dX5_readsDays_12 : decode cX5_readsDays 12 = .ok (.ifCond .eq 53, 3) := by decide +kernel
theorem dX5_readsDays_15 : decode cX5_readsDays 15 = .ok (.aload_n 0, 1) := by decide +kernel
theorem dX5_readsDays_16 : decode cX5_readsDays 16 = .ok (.iload_n 1, 1) := by decide +kernel
theorem dX5_readsDays_17 : decode cX5_readsDays 17 = .ok (.iload_n 2, 1) := by decide +kernel
theorem dX5_readsDays_18 : decode cX5_readsDays 18 = .ok (.iconst 0, 1) := by decide +kernel
theorem dX5_readsDays_19 : decode cX5_readsDays 19 = .ok (.bipush 9, 2) := by decide +kernel
theorem dX5_readsDays_21 : decode cX5_readsDays 21 = .ok (.invokevirtual 98, 3) := by decide +kernel
theorem dX5_readsDays_24 : decode cX5_readsDays 24 = .ok (.istore 4, 2) := by decide +kernel
theorem dX5_readsDays_26 : decode cX5_readsDays 26 = .ok (.iload 4, 2) := by decide +kernel
theorem dX5_readsDays_28 : decode cX5_readsDays 28 = .ok (.ifCond .lt 7, 3) := by decide +kernel
theorem dX5_readsDays_31 : decode cX5_readsDays 31 = .ok (.iconst 1, 1) := by decide +kernel
theorem dX5_readsDays_32 : decode cX5_readsDays 32 = .ok (.goto 4, 3) := by decide +kernel
theorem dX5_readsDays_35 : decode cX5_readsDays 35 = .ok (.iconst 0, 1) := by decide +kernel
theorem dX5_readsDays_36 : decode cX5_readsDays 36 = .ok (.istore_n 3, 1) := by decide +kernel
theorem dX5_readsDays_37 : decode cX5_readsDays 37 = .ok (.iload_n 3, 1) := by decide +kernel
theorem dX5_readsDays_38 : decode cX5_readsDays 38 = .ok (.ifCond .eq 24, 3) := by decide +kernel
theorem dX5_readsDays_41 : decode cX5_readsDays 41 = .ok (.aload_n 0, 1) := by decide +kernel
theorem dX5_readsDays_42 : decode cX5_readsDays 42 = .ok (.getfield 29, 3) := by decide +kernel
theorem dX5_readsDays_45 : decode cX5_readsDays 45 = .ok (.aload_n 0, 1) := by decide +kernel
theorem dX5_readsDays_46 : decode cX5_readsDays 46 = .ok (.getfield 95, 3) := by decide +kernel
theorem dX5_readsDays_49 : decode cX5_readsDays 49 = .ok (.iload 4, 2) := by decide +kernel
theorem dX5_readsDays_51 : decode cX5_readsDays 51 = .ok (.iastore, 1) := by decide +kernel
theorem dX5_readsDays_52 : decode cX5_readsDays 52 = .ok (.aload_n 0, 1) := by decide +kernel
theorem dX5_readsDays_53 : decode cX5_readsDays 53 = .ok (.dup, 1) := by decide +kernel
theorem dX5_readsDays_54 : decode cX5_readsDays 54 = .ok (.getfield 95, 3) := by decide +kernel
theorem dX5_readsDays_57 : decode cX5_readsDays 57 = .ok (.iconst 1, 1) := by decide +kernel
theorem dX5_readsDays_58 : decode cX5_readsDays 58 = .ok (.iadd, 1) := by decide +kernel
theorem dX5_readsDays_59 : decode cX5_readsDays 59 = .ok (.putfield 95, 3) := by decide +kernel
theorem dX5_readsDays_62 : decode cX5_readsDays 62 = .ok (.goto (-60), 3) := by decide +kernel
theorem dX5_readsDays_65 : decode cX5_readsDays 65 = .ok (.aload_n 0, 1) := by decide +kernel
theorem dX5_readsDays_66 : decode cX5_readsDays 66 = .ok (.getfield 95, 3) := by decide +kernel
theorem dX5_readsDays_69 : decode cX5_readsDays 69 = .ok (.ifCond .le 7, 3) := by decide +kernel
theorem dX5_readsDays_72 : decode cX5_readsDays 72 = .ok (.iconst 1, 1) := by decide +kernel
theorem dX5_readsDays_73 : decode cX5_readsDays 73 = .ok (.goto 4, 3) := by decide +kernel
theorem dX5_readsDays_76 : decode cX5_readsDays 76 = .ok (.iconst 0, 1) := by decide +kernel
theorem dX5_readsDays_77 : decode cX5_readsDays 77 = .ok (.ireturn, 1) := by decide +kernel
set_option maxRecDepth 20000 in
theorem ggX5_readsEater_X5_codeAt : GoodIn wsX5_readsEater wsX5_codeAt := goodIn_r _ [11, 2, 12, 20, 21, 22, 23, 24, 25, 26, 27, 28, 29, 30, 31, 32, 33, 34, 35, 36, 37, 38, 39, 40, 41, 42, 43, 44, 45, 46, 47, 48] (by decide +kernel) (by decide +kernel)
set_option maxRecDepth 20000 in
theorem gX5_readsEater_X5_codeAt : GoodIn wsX5_readsEater (wsV RX5 91 RX5 yX5_codeAt wsX5_codeAt) := goodIn_app (goodIn_of _ (by decide +kernel)) ggX5_readsEater_X5_codeAt
set_option maxRecDepth 20000 in
theorem ggX5_readsEater_X5_figure : GoodIn wsX5_readsEater wsX5_figure := goodIn_r _ [16, 2, 7, 8, 9, 10, 11, 12, 17, 18, 19, 20, 21, 22, 23, 24, 25, 26, 27, 28, 29, 30, 31, 32, 33, 34, 35, 36, 37, 38, 39, 40, 41, 42, 43, 44, 45, 46, 47, 48] (by decide +kernel) (by decide +kernel)
set_option maxRecDepth 20000 in
theorem gX5_readsEater_X5_figure : GoodIn wsX5_readsEater (wsV RX5 98 RX5 yX5_figure wsX5_figure) := goodIn_app (goodIn_of _ (by decide +kernel)) ggX5_readsEater_X5_figure
theorem dX5_readsEater_0 : decode cX5_readsEater 0 = .ok (.aload_n 0, 1) := by decide +kernel
theorem dX5_readsEater_1 : decode cX5_readsEater 1 = .ok (.getfield 102, 3) := by decide +kernel
theorem dX5_readsEater_4 : decode cX5_readsEater 4 = .ok (.iconst 4, 1) := by decide +kernel
theorem dX5_readsEater_5 : decode cX5_readsEater 5 = .ok (.if_icmp .eq 14, 3) := by decide +kernel
theorem dX5_readsEater_8 : decode cX5_readsEater 8 = .ok (.aload_n 0, 1) := by decide +kernel
theorem dX5_readsEater_9 : decode cX5_readsEater 9 = .ok (.iload_n 1, 1) := by decide +kernel
theorem dX5_readsEater_10 : decode cX5_readsEater 10 = .ok (.iload_n 2, 1) := by decide +kernel
theorem dX5_readsEater_11 : decode cX5_readsEater 11 = .ok (.invokevirtual 91, 3) := by decide +kernel
theorem dX5_readsEater_14 : decode cX5_readsEater 14 = .ok (.bipush 59, 2) := by decide +kernel
theorem dX5_readsEater_16 : decode cX5_readsEater 16 = .ok (.if_icmp .eq 5, 3) := by decide +kernel
theorem dX5_readsEater_19 : decode cX5_readsEater 19 = .ok (.iconst 0, 1) := by decide +kernel
theorem dX5_readsEater_20 : decode cX5_readsEater 20 = .ok (.ireturn, 1) := by decide +kernel
theorem dX5_readsEater_21 : decode cX5_readsEater 21 = .ok (.aload_n 0, 1) := by decide +kernel
theorem dX5_readsEater_22 : decode cX5_readsEater 22 = .ok (.dup, 1) := by decide +kernel
theorem dX5_readsEater_23 : decode cX5_readsEater 23 = .ok (.getfield 88, 3) := by decide +kernel
theorem dX5_readsEater_26 : decode cX5_readsEater 26 = .ok (.iconst 1, 1) := by decide +kernel
theorem dX5_readsEater_27 : decode cX5_readsEater 27 = .ok (.iadd, 1) := by decide +kernel
theorem dX5_readsEater_28 : decode cX5_readsEater 28 = .ok (.putfield 88, 3) := by decide +kernel
theorem dX5_readsEater_31 : decode cX5_readsEater 31 = .ok (.aload_n 0, 1) := by decide +kernel
theorem dX5_readsEater_32 : decode cX5_readsEater 32 = .ok (.iload_n 1, 1) := by decide +kernel
theorem dX5_readsEater_33 : decode cX5_readsEater 33 = .ok (.iload_n 2, 1) := by decide +kernel
theorem dX5_readsEater_34 : decode cX5_readsEater 34 = .ok (.invokevirtual 91, 3) := by decide +kernel
theorem dX5_readsEater_37 : decode cX5_readsEater 37 = .ok (.istore_n 3, 1) := by decide +kernel
theorem dX5_readsEater_38 : decode cX5_readsEater 38 = .ok (.iload_n 3, 1) := by decide +kernel
theorem dX5_readsEater_39 : decode cX5_readsEater 39 = .ok (.bipush 101, 2) := by decide +kernel
theorem dX5_readsEater_41 : decode cX5_readsEater 41 = .ok (.if_icmp .eq 17, 3) := by decide +kernel
theorem dX5_readsEater_44 : decode cX5_readsEater 44 = .ok (.iload_n 3, 1) := by decide +kernel
theorem dX5_readsEater_45 : decode cX5_readsEater 45 = .ok (.bipush 115, 2) := by decide +kernel
theorem dX5_readsEater_47 : decode cX5_readsEater 47 = .ok (.if_icmp .eq 11, 3) := by decide +kernel
theorem dX5_readsEater_50 : decode cX5_readsEater 50 = .ok (.iload_n 3, 1) := by decide +kernel
theorem dX5_readsEater_51 : decode cX5_readsEater 51 = .ok (.bipush 108, 2) := by decide +kernel
theorem dX5_readsEater_53 : decode cX5_readsEater 53 = .ok (.if_icmp .eq 5, 3) := by decide +kernel
theorem dX5_readsEater_56 : decode cX5_readsEater 56 = .ok (.iconst 0, 1) := by decide +kernel
theorem dX5_readsEater_57 : decode cX5_readsEater 57 = .ok (.ireturn, 1) := by decide +kernel
theorem dX5_readsEater_58 : decode cX5_readsEater 58 = .ok (.aload_n 0, 1) := by decide +kernel
theorem dX5_readsEater_59 : decode cX5_readsEater 59 = .ok (.dup, 1) := by decide +kernel
theorem dX5_readsEater_60 : decode cX5_readsEater 60 = .ok (.getfield 88, 3) := by decide +kernel
theorem dX5_readsEater_63 : decode cX5_readsEater 63 = .ok (.iconst 1, 1) := by decide +kernel
theorem dX5_readsEater_64 : decode cX5_readsEater 64 = .ok (.iadd, 1) := by decide +kernel
theorem dX5_readsEater_65 : decode cX5_readsEater 65 = .ok (.putfield 88, 3) := by decide +kernel
theorem dX5_readsEater_68 : decode cX5_readsEater 68 = .ok (.aload_n 0, 1) := by decide +kernel
theorem dX5_readsEater_69 : decode cX5_readsEater 69 = .ok (.iload_n 1, 1) := by decide +kernel
theorem dX5_readsEater_70 : decode cX5_readsEater 70 = .ok (.iload_n 2, 1) := by decide +kernel
theorem dX5_readsEater_71 : decode cX5_readsEater 71 = .ok (.iconst 0, 1) := by decide +kernel
theorem dX5_readsEater_72 : decode cX5_readsEater 72 = .ok (.iconst 5, 1) := by decide +kernel
theorem dX5_readsEater_73 : decode cX5_readsEater 73 = .ok (.invokevirtual 98, 3) := by decide +kernel
theorem dX5_readsEater_76 : decode cX5_readsEater 76 = .ok (.istore 4, 2) := by decide +kernel
theorem dX5_readsEater_78 : decode cX5_readsEater 78 = .ok (.iload 4, 2) := by decide +kernel
theorem dX5_readsEater_80 : decode cX5_readsEater 80 = .ok (.ifCond .ge 8, 3) := by decide +kernel
theorem dX5_readsEater_83 : decode cX5_readsEater 83 = .ok (.bipush (-9), 2) := by decide +kernel
theorem dX5_readsEater_85 : decode cX5_readsEater 85 = .ok (.goto 12, 3) := by decide +kernel
theorem dX5_readsEater_88 : decode cX5_readsEater 88 = .ok (.aload_n 0, 1) := by decide +kernel
theorem dX5_readsEater_89 : decode cX5_readsEater 89 = .ok (.iload_n 1, 1) := by decide +kernel
theorem dX5_readsEater_90 : decode cX5_readsEater 90 = .ok (.iload_n 2, 1) := by decide +kernel
theorem dX5_readsEater_91 : decode cX5_readsEater 91 = .ok (.iconst 1, 1) := by decide +kernel
theorem dX5_readsEater_92 : decode cX5_readsEater 92 = .ok (.bipush 9, 2) := by decide +kernel
theorem dX5_readsEater_94 : decode cX5_readsEater 94 = .ok (.invokevirtual 98, 3) := by decide +kernel
theorem dX5_readsEater_97 : decode cX5_readsEater 97 = .ok (.istore 5, 2) := by decide +kernel
theorem dX5_readsEater_99 : decode cX5_readsEater 99 = .ok (.iload 5, 2) := by decide +kernel
theorem dX5_readsEater_101 : decode cX5_readsEater 101 = .ok (.ifCond .ge 8, 3) := by decide +kernel
theorem dX5_readsEater_104 : decode cX5_readsEater 104 = .ok (.bipush (-9), 2) := by decide +kernel
theorem dX5_readsEater_106 : decode cX5_readsEater 106 = .ok (.goto 12, 3) := by decide +kernel
theorem dX5_readsEater_109 : decode cX5_readsEater 109 = .ok (.aload_n 0, 1) := by decide +kernel
theorem dX5_readsEater_110 : decode cX5_readsEater 110 = .ok (.iload_n 1, 1) := by decide +kernel
theorem dX5_readsEater_111 : decode cX5_readsEater 111 = .ok (.iload_n 2, 1) := by decide +kernel
theorem dX5_readsEater_112 : decode cX5_readsEater 112 = .ok (.iconst 0, 1) := by decide +kernel
theorem dX5_readsEater_113 : decode cX5_readsEater 113 = .ok (.bipush 6, 2) := by decide +kernel
theorem dX5_readsEater_115 : decode cX5_readsEater 115 = .ok (.invokevirtual 98, 3) := by decide +kernel
theorem dX5_readsEater_118 : decode cX5_readsEater 118 = .ok (.istore 6, 2) := by decide +kernel
theorem dX5_readsEater_120 : decode cX5_readsEater 120 = .ok (.iload 6, 2) := by decide +kernel
theorem dX5_readsEater_122 : decode cX5_readsEater 122 = .ok (.ifCond .ge 5, 3) := by decide +kernel
theorem dX5_readsEater_125 : decode cX5_readsEater 125 = .ok (.iconst 0, 1) := by decide +kernel
theorem dX5_readsEater_126 : decode cX5_readsEater 126 = .ok (.ireturn, 1) := by decide +kernel
theorem dX5_readsEater_127 : decode cX5_readsEater 127 = .ok (.aload_n 0, 1) := by decide +kernel
theorem dX5_readsEater_128 : decode cX5_readsEater 128 = .ok (.getfield 32, 3) := by decide +kernel
theorem dX5_readsEater_131 : decode cX5_readsEater 131 = .ok (.aload_n 0, 1) := by decide +kernel
theorem dX5_readsEater_132 : decode cX5_readsEater 132 = .ok (.getfield 102, 3) := by decide +kernel
theorem dX5_readsEater_135 : decode cX5_readsEater 135 = .ok (.iload_n 3, 1) := by decide +kernel
theorem dX5_readsEater_136 : decode cX5_readsEater 136 = .ok (.bipush 101, 2) := by decide +kernel
theorem dX5_readsEater_138 : decode cX5_readsEater 138 = .ok (.if_icmp .ne 7, 3) := by decide +kernel
theorem dX5_readsEater_141 : decode cX5_readsEater 141 = .ok (.iconst 0, 1) := by decide +kernel
theorem dX5_readsEater_142 : decode cX5_readsEater 142 = .ok (.goto 14, 3) := by decide +kernel
theorem dX5_readsEater_145 : decode cX5_readsEater 145 = .ok (.iload_n 3, 1) := by decide +kernel
theorem dX5_readsEater_146 : decode cX5_readsEater 146 = .ok (.bipush 115, 2) := by decide +kernel
theorem dX5_readsEater_148 : decode cX5_readsEater 148 = .ok (.if_icmp .ne 7, 3) := by decide +kernel
theorem dX5_readsEater_151 : decode cX5_readsEater 151 = .ok (.iconst 1, 1) := by decide +kernel
theorem dX5_readsEater_152 : decode cX5_readsEater 152 = .ok (.goto 4, 3) := by decide +kernel
theorem dX5_readsEater_155 : decode cX5_readsEater 155 = .ok (.iconst 2, 1) := by decide +kernel
theorem dX5_readsEater_156 : decode cX5_readsEater 156 = .ok (.iastore, 1) := by decide +kernel
theorem dX5_readsEater_157 : decode cX5_readsEater 157 = .ok (.aload_n 0, 1) := by decide +kernel
theorem dX5_readsEater_158 : decode cX5_readsEater 158 = .ok (.getfield 35, 3) := by decide +kernel
theorem dX5_readsEater_161 : decode cX5_readsEater 161 = .ok (.aload_n 0, 1) := by decide +kernel
theorem dX5_readsEater_162 : decode cX5_readsEater 162 = .ok (.getfield 102, 3) := by decide +kernel
theorem dX5_readsEater_165 : decode cX5_readsEater 165 = .ok (.iload 4, 2) := by decide +kernel
theorem dX5_readsEater_167 : decode cX5_readsEater 167 = .ok (.iastore, 1) := by decide +kernel
theorem dX5_readsEater_168 : decode cX5_readsEater 168 = .ok (.aload_n 0, 1) := by decide +kernel
theorem dX5_readsEater_169 : decode cX5_readsEater 169 = .ok (.getfield 38, 3) := by decide +kernel
theorem dX5_readsEater_172 : decode cX5_readsEater 172 = .ok (.aload_n 0, 1) := by decide +kernel
theorem dX5_readsEater_173 : decode cX5_readsEater 173 = .ok (.getfield 102, 3) := by decide +kernel
theorem dX5_readsEater_176 : decode cX5_readsEater 176 = .ok (.iload 5, 2) := by decide +kernel
theorem dX5_readsEater_178 : decode cX5_readsEater 178 = .ok (.iastore, 1) := by decide +kernel
theorem dX5_readsEater_179 : decode cX5_readsEater 179 = .ok (.aload_n 0, 1) := by decide +kernel
theorem dX5_readsEater_180 : decode cX5_readsEater 180 = .ok (.getfield 41, 3) := by decide +kernel
theorem dX5_readsEater_183 : decode cX5_readsEater 183 = .ok (.aload_n 0, 1) := by decide +kernel
theorem dX5_readsEater_184 : decode cX5_readsEater 184 = .ok (.getfield 102, 3) := by decide +kernel
theorem dX5_readsEater_187 : decode cX5_readsEater 187 = .ok (.iload 6, 2) := by decide +kernel
theorem dX5_readsEater_189 : decode cX5_readsEater 189 = .ok (.iastore, 1) := by decide +kernel
theorem dX5_readsEater_190 : decode cX5_readsEater 190 = .ok (.aload_n 0, 1) := by decide +kernel
theorem dX5_readsEater_191 : decode cX5_readsEater 191 = .ok (.dup, 1) := by decide +kernel
theorem dX5_readsEater_192 : decode cX5_readsEater 192 = .ok (.getfield 102, 3) := by decide +kernel
theorem dX5_readsEater_195 : decode cX5_readsEater 195 = .ok (.iconst 1, 1) := by decide +kernel
theorem dX5_readsEater_196 : decode cX5_readsEater 196 = .ok (.iadd, 1) := by decide +kernel
theorem dX5_readsEater_197 : decode cX5_readsEater 197 = .ok (.putfield 102, 3) := by decide +kernel
theorem dX5_readsEater_200 : decode cX5_readsEater 200 = .ok (.iconst 1, 1) := by decide +kernel
theorem dX5_readsEater_201 : decode cX5_readsEater 201 = .ok (.ireturn, 1) := by decide +kernel
set_option maxRecDepth 20000 in
theorem ggX5_readsDuchy_X5_codeAt : GoodIn wsX5_readsDuchy wsX5_codeAt := goodIn_r _ [9, 1, 10, 31, 32, 33, 34, 35, 36, 37, 38, 39, 40, 41, 42, 43, 44, 45, 46, 47, 48, 49, 50, 51, 52, 53, 54, 55, 56, 57, 58, 59] (by decide +kernel) (by decide +kernel)
set_option maxRecDepth 20000 in
theorem gX5_readsDuchy_X5_codeAt : GoodIn wsX5_readsDuchy (wsV RX5 91 RX5 yX5_codeAt wsX5_codeAt) := goodIn_app (goodIn_of _ (by decide +kernel)) ggX5_readsDuchy_X5_codeAt
set_option maxRecDepth 20000 in
theorem ggX5_readsDuchy_X5_figure : GoodIn wsX5_readsDuchy wsX5_figure := goodIn_r _ [14, 1, 5, 6, 7, 8, 9, 10, 15, 16, 17, 31, 32, 33, 34, 35, 36, 37, 38, 39, 40, 41, 42, 43, 44, 45, 46, 47, 48, 49, 50, 51, 52, 53, 54, 55, 56, 57, 58, 59] (by decide +kernel) (by decide +kernel)
set_option maxRecDepth 20000 in
theorem gX5_readsDuchy_X5_figure : GoodIn wsX5_readsDuchy (wsV RX5 98 RX5 yX5_figure wsX5_figure) := goodIn_app (goodIn_of _ (by decide +kernel)) ggX5_readsDuchy_X5_figure
set_option maxRecDepth 20000 in
theorem ggX5_readsDuchy_X5_readsDays : GoodIn wsX5_readsDuchy wsX5_readsDays := goodIn_r _ [21, 2, 22, 11, 12, 13, 8, 14, 1, 5, 6, 7, 9, 10, 15, 16, 17, 31, 32, 33, 34, 35, 36, 37, 38, 39, 40, 41, 42, 43, 44, 45, 46, 47, 48, 49, 50, 51, 52, 53, 54, 55, 56, 57, 58, 59] (by decide +kernel) (by decide +kernel)
set_option maxRecDepth 20000 in
theorem gX5_readsDuchy_X5_readsDays : GoodIn wsX5_readsDuchy (wsV RX5 108 RX5 yX5_readsDays wsX5_readsDays) := goodIn_app (goodIn_of _ (by decide +kernel)) ggX5_readsDuchy_X5_readsDays
set_option maxRecDepth 20000 in
theorem ggX5_readsDuchy_X5_readsEater : GoodIn wsX5_readsDuchy wsX5_readsEater := goodIn_r _ [26, 3, 1, 27, 28, 29, 30, 5, 6, 7, 8, 9, 10, 11, 12, 13, 14, 15, 16, 17, 31, 32, 33, 34, 35, 36, 37, 38, 39, 40, 41, 42, 43, 44, 45, 46, 47, 48, 49, 50, 51, 52, 53, 54, 55, 56, 57, 58, 59] (by decide +kernel) (by decide +kernel)
set_option maxRecDepth 20000 in
theorem gX5_readsDuchy_X5_readsEater : GoodIn wsX5_readsDuchy (wsV RX5 112 RX5 yX5_readsEater wsX5_readsEater) := goodIn_app (goodIn_of _ (by decide +kernel)) ggX5_readsDuchy_X5_readsEater
theorem dX5_readsDuchy_0 : decode cX5_readsDuchy 0 = .ok (.aload_n 0, 1) := by decide +kernel
theorem dX5_readsDuchy_1 : decode cX5_readsDuchy 1 = .ok (.iconst 0, 1) := by decide +kernel
theorem dX5_readsDuchy_2 : decode cX5_readsDuchy 2 = .ok (.putfield 88, 3) := by decide +kernel
theorem dX5_readsDuchy_5 : decode cX5_readsDuchy 5 = .ok (.aload_n 0, 1) := by decide +kernel
theorem dX5_readsDuchy_6 : decode cX5_readsDuchy 6 = .ok (.iconst 0, 1) := by decide +kernel
theorem dX5_readsDuchy_7 : decode cX5_readsDuchy 7 = .ok (.putfield 95, 3) := by decide +kernel
theorem dX5_readsDuchy_10 : decode cX5_readsDuchy 10 = .ok (.aload_n 0, 1) := by decide +kernel
theorem dX5_readsDuchy_11 : decode cX5_readsDuchy 11 = .ok (.iconst 0, 1) := by decide +kernel
theorem dX5_readsDuchy_12 : decode cX5_readsDuchy 12 = .ok (.putfield 102, 3) := by decide +kernel
theorem dX5_readsDuchy_15 : decode cX5_readsDuchy 15 = .ok (.aload_n 0, 1) := by decide +kernel
theorem dX5_readsDuchy_16 : decode cX5_readsDuchy 16 = .ok (.iload_n 1, 1) := by decide +kernel
theorem dX5_readsDuchy_17 : decode cX5_readsDuchy 17 = .ok (.iload_n 2, 1) := by decide +kernel
theorem dX5_readsDuchy_18 : decode cX5_readsDuchy 18 = .ok (.invokevirtual 91, 3) := by decide +kernel
theorem dX5_readsDuchy_21 : decode cX5_readsDuchy 21 = .ok (.bipush 100, 2) := by decide +kernel
theorem dX5_readsDuchy_23 : decode cX5_readsDuchy 23 = .ok (.if_icmp .ne 7, 3) := by decide +kernel
theorem dX5_readsDuchy_26 : decode cX5_readsDuchy 26 = .ok (.iconst 1, 1) := by decide +kernel
theorem dX5_readsDuchy_27 : decode cX5_readsDuchy 27 = .ok (.goto 4, 3) := by decide +kernel
theorem dX5_readsDuchy_30 : decode cX5_readsDuchy 30 = .ok (.iconst 0, 1) := by decide +kernel
theorem dX5_readsDuchy_31 : decode cX5_readsDuchy 31 = .ok (.istore_n 3, 1) := by decide +kernel
theorem dX5_readsDuchy_32 : decode cX5_readsDuchy 32 = .ok (.aload_n 0, 1) := by decide +kernel
theorem dX5_readsDuchy_33 : decode cX5_readsDuchy 33 = .ok (.dup, 1) := by decide +kernel
theorem dX5_readsDuchy_34 : decode cX5_readsDuchy 34 = .ok (.getfield 88, 3) := by decide +kernel
theorem dX5_readsDuchy_37 : decode cX5_readsDuchy 37 = .ok (.iload_n 3, 1) := by decide +kernel
theorem dX5_readsDuchy_38 : decode cX5_readsDuchy 38 = .ok (.ifCond .eq 7, 3) := by decide +kernel
theorem dX5_readsDuchy_41 : decode cX5_readsDuchy 41 = .ok (.iconst 1, 1) := by decide +kernel
theorem dX5_readsDuchy_42 : decode cX5_readsDuchy 42 = .ok (.goto 4, 3) := by decide +kernel
theorem dX5_readsDuchy_45 : decode cX5_readsDuchy 45 = .ok (.iconst 0, 1) := by decide +kernel
theorem dX5_readsDuchy_46 : decode cX5_readsDuchy 46 = .ok (.iadd, 1) := by decide +kernel
theorem dX5_readsDuchy_47 : decode cX5_readsDuchy 47 = .ok (.putfield 88, 3) := by decide +kernel
theorem dX5_readsDuchy_50 : decode cX5_readsDuchy 50 = .ok (.aload_n 0, 1) := by decide +kernel
theorem dX5_readsDuchy_51 : decode cX5_readsDuchy 51 = .ok (.iload_n 3, 1) := by decide +kernel
theorem dX5_readsDuchy_52 : decode cX5_readsDuchy 52 = .ok (.ifCond .eq 15, 3) := by decide +kernel
theorem dX5_readsDuchy_55 : decode cX5_readsDuchy 55 = .ok (.aload_n 0, 1) := by decide +kernel
theorem dX5_readsDuchy_56 : decode cX5_readsDuchy 56 = .ok (.iload_n 1, 1) := by decide +kernel
theorem dX5_readsDuchy_57 : decode cX5_readsDuchy 57 = .ok (.iload_n 2, 1) := by decide +kernel
theorem dX5_readsDuchy_58 : decode cX5_readsDuchy 58 = .ok (.iconst 0, 1) := by decide +kernel
theorem dX5_readsDuchy_59 : decode cX5_readsDuchy 59 = .ok (.bipush 9, 2) := by decide +kernel
theorem dX5_readsDuchy_61 : decode cX5_readsDuchy 61 = .ok (.invokevirtual 98, 3) := by decide +kernel
theorem dX5_readsDuchy_64 : decode cX5_readsDuchy 64 = .ok (.goto 5, 3) := by decide +kernel
theorem dX5_readsDuchy_67 : decode cX5_readsDuchy 67 = .ok (.bipush (-9), 2) := by decide +kernel
theorem dX5_readsDuchy_69 : decode cX5_readsDuchy 69 = .ok (.putfield 105, 3) := by decide +kernel
theorem dX5_readsDuchy_72 : decode cX5_readsDuchy 72 = .ok (.aload_n 0, 1) := by decide +kernel
theorem dX5_readsDuchy_73 : decode cX5_readsDuchy 73 = .ok (.getfield 105, 3) := by decide +kernel
theorem dX5_readsDuchy_76 : decode cX5_readsDuchy 76 = .ok (.ifCond .lt 18, 3) := by decide +kernel
theorem dX5_readsDuchy_79 : decode cX5_readsDuchy 79 = .ok (.aload_n 0, 1) := by decide +kernel
theorem dX5_readsDuchy_80 : decode cX5_readsDuchy 80 = .ok (.iload_n 1, 1) := by decide +kernel
theorem dX5_readsDuchy_81 : decode cX5_readsDuchy 81 = .ok (.iload_n 2, 1) := by decide +kernel
theorem dX5_readsDuchy_82 : decode cX5_readsDuchy 82 = .ok (.invokevirtual 91, 3) := by decide +kernel
theorem dX5_readsDuchy_85 : decode cX5_readsDuchy 85 = .ok (.bipush 44, 2) := by decide +kernel
theorem dX5_readsDuchy_87 : decode cX5_readsDuchy 87 = .ok (.if_icmp .ne 7, 3) := by decide +kernel
theorem dX5_readsDuchy_90 : decode cX5_readsDuchy 90 = .ok (.iconst 1, 1) := by decide +kernel
theorem dX5_readsDuchy_91 : decode cX5_readsDuchy 91 = .ok (.goto 4, 3) := by decide +kernel
theorem dX5_readsDuchy_94 : decode cX5_readsDuchy 94 = .ok (.iconst 0, 1) := by decide +kernel
theorem dX5_readsDuchy_95 : decode cX5_readsDuchy 95 = .ok (.istore_n 3, 1) := by decide +kernel
theorem dX5_readsDuchy_96 : decode cX5_readsDuchy 96 = .ok (.aload_n 0, 1) := by decide +kernel
theorem dX5_readsDuchy_97 : decode cX5_readsDuchy 97 = .ok (.dup, 1) := by decide +kernel
theorem dX5_readsDuchy_98 : decode cX5_readsDuchy 98 = .ok (.getfield 88, 3) := by decide +kernel
theorem dX5_readsDuchy_101 : decode cX5_readsDuchy 101 = .ok (.iload_n 3, 1) := by decide +kernel
theorem dX5_readsDuchy_102 : decode cX5_readsDuchy 102 = .ok (.ifCond .eq 7, 3) := by decide +kernel
theorem dX5_readsDuchy_105 : decode cX5_readsDuchy 105 = .ok (.iconst 1, 1) := by decide +kernel
theorem dX5_readsDuchy_106 : decode cX5_readsDuchy 106 = .ok (.goto 4, 3) := by decide +kernel
theorem dX5_readsDuchy_109 : decode cX5_readsDuchy 109 = .ok (.iconst 0, 1) := by decide +kernel
theorem dX5_readsDuchy_110 : decode cX5_readsDuchy 110 = .ok (.iadd, 1) := by decide +kernel
theorem dX5_readsDuchy_111 : decode cX5_readsDuchy 111 = .ok (.putfield 88, 3) := by decide +kernel
theorem dX5_readsDuchy_114 : decode cX5_readsDuchy 114 = .ok (.iload_n 3, 1) := by decide +kernel
theorem dX5_readsDuchy_115 : decode cX5_readsDuchy 115 = .ok (.ifCond .eq 16, 3) := by decide +kernel
theorem dX5_readsDuchy_118 : decode cX5_readsDuchy 118 = .ok (.aload_n 0, 1) := by decide +kernel
theorem dX5_readsDuchy_119 : decode cX5_readsDuchy 119 = .ok (.iload_n 1, 1) := by decide +kernel
theorem dX5_readsDuchy_120 : decode cX5_readsDuchy 120 = .ok (.iload_n 2, 1) := by decide +kernel
theorem dX5_readsDuchy_121 : decode cX5_readsDuchy 121 = .ok (.invokevirtual 108, 3) := by decide +kernel
theorem dX5_readsDuchy_124 : decode cX5_readsDuchy 124 = .ok (.ifCond .eq 7, 3) := by decide +kernel
theorem dX5_readsDuchy_127 : decode cX5_readsDuchy 127 = .ok (.iconst 1, 1) := by decide +kernel
theorem dX5_readsDuchy_128 : decode cX5_readsDuchy 128 = .ok (.goto 4, 3) := by decide +kernel
theorem dX5_readsDuchy_131 : decode cX5_readsDuchy 131 = .ok (.iconst 0, 1) := by decide +kernel
theorem dX5_readsDuchy_132 : decode cX5_readsDuchy 132 = .ok (.istore_n 3, 1) := by decide +kernel
theorem dX5_readsDuchy_133 : decode cX5_readsDuchy 133 = .ok (.iload_n 3, 1) := by decide +kernel
theorem dX5_readsDuchy_134 : decode cX5_readsDuchy 134 = .ok (.ifCond .eq 28, 3) := by decide +kernel
theorem dX5_readsDuchy_137 : decode cX5_readsDuchy 137 = .ok (.aload_n 0, 1) := by decide +kernel
theorem dX5_readsDuchy_138 : decode cX5_readsDuchy 138 = .ok (.getfield 102, 3) := by decide +kernel
theorem dX5_readsDuchy_141 : decode cX5_readsDuchy 141 = .ok (.ifCond .eq 11, 3) := by decide +kernel
theorem dX5_readsDuchy_144 : decode cX5_readsDuchy 144 = .ok (.aload_n 0, 1) := by decide +kernel
theorem dX5_readsDuchy_145 : decode cX5_readsDuchy 145 = .ok (.getfield 88, 3) := by decide +kernel
theorem dX5_readsDuchy_148 : decode cX5_readsDuchy 148 = .ok (.iload_n 2, 1) := by decide +kernel
theorem dX5_readsDuchy_149 : decode cX5_readsDuchy 149 = .ok (.if_icmp .ge 13, 3) := by decide +kernel
theorem dX5_readsDuchy_152 : decode cX5_readsDuchy 152 = .ok (.aload_n 0, 1) := by decide +kernel
theorem dX5_readsDuchy_153 : decode cX5_readsDuchy 153 = .ok (.iload_n 1, 1) := by decide +kernel
theorem dX5_readsDuchy_154 : decode cX5_readsDuchy 154 = .ok (.iload_n 2, 1) := by decide +kernel
theorem dX5_readsDuchy_155 : decode cX5_readsDuchy 155 = .ok (.invokevirtual 112, 3) := by decide +kernel
theorem dX5_readsDuchy_158 : decode cX5_readsDuchy 158 = .ok (.istore_n 3, 1) := by decide +kernel
theorem dX5_readsDuchy_159 : decode cX5_readsDuchy 159 = .ok (.goto (-26), 3) := by decide +kernel
theorem dX5_readsDuchy_162 : decode cX5_readsDuchy 162 = .ok (.iload_n 3, 1) := by decide +kernel
theorem dX5_readsDuchy_163 : decode cX5_readsDuchy 163 = .ok (.ireturn, 1) := by decide +kernel
set_option maxRecDepth 20000 in
theorem ggX5_cellsBarred_X5_failed : GoodIn wsX5_cellsBarred wsX5_failed := goodIn_r _ [7, 8, 12, 13, 14, 15, 16, 17, 18, 19, 20, 21, 22, 23, 24, 25, 26, 27, 28, 29, 30, 31, 32, 33, 34, 35, 36, 37, 38, 39, 40] (by decide +kernel) (by decide +kernel)
set_option maxRecDepth 20000 in
theorem gX5_cellsBarred_X5_failed : GoodIn wsX5_cellsBarred (wsV RX5 115 RX5 yX5_failed wsX5_failed) := goodIn_app (goodIn_of _ (by decide +kernel)) ggX5_cellsBarred_X5_failed
set_option maxRecDepth 20000 in
theorem ggX5_cellsBarred_X5_isBeyond : GoodIn wsX5_cellsBarred wsX5_isBeyond := goodIn_r _ [11] (by decide +kernel) (by decide +kernel)
set_option maxRecDepth 20000 in
theorem gX5_cellsBarred_X5_isBeyond : GoodIn wsX5_cellsBarred (va_wsS RX5 119 yX5_isBeyond wsX5_isBeyond) := goodIn_app (goodIn_of _ (by decide +kernel)) ggX5_cellsBarred_X5_isBeyond
theorem dX5_cellsBarred_0 : decode cX5_cellsBarred 0 = .ok (.aload_n 0, 1) := by decide +kernel
theorem dX5_cellsBarred_1 : decode cX5_cellsBarred 1 = .ok (.getfield 57, 3) := by decide +kernel
theorem dX5_cellsBarred_4 : decode cX5_cellsBarred 4 = .ok (.iload_n 1, 1) := by decide +kernel
theorem dX5_cellsBarred_5 : decode cX5_cellsBarred 5 = .ok (.iaload, 1) := by decide +kernel
theorem dX5_cellsBarred_6 : decode cX5_cellsBarred 6 = .ok (.ifCond .lt 19, 3) := by decide +kernel
theorem dX5_cellsBarred_9 : decode cX5_cellsBarred 9 = .ok (.aload_n 0, 1) := by decide +kernel
theorem dX5_cellsBarred_10 : decode cX5_cellsBarred 10 = .ok (.getfield 60, 3) := by decide +kernel
theorem dX5_cellsBarred_13 : decode cX5_cellsBarred 13 = .ok (.iload_n 1, 1) := by decide +kernel
theorem dX5_cellsBarred_14 : decode cX5_cellsBarred 14 = .ok (.iaload, 1) := by decide +kernel
theorem dX5_cellsBarred_15 : decode cX5_cellsBarred 15 = .ok (.iload_n 2, 1) := by decide +kernel
theorem dX5_cellsBarred_16 : decode cX5_cellsBarred 16 = .ok (.if_icmp .eq 9, 3) := by decide +kernel
theorem dX5_cellsBarred_19 : decode cX5_cellsBarred 19 = .ok (.aload_n 0, 1) := by decide +kernel
theorem dX5_cellsBarred_20 : decode cX5_cellsBarred 20 = .ok (.iconst 2, 1) := by decide +kernel
theorem dX5_cellsBarred_21 : decode cX5_cellsBarred 21 = .ok (.invokevirtual 115, 3) := by decide +kernel
theorem dX5_cellsBarred_24 : decode cX5_cellsBarred 24 = .ok (.ireturn, 1) := by decide +kernel
theorem dX5_cellsBarred_25 : decode cX5_cellsBarred 25 = .ok (.aload_n 0, 1) := by decide +kernel
theorem dX5_cellsBarred_26 : decode cX5_cellsBarred 26 = .ok (.getfield 57, 3) := by decide +kernel
theorem dX5_cellsBarred_29 : decode cX5_cellsBarred 29 = .ok (.iload_n 1, 1) := by decide +kernel
theorem dX5_cellsBarred_30 : decode cX5_cellsBarred 30 = .ok (.iaload, 1) := by decide +kernel
theorem dX5_cellsBarred_31 : decode cX5_cellsBarred 31 = .ok (.ifCond .ge 9, 3) := by decide +kernel
theorem dX5_cellsBarred_34 : decode cX5_cellsBarred 34 = .ok (.aload_n 0, 1) := by decide +kernel
theorem dX5_cellsBarred_35 : decode cX5_cellsBarred 35 = .ok (.iconst 1, 1) := by decide +kernel
theorem dX5_cellsBarred_36 : decode cX5_cellsBarred 36 = .ok (.invokevirtual 115, 3) := by decide +kernel
theorem dX5_cellsBarred_39 : decode cX5_cellsBarred 39 = .ok (.ireturn, 1) := by decide +kernel
theorem dX5_cellsBarred_40 : decode cX5_cellsBarred 40 = .ok (.lload 4, 2) := by decide +kernel
theorem dX5_cellsBarred_42 : decode cX5_cellsBarred 42 = .ok (.lconst 0, 1) := by decide +kernel
theorem dX5_cellsBarred_43 : decode cX5_cellsBarred 43 = .ok (.lcmp, 1) := by decide +kernel
theorem dX5_cellsBarred_44 : decode cX5_cellsBarred 44 = .ok (.ifCond .ge 9, 3) := by decide +kernel
theorem dX5_cellsBarred_47 : decode cX5_cellsBarred 47 = .ok (.aload_n 0, 1) := by decide +kernel
theorem dX5_cellsBarred_48 : decode cX5_cellsBarred 48 = .ok (.iconst 4, 1) := by decide +kernel
theorem dX5_cellsBarred_49 : decode cX5_cellsBarred 49 = .ok (.invokevirtual 115, 3) := by decide +kernel
theorem dX5_cellsBarred_52 : decode cX5_cellsBarred 52 = .ok (.ireturn, 1) := by decide +kernel
theorem dX5_cellsBarred_53 : decode cX5_cellsBarred 53 = .ok (.iload_n 3, 1) := by decide +kernel
theorem dX5_cellsBarred_54 : decode cX5_cellsBarred 54 = .ok (.lload 4, 2) := by decide +kernel
theorem dX5_cellsBarred_56 : decode cX5_cellsBarred 56 = .ok (.aload_n 0, 1) := by decide +kernel
theorem dX5_cellsBarred_57 : decode cX5_cellsBarred 57 = .ok (.getfield 57, 3) := by decide +kernel
theorem dX5_cellsBarred_60 : decode cX5_cellsBarred 60 = .ok (.iload_n 1, 1) := by decide +kernel
theorem dX5_cellsBarred_61 : decode cX5_cellsBarred 61 = .ok (.iaload, 1) := by decide +kernel
theorem dX5_cellsBarred_62 : decode cX5_cellsBarred 62 = .ok (.invokestatic 119, 3) := by decide +kernel
theorem dX5_cellsBarred_65 : decode cX5_cellsBarred 65 = .ok (.ifCond .eq 11, 3) := by decide +kernel
theorem dX5_cellsBarred_68 : decode cX5_cellsBarred 68 = .ok (.aload_n 0, 1) := by decide +kernel
theorem dX5_cellsBarred_69 : decode cX5_cellsBarred 69 = .ok (.iconst 3, 1) := by decide +kernel
theorem dX5_cellsBarred_70 : decode cX5_cellsBarred 70 = .ok (.invokevirtual 115, 3) := by decide +kernel
theorem dX5_cellsBarred_73 : decode cX5_cellsBarred 73 = .ok (.goto 4, 3) := by decide +kernel
theorem dX5_cellsBarred_76 : decode cX5_cellsBarred 76 = .ok (.iconst 0, 1) := by decide +kernel
theorem dX5_cellsBarred_77 : decode cX5_cellsBarred 77 = .ok (.ireturn, 1) := by decide +kernel
set_option maxRecDepth 20000 in
theorem ggX5_duchy_X5_noSheet : GoodIn wsX5_duchy wsX5_noSheet := goodIn_r _ [23, 24, 25, 26, 22, 27] (by decide +kernel) (by decide +kernel)
set_option maxRecDepth 20000 in
theorem gX5_duchy_X5_noSheet : GoodIn wsX5_duchy (va_wsS RX5 123 yX5_noSheet wsX5_noSheet) := goodIn_app (goodIn_of _ (by decide +kernel)) ggX5_duchy_X5_noSheet
set_option maxRecDepth 20000 in
theorem ggX5_duchy_X5_refused : GoodIn wsX5_duchy wsX5_refused := goodIn_r _ [31, 32, 67, 68, 69, 70, 71, 72, 73, 74, 75, 76, 77, 78, 79, 80, 81, 82, 83, 84, 85, 86, 87, 88, 89, 90, 91, 92, 93, 94, 95] (by decide +kernel) (by decide +kernel)
set_option maxRecDepth 20000 in
theorem gX5_duchy_X5_refused : GoodIn wsX5_duchy (wsV RX5 127 RX5 yX5_refused wsX5_refused) := goodIn_app (goodIn_of _ (by decide +kernel)) ggX5_duchy_X5_refused
set_option maxRecDepth 20000 in
theorem ggX5_duchy_X5_in : GoodIn wsX5_duchy wsX5_in := goodIn_r _ [27] (by decide +kernel) (by decide +kernel)
set_option maxRecDepth 20000 in
theorem gX5_duchy_X5_in : GoodIn wsX5_duchy (va_wsS RX5 81 yX5_in wsX5_in) := goodIn_app (goodIn_of _ (by decide +kernel)) ggX5_duchy_X5_in
set_option maxRecDepth 20000 in
theorem ggX5_duchy_X5_cellsBarred : GoodIn wsX5_duchy wsX5_cellsBarred := goodIn_r _ [36, 37, 38, 39, 40, 41, 22, 42, 32, 43, 44, 45, 67, 68, 69, 70, 71, 72, 73, 74, 75, 76, 77, 78, 79, 80, 81, 82, 83, 84, 85, 86, 87, 88, 89, 90, 91, 92, 93, 94, 95] (by decide +kernel) (by decide +kernel)
set_option maxRecDepth 20000 in
theorem gX5_duchy_X5_cellsBarred : GoodIn wsX5_duchy (wsV RX5 132 RX5 yX5_cellsBarred wsX5_cellsBarred) := goodIn_app (goodIn_of _ (by decide +kernel)) ggX5_duchy_X5_cellsBarred
set_option maxRecDepth 20000 in
theorem ggX5_duchy_X5_readsDuchy : GoodIn wsX5_duchy wsX5_readsDuchy := goodIn_r _ [49, 2, 5, 7, 3, 50, 51, 52, 22, 53, 54, 55, 56, 57, 58, 25, 26, 27, 59, 60, 61, 62, 10, 63, 64, 65, 66, 12, 14, 16, 18, 67, 68, 69, 70, 71, 72, 73, 74, 75, 76, 77, 78, 79, 80, 81, 82, 83, 84, 85, 86, 87, 88, 89, 90, 91, 92, 93, 94, 95] (by decide +kernel) (by decide +kernel)
set_option maxRecDepth 20000 in
theorem gX5_duchy_X5_readsDuchy : GoodIn wsX5_duchy (wsV RX5 136 RX5 yX5_readsDuchy wsX5_readsDuchy) := goodIn_app (goodIn_of _ (by decide +kernel)) ggX5_duchy_X5_readsDuchy
theorem dX5_duchy_0 : decode cX5_duchy 0 = .ok (.iload_n 1, 1) := by decide +kernel
theorem dX5_duchy_1 : decode cX5_duchy 1 = .ok (.invokestatic 123, 3) := by decide +kernel
theorem dX5_duchy_4 : decode cX5_duchy 4 = .ok (.ifCond .eq 9, 3) := by decide +kernel
theorem dX5_duchy_7 : decode cX5_duchy 7 = .ok (.aload_n 0, 1) := by decide +kernel
theorem dX5_duchy_8 : decode cX5_duchy 8 = .ok (.iconst (-1), 1) := by decide +kernel
theorem dX5_duchy_9 : decode cX5_duchy 9 = .ok (.invokevirtual 127, 3) := by decide +kernel
theorem dX5_duchy_12 : decode cX5_duchy 12 = .ok (.ireturn, 1) := by decide +kernel
theorem dX5_duchy_13 : decode cX5_duchy 13 = .ok (.iload_n 2, 1) := by decide +kernel
theorem dX5_duchy_14 : decode cX5_duchy 14 = .ok (.i2l, 1) := by decide +kernel
theorem dX5_duchy_15 : decode cX5_duchy 15 = .ok (.lconst 0, 1) := by decide +kernel
theorem dX5_duchy_16 : decode cX5_duchy 16 = .ok (.ldc2_w 130, 3) := by decide +kernel
theorem dX5_duchy_19 : decode cX5_duchy 19 = .ok (.invokestatic 81, 3) := by decide +kernel
theorem dX5_duchy_22 : decode cX5_duchy 22 = .ok (.ifCond .ne 10, 3) := by decide +kernel
theorem dX5_duchy_25 : decode cX5_duchy 25 = .ok (.aload_n 0, 1) := by decide +kernel
theorem dX5_duchy_26 : decode cX5_duchy 26 = .ok (.bipush (-2), 2) := by decide +kernel
theorem dX5_duchy_28 : decode cX5_duchy 28 = .ok (.invokevirtual 127, 3) := by decide +kernel
theorem dX5_duchy_31 : decode cX5_duchy 31 = .ok (.ireturn, 1) := by decide +kernel
theorem dX5_duchy_32 : decode cX5_duchy 32 = .ok (.aload_n 0, 1) := by decide +kernel
theorem dX5_duchy_33 : decode cX5_duchy 33 = .ok (.iload_n 1, 1) := by decide +kernel
theorem dX5_duchy_34 : decode cX5_duchy 34 = .ok (.iload_n 2, 1) := by decide +kernel
theorem dX5_duchy_35 : decode cX5_duchy 35 = .ok (.iload_n 3, 1) := by decide +kernel
theorem dX5_duchy_36 : decode cX5_duchy 36 = .ok (.iload 4, 2) := by decide +kernel
theorem dX5_duchy_38 : decode cX5_duchy 38 = .ok (.i2l, 1) := by decide +kernel
theorem dX5_duchy_39 : decode cX5_duchy 39 = .ok (.invokevirtual 132, 3) := by decide +kernel
theorem dX5_duchy_42 : decode cX5_duchy 42 = .ok (.istore 5, 2) := by decide +kernel
theorem dX5_duchy_44 : decode cX5_duchy 44 = .ok (.iload 5, 2) := by decide +kernel
theorem dX5_duchy_46 : decode cX5_duchy 46 = .ok (.ifCond .ge 6, 3) := by decide +kernel
theorem dX5_duchy_49 : decode cX5_duchy 49 = .ok (.iload 5, 2) := by decide +kernel
theorem dX5_duchy_51 : decode cX5_duchy 51 = .ok (.ireturn, 1) := by decide +kernel
theorem dX5_duchy_52 : decode cX5_duchy 52 = .ok (.aload_n 0, 1) := by decide +kernel
theorem dX5_duchy_53 : decode cX5_duchy 53 = .ok (.bipush 60, 2) := by decide +kernel
theorem dX5_duchy_55 : decode cX5_duchy 55 = .ok (.iload_n 1, 1) := by decide +kernel
theorem dX5_duchy_56 : decode cX5_duchy 56 = .ok (.imul, 1) := by decide +kernel
theorem dX5_duchy_57 : decode cX5_duchy 57 = .ok (.iload_n 3, 1) := by decide +kernel
theorem dX5_duchy_58 : decode cX5_duchy 58 = .ok (.iadd, 1) := by decide +kernel
theorem dX5_duchy_59 : decode cX5_duchy 59 = .ok (.iload 4, 2) := by decide +kernel
theorem dX5_duchy_61 : decode cX5_duchy 61 = .ok (.invokevirtual 136, 3) := by decide +kernel
theorem dX5_duchy_64 : decode cX5_duchy 64 = .ok (.ifCond .ne 15, 3) := by decide +kernel
theorem dX5_duchy_67 : decode cX5_duchy 67 = .ok (.aload_n 0, 1) := by decide +kernel
theorem dX5_duchy_68 : decode cX5_duchy 68 = .ok (.bipush (-100), 2) := by decide +kernel
theorem dX5_duchy_70 : decode cX5_duchy 70 = .ok (.aload_n 0, 1) := by decide +kernel
theorem dX5_duchy_71 : decode cX5_duchy 71 = .ok (.getfield 88, 3) := by decide +kernel
theorem dX5_duchy_74 : decode cX5_duchy 74 = .ok (.isub, 1) := by decide +kernel
theorem dX5_duchy_75 : decode cX5_duchy 75 = .ok (.invokevirtual 127, 3) := by decide +kernel
theorem dX5_duchy_78 : decode cX5_duchy 78 = .ok (.ireturn, 1) := by decide +kernel
theorem dX5_duchy_79 : decode cX5_duchy 79 = .ok (.aload_n 0, 1) := by decide +kernel
theorem dX5_duchy_80 : decode cX5_duchy 80 = .ok (.aload_n 0, 1) := by decide +kernel
theorem dX5_duchy_81 : decode cX5_duchy 81 = .ok (.getfield 105, 3) := by decide +kernel
theorem dX5_duchy_84 : decode cX5_duchy 84 = .ok (.putfield 139, 3) := by decide +kernel
theorem dX5_duchy_87 : decode cX5_duchy 87 = .ok (.aload_n 0, 1) := by decide +kernel
theorem dX5_duchy_88 : decode cX5_duchy 88 = .ok (.aload_n 0, 1) := by decide +kernel
theorem dX5_duchy_89 : decode cX5_duchy 89 = .ok (.getfield 95, 3) := by decide +kernel
theorem dX5_duchy_92 : decode cX5_duchy 92 = .ok (.putfield 78, 3) := by decide +kernel
theorem dX5_duchy_95 : decode cX5_duchy 95 = .ok (.aload_n 0, 1) := by decide +kernel
theorem dX5_duchy_96 : decode cX5_duchy 96 = .ok (.aload_n 0, 1) := by decide +kernel
theorem dX5_duchy_97 : decode cX5_duchy 97 = .ok (.getfield 102, 3) := by decide +kernel
theorem dX5_duchy_100 : decode cX5_duchy 100 = .ok (.putfield 85, 3) := by decide +kernel
theorem dX5_duchy_103 : decode cX5_duchy 103 = .ok (.iconst 0, 1) := by decide +kernel
theorem dX5_duchy_104 : decode cX5_duchy 104 = .ok (.istore 6, 2) := by decide +kernel
theorem dX5_duchy_106 : decode cX5_duchy 106 = .ok (.iload 6, 2) := by decide +kernel
theorem dX5_duchy_108 : decode cX5_duchy 108 = .ok (.aload_n 0, 1) := by decide +kernel
theorem dX5_duchy_109 : decode cX5_duchy 109 = .ok (.getfield 78, 3) := by decide +kernel
theorem dX5_duchy_112 : decode cX5_duchy 112 = .ok (.if_icmp .ge 23, 3) := by decide +kernel
theorem dX5_duchy_115 : decode cX5_duchy 115 = .ok (.aload_n 0, 1) := by decide +kernel
theorem dX5_duchy_116 : decode cX5_duchy 116 = .ok (.getfield 7, 3) := by decide +kernel
theorem dX5_duchy_119 : decode cX5_duchy 119 = .ok (.iload 6, 2) := by decide +kernel
theorem dX5_duchy_121 : decode cX5_duchy 121 = .ok (.aload_n 0, 1) := by decide +kernel
theorem dX5_duchy_122 : decode cX5_duchy 122 = .ok (.getfield 29, 3) := by decide +kernel
theorem dX5_duchy_125 : decode cX5_duchy 125 = .ok (.iload 6, 2) := by decide +kernel
theorem dX5_duchy_127 : decode cX5_duchy 127 = .ok (.iaload, 1) := by decide +kernel
theorem dX5_duchy_128 : decode cX5_duchy 128 = .ok (.iastore, 1) := by decide +kernel
theorem dX5_duchy_129 : decode cX5_duchy 129 = .ok (.iinc 6 1, 3) := by decide +kernel
theorem dX5_duchy_132 : decode cX5_duchy 132 = .ok (.goto (-26), 3) := by decide +kernel
theorem dX5_duchy_135 : decode cX5_duchy 135 = .ok (.iconst 0, 1) := by decide +kernel
theorem dX5_duchy_136 : decode cX5_duchy 136 = .ok (.istore 6, 2) := by decide +kernel
theorem dX5_duchy_138 : decode cX5_duchy 138 = .ok (.iload 6, 2) := by decide +kernel
theorem dX5_duchy_140 : decode cX5_duchy 140 = .ok (.aload_n 0, 1) := by decide +kernel
theorem dX5_duchy_141 : decode cX5_duchy 141 = .ok (.getfield 85, 3) := by decide +kernel
theorem dX5_duchy_144 : decode cX5_duchy 144 = .ok (.if_icmp .ge 65, 3) := by decide +kernel
theorem dX5_duchy_147 : decode cX5_duchy 147 = .ok (.aload_n 0, 1) := by decide +kernel
theorem dX5_duchy_148 : decode cX5_duchy 148 = .ok (.getfield 13, 3) := by decide +kernel
theorem dX5_duchy_151 : decode cX5_duchy 151 = .ok (.iload 6, 2) := by decide +kernel
theorem dX5_duchy_153 : decode cX5_duchy 153 = .ok (.aload_n 0, 1) := by decide +kernel
theorem dX5_duchy_154 : decode cX5_duchy 154 = .ok (.getfield 32, 3) := by decide +kernel
theorem dX5_duchy_157 : decode cX5_duchy 157 = .ok (.iload 6, 2) := by decide +kernel
theorem dX5_duchy_159 : decode cX5_duchy 159 = .ok (.iaload, 1) := by decide +kernel
theorem dX5_duchy_160 : decode cX5_duchy 160 = .ok (.iastore, 1) := by decide +kernel
theorem dX5_duchy_161 : decode cX5_duchy 161 = .ok (.aload_n 0, 1) := by decide +kernel
theorem dX5_duchy_162 : decode cX5_duchy 162 = .ok (.getfield 16, 3) := by decide +kernel
theorem dX5_duchy_165 : decode cX5_duchy 165 = .ok (.iload 6, 2) := by decide +kernel
theorem dX5_duchy_167 : decode cX5_duchy 167 = .ok (.aload_n 0, 1) := by decide +kernel
theorem dX5_duchy_168 : decode cX5_duchy 168 = .ok (.getfield 35, 3) := by decide +kernel
theorem dX5_duchy_171 : decode cX5_duchy 171 = .ok (.iload 6, 2) := by decide +kernel
theorem dX5_duchy_173 : decode cX5_duchy 173 = .ok (.iaload, 1) := by decide +kernel
theorem dX5_duchy_174 : decode cX5_duchy 174 = .ok (.iastore, 1) := by decide +kernel
theorem dX5_duchy_175 : decode cX5_duchy 175 = .ok (.aload_n 0, 1) := by decide +kernel
theorem dX5_duchy_176 : decode cX5_duchy 176 = .ok (.getfield 19, 3) := by decide +kernel
theorem dX5_duchy_179 : decode cX5_duchy 179 = .ok (.iload 6, 2) := by decide +kernel
theorem dX5_duchy_181 : decode cX5_duchy 181 = .ok (.aload_n 0, 1) := by decide +kernel
theorem dX5_duchy_182 : decode cX5_duchy 182 = .ok (.getfield 38, 3) := by decide +kernel
theorem dX5_duchy_185 : decode cX5_duchy 185 = .ok (.iload 6, 2) := by decide +kernel
theorem dX5_duchy_187 : decode cX5_duchy 187 = .ok (.iaload, 1) := by decide +kernel
theorem dX5_duchy_188 : decode cX5_duchy 188 = .ok (.iastore, 1) := by decide +kernel
theorem dX5_duchy_189 : decode cX5_duchy 189 = .ok (.aload_n 0, 1) := by decide +kernel
theorem dX5_duchy_190 : decode cX5_duchy 190 = .ok (.getfield 22, 3) := by decide +kernel
theorem dX5_duchy_193 : decode cX5_duchy 193 = .ok (.iload 6, 2) := by decide +kernel
theorem dX5_duchy_195 : decode cX5_duchy 195 = .ok (.aload_n 0, 1) := by decide +kernel
theorem dX5_duchy_196 : decode cX5_duchy 196 = .ok (.getfield 41, 3) := by decide +kernel
theorem dX5_duchy_199 : decode cX5_duchy 199 = .ok (.iload 6, 2) := by decide +kernel
theorem dX5_duchy_201 : decode cX5_duchy 201 = .ok (.iaload, 1) := by decide +kernel
theorem dX5_duchy_202 : decode cX5_duchy 202 = .ok (.iastore, 1) := by decide +kernel
theorem dX5_duchy_203 : decode cX5_duchy 203 = .ok (.iinc 6 1, 3) := by decide +kernel
theorem dX5_duchy_206 : decode cX5_duchy 206 = .ok (.goto (-68), 3) := by decide +kernel
theorem dX5_duchy_209 : decode cX5_duchy 209 = .ok (.aload_n 0, 1) := by decide +kernel
theorem dX5_duchy_210 : decode cX5_duchy 210 = .ok (.iconst 0, 1) := by decide +kernel
theorem dX5_duchy_211 : decode cX5_duchy 211 = .ok (.putfield 142, 3) := by decide +kernel
theorem dX5_duchy_214 : decode cX5_duchy 214 = .ok (.aload_n 0, 1) := by decide +kernel
theorem dX5_duchy_215 : decode cX5_duchy 215 = .ok (.aload_n 0, 1) := by decide +kernel
theorem dX5_duchy_216 : decode cX5_duchy 216 = .ok (.getfield 85, 3) := by decide +kernel
theorem dX5_duchy_219 : decode cX5_duchy 219 = .ok (.invokevirtual 127, 3) := by decide +kernel
theorem dX5_duchy_222 : decode cX5_duchy 222 = .ok (.ireturn, 1) := by decide +kernel
theorem dX5_lastsOf_0 : decode cX5_lastsOf 0 = .ok (.aload_n 0, 1) := by decide +kernel
theorem dX5_lastsOf_1 : decode cX5_lastsOf 1 = .ok (.getfield 16, 3) := by decide +kernel
theorem dX5_lastsOf_4 : decode cX5_lastsOf 4 = .ok (.iload_n 1, 1) := by decide +kernel
theorem dX5_lastsOf_5 : decode cX5_lastsOf 5 = .ok (.iaload, 1) := by decide +kernel
theorem dX5_lastsOf_6 : decode cX5_lastsOf 6 = .ok (.ifCond .le 14, 3) := by decide +kernel
theorem dX5_lastsOf_9 : decode cX5_lastsOf 9 = .ok (.aload_n 0, 1) := by decide +kernel
theorem dX5_lastsOf_10 : decode cX5_lastsOf 10 = .ok (.getfield 16, 3) := by decide +kernel
theorem dX5_lastsOf_13 : decode cX5_lastsOf 13 = .ok (.iload_n 1, 1) := by decide +kernel
theorem dX5_lastsOf_14 : decode cX5_lastsOf 14 = .ok (.iaload, 1) := by decide +kernel
theorem dX5_lastsOf_15 : decode cX5_lastsOf 15 = .ok (.iconst 1, 1) := by decide +kernel
theorem dX5_lastsOf_16 : decode cX5_lastsOf 16 = .ok (.isub, 1) := by decide +kernel
theorem dX5_lastsOf_17 : decode cX5_lastsOf 17 = .ok (.goto 4, 3) := by decide +kernel
theorem dX5_lastsOf_20 : decode cX5_lastsOf 20 = .ok (.iconst 0, 1) := by decide +kernel
theorem dX5_lastsOf_21 : decode cX5_lastsOf 21 = .ok (.istore_n 2, 1) := by decide +kernel
theorem dX5_lastsOf_22 : decode cX5_lastsOf 22 = .ok (.aload_n 0, 1) := by decide +kernel
theorem dX5_lastsOf_23 : decode cX5_lastsOf 23 = .ok (.getfield 13, 3) := by decide +kernel
theorem dX5_lastsOf_26 : decode cX5_lastsOf 26 = .ok (.iload_n 1, 1) := by decide +kernel
theorem dX5_lastsOf_27 : decode cX5_lastsOf 27 = .ok (.iaload, 1) := by decide +kernel
theorem dX5_lastsOf_28 : decode cX5_lastsOf 28 = .ok (.ifCond .ne 12, 3) := by decide +kernel
theorem dX5_lastsOf_31 : decode cX5_lastsOf 31 = .ok (.aload_n 0, 1) := by decide +kernel
theorem dX5_lastsOf_32 : decode cX5_lastsOf 32 = .ok (.getfield 16, 3) := by decide +kernel
theorem dX5_lastsOf_35 : decode cX5_lastsOf 35 = .ok (.iload_n 1, 1) := by decide +kernel
theorem dX5_lastsOf_36 : decode cX5_lastsOf 36 = .ok (.iaload, 1) := by decide +kernel
theorem dX5_lastsOf_37 : decode cX5_lastsOf 37 = .ok (.goto 20, 3) := by decide +kernel
theorem dX5_lastsOf_40 : decode cX5_lastsOf 40 = .ok (.aload_n 0, 1) := by decide +kernel
theorem dX5_lastsOf_41 : decode cX5_lastsOf 41 = .ok (.getfield 13, 3) := by decide +kernel
theorem dX5_lastsOf_44 : decode cX5_lastsOf 44 = .ok (.iload_n 1, 1) := by decide +kernel
theorem dX5_lastsOf_45 : decode cX5_lastsOf 45 = .ok (.iaload, 1) := by decide +kernel
theorem dX5_lastsOf_46 : decode cX5_lastsOf 46 = .ok (.iconst 1, 1) := by decide +kernel
theorem dX5_lastsOf_47 : decode cX5_lastsOf 47 = .ok (.if_icmp .ne 7, 3) := by decide +kernel
theorem dX5_lastsOf_50 : decode cX5_lastsOf 50 = .ok (.iload_n 2, 1) := by decide +kernel
theorem dX5_lastsOf_51 : decode cX5_lastsOf 51 = .ok (.goto 6, 3) := by decide +kernel
theorem dX5_lastsOf_54 : decode cX5_lastsOf 54 = .ok (.iload_n 2, 1) := by decide +kernel
theorem dX5_lastsOf_55 : decode cX5_lastsOf 55 = .ok (.iconst 2, 1) := by decide +kernel
theorem dX5_lastsOf_56 : decode cX5_lastsOf 56 = .ok (.idiv, 1) := by decide +kernel
theorem dX5_lastsOf_57 : decode cX5_lastsOf 57 = .ok (.ireturn, 1) := by decide +kernel
set_option maxRecDepth 20000 in
theorem ggX5_ofEater_X5_noEater : GoodIn wsX5_ofEater wsX5_noEater := goodIn_r _ [9, 10, 11, 12, 8, 13, 18, 19, 20, 21, 22, 23, 24, 25, 26, 27, 28, 29, 30, 31, 32, 33, 34, 35, 36, 37, 38, 39, 40, 41, 42, 43, 44, 45, 46] (by decide +kernel) (by decide +kernel)
set_option maxRecDepth 20000 in
theorem gX5_ofEater_X5_noEater : GoodIn wsX5_ofEater (wsV RX5 145 RX5 yX5_noEater wsX5_noEater) := goodIn_app (goodIn_of _ (by decide +kernel)) ggX5_ofEater_X5_noEater
set_option maxRecDepth 20000 in
theorem ggX5_ofEater_X5_lastsOf : GoodIn wsX5_ofEater wsX5_lastsOf := goodIn_r _ [17, 2, 1, 18, 19, 20, 21, 22, 23, 24, 25, 26, 27, 28, 29, 30, 31, 32, 33, 34, 35, 36, 37, 38, 39, 40, 41, 42, 43, 44, 45, 46] (by decide +kernel) (by decide +kernel)
set_option maxRecDepth 20000 in
theorem gX5_ofEater_X5_lastsOf : GoodIn wsX5_ofEater (wsV RX5 148 RX5 yX5_lastsOf wsX5_lastsOf) := goodIn_app (goodIn_of _ (by decide +kernel)) ggX5_ofEater_X5_lastsOf
theorem dX5_ofEater_0 : decode cX5_ofEater 0 = .ok (.aload_n 0, 1) := by decide +kernel
theorem dX5_ofEater_1 : decode cX5_ofEater 1 = .ok (.iload_n 1, 1) := by decide +kernel
theorem dX5_ofEater_2 : decode cX5_ofEater 2 = .ok (.invokevirtual 145, 3) := by decide +kernel
theorem dX5_ofEater_5 : decode cX5_ofEater 5 = .ok (.ifCond .eq 5, 3) := by decide +kernel
theorem dX5_ofEater_8 : decode cX5_ofEater 8 = .ok (.iconst (-1), 1) := by decide +kernel
theorem dX5_ofEater_9 : decode cX5_ofEater 9 = .ok (.ireturn, 1) := by decide +kernel
theorem dX5_ofEater_10 : decode cX5_ofEater 10 = .ok (.iload_n 2, 1) := by decide +kernel
theorem dX5_ofEater_11 : decode cX5_ofEater 11 = .ok (.tableswitch 67 0 4 #[33, 40, 47, 54, 61], 33) := by decide +kernel
theorem dX5_ofEater_44 : decode cX5_ofEater 44 = .ok (.aload_n 0, 1) := by decide +kernel
theorem dX5_ofEater_45 : decode cX5_ofEater 45 = .ok (.getfield 13, 3) := by decide +kernel
theorem dX5_ofEater_48 : decode cX5_ofEater 48 = .ok (.iload_n 1, 1) := by decide +kernel
theorem dX5_ofEater_49 : decode cX5_ofEater 49 = .ok (.iaload, 1) := by decide +kernel
theorem dX5_ofEater_50 : decode cX5_ofEater 50 = .ok (.ireturn, 1) := by decide +kernel
theorem dX5_ofEater_51 : decode cX5_ofEater 51 = .ok (.aload_n 0, 1) := by decide +kernel
theorem dX5_ofEater_52 : decode cX5_ofEater 52 = .ok (.getfield 16, 3) := by decide +kernel
theorem dX5_ofEater_55 : decode cX5_ofEater 55 = .ok (.iload_n 1, 1) := by decide +kernel
theorem dX5_ofEater_56 : decode cX5_ofEater 56 = .ok (.iaload, 1) := by decide +kernel
theorem dX5_ofEater_57 : decode cX5_ofEater 57 = .ok (.ireturn, 1) := by decide +kernel
theorem dX5_ofEater_58 : decode cX5_ofEater 58 = .ok (.aload_n 0, 1) := by decide +kernel
theorem dX5_ofEater_59 : decode cX5_ofEater 59 = .ok (.getfield 19, 3) := by decide +kernel
theorem dX5_ofEater_62 : decode cX5_ofEater 62 = .ok (.iload_n 1, 1) := by decide +kernel
theorem dX5_ofEater_63 : decode cX5_ofEater 63 = .ok (.iaload, 1) := by decide +kernel
theorem dX5_ofEater_64 : decode cX5_ofEater 64 = .ok (.ireturn, 1) := by decide +kernel
theorem dX5_ofEater_65 : decode cX5_ofEater 65 = .ok (.aload_n 0, 1) := by decide +kernel
theorem dX5_ofEater_66 : decode cX5_ofEater 66 = .ok (.getfield 22, 3) := by decide +kernel
theorem dX5_ofEater_69 : decode cX5_ofEater 69 = .ok (.iload_n 1, 1) := by decide +kernel
theorem dX5_ofEater_70 : decode cX5_ofEater 70 = .ok (.iaload, 1) := by decide +kernel
theorem dX5_ofEater_71 : decode cX5_ofEater 71 = .ok (.ireturn, 1) := by decide +kernel
theorem dX5_ofEater_72 : decode cX5_ofEater 72 = .ok (.aload_n 0, 1) := by decide +kernel
theorem dX5_ofEater_73 : decode cX5_ofEater 73 = .ok (.iload_n 1, 1) := by decide +kernel
theorem dX5_ofEater_74 : decode cX5_ofEater 74 = .ok (.invokevirtual 148, 3) := by decide +kernel
theorem dX5_ofEater_77 : decode cX5_ofEater 77 = .ok (.ireturn, 1) := by decide +kernel
theorem dX5_ofEater_78 : decode cX5_ofEater 78 = .ok (.bipush (-2), 2) := by decide +kernel
theorem dX5_ofEater_80 : decode cX5_ofEater 80 = .ok (.ireturn, 1) := by decide +kernel
set_option maxRecDepth 20000 in
theorem ggX5_look_X5_noDay : GoodIn wsX5_look wsX5_noDay := goodIn_r _ [6, 7, 8, 9, 5, 10, 11, 12, 13, 14, 15, 16, 17, 18, 19, 20, 21, 22, 23, 24, 25, 26, 27, 28, 29, 30, 31, 32, 33, 34, 35, 36, 37, 38, 39] (by decide +kernel) (by decide +kernel)
set_option maxRecDepth 20000 in
theorem gX5_look_X5_noDay : GoodIn wsX5_look (wsV RX5 151 RX5 yX5_noDay wsX5_noDay) := goodIn_app (goodIn_of _ (by decide +kernel)) ggX5_look_X5_noDay
theorem dX5_look_0 : decode cX5_look 0 = .ok (.aload_n 0, 1) := by decide +kernel
theorem dX5_look_1 : decode cX5_look 1 = .ok (.iload_n 1, 1) := by decide +kernel
theorem dX5_look_2 : decode cX5_look 2 = .ok (.invokevirtual 151, 3) := by decide +kernel
theorem dX5_look_5 : decode cX5_look 5 = .ok (.ifCond .eq 7, 3) := by decide +kernel
theorem dX5_look_8 : decode cX5_look 8 = .ok (.iconst (-1), 1) := by decide +kernel
theorem dX5_look_9 : decode cX5_look 9 = .ok (.goto 9, 3) := by decide +kernel
theorem dX5_look_12 : decode cX5_look 12 = .ok (.aload_n 0, 1) := by decide +kernel
theorem dX5_look_13 : decode cX5_look 13 = .ok (.getfield 7, 3) := by decide +kernel
theorem dX5_look_16 : decode cX5_look 16 = .ok (.iload_n 1, 1) := by decide +kernel
theorem dX5_look_17 : decode cX5_look 17 = .ok (.iaload, 1) := by decide +kernel
theorem dX5_look_18 : decode cX5_look 18 = .ok (.ireturn, 1) := by decide +kernel
set_option maxRecDepth 20000 in
theorem ggX5_pull_X5_noDay : GoodIn wsX5_pull wsX5_noDay := goodIn_r _ [7, 8, 9, 10, 6, 11, 12, 13, 14, 15, 16, 17, 18, 19, 20, 21, 22, 23, 24, 25, 26, 27, 28, 29, 30, 31, 32, 33, 34, 35, 36, 37, 38, 39, 40] (by decide +kernel) (by decide +kernel)
set_option maxRecDepth 20000 in
theorem gX5_pull_X5_noDay : GoodIn wsX5_pull (wsV RX5 151 RX5 yX5_noDay wsX5_noDay) := goodIn_app (goodIn_of _ (by decide +kernel)) ggX5_pull_X5_noDay
set_option maxRecDepth 20000 in
theorem ggX5_pull_X5_in : GoodIn wsX5_pull wsX5_in := goodIn_r _ [11] (by decide +kernel) (by decide +kernel)
set_option maxRecDepth 20000 in
theorem gX5_pull_X5_in : GoodIn wsX5_pull (va_wsS RX5 81 yX5_in wsX5_in) := goodIn_app (goodIn_of _ (by decide +kernel)) ggX5_pull_X5_in
theorem dX5_pull_0 : decode cX5_pull 0 = .ok (.aload_n 0, 1) := by decide +kernel
theorem dX5_pull_1 : decode cX5_pull 1 = .ok (.iload_n 1, 1) := by decide +kernel
theorem dX5_pull_2 : decode cX5_pull 2 = .ok (.invokevirtual 151, 3) := by decide +kernel
theorem dX5_pull_5 : decode cX5_pull 5 = .ok (.ifCond .eq 5, 3) := by decide +kernel
theorem dX5_pull_8 : decode cX5_pull 8 = .ok (.iconst (-1), 1) := by decide +kernel
theorem dX5_pull_9 : decode cX5_pull 9 = .ok (.ireturn, 1) := by decide +kernel
theorem dX5_pull_10 : decode cX5_pull 10 = .ok (.iload_n 2, 1) := by decide +kernel
theorem dX5_pull_11 : decode cX5_pull 11 = .ok (.i2l, 1) := by decide +kernel
theorem dX5_pull_12 : decode cX5_pull 12 = .ok (.lconst 0, 1) := by decide +kernel
theorem dX5_pull_13 : decode cX5_pull 13 = .ok (.ldc2_w 154, 3) := by decide +kernel
theorem dX5_pull_16 : decode cX5_pull 16 = .ok (.invokestatic 81, 3) := by decide +kernel
theorem dX5_pull_19 : decode cX5_pull 19 = .ok (.ifCond .ne 6, 3) := by decide +kernel
theorem dX5_pull_22 : decode cX5_pull 22 = .ok (.bipush (-2), 2) := by decide +kernel
theorem dX5_pull_24 : decode cX5_pull 24 = .ok (.ireturn, 1) := by decide +kernel
theorem dX5_pull_25 : decode cX5_pull 25 = .ok (.aload_n 0, 1) := by decide +kernel
theorem dX5_pull_26 : decode cX5_pull 26 = .ok (.getfield 7, 3) := by decide +kernel
theorem dX5_pull_29 : decode cX5_pull 29 = .ok (.iload_n 1, 1) := by decide +kernel
theorem dX5_pull_30 : decode cX5_pull 30 = .ok (.iaload, 1) := by decide +kernel
theorem dX5_pull_31 : decode cX5_pull 31 = .ok (.istore_n 3, 1) := by decide +kernel
theorem dX5_pull_32 : decode cX5_pull 32 = .ok (.aload_n 0, 1) := by decide +kernel
theorem dX5_pull_33 : decode cX5_pull 33 = .ok (.getfield 7, 3) := by decide +kernel
theorem dX5_pull_36 : decode cX5_pull 36 = .ok (.iload_n 1, 1) := by decide +kernel
theorem dX5_pull_37 : decode cX5_pull 37 = .ok (.iload_n 2, 1) := by decide +kernel
theorem dX5_pull_38 : decode cX5_pull 38 = .ok (.iastore, 1) := by decide +kernel
theorem dX5_pull_39 : decode cX5_pull 39 = .ok (.iload_n 3, 1) := by decide +kernel
theorem dX5_pull_40 : decode cX5_pull 40 = .ok (.ireturn, 1) := by decide +kernel
set_option maxRecDepth 20000 in
theorem ggX5_sour_X5_in : GoodIn wsX5_sour wsX5_in := goodIn_r _ [7] (by decide +kernel) (by decide +kernel)
set_option maxRecDepth 20000 in
theorem gX5_sour_X5_in : GoodIn wsX5_sour (va_wsS RX5 81 yX5_in wsX5_in) := goodIn_app (goodIn_of _ (by decide +kernel)) ggX5_sour_X5_in
theorem dX5_sour_0 : decode cX5_sour 0 = .ok (.iload_n 1, 1) := by decide +kernel
theorem dX5_sour_1 : decode cX5_sour 1 = .ok (.i2l, 1) := by decide +kernel
theorem dX5_sour_2 : decode cX5_sour 2 = .ok (.lconst 0, 1) := by decide +kernel
theorem dX5_sour_3 : decode cX5_sour 3 = .ok (.ldc2_w 154, 3) := by decide +kernel
theorem dX5_sour_6 : decode cX5_sour 6 = .ok (.invokestatic 81, 3) := by decide +kernel
theorem dX5_sour_9 : decode cX5_sour 9 = .ok (.ifCond .ne 6, 3) := by decide +kernel
theorem dX5_sour_12 : decode cX5_sour 12 = .ok (.bipush (-2), 2) := by decide +kernel
theorem dX5_sour_14 : decode cX5_sour 14 = .ok (.ireturn, 1) := by decide +kernel
theorem dX5_sour_15 : decode cX5_sour 15 = .ok (.aload_n 0, 1) := by decide +kernel
theorem dX5_sour_16 : decode cX5_sour 16 = .ok (.getfield 85, 3) := by decide +kernel
theorem dX5_sour_19 : decode cX5_sour 19 = .ok (.ifCond .ne 6, 3) := by decide +kernel
theorem dX5_sour_22 : decode cX5_sour 22 = .ok (.bipush (-3), 2) := by decide +kernel
theorem dX5_sour_24 : decode cX5_sour 24 = .ok (.ireturn, 1) := by decide +kernel
theorem dX5_sour_25 : decode cX5_sour 25 = .ok (.aload_n 0, 1) := by decide +kernel
theorem dX5_sour_26 : decode cX5_sour 26 = .ok (.getfield 139, 3) := by decide +kernel
theorem dX5_sour_29 : decode cX5_sour 29 = .ok (.istore_n 2, 1) := by decide +kernel
theorem dX5_sour_30 : decode cX5_sour 30 = .ok (.aload_n 0, 1) := by decide +kernel
theorem dX5_sour_31 : decode cX5_sour 31 = .ok (.iload_n 1, 1) := by decide +kernel
theorem dX5_sour_32 : decode cX5_sour 32 = .ok (.putfield 139, 3) := by decide +kernel
theorem dX5_sour_35 : decode cX5_sour 35 = .ok (.iload_n 2, 1) := by decide +kernel
theorem dX5_sour_36 : decode cX5_sour 36 = .ok (.ireturn, 1) := by decide +kernel
set_option maxRecDepth 20000 in
theorem ggX5_crave_X5_noEater : GoodIn wsX5_crave wsX5_noEater := goodIn_r _ [7, 8, 9, 10, 6, 11, 12, 13, 14, 15, 16, 17, 18, 19, 20, 21, 22, 23, 24, 25, 26, 27, 28, 29, 30, 31, 32, 33, 34, 35, 36, 37, 38, 39, 40] (by decide +kernel) (by decide +kernel)
set_option maxRecDepth 20000 in
theorem gX5_crave_X5_noEater : GoodIn wsX5_crave (wsV RX5 145 RX5 yX5_noEater wsX5_noEater) := goodIn_app (goodIn_of _ (by decide +kernel)) ggX5_crave_X5_noEater
set_option maxRecDepth 20000 in
theorem ggX5_crave_X5_in : GoodIn wsX5_crave wsX5_in := goodIn_r _ [11] (by decide +kernel) (by decide +kernel)
set_option maxRecDepth 20000 in
theorem gX5_crave_X5_in : GoodIn wsX5_crave (va_wsS RX5 81 yX5_in wsX5_in) := goodIn_app (goodIn_of _ (by decide +kernel)) ggX5_crave_X5_in
theorem dX5_crave_0 : decode cX5_crave 0 = .ok (.aload_n 0, 1) := by decide +kernel
theorem dX5_crave_1 : decode cX5_crave 1 = .ok (.iload_n 1, 1) := by decide +kernel
theorem dX5_crave_2 : decode cX5_crave 2 = .ok (.invokevirtual 145, 3) := by decide +kernel
theorem dX5_crave_5 : decode cX5_crave 5 = .ok (.ifCond .eq 5, 3) := by decide +kernel
theorem dX5_crave_8 : decode cX5_crave 8 = .ok (.iconst (-1), 1) := by decide +kernel
theorem dX5_crave_9 : decode cX5_crave 9 = .ok (.ireturn, 1) := by decide +kernel
theorem dX5_crave_10 : decode cX5_crave 10 = .ok (.iload_n 2, 1) := by decide +kernel
theorem dX5_crave_11 : decode cX5_crave 11 = .ok (.i2l, 1) := by decide +kernel
theorem dX5_crave_12 : decode cX5_crave 12 = .ok (.lconst 0, 1) := by decide +kernel
theorem dX5_crave_13 : decode cX5_crave 13 = .ok (.ldc2_w 156, 3) := by decide +kernel
theorem dX5_crave_16 : decode cX5_crave 16 = .ok (.invokestatic 81, 3) := by decide +kernel
theorem dX5_crave_19 : decode cX5_crave 19 = .ok (.ifCond .ne 6, 3) := by decide +kernel
theorem dX5_crave_22 : decode cX5_crave 22 = .ok (.bipush (-2), 2) := by decide +kernel
theorem dX5_crave_24 : decode cX5_crave 24 = .ok (.ireturn, 1) := by decide +kernel
theorem dX5_crave_25 : decode cX5_crave 25 = .ok (.aload_n 0, 1) := by decide +kernel
theorem dX5_crave_26 : decode cX5_crave 26 = .ok (.getfield 22, 3) := by decide +kernel
theorem dX5_crave_29 : decode cX5_crave 29 = .ok (.iload_n 1, 1) := by decide +kernel
theorem dX5_crave_30 : decode cX5_crave 30 = .ok (.iaload, 1) := by decide +kernel
theorem dX5_crave_31 : decode cX5_crave 31 = .ok (.istore_n 3, 1) := by decide +kernel
theorem dX5_crave_32 : decode cX5_crave 32 = .ok (.aload_n 0, 1) := by decide +kernel
theorem dX5_crave_33 : decode cX5_crave 33 = .ok (.getfield 22, 3) := by decide +kernel
theorem dX5_crave_36 : decode cX5_crave 36 = .ok (.iload_n 1, 1) := by decide +kernel
theorem dX5_crave_37 : decode cX5_crave 37 = .ok (.iload_n 2, 1) := by decide +kernel
theorem dX5_crave_38 : decode cX5_crave 38 = .ok (.iastore, 1) := by decide +kernel
theorem dX5_crave_39 : decode cX5_crave 39 = .ok (.iload_n 3, 1) := by decide +kernel
theorem dX5_crave_40 : decode cX5_crave 40 = .ok (.ireturn, 1) := by decide +kernel
theorem dX5_fastsNow_0 : decode cX5_fastsNow 0 = .ok (.iconst 0, 1) := by decide +kernel
theorem dX5_fastsNow_1 : decode cX5_fastsNow 1 = .ok (.istore_n 1, 1) := by decide +kernel
theorem dX5_fastsNow_2 : decode cX5_fastsNow 2 = .ok (.iconst 0, 1) := by decide +kernel
theorem dX5_fastsNow_3 : decode cX5_fastsNow 3 = .ok (.istore_n 2, 1) := by decide +kernel
theorem dX5_fastsNow_4 : decode cX5_fastsNow 4 = .ok (.iload_n 2, 1) := by decide +kernel
theorem dX5_fastsNow_5 : decode cX5_fastsNow 5 = .ok (.aload_n 0, 1) := by decide +kernel
theorem dX5_fastsNow_6 : decode cX5_fastsNow 6 = .ok (.getfield 78, 3) := by decide +kernel
theorem dX5_fastsNow_9 : decode cX5_fastsNow 9 = .ok (.if_icmp .ge 40, 3) := by decide +kernel
theorem dX5_fastsNow_12 : decode cX5_fastsNow 12 = .ok (.iload_n 1, 1) := by decide +kernel
theorem dX5_fastsNow_13 : decode cX5_fastsNow 13 = .ok (.aload_n 0, 1) := by decide +kernel
theorem dX5_fastsNow_14 : decode cX5_fastsNow 14 = .ok (.getfield 7, 3) := by decide +kernel
theorem dX5_fastsNow_17 : decode cX5_fastsNow 17 = .ok (.iload_n 2, 1) := by decide +kernel
theorem dX5_fastsNow_18 : decode cX5_fastsNow 18 = .ok (.iaload, 1) := by decide +kernel
theorem dX5_fastsNow_19 : decode cX5_fastsNow 19 = .ok (.aload_n 0, 1) := by decide +kernel
theorem dX5_fastsNow_20 : decode cX5_fastsNow 20 = .ok (.getfield 139, 3) := by decide +kernel
theorem dX5_fastsNow_23 : decode cX5_fastsNow 23 = .ok (.if_icmp .lt 17, 3) := by decide +kernel
theorem dX5_fastsNow_26 : decode cX5_fastsNow 26 = .ok (.iload_n 2, 1) := by decide +kernel
theorem dX5_fastsNow_27 : decode cX5_fastsNow 27 = .ok (.aload_n 0, 1) := by decide +kernel
theorem dX5_fastsNow_28 : decode cX5_fastsNow 28 = .ok (.getfield 25, 3) := by decide +kernel
theorem dX5_fastsNow_31 : decode cX5_fastsNow 31 = .ok (.if_icmp .eq 9, 3) := by decide +kernel
theorem dX5_fastsNow_34 : decode cX5_fastsNow 34 = .ok (.iconst 1, 1) := by decide +kernel
theorem dX5_fastsNow_35 : decode cX5_fastsNow 35 = .ok (.iload_n 2, 1) := by decide +kernel
theorem dX5_fastsNow_36 : decode cX5_fastsNow 36 = .ok (.ishl, 1) := by decide +kernel
theorem dX5_fastsNow_37 : decode cX5_fastsNow 37 = .ok (.goto 4, 3) := by decide +kernel
theorem dX5_fastsNow_40 : decode cX5_fastsNow 40 = .ok (.iconst 0, 1) := by decide +kernel
theorem dX5_fastsNow_41 : decode cX5_fastsNow 41 = .ok (.ior, 1) := by decide +kernel
theorem dX5_fastsNow_42 : decode cX5_fastsNow 42 = .ok (.istore_n 1, 1) := by decide +kernel
theorem dX5_fastsNow_43 : decode cX5_fastsNow 43 = .ok (.iinc 2 1, 3) := by decide +kernel
theorem dX5_fastsNow_46 : decode cX5_fastsNow 46 = .ok (.goto (-42), 3) := by decide +kernel
theorem dX5_fastsNow_49 : decode cX5_fastsNow 49 = .ok (.iload_n 1, 1) := by decide +kernel
theorem dX5_fastsNow_50 : decode cX5_fastsNow 50 = .ok (.ireturn, 1) := by decide +kernel
set_option maxRecDepth 20000 in
theorem ggX5_yellowBy_X5_lastsOf : GoodIn wsX5_yellowBy wsX5_lastsOf := goodIn_r _ [6, 7, 8, 12, 13, 14, 15, 16, 17, 18, 19, 20, 21, 22, 23, 24, 25, 26, 27, 28, 29, 30, 31, 32, 33, 34, 35, 36, 37, 38, 39, 40] (by decide +kernel) (by decide +kernel)
set_option maxRecDepth 20000 in
theorem gX5_yellowBy_X5_lastsOf : GoodIn wsX5_yellowBy (wsV RX5 148 RX5 yX5_lastsOf wsX5_lastsOf) := goodIn_app (goodIn_of _ (by decide +kernel)) ggX5_yellowBy_X5_lastsOf
set_option maxRecDepth 20000 in
theorem ggX5_yellowBy_X5_isIn : GoodIn wsX5_yellowBy wsX5_isIn := goodIn_r _ [11] (by decide +kernel) (by decide +kernel)
set_option maxRecDepth 20000 in
theorem gX5_yellowBy_X5_isIn : GoodIn wsX5_yellowBy (va_wsS RX5 158 yX5_isIn wsX5_isIn) := goodIn_app (goodIn_of _ (by decide +kernel)) ggX5_yellowBy_X5_isIn
theorem dX5_yellowBy_0 : decode cX5_yellowBy 0 = .ok (.iconst 0, 1) := by decide +kernel
theorem dX5_yellowBy_1 : decode cX5_yellowBy 1 = .ok (.istore_n 3, 1) := by decide +kernel
theorem dX5_yellowBy_2 : decode cX5_yellowBy 2 = .ok (.aload_n 0, 1) := by decide +kernel
theorem dX5_yellowBy_3 : decode cX5_yellowBy 3 = .ok (.iload_n 1, 1) := by decide +kernel
theorem dX5_yellowBy_4 : decode cX5_yellowBy 4 = .ok (.invokevirtual 148, 3) := by decide +kernel
theorem dX5_yellowBy_7 : decode cX5_yellowBy 7 = .ok (.istore 4, 2) := by decide +kernel
theorem dX5_yellowBy_9 : decode cX5_yellowBy 9 = .ok (.iconst 0, 1) := by decide +kernel
theorem dX5_yellowBy_10 : decode cX5_yellowBy 10 = .ok (.istore 5, 2) := by decide +kernel
theorem dX5_yellowBy_12 : decode cX5_yellowBy 12 = .ok (.iload 5, 2) := by decide +kernel
theorem dX5_yellowBy_14 : decode cX5_yellowBy 14 = .ok (.aload_n 0, 1) := by decide +kernel
theorem dX5_yellowBy_15 : decode cX5_yellowBy 15 = .ok (.getfield 78, 3) := by decide +kernel
theorem dX5_yellowBy_18 : decode cX5_yellowBy 18 = .ok (.if_icmp .ge 58, 3) := by decide +kernel
theorem dX5_yellowBy_21 : decode cX5_yellowBy 21 = .ok (.iload 5, 2) := by decide +kernel
theorem dX5_yellowBy_23 : decode cX5_yellowBy 23 = .ok (.istore 6, 2) := by decide +kernel
theorem dX5_yellowBy_25 : decode cX5_yellowBy 25 = .ok (.iload 6, 2) := by decide +kernel
theorem dX5_yellowBy_27 : decode cX5_yellowBy 27 = .ok (.aload_n 0, 1) := by decide +kernel
theorem dX5_yellowBy_28 : decode cX5_yellowBy 28 = .ok (.getfield 78, 3) := by decide +kernel
theorem dX5_yellowBy_31 : decode cX5_yellowBy 31 = .ok (.if_icmp .ge 39, 3) := by decide +kernel
theorem dX5_yellowBy_34 : decode cX5_yellowBy 34 = .ok (.iload 6, 2) := by decide +kernel
theorem dX5_yellowBy_36 : decode cX5_yellowBy 36 = .ok (.iload 5, 2) := by decide +kernel
theorem dX5_yellowBy_38 : decode cX5_yellowBy 38 = .ok (.iload 4, 2) := by decide +kernel
theorem dX5_yellowBy_40 : decode cX5_yellowBy 40 = .ok (.iadd, 1) := by decide +kernel
theorem dX5_yellowBy_41 : decode cX5_yellowBy 41 = .ok (.if_icmp .gt 29, 3) := by decide +kernel
theorem dX5_yellowBy_44 : decode cX5_yellowBy 44 = .ok (.iload_n 3, 1) := by decide +kernel
theorem dX5_yellowBy_45 : decode cX5_yellowBy 45 = .ok (.iload_n 2, 1) := by decide +kernel
theorem dX5_yellowBy_46 : decode cX5_yellowBy 46 = .ok (.iload 5, 2) := by decide +kernel
theorem dX5_yellowBy_48 : decode cX5_yellowBy 48 = .ok (.invokestatic 158, 3) := by decide +kernel
theorem dX5_yellowBy_51 : decode cX5_yellowBy 51 = .ok (.ifCond .eq 10, 3) := by decide +kernel
theorem dX5_yellowBy_54 : decode cX5_yellowBy 54 = .ok (.iconst 1, 1) := by decide +kernel
theorem dX5_yellowBy_55 : decode cX5_yellowBy 55 = .ok (.iload 6, 2) := by decide +kernel
theorem dX5_yellowBy_57 : decode cX5_yellowBy 57 = .ok (.ishl, 1) := by decide +kernel
theorem dX5_yellowBy_58 : decode cX5_yellowBy 58 = .ok (.goto 4, 3) := by decide +kernel
theorem dX5_yellowBy_61 : decode cX5_yellowBy 61 = .ok (.iconst 0, 1) := by decide +kernel
theorem dX5_yellowBy_62 : decode cX5_yellowBy 62 = .ok (.ior, 1) := by decide +kernel
theorem dX5_yellowBy_63 : decode cX5_yellowBy 63 = .ok (.istore_n 3, 1) := by decide +kernel
theorem dX5_yellowBy_64 : decode cX5_yellowBy 64 = .ok (.iinc 6 1, 3) := by decide +kernel
theorem dX5_yellowBy_67 : decode cX5_yellowBy 67 = .ok (.goto (-42), 3) := by decide +kernel
theorem dX5_yellowBy_70 : decode cX5_yellowBy 70 = .ok (.iinc 5 1, 3) := by decide +kernel
theorem dX5_yellowBy_73 : decode cX5_yellowBy 73 = .ok (.goto (-61), 3) := by decide +kernel
theorem dX5_yellowBy_76 : decode cX5_yellowBy 76 = .ok (.iload_n 3, 1) := by decide +kernel
theorem dX5_yellowBy_77 : decode cX5_yellowBy 77 = .ok (.ireturn, 1) := by decide +kernel
set_option maxRecDepth 20000 in
theorem ggX5_foundBy_X5_yellowBy : GoodIn wsX5_foundBy wsX5_yellowBy := goodIn_r _ [5, 6, 7, 8, 9, 4, 10, 11, 12, 13, 14, 15, 23, 24, 25, 26, 27, 28, 29, 30, 31, 32, 33, 34, 35, 36, 37, 38, 39, 40, 41, 42, 43, 44, 45, 46, 47, 48, 49, 50, 51] (by decide +kernel) (by decide +kernel)
set_option maxRecDepth 20000 in
theorem gX5_foundBy_X5_yellowBy : GoodIn wsX5_foundBy (wsV RX5 161 RX5 yX5_yellowBy wsX5_yellowBy) := goodIn_app (goodIn_of _ (by decide +kernel)) ggX5_foundBy_X5_yellowBy
set_option maxRecDepth 20000 in
theorem ggX5_foundBy_X5_fastsNow : GoodIn wsX5_foundBy wsX5_fastsNow := goodIn_r _ [19, 6, 20, 21, 22, 23, 24, 25, 26, 27, 28, 29, 30, 31, 32, 33, 34, 35, 36, 37, 38, 39, 40, 41, 42, 43, 44, 45, 46, 47, 48, 49, 50, 51] (by decide +kernel) (by decide +kernel)
set_option maxRecDepth 20000 in
theorem gX5_foundBy_X5_fastsNow : GoodIn wsX5_foundBy (wsV RX5 164 RX5 yX5_fastsNow wsX5_fastsNow) := goodIn_app (goodIn_of _ (by decide +kernel)) ggX5_foundBy_X5_fastsNow
theorem dX5_foundBy_0 : decode cX5_foundBy 0 = .ok (.aload_n 0, 1) := by decide +kernel
theorem dX5_foundBy_1 : decode cX5_foundBy 1 = .ok (.iload_n 1, 1) := by decide +kernel
theorem dX5_foundBy_2 : decode cX5_foundBy 2 = .ok (.iload_n 2, 1) := by decide +kernel
theorem dX5_foundBy_3 : decode cX5_foundBy 3 = .ok (.invokevirtual 161, 3) := by decide +kernel
theorem dX5_foundBy_6 : decode cX5_foundBy 6 = .ok (.aload_n 0, 1) := by decide +kernel
theorem dX5_foundBy_7 : decode cX5_foundBy 7 = .ok (.invokevirtual 164, 3) := by decide +kernel
theorem dX5_foundBy_10 : decode cX5_foundBy 10 = .ok (.iand, 1) := by decide +kernel
theorem dX5_foundBy_11 : decode cX5_foundBy 11 = .ok (.ireturn, 1) := by decide +kernel
set_option maxRecDepth 20000 in
theorem ggX5_fineOf_X5_foundBy : GoodIn wsX5_fineOf wsX5_foundBy := goodIn_r _ [6, 7, 8, 9, 5, 10, 11, 12, 13, 14, 15, 16, 17, 18, 19, 20, 21, 22, 23, 24, 25, 26, 27, 31, 32, 33, 34, 35, 36, 37, 38, 39, 40, 41, 42, 43, 44, 45, 46, 47, 48, 49, 50, 51, 52, 53, 54, 55, 56, 57, 58, 59] (by decide +kernel) (by decide +kernel)
set_option maxRecDepth 20000 in
theorem gX5_fineOf_X5_foundBy : GoodIn wsX5_fineOf (wsV RX5 168 RX5 yX5_foundBy wsX5_foundBy) := goodIn_app (goodIn_of _ (by decide +kernel)) ggX5_fineOf_X5_foundBy
set_option maxRecDepth 20000 in
theorem ggX5_fineOf_X5_bits : GoodIn wsX5_fineOf wsX5_bits := goodIn_r _ [30] (by decide +kernel) (by decide +kernel)
set_option maxRecDepth 20000 in
theorem gX5_fineOf_X5_bits : GoodIn wsX5_fineOf (va_wsS RX5 171 yX5_bits wsX5_bits) := goodIn_app (goodIn_of _ (by decide +kernel)) ggX5_fineOf_X5_bits
theorem dX5_fineOf_0 : decode cX5_fineOf 0 = .ok (.aload_n 0, 1) := by decide +kernel
theorem dX5_fineOf_1 : decode cX5_fineOf 1 = .ok (.getfield 19, 3) := by decide +kernel
theorem dX5_fineOf_4 : decode cX5_fineOf 4 = .ok (.iload_n 1, 1) := by decide +kernel
theorem dX5_fineOf_5 : decode cX5_fineOf 5 = .ok (.iaload, 1) := by decide +kernel
theorem dX5_fineOf_6 : decode cX5_fineOf 6 = .ok (.aload_n 0, 1) := by decide +kernel
theorem dX5_fineOf_7 : decode cX5_fineOf 7 = .ok (.iload_n 1, 1) := by decide +kernel
theorem dX5_fineOf_8 : decode cX5_fineOf 8 = .ok (.iload_n 2, 1) := by decide +kernel
theorem dX5_fineOf_9 : decode cX5_fineOf 9 = .ok (.invokevirtual 168, 3) := by decide +kernel
theorem dX5_fineOf_12 : decode cX5_fineOf 12 = .ok (.invokestatic 171, 3) := by decide +kernel
theorem dX5_fineOf_15 : decode cX5_fineOf 15 = .ok (.imul, 1) := by decide +kernel
theorem dX5_fineOf_16 : decode cX5_fineOf 16 = .ok (.ireturn, 1) := by decide +kernel
set_option maxRecDepth 20000 in
theorem ggX5_fasts_X5_fastsNow : GoodIn wsX5_fasts wsX5_fastsNow := goodIn_r _ [6, 7, 8, 9, 10, 11, 12, 13, 14, 15, 16, 17, 18, 19, 20, 21, 22, 23, 24, 25, 26, 27, 28, 29, 30, 31, 32, 33, 34, 35, 36, 37, 38, 39] (by decide +kernel) (by decide +kernel)
set_option maxRecDepth 20000 in
theorem gX5_fasts_X5_fastsNow : GoodIn wsX5_fasts (wsV RX5 164 RX5 yX5_fastsNow wsX5_fastsNow) := goodIn_app (goodIn_of _ (by decide +kernel)) ggX5_fasts_X5_fastsNow
theorem dX5_fasts_0 : decode cX5_fasts 0 = .ok (.aload_n 0, 1) := by decide +kernel
theorem dX5_fasts_1 : decode cX5_fasts 1 = .ok (.getfield 85, 3) := by decide +kernel
theorem dX5_fasts_4 : decode cX5_fasts 4 = .ok (.ifCond .ne 8, 3) := by decide +kernel
theorem dX5_fasts_7 : decode cX5_fasts 7 = .ok (.bipush (-3), 2) := by decide +kernel
theorem dX5_fasts_9 : decode cX5_fasts 9 = .ok (.goto 7, 3) := by decide +kernel
theorem dX5_fasts_12 : decode cX5_fasts 12 = .ok (.aload_n 0, 1) := by decide +kernel
theorem dX5_fasts_13 : decode cX5_fasts 13 = .ok (.invokevirtual 164, 3) := by decide +kernel
theorem dX5_fasts_16 : decode cX5_fasts 16 = .ok (.ireturn, 1) := by decide +kernel
set_option maxRecDepth 20000 in
theorem ggX5_yellow_X5_noEater : GoodIn wsX5_yellow wsX5_noEater := goodIn_r _ [5, 6, 7, 8, 4, 9, 28, 29, 30, 31, 32, 33, 34, 35, 36, 37, 38, 39, 40, 41, 42, 43, 44, 45, 46, 47, 48, 49, 50, 51, 52, 53, 54, 55, 56] (by decide +kernel) (by decide +kernel)
set_option maxRecDepth 20000 in
theorem gX5_yellow_X5_noEater : GoodIn wsX5_yellow (wsV RX5 145 RX5 yX5_noEater wsX5_noEater) := goodIn_app (goodIn_of _ (by decide +kernel)) ggX5_yellow_X5_noEater
set_option maxRecDepth 20000 in
theorem ggX5_yellow_X5_noSet : GoodIn wsX5_yellow wsX5_noSet := goodIn_r _ [13, 14, 7, 8, 4, 9, 28, 29, 30, 31, 32, 33, 34, 35, 36, 37, 38, 39, 40, 41, 42, 43, 44, 45, 46, 47, 48, 49, 50, 51, 52, 53, 54, 55, 56] (by decide +kernel) (by decide +kernel)
set_option maxRecDepth 20000 in
theorem gX5_yellow_X5_noSet : GoodIn wsX5_yellow (wsV RX5 174 RX5 yX5_noSet wsX5_noSet) := goodIn_app (goodIn_of _ (by decide +kernel)) ggX5_yellow_X5_noSet
set_option maxRecDepth 20000 in
theorem ggX5_yellow_X5_yellowBy : GoodIn wsX5_yellow wsX5_yellowBy := goodIn_r _ [18, 14, 19, 20, 21, 4, 22, 23, 24, 25, 26, 27, 28, 29, 30, 31, 32, 33, 34, 35, 36, 37, 38, 39, 40, 41, 42, 43, 44, 45, 46, 47, 48, 49, 50, 51, 52, 53, 54, 55, 56] (by decide +kernel) (by decide +kernel)
set_option maxRecDepth 20000 in
theorem gX5_yellow_X5_yellowBy : GoodIn wsX5_yellow (wsV RX5 161 RX5 yX5_yellowBy wsX5_yellowBy) := goodIn_app (goodIn_of _ (by decide +kernel)) ggX5_yellow_X5_yellowBy
theorem dX5_yellow_0 : decode cX5_yellow 0 = .ok (.aload_n 0, 1) := by decide +kernel
theorem dX5_yellow_1 : decode cX5_yellow 1 = .ok (.iload_n 1, 1) := by decide +kernel
theorem dX5_yellow_2 : decode cX5_yellow 2 = .ok (.invokevirtual 145, 3) := by decide +kernel
theorem dX5_yellow_5 : decode cX5_yellow 5 = .ok (.ifCond .eq 5, 3) := by decide +kernel
theorem dX5_yellow_8 : decode cX5_yellow 8 = .ok (.iconst (-1), 1) := by decide +kernel
theorem dX5_yellow_9 : decode cX5_yellow 9 = .ok (.ireturn, 1) := by decide +kernel
theorem dX5_yellow_10 : decode cX5_yellow 10 = .ok (.aload_n 0, 1) := by decide +kernel
theorem dX5_yellow_11 : decode cX5_yellow 11 = .ok (.iload_n 2, 1) := by decide +kernel
theorem dX5_yellow_12 : decode cX5_yellow 12 = .ok (.invokevirtual 174, 3) := by decide +kernel
theorem dX5_yellow_15 : decode cX5_yellow 15 = .ok (.ifCond .eq 8, 3) := by decide +kernel
theorem dX5_yellow_18 : decode cX5_yellow 18 = .ok (.bipush (-2), 2) := by decide +kernel
theorem dX5_yellow_20 : decode cX5_yellow 20 = .ok (.goto 9, 3) := by decide +kernel
theorem dX5_yellow_23 : decode cX5_yellow 23 = .ok (.aload_n 0, 1) := by decide +kernel
theorem dX5_yellow_24 : decode cX5_yellow 24 = .ok (.iload_n 1, 1) := by decide +kernel
theorem dX5_yellow_25 : decode cX5_yellow 25 = .ok (.iload_n 2, 1) := by decide +kernel
theorem dX5_yellow_26 : decode cX5_yellow 26 = .ok (.invokevirtual 161, 3) := by decide +kernel
theorem dX5_yellow_29 : decode cX5_yellow 29 = .ok (.ireturn, 1) := by decide +kernel
set_option maxRecDepth 20000 in
theorem ggX5_found_X5_noEater : GoodIn wsX5_found wsX5_noEater := goodIn_r _ [5, 6, 7, 8, 4, 9, 47, 48, 49, 50, 51, 52, 53, 54, 55, 56, 57, 58, 59, 60, 61, 62, 63, 64, 65, 66, 67, 68, 69, 70, 71, 72, 73, 74, 75] (by decide +kernel) (by decide +kernel)
set_option maxRecDepth 20000 in
theorem gX5_found_X5_noEater : GoodIn wsX5_found (wsV RX5 145 RX5 yX5_noEater wsX5_noEater) := goodIn_app (goodIn_of _ (by decide +kernel)) ggX5_found_X5_noEater
set_option maxRecDepth 20000 in
theorem ggX5_found_X5_noSet : GoodIn wsX5_found wsX5_noSet := goodIn_r _ [13, 14, 7, 8, 4, 9, 47, 48, 49, 50, 51, 52, 53, 54, 55, 56, 57, 58, 59, 60, 61, 62, 63, 64, 65, 66, 67, 68, 69, 70, 71, 72, 73, 74, 75] (by decide +kernel) (by decide +kernel)
set_option maxRecDepth 20000 in
theorem gX5_found_X5_noSet : GoodIn wsX5_found (wsV RX5 174 RX5 yX5_noSet wsX5_noSet) := goodIn_app (goodIn_of _ (by decide +kernel)) ggX5_found_X5_noSet
set_option maxRecDepth 20000 in
theorem ggX5_found_X5_in : GoodIn wsX5_found wsX5_in := goodIn_r _ [9] (by decide +kernel) (by decide +kernel)
set_option maxRecDepth 20000 in
theorem gX5_found_X5_in : GoodIn wsX5_found (va_wsS RX5 81 yX5_in wsX5_in) := goodIn_app (goodIn_of _ (by decide +kernel)) ggX5_found_X5_in
set_option maxRecDepth 20000 in
theorem ggX5_found_X5_foundBy : GoodIn wsX5_found wsX5_foundBy := goodIn_r _ [18, 19, 20, 21, 4, 22, 14, 23, 24, 25, 26, 27, 28, 29, 30, 31, 32, 33, 34, 35, 36, 37, 38, 47, 48, 49, 50, 51, 52, 53, 54, 55, 56, 57, 58, 59, 60, 61, 62, 63, 64, 65, 66, 67, 68, 69, 70, 71, 72, 73, 74, 75] (by decide +kernel) (by decide +kernel)
set_option maxRecDepth 20000 in
theorem gX5_found_X5_foundBy : GoodIn wsX5_found (wsV RX5 168 RX5 yX5_foundBy wsX5_foundBy) := goodIn_app (goodIn_of _ (by decide +kernel)) ggX5_found_X5_foundBy
set_option maxRecDepth 20000 in
theorem ggX5_found_X5_fineOf : GoodIn wsX5_found wsX5_fineOf := goodIn_r _ [42, 43, 15, 16, 17, 4, 18, 19, 20, 21, 22, 14, 23, 24, 25, 26, 27, 28, 29, 30, 31, 32, 33, 34, 35, 36, 37, 38, 44, 45, 46, 47, 48, 49, 50, 51, 52, 53, 54, 55, 56, 57, 58, 59, 60, 61, 62, 63, 64, 65, 66, 67, 68, 69, 70, 71, 72, 73, 74, 75] (by decide +kernel) (by decide +kernel)
set_option maxRecDepth 20000 in
theorem gX5_found_X5_fineOf : GoodIn wsX5_found (wsV RX5 177 RX5 yX5_fineOf wsX5_fineOf) := goodIn_app (goodIn_of _ (by decide +kernel)) ggX5_found_X5_fineOf
theorem dX5_found_0 : decode cX5_found 0 = .ok (.aload_n 0, 1) := by decide +kernel
theorem dX5_found_1 : decode cX5_found 1 = .ok (.iload_n 1, 1) := by decide +kernel
theorem dX5_found_2 : decode cX5_found 2 = .ok (.invokevirtual 145, 3) := by decide +kernel
theorem dX5_found_5 : decode cX5_found 5 = .ok (.ifCond .eq 5, 3) := by decide +kernel
theorem dX5_found_8 : decode cX5_found 8 = .ok (.iconst (-1), 1) := by decide +kernel
theorem dX5_found_9 : decode cX5_found 9 = .ok (.ireturn, 1) := by decide +kernel
theorem dX5_found_10 : decode cX5_found 10 = .ok (.aload_n 0, 1) := by decide +kernel
theorem dX5_found_11 : decode cX5_found 11 = .ok (.iload_n 2, 1) := by decide +kernel
theorem dX5_found_12 : decode cX5_found 12 = .ok (.invokevirtual 174, 3) := by decide +kernel
theorem dX5_found_15 : decode cX5_found 15 = .ok (.ifCond .ne 13, 3) := by decide +kernel
theorem dX5_found_18 : decode cX5_found 18 = .ok (.iload_n 3, 1) := by decide +kernel
theorem dX5_found_19 : decode cX5_found 19 = .ok (.i2l, 1) := by decide +kernel
theorem dX5_found_20 : decode cX5_found 20 = .ok (.lconst 0, 1) := by decide +kernel
theorem dX5_found_21 : decode cX5_found 21 = .ok (.lconst 1, 1) := by decide +kernel
theorem dX5_found_22 : decode cX5_found 22 = .ok (.invokestatic 81, 3) := by decide +kernel
theorem dX5_found_25 : decode cX5_found 25 = .ok (.ifCond .ne 6, 3) := by decide +kernel
theorem dX5_found_28 : decode cX5_found 28 = .ok (.bipush (-2), 2) := by decide +kernel
theorem dX5_found_30 : decode cX5_found 30 = .ok (.ireturn, 1) := by decide +kernel
theorem dX5_found_31 : decode cX5_found 31 = .ok (.iload_n 3, 1) := by decide +kernel
theorem dX5_found_32 : decode cX5_found 32 = .ok (.ifCond .ne 12, 3) := by decide +kernel
theorem dX5_found_35 : decode cX5_found 35 = .ok (.aload_n 0, 1) := by decide +kernel
theorem dX5_found_36 : decode cX5_found 36 = .ok (.iload_n 1, 1) := by decide +kernel
theorem dX5_found_37 : decode cX5_found 37 = .ok (.iload_n 2, 1) := by decide +kernel
theorem dX5_found_38 : decode cX5_found 38 = .ok (.invokevirtual 168, 3) := by decide +kernel
theorem dX5_found_41 : decode cX5_found 41 = .ok (.goto 9, 3) := by decide +kernel
theorem dX5_found_44 : decode cX5_found 44 = .ok (.aload_n 0, 1) := by decide +kernel
theorem dX5_found_45 : decode cX5_found 45 = .ok (.iload_n 1, 1) := by decide +kernel
theorem dX5_found_46 : decode cX5_found 46 = .ok (.iload_n 2, 1) := by decide +kernel
theorem dX5_found_47 : decode cX5_found 47 = .ok (.invokevirtual 177, 3) := by decide +kernel
theorem dX5_found_50 : decode cX5_found 50 = .ok (.ireturn, 1) := by decide +kernel
set_option maxRecDepth 20000 in
theorem ggX5_planBy_X5_foundBy : GoodIn wsX5_planBy wsX5_foundBy := goodIn_r _ [9, 10, 11, 12, 8, 13, 4, 14, 15, 16, 17, 18, 19, 20, 21, 22, 23, 24, 25, 26, 27, 28, 29, 45, 46, 47, 48, 49, 50, 51, 52, 53, 54, 55, 56, 57, 58, 59, 60, 61, 62, 63, 64, 65, 66, 67, 68, 69, 70, 71, 72, 73] (by decide +kernel) (by decide +kernel)
set_option maxRecDepth 20000 in
theorem gX5_planBy_X5_foundBy : GoodIn wsX5_planBy (wsV RX5 168 RX5 yX5_foundBy wsX5_foundBy) := goodIn_app (goodIn_of _ (by decide +kernel)) ggX5_planBy_X5_foundBy
set_option maxRecDepth 20000 in
theorem ggX5_planBy_X5_fineOf : GoodIn wsX5_planBy wsX5_fineOf := goodIn_r _ [33, 34, 5, 6, 7, 8, 9, 10, 11, 12, 13, 4, 14, 15, 16, 17, 18, 19, 20, 21, 22, 23, 24, 25, 26, 27, 28, 29, 35, 36, 37, 45, 46, 47, 48, 49, 50, 51, 52, 53, 54, 55, 56, 57, 58, 59, 60, 61, 62, 63, 64, 65, 66, 67, 68, 69, 70, 71, 72, 73] (by decide +kernel) (by decide +kernel)
set_option maxRecDepth 20000 in
theorem gX5_planBy_X5_fineOf : GoodIn wsX5_planBy (wsV RX5 177 RX5 yX5_fineOf wsX5_fineOf) := goodIn_app (goodIn_of _ (by decide +kernel)) ggX5_planBy_X5_fineOf
set_option maxRecDepth 20000 in
theorem ggX5_planBy_X5_bits : GoodIn wsX5_planBy wsX5_bits := goodIn_r _ [37] (by decide +kernel) (by decide +kernel)
set_option maxRecDepth 20000 in
theorem gX5_planBy_X5_bits : GoodIn wsX5_planBy (va_wsS RX5 171 yX5_bits wsX5_bits) := goodIn_app (goodIn_of _ (by decide +kernel)) ggX5_planBy_X5_bits
set_option maxRecDepth 20000 in
theorem ggX5_planBy_X5_isIn : GoodIn wsX5_planBy wsX5_isIn := goodIn_r _ [22] (by decide +kernel) (by decide +kernel)
set_option maxRecDepth 20000 in
theorem gX5_planBy_X5_isIn : GoodIn wsX5_planBy (va_wsS RX5 158 yX5_isIn wsX5_isIn) := goodIn_app (goodIn_of _ (by decide +kernel)) ggX5_planBy_X5_isIn
set_option maxRecDepth 20000 in
theorem ggX5_planBy_X5_noDay : GoodIn wsX5_planBy wsX5_noDay := goodIn_r _ [41, 4, 42, 43, 8, 44, 45, 46, 47, 48, 49, 50, 51, 52, 53, 54, 55, 56, 57, 58, 59, 60, 61, 62, 63, 64, 65, 66, 67, 68, 69, 70, 71, 72, 73] (by decide +kernel) (by decide +kernel)
set_option maxRecDepth 20000 in
theorem gX5_planBy_X5_noDay : GoodIn wsX5_planBy (wsV RX5 151 RX5 yX5_noDay wsX5_noDay) := goodIn_app (goodIn_of _ (by decide +kernel)) ggX5_planBy_X5_noDay
theorem dX5_planBy_0 : decode cX5_planBy 0 = .ok (.iconst 0, 1) := by decide +kernel
theorem dX5_planBy_1 : decode cX5_planBy 1 = .ok (.istore_n 3, 1) := by decide +kernel
theorem dX5_planBy_2 : decode cX5_planBy 2 = .ok (.bipush (-9), 2) := by decide +kernel
theorem dX5_planBy_4 : decode cX5_planBy 4 = .ok (.istore 4, 2) := by decide +kernel
theorem dX5_planBy_6 : decode cX5_planBy 6 = .ok (.iconst 0, 1) := by decide +kernel
theorem dX5_planBy_7 : decode cX5_planBy 7 = .ok (.istore 5, 2) := by decide +kernel
theorem dX5_planBy_9 : decode cX5_planBy 9 = .ok (.iconst 0, 1) := by decide +kernel
theorem dX5_planBy_10 : decode cX5_planBy 10 = .ok (.istore 6, 2) := by decide +kernel
theorem dX5_planBy_12 : decode cX5_planBy 12 = .ok (.iconst 0, 1) := by decide +kernel
theorem dX5_planBy_13 : decode cX5_planBy 13 = .ok (.istore 7, 2) := by decide +kernel
theorem dX5_planBy_15 : decode cX5_planBy 15 = .ok (.iconst 0, 1) := by decide +kernel
theorem dX5_planBy_16 : decode cX5_planBy 16 = .ok (.istore 8, 2) := by decide +kernel
theorem dX5_planBy_18 : decode cX5_planBy 18 = .ok (.iload 8, 2) := by decide +kernel
theorem dX5_planBy_20 : decode cX5_planBy 20 = .ok (.aload_n 0, 1) := by decide +kernel
theorem dX5_planBy_21 : decode cX5_planBy 21 = .ok (.getfield 85, 3) := by decide +kernel
theorem dX5_planBy_24 : decode cX5_planBy 24 = .ok (.if_icmp .ge 165, 3) := by decide +kernel
theorem dX5_planBy_27 : decode cX5_planBy 27 = .ok (.aload_n 0, 1) := by decide +kernel
theorem dX5_planBy_28 : decode cX5_planBy 28 = .ok (.getfield 63, 3) := by decide +kernel
theorem dX5_planBy_31 : decode cX5_planBy 31 = .ok (.iload_n 1, 1) := by decide +kernel
theorem dX5_planBy_32 : decode cX5_planBy 32 = .ok (.iload 8, 2) := by decide +kernel
theorem dX5_planBy_34 : decode cX5_planBy 34 = .ok (.iadd, 1) := by decide +kernel
theorem dX5_planBy_35 : decode cX5_planBy 35 = .ok (.iaload, 1) := by decide +kernel
theorem dX5_planBy_36 : decode cX5_planBy 36 = .ok (.istore 9, 2) := by decide +kernel
theorem dX5_planBy_38 : decode cX5_planBy 38 = .ok (.aload_n 0, 1) := by decide +kernel
theorem dX5_planBy_39 : decode cX5_planBy 39 = .ok (.iload 8, 2) := by decide +kernel
theorem dX5_planBy_41 : decode cX5_planBy 41 = .ok (.iload 9, 2) := by decide +kernel
theorem dX5_planBy_43 : decode cX5_planBy 43 = .ok (.invokevirtual 168, 3) := by decide +kernel
theorem dX5_planBy_46 : decode cX5_planBy 46 = .ok (.istore 10, 2) := by decide +kernel
theorem dX5_planBy_48 : decode cX5_planBy 48 = .ok (.iload_n 3, 1) := by decide +kernel
theorem dX5_planBy_49 : decode cX5_planBy 49 = .ok (.aload_n 0, 1) := by decide +kernel
theorem dX5_planBy_50 : decode cX5_planBy 50 = .ok (.iload 8, 2) := by decide +kernel
theorem dX5_planBy_52 : decode cX5_planBy 52 = .ok (.iload 9, 2) := by decide +kernel
theorem dX5_planBy_54 : decode cX5_planBy 54 = .ok (.invokevirtual 177, 3) := by decide +kernel
theorem dX5_planBy_57 : decode cX5_planBy 57 = .ok (.iadd, 1) := by decide +kernel
theorem dX5_planBy_58 : decode cX5_planBy 58 = .ok (.istore_n 3, 1) := by decide +kernel
theorem dX5_planBy_59 : decode cX5_planBy 59 = .ok (.iload 5, 2) := by decide +kernel
theorem dX5_planBy_61 : decode cX5_planBy 61 = .ok (.iload 10, 2) := by decide +kernel
theorem dX5_planBy_63 : decode cX5_planBy 63 = .ok (.ifCond .le 10, 3) := by decide +kernel
theorem dX5_planBy_66 : decode cX5_planBy 66 = .ok (.iconst 1, 1) := by decide +kernel
theorem dX5_planBy_67 : decode cX5_planBy 67 = .ok (.iload 8, 2) := by decide +kernel
theorem dX5_planBy_69 : decode cX5_planBy 69 = .ok (.ishl, 1) := by decide +kernel
theorem dX5_planBy_70 : decode cX5_planBy 70 = .ok (.goto 4, 3) := by decide +kernel
theorem dX5_planBy_73 : decode cX5_planBy 73 = .ok (.iconst 0, 1) := by decide +kernel
theorem dX5_planBy_74 : decode cX5_planBy 74 = .ok (.ior, 1) := by decide +kernel
theorem dX5_planBy_75 : decode cX5_planBy 75 = .ok (.istore 5, 2) := by decide +kernel
theorem dX5_planBy_77 : decode cX5_planBy 77 = .ok (.iload 6, 2) := by decide +kernel
theorem dX5_planBy_79 : decode cX5_planBy 79 = .ok (.iload 9, 2) := by decide +kernel
theorem dX5_planBy_81 : decode cX5_planBy 81 = .ok (.invokestatic 171, 3) := by decide +kernel
theorem dX5_planBy_84 : decode cX5_planBy 84 = .ok (.aload_n 0, 1) := by decide +kernel
theorem dX5_planBy_85 : decode cX5_planBy 85 = .ok (.getfield 22, 3) := by decide +kernel
theorem dX5_planBy_88 : decode cX5_planBy 88 = .ok (.iload 8, 2) := by decide +kernel
theorem dX5_planBy_90 : decode cX5_planBy 90 = .ok (.iaload, 1) := by decide +kernel
theorem dX5_planBy_91 : decode cX5_planBy 91 = .ok (.if_icmp .ge 10, 3) := by decide +kernel
theorem dX5_planBy_94 : decode cX5_planBy 94 = .ok (.iconst 1, 1) := by decide +kernel
theorem dX5_planBy_95 : decode cX5_planBy 95 = .ok (.iload 8, 2) := by decide +kernel
theorem dX5_planBy_97 : decode cX5_planBy 97 = .ok (.ishl, 1) := by decide +kernel
theorem dX5_planBy_98 : decode cX5_planBy 98 = .ok (.goto 4, 3) := by decide +kernel
theorem dX5_planBy_101 : decode cX5_planBy 101 = .ok (.iconst 0, 1) := by decide +kernel
theorem dX5_planBy_102 : decode cX5_planBy 102 = .ok (.ior, 1) := by decide +kernel
theorem dX5_planBy_103 : decode cX5_planBy 103 = .ok (.istore 6, 2) := by decide +kernel
theorem dX5_planBy_105 : decode cX5_planBy 105 = .ok (.iload 7, 2) := by decide +kernel
theorem dX5_planBy_107 : decode cX5_planBy 107 = .ok (.iload_n 2, 1) := by decide +kernel
theorem dX5_planBy_108 : decode cX5_planBy 108 = .ok (.bipush 10, 2) := by decide +kernel
theorem dX5_planBy_110 : decode cX5_planBy 110 = .ok (.if_icmp .lt 19, 3) := by decide +kernel
theorem dX5_planBy_113 : decode cX5_planBy 113 = .ok (.iload 10, 2) := by decide +kernel
theorem dX5_planBy_115 : decode cX5_planBy 115 = .ok (.iload_n 2, 1) := by decide +kernel
theorem dX5_planBy_116 : decode cX5_planBy 116 = .ok (.bipush 10, 2) := by decide +kernel
theorem dX5_planBy_118 : decode cX5_planBy 118 = .ok (.isub, 1) := by decide +kernel
theorem dX5_planBy_119 : decode cX5_planBy 119 = .ok (.invokestatic 158, 3) := by decide +kernel
theorem dX5_planBy_122 : decode cX5_planBy 122 = .ok (.ifCond .eq 7, 3) := by decide +kernel
theorem dX5_planBy_125 : decode cX5_planBy 125 = .ok (.iconst 1, 1) := by decide +kernel
theorem dX5_planBy_126 : decode cX5_planBy 126 = .ok (.goto 4, 3) := by decide +kernel
theorem dX5_planBy_129 : decode cX5_planBy 129 = .ok (.iconst 0, 1) := by decide +kernel
theorem dX5_planBy_130 : decode cX5_planBy 130 = .ok (.iadd, 1) := by decide +kernel
theorem dX5_planBy_131 : decode cX5_planBy 131 = .ok (.istore 7, 2) := by decide +kernel
theorem dX5_planBy_133 : decode cX5_planBy 133 = .ok (.aload_n 0, 1) := by decide +kernel
theorem dX5_planBy_134 : decode cX5_planBy 134 = .ok (.getfield 78, 3) := by decide +kernel
theorem dX5_planBy_137 : decode cX5_planBy 137 = .ok (.iconst 1, 1) := by decide +kernel
theorem dX5_planBy_138 : decode cX5_planBy 138 = .ok (.isub, 1) := by decide +kernel
theorem dX5_planBy_139 : decode cX5_planBy 139 = .ok (.istore 11, 2) := by decide +kernel
theorem dX5_planBy_141 : decode cX5_planBy 141 = .ok (.iload 11, 2) := by decide +kernel
theorem dX5_planBy_143 : decode cX5_planBy 143 = .ok (.ifCond .lt 40, 3) := by decide +kernel
theorem dX5_planBy_146 : decode cX5_planBy 146 = .ok (.iload 10, 2) := by decide +kernel
theorem dX5_planBy_148 : decode cX5_planBy 148 = .ok (.iload 11, 2) := by decide +kernel
theorem dX5_planBy_150 : decode cX5_planBy 150 = .ok (.invokestatic 158, 3) := by decide +kernel
theorem dX5_planBy_153 : decode cX5_planBy 153 = .ok (.ifCond .eq 20, 3) := by decide +kernel
theorem dX5_planBy_156 : decode cX5_planBy 156 = .ok (.iload 4, 2) := by decide +kernel
theorem dX5_planBy_158 : decode cX5_planBy 158 = .ok (.ifCond .lt 10, 3) := by decide +kernel
theorem dX5_planBy_161 : decode cX5_planBy 161 = .ok (.iload 11, 2) := by decide +kernel
theorem dX5_planBy_163 : decode cX5_planBy 163 = .ok (.iload 4, 2) := by decide +kernel
theorem dX5_planBy_165 : decode cX5_planBy 165 = .ok (.if_icmp .ge 8, 3) := by decide +kernel
theorem dX5_planBy_168 : decode cX5_planBy 168 = .ok (.iload 11, 2) := by decide +kernel
theorem dX5_planBy_170 : decode cX5_planBy 170 = .ok (.goto 5, 3) := by decide +kernel
theorem dX5_planBy_173 : decode cX5_planBy 173 = .ok (.iload 4, 2) := by decide +kernel
theorem dX5_planBy_175 : decode cX5_planBy 175 = .ok (.istore 4, 2) := by decide +kernel
theorem dX5_planBy_177 : decode cX5_planBy 177 = .ok (.iinc 11 (-1), 3) := by decide +kernel
theorem dX5_planBy_180 : decode cX5_planBy 180 = .ok (.goto (-39), 3) := by decide +kernel
theorem dX5_planBy_183 : decode cX5_planBy 183 = .ok (.iinc 8 1, 3) := by decide +kernel
theorem dX5_planBy_186 : decode cX5_planBy 186 = .ok (.goto (-168), 3) := by decide +kernel
theorem dX5_planBy_189 : decode cX5_planBy 189 = .ok (.iload_n 2, 1) := by decide +kernel
theorem dX5_planBy_190 : decode cX5_planBy 190 = .ok (.bipush 10, 2) := by decide +kernel
theorem dX5_planBy_192 : decode cX5_planBy 192 = .ok (.if_icmp .lt 22, 3) := by decide +kernel
theorem dX5_planBy_195 : decode cX5_planBy 195 = .ok (.aload_n 0, 1) := by decide +kernel
theorem dX5_planBy_196 : decode cX5_planBy 196 = .ok (.iload_n 2, 1) := by decide +kernel
theorem dX5_planBy_197 : decode cX5_planBy 197 = .ok (.bipush 10, 2) := by decide +kernel
theorem dX5_planBy_199 : decode cX5_planBy 199 = .ok (.isub, 1) := by decide +kernel
theorem dX5_planBy_200 : decode cX5_planBy 200 = .ok (.invokevirtual 151, 3) := by decide +kernel
theorem dX5_planBy_203 : decode cX5_planBy 203 = .ok (.ifCond .eq 8, 3) := by decide +kernel
theorem dX5_planBy_206 : decode cX5_planBy 206 = .ok (.bipush (-9), 2) := by decide +kernel
theorem dX5_planBy_208 : decode cX5_planBy 208 = .ok (.goto 5, 3) := by decide +kernel
theorem dX5_planBy_211 : decode cX5_planBy 211 = .ok (.iload 7, 2) := by decide +kernel
theorem dX5_planBy_213 : decode cX5_planBy 213 = .ok (.ireturn, 1) := by decide +kernel
theorem dX5_planBy_214 : decode cX5_planBy 214 = .ok (.iload_n 2, 1) := by decide +kernel
theorem dX5_planBy_215 : decode cX5_planBy 215 = .ok (.ifCond .ne 7, 3) := by decide +kernel
theorem dX5_planBy_218 : decode cX5_planBy 218 = .ok (.iload_n 3, 1) := by decide +kernel
theorem dX5_planBy_219 : decode cX5_planBy 219 = .ok (.goto 25, 3) := by decide +kernel
theorem dX5_planBy_222 : decode cX5_planBy 222 = .ok (.iload_n 2, 1) := by decide +kernel
theorem dX5_planBy_223 : decode cX5_planBy 223 = .ok (.iconst 1, 1) := by decide +kernel
theorem dX5_planBy_224 : decode cX5_planBy 224 = .ok (.if_icmp .ne 8, 3) := by decide +kernel
theorem dX5_planBy_227 : decode cX5_planBy 227 = .ok (.iload 4, 2) := by decide +kernel
theorem dX5_planBy_229 : decode cX5_planBy 229 = .ok (.goto 15, 3) := by decide +kernel
theorem dX5_planBy_232 : decode cX5_planBy 232 = .ok (.iload_n 2, 1) := by decide +kernel
theorem dX5_planBy_233 : decode cX5_planBy 233 = .ok (.iconst 2, 1) := by decide +kernel
theorem dX5_planBy_234 : decode cX5_planBy 234 = .ok (.if_icmp .ne 8, 3) := by decide +kernel
theorem dX5_planBy_237 : decode cX5_planBy 237 = .ok (.iload 5, 2) := by decide +kernel
theorem dX5_planBy_239 : decode cX5_planBy 239 = .ok (.goto 5, 3) := by decide +kernel
theorem dX5_planBy_242 : decode cX5_planBy 242 = .ok (.iload 6, 2) := by decide +kernel
theorem dX5_planBy_244 : decode cX5_planBy 244 = .ok (.ireturn, 1) := by decide +kernel
set_option maxRecDepth 20000 in
theorem ggX5_plan_X5_noSheet : GoodIn wsX5_plan wsX5_noSheet := goodIn_r _ [10, 1, 11, 12, 9, 13] (by decide +kernel) (by decide +kernel)
set_option maxRecDepth 20000 in
theorem gX5_plan_X5_noSheet : GoodIn wsX5_plan (va_wsS RX5 123 yX5_noSheet wsX5_noSheet) := goodIn_app (goodIn_of _ (by decide +kernel)) ggX5_plan_X5_noSheet
set_option maxRecDepth 20000 in
theorem ggX5_plan_X5_refused : GoodIn wsX5_plan wsX5_refused := goodIn_r _ [17, 18, 78, 79, 80, 81, 82, 83, 84, 85, 86, 87, 88, 89, 90, 91, 92, 93, 94, 95, 96, 97, 98, 99, 100, 101, 102, 103, 104, 105, 106] (by decide +kernel) (by decide +kernel)
set_option maxRecDepth 20000 in
theorem gX5_plan_X5_refused : GoodIn wsX5_plan (wsV RX5 127 RX5 yX5_refused wsX5_refused) := goodIn_app (goodIn_of _ (by decide +kernel)) ggX5_plan_X5_refused
set_option maxRecDepth 20000 in
theorem ggX5_plan_X5_in : GoodIn wsX5_plan wsX5_in := goodIn_r _ [13] (by decide +kernel) (by decide +kernel)
set_option maxRecDepth 20000 in
theorem gX5_plan_X5_in : GoodIn wsX5_plan (va_wsS RX5 81 yX5_in wsX5_in) := goodIn_app (goodIn_of _ (by decide +kernel)) ggX5_plan_X5_in
set_option maxRecDepth 20000 in
theorem ggX5_plan_X5_cellsBarred : GoodIn wsX5_plan wsX5_cellsBarred := goodIn_r _ [22, 23, 24, 25, 26, 27, 9, 28, 18, 29, 30, 31, 78, 79, 80, 81, 82, 83, 84, 85, 86, 87, 88, 89, 90, 91, 92, 93, 94, 95, 96, 97, 98, 99, 100, 101, 102, 103, 104, 105, 106] (by decide +kernel) (by decide +kernel)
set_option maxRecDepth 20000 in
theorem gX5_plan_X5_cellsBarred : GoodIn wsX5_plan (wsV RX5 132 RX5 yX5_cellsBarred wsX5_cellsBarred) := goodIn_app (goodIn_of _ (by decide +kernel)) ggX5_plan_X5_cellsBarred
set_option maxRecDepth 20000 in
theorem ggX5_plan_X5_noSet : GoodIn wsX5_plan wsX5_noSet := goodIn_r _ [35, 36, 11, 12, 9, 13, 78, 79, 80, 81, 82, 83, 84, 85, 86, 87, 88, 89, 90, 91, 92, 93, 94, 95, 96, 97, 98, 99, 100, 101, 102, 103, 104, 105, 106] (by decide +kernel) (by decide +kernel)
set_option maxRecDepth 20000 in
theorem gX5_plan_X5_noSet : GoodIn wsX5_plan (wsV RX5 174 RX5 yX5_noSet wsX5_noSet) := goodIn_app (goodIn_of _ (by decide +kernel)) ggX5_plan_X5_noSet
set_option maxRecDepth 20000 in
theorem ggX5_plan_X5_planBy : GoodIn wsX5_plan wsX5_planBy := goodIn_r _ [40, 5, 6, 41, 36, 42, 43, 44, 9, 45, 46, 47, 48, 49, 50, 51, 52, 53, 54, 55, 56, 57, 58, 59, 60, 61, 62, 63, 64, 65, 66, 67, 68, 69, 70, 71, 72, 73, 74, 75, 76, 77, 11, 12, 13, 78, 79, 80, 81, 82, 83, 84, 85, 86, 87, 88, 89, 90, 91, 92, 93, 94, 95, 96, 97, 98, 99, 100, 101, 102, 103, 104, 105, 106] (by decide +kernel) (by decide +kernel)
set_option maxRecDepth 20000 in
theorem gX5_plan_X5_planBy : GoodIn wsX5_plan (wsV RX5 186 RX5 yX5_planBy wsX5_planBy) := goodIn_app (goodIn_of _ (by decide +kernel)) ggX5_plan_X5_planBy
theorem dX5_plan_0 : decode cX5_plan 0 = .ok (.iload_n 1, 1) := by decide +kernel
theorem dX5_plan_1 : decode cX5_plan 1 = .ok (.invokestatic 123, 3) := by decide +kernel
theorem dX5_plan_4 : decode cX5_plan 4 = .ok (.ifCond .eq 9, 3) := by decide +kernel
theorem dX5_plan_7 : decode cX5_plan 7 = .ok (.aload_n 0, 1) := by decide +kernel
theorem dX5_plan_8 : decode cX5_plan 8 = .ok (.iconst (-1), 1) := by decide +kernel
theorem dX5_plan_9 : decode cX5_plan 9 = .ok (.invokevirtual 127, 3) := by decide +kernel
theorem dX5_plan_12 : decode cX5_plan 12 = .ok (.ireturn, 1) := by decide +kernel
theorem dX5_plan_13 : decode cX5_plan 13 = .ok (.iload 5, 2) := by decide +kernel
theorem dX5_plan_15 : decode cX5_plan 15 = .ok (.i2l, 1) := by decide +kernel
theorem dX5_plan_16 : decode cX5_plan 16 = .ok (.lconst 0, 1) := by decide +kernel
theorem dX5_plan_17 : decode cX5_plan 17 = .ok (.ldc2_w 180, 3) := by decide +kernel
theorem dX5_plan_20 : decode cX5_plan 20 = .ok (.invokestatic 81, 3) := by decide +kernel
theorem dX5_plan_23 : decode cX5_plan 23 = .ok (.ifCond .ne 18, 3) := by decide +kernel
theorem dX5_plan_26 : decode cX5_plan 26 = .ok (.iload 5, 2) := by decide +kernel
theorem dX5_plan_28 : decode cX5_plan 28 = .ok (.i2l, 1) := by decide +kernel
theorem dX5_plan_29 : decode cX5_plan 29 = .ok (.ldc2_w 182, 3) := by decide +kernel
theorem dX5_plan_32 : decode cX5_plan 32 = .ok (.ldc2_w 184, 3) := by decide +kernel
theorem dX5_plan_35 : decode cX5_plan 35 = .ok (.invokestatic 81, 3) := by decide +kernel
theorem dX5_plan_38 : decode cX5_plan 38 = .ok (.ifCond .eq 7, 3) := by decide +kernel
theorem dX5_plan_41 : decode cX5_plan 41 = .ok (.iconst 1, 1) := by decide +kernel
theorem dX5_plan_42 : decode cX5_plan 42 = .ok (.goto 4, 3) := by decide +kernel
theorem dX5_plan_45 : decode cX5_plan 45 = .ok (.iconst 0, 1) := by decide +kernel
theorem dX5_plan_46 : decode cX5_plan 46 = .ok (.istore 6, 2) := by decide +kernel
theorem dX5_plan_48 : decode cX5_plan 48 = .ok (.iload_n 2, 1) := by decide +kernel
theorem dX5_plan_49 : decode cX5_plan 49 = .ok (.i2l, 1) := by decide +kernel
theorem dX5_plan_50 : decode cX5_plan 50 = .ok (.lconst 0, 1) := by decide +kernel
theorem dX5_plan_51 : decode cX5_plan 51 = .ok (.ldc2_w 130, 3) := by decide +kernel
theorem dX5_plan_54 : decode cX5_plan 54 = .ok (.invokestatic 81, 3) := by decide +kernel
theorem dX5_plan_57 : decode cX5_plan 57 = .ok (.ifCond .eq 8, 3) := by decide +kernel
theorem dX5_plan_60 : decode cX5_plan 60 = .ok (.iload 6, 2) := by decide +kernel
theorem dX5_plan_62 : decode cX5_plan 62 = .ok (.ifCond .ne 10, 3) := by decide +kernel
theorem dX5_plan_65 : decode cX5_plan 65 = .ok (.aload_n 0, 1) := by decide +kernel
theorem dX5_plan_66 : decode cX5_plan 66 = .ok (.bipush (-2), 2) := by decide +kernel
theorem dX5_plan_68 : decode cX5_plan 68 = .ok (.invokevirtual 127, 3) := by decide +kernel
theorem dX5_plan_71 : decode cX5_plan 71 = .ok (.ireturn, 1) := by decide +kernel
theorem dX5_plan_72 : decode cX5_plan 72 = .ok (.aload_n 0, 1) := by decide +kernel
theorem dX5_plan_73 : decode cX5_plan 73 = .ok (.getfield 85, 3) := by decide +kernel
theorem dX5_plan_76 : decode cX5_plan 76 = .ok (.ifCond .ne 10, 3) := by decide +kernel
theorem dX5_plan_79 : decode cX5_plan 79 = .ok (.aload_n 0, 1) := by decide +kernel
theorem dX5_plan_80 : decode cX5_plan 80 = .ok (.bipush (-3), 2) := by decide +kernel
theorem dX5_plan_82 : decode cX5_plan 82 = .ok (.invokevirtual 127, 3) := by decide +kernel
theorem dX5_plan_85 : decode cX5_plan 85 = .ok (.ireturn, 1) := by decide +kernel
theorem dX5_plan_86 : decode cX5_plan 86 = .ok (.aload_n 0, 1) := by decide +kernel
theorem dX5_plan_87 : decode cX5_plan 87 = .ok (.iload_n 1, 1) := by decide +kernel
theorem dX5_plan_88 : decode cX5_plan 88 = .ok (.iload_n 2, 1) := by decide +kernel
theorem dX5_plan_89 : decode cX5_plan 89 = .ok (.iload_n 3, 1) := by decide +kernel
theorem dX5_plan_90 : decode cX5_plan 90 = .ok (.iload 4, 2) := by decide +kernel
theorem dX5_plan_92 : decode cX5_plan 92 = .ok (.i2l, 1) := by decide +kernel
theorem dX5_plan_93 : decode cX5_plan 93 = .ok (.invokevirtual 132, 3) := by decide +kernel
theorem dX5_plan_96 : decode cX5_plan 96 = .ok (.istore 7, 2) := by decide +kernel
theorem dX5_plan_98 : decode cX5_plan 98 = .ok (.iload 7, 2) := by decide +kernel
theorem dX5_plan_100 : decode cX5_plan 100 = .ok (.ifCond .ge 6, 3) := by decide +kernel
theorem dX5_plan_103 : decode cX5_plan 103 = .ok (.iload 7, 2) := by decide +kernel
theorem dX5_plan_105 : decode cX5_plan 105 = .ok (.ireturn, 1) := by decide +kernel
theorem dX5_plan_106 : decode cX5_plan 106 = .ok (.iload 4, 2) := by decide +kernel
theorem dX5_plan_108 : decode cX5_plan 108 = .ok (.aload_n 0, 1) := by decide +kernel
theorem dX5_plan_109 : decode cX5_plan 109 = .ok (.getfield 85, 3) := by decide +kernel
theorem dX5_plan_112 : decode cX5_plan 112 = .ok (.if_icmp .eq 10, 3) := by decide +kernel
theorem dX5_plan_115 : decode cX5_plan 115 = .ok (.aload_n 0, 1) := by decide +kernel
theorem dX5_plan_116 : decode cX5_plan 116 = .ok (.bipush (-2), 2) := by decide +kernel
theorem dX5_plan_118 : decode cX5_plan 118 = .ok (.invokevirtual 127, 3) := by decide +kernel
theorem dX5_plan_121 : decode cX5_plan 121 = .ok (.ireturn, 1) := by decide +kernel
theorem dX5_plan_122 : decode cX5_plan 122 = .ok (.iconst 0, 1) := by decide +kernel
theorem dX5_plan_123 : decode cX5_plan 123 = .ok (.istore 8, 2) := by decide +kernel
theorem dX5_plan_125 : decode cX5_plan 125 = .ok (.iload 8, 2) := by decide +kernel
theorem dX5_plan_127 : decode cX5_plan 127 = .ok (.iload 4, 2) := by decide +kernel
theorem dX5_plan_129 : decode cX5_plan 129 = .ok (.if_icmp .ge 37, 3) := by decide +kernel
theorem dX5_plan_132 : decode cX5_plan 132 = .ok (.aload_n 0, 1) := by decide +kernel
theorem dX5_plan_133 : decode cX5_plan 133 = .ok (.aload_n 0, 1) := by decide +kernel
theorem dX5_plan_134 : decode cX5_plan 134 = .ok (.getfield 63, 3) := by decide +kernel
theorem dX5_plan_137 : decode cX5_plan 137 = .ok (.bipush 60, 2) := by decide +kernel
theorem dX5_plan_139 : decode cX5_plan 139 = .ok (.iload_n 1, 1) := by decide +kernel
theorem dX5_plan_140 : decode cX5_plan 140 = .ok (.imul, 1) := by decide +kernel
theorem dX5_plan_141 : decode cX5_plan 141 = .ok (.iload_n 3, 1) := by decide +kernel
theorem dX5_plan_142 : decode cX5_plan 142 = .ok (.iadd, 1) := by decide +kernel
theorem dX5_plan_143 : decode cX5_plan 143 = .ok (.iload 8, 2) := by decide +kernel
theorem dX5_plan_145 : decode cX5_plan 145 = .ok (.iadd, 1) := by decide +kernel
theorem dX5_plan_146 : decode cX5_plan 146 = .ok (.iaload, 1) := by decide +kernel
theorem dX5_plan_147 : decode cX5_plan 147 = .ok (.invokevirtual 174, 3) := by decide +kernel
theorem dX5_plan_150 : decode cX5_plan 150 = .ok (.ifCond .eq 10, 3) := by decide +kernel
theorem dX5_plan_153 : decode cX5_plan 153 = .ok (.aload_n 0, 1) := by decide +kernel
theorem dX5_plan_154 : decode cX5_plan 154 = .ok (.bipush (-2), 2) := by decide +kernel
theorem dX5_plan_156 : decode cX5_plan 156 = .ok (.invokevirtual 127, 3) := by decide +kernel
theorem dX5_plan_159 : decode cX5_plan 159 = .ok (.ireturn, 1) := by decide +kernel
theorem dX5_plan_160 : decode cX5_plan 160 = .ok (.iinc 8 1, 3) := by decide +kernel
theorem dX5_plan_163 : decode cX5_plan 163 = .ok (.goto (-38), 3) := by decide +kernel
theorem dX5_plan_166 : decode cX5_plan 166 = .ok (.aload_n 0, 1) := by decide +kernel
theorem dX5_plan_167 : decode cX5_plan 167 = .ok (.aload_n 0, 1) := by decide +kernel
theorem dX5_plan_168 : decode cX5_plan 168 = .ok (.bipush 60, 2) := by decide +kernel
theorem dX5_plan_170 : decode cX5_plan 170 = .ok (.iload_n 1, 1) := by decide +kernel
theorem dX5_plan_171 : decode cX5_plan 171 = .ok (.imul, 1) := by decide +kernel
theorem dX5_plan_172 : decode cX5_plan 172 = .ok (.iload_n 3, 1) := by decide +kernel
theorem dX5_plan_173 : decode cX5_plan 173 = .ok (.iadd, 1) := by decide +kernel
theorem dX5_plan_174 : decode cX5_plan 174 = .ok (.iload 5, 2) := by decide +kernel
theorem dX5_plan_176 : decode cX5_plan 176 = .ok (.invokevirtual 186, 3) := by decide +kernel
theorem dX5_plan_179 : decode cX5_plan 179 = .ok (.invokevirtual 127, 3) := by decide +kernel
theorem dX5_plan_182 : decode cX5_plan 182 = .ok (.ireturn, 1) := by decide +kernel
set_option maxRecDepth 20000 in
theorem ggX5_bestOf_X5_bits : GoodIn wsX5_bestOf wsX5_bits := goodIn_r _ [6] (by decide +kernel) (by decide +kernel)
set_option maxRecDepth 20000 in
theorem gX5_bestOf_X5_bits : GoodIn wsX5_bestOf (va_wsS RX5 171 yX5_bits wsX5_bits) := goodIn_app (goodIn_of _ (by decide +kernel)) ggX5_bestOf_X5_bits
set_option maxRecDepth 20000 in
theorem ggX5_bestOf_X5_fineOf : GoodIn wsX5_bestOf wsX5_fineOf := goodIn_r _ [10, 11, 12, 13, 14, 5, 15, 16, 17, 18, 19, 1, 20, 21, 22, 23, 24, 25, 26, 27, 28, 29, 30, 31, 32, 33, 34, 35, 3, 4, 6, 36, 37, 38, 39, 40, 41, 42, 43, 44, 45, 46, 47, 48, 49, 50, 51, 52, 53, 54, 55, 56, 57, 58, 59, 60, 61, 62, 63, 64] (by decide +kernel) (by decide +kernel)
set_option maxRecDepth 20000 in
theorem gX5_bestOf_X5_fineOf : GoodIn wsX5_bestOf (wsV RX5 177 RX5 yX5_fineOf wsX5_fineOf) := goodIn_app (goodIn_of _ (by decide +kernel)) ggX5_bestOf_X5_fineOf
theorem dX5_bestOf_0 : decode cX5_bestOf 0 = .ok (.bipush (-9), 2) := by decide +kernel
theorem dX5_bestOf_2 : decode cX5_bestOf 2 = .ok (.istore_n 2, 1) := by decide +kernel
theorem dX5_bestOf_3 : decode cX5_bestOf 3 = .ok (.iconst 0, 1) := by decide +kernel
theorem dX5_bestOf_4 : decode cX5_bestOf 4 = .ok (.istore_n 3, 1) := by decide +kernel
theorem dX5_bestOf_5 : decode cX5_bestOf 5 = .ok (.iload_n 3, 1) := by decide +kernel
theorem dX5_bestOf_6 : decode cX5_bestOf 6 = .ok (.iconst 1, 1) := by decide +kernel
theorem dX5_bestOf_7 : decode cX5_bestOf 7 = .ok (.aload_n 0, 1) := by decide +kernel
theorem dX5_bestOf_8 : decode cX5_bestOf 8 = .ok (.getfield 78, 3) := by decide +kernel
theorem dX5_bestOf_11 : decode cX5_bestOf 11 = .ok (.ishl, 1) := by decide +kernel
theorem dX5_bestOf_12 : decode cX5_bestOf 12 = .ok (.if_icmp .ge 87, 3) := by decide +kernel
theorem dX5_bestOf_15 : decode cX5_bestOf 15 = .ok (.iload_n 3, 1) := by decide +kernel
theorem dX5_bestOf_16 : decode cX5_bestOf 16 = .ok (.invokestatic 171, 3) := by decide +kernel
theorem dX5_bestOf_19 : decode cX5_bestOf 19 = .ok (.aload_n 0, 1) := by decide +kernel
theorem dX5_bestOf_20 : decode cX5_bestOf 20 = .ok (.getfield 22, 3) := by decide +kernel
theorem dX5_bestOf_23 : decode cX5_bestOf 23 = .ok (.iload_n 1, 1) := by decide +kernel
theorem dX5_bestOf_24 : decode cX5_bestOf 24 = .ok (.iaload, 1) := by decide +kernel
theorem dX5_bestOf_25 : decode cX5_bestOf 25 = .ok (.if_icmp .lt 7, 3) := by decide +kernel
theorem dX5_bestOf_28 : decode cX5_bestOf 28 = .ok (.iconst 1, 1) := by decide +kernel
theorem dX5_bestOf_29 : decode cX5_bestOf 29 = .ok (.goto 4, 3) := by decide +kernel
theorem dX5_bestOf_32 : decode cX5_bestOf 32 = .ok (.iconst 0, 1) := by decide +kernel
theorem dX5_bestOf_33 : decode cX5_bestOf 33 = .ok (.istore 4, 2) := by decide +kernel
theorem dX5_bestOf_35 : decode cX5_bestOf 35 = .ok (.iload 4, 2) := by decide +kernel
theorem dX5_bestOf_37 : decode cX5_bestOf 37 = .ok (.ifCond .eq 9, 3) := by decide +kernel
theorem dX5_bestOf_40 : decode cX5_bestOf 40 = .ok (.iload_n 2, 1) := by decide +kernel
theorem dX5_bestOf_41 : decode cX5_bestOf 41 = .ok (.ifCond .ge 5, 3) := by decide +kernel
theorem dX5_bestOf_44 : decode cX5_bestOf 44 = .ok (.iload_n 3, 1) := by decide +kernel
theorem dX5_bestOf_45 : decode cX5_bestOf 45 = .ok (.istore_n 2, 1) := by decide +kernel
theorem dX5_bestOf_46 : decode cX5_bestOf 46 = .ok (.iload 4, 2) := by decide +kernel
theorem dX5_bestOf_48 : decode cX5_bestOf 48 = .ok (.ifCond .eq 45, 3) := by decide +kernel
theorem dX5_bestOf_51 : decode cX5_bestOf 51 = .ok (.aload_n 0, 1) := by decide +kernel
theorem dX5_bestOf_52 : decode cX5_bestOf 52 = .ok (.iload_n 1, 1) := by decide +kernel
theorem dX5_bestOf_53 : decode cX5_bestOf 53 = .ok (.iload_n 2, 1) := by decide +kernel
theorem dX5_bestOf_54 : decode cX5_bestOf 54 = .ok (.invokevirtual 177, 3) := by decide +kernel
theorem dX5_bestOf_57 : decode cX5_bestOf 57 = .ok (.aload_n 0, 1) := by decide +kernel
theorem dX5_bestOf_58 : decode cX5_bestOf 58 = .ok (.iload_n 1, 1) := by decide +kernel
theorem dX5_bestOf_59 : decode cX5_bestOf 59 = .ok (.iload_n 3, 1) := by decide +kernel
theorem dX5_bestOf_60 : decode cX5_bestOf 60 = .ok (.invokevirtual 177, 3) := by decide +kernel
theorem dX5_bestOf_63 : decode cX5_bestOf 63 = .ok (.isub, 1) := by decide +kernel
theorem dX5_bestOf_64 : decode cX5_bestOf 64 = .ok (.istore 5, 2) := by decide +kernel
theorem dX5_bestOf_66 : decode cX5_bestOf 66 = .ok (.iload 5, 2) := by decide +kernel
