theorem dX4_on_1 : decode cX4_on 1 = .ok (.invokestatic 99, 3) := by decide +kernel
theorem dX4_on_4 : decode cX4_on 4 = .ok (.ifCond .ne 9, 3) := by decide +kernel
theorem dX4_on_7 : decode cX4_on 7 = .ok (.aload_n 0, 1) := by decide +kernel
theorem dX4_on_8 : decode cX4_on 8 = .ok (.iconst (-1), 1) := by decide +kernel
theorem dX4_on_9 : decode cX4_on 9 = .ok (.invokevirtual 43, 3) := by decide +kernel
theorem dX4_on_12 : decode cX4_on 12 = .ok (.ireturn, 1) := by decide +kernel
theorem dX4_on_13 : decode cX4_on 13 = .ok (.aload_n 0, 1) := by decide +kernel
theorem dX4_on_14 : decode cX4_on 14 = .ok (.getfield 10, 3) := by decide +kernel
theorem dX4_on_17 : decode cX4_on 17 = .ok (.iload_n 1, 1) := by decide +kernel
theorem dX4_on_18 : decode cX4_on 18 = .ok (.invokevirtual 115, 3) := by decide +kernel
theorem dX4_on_21 : decode cX4_on 21 = .ok (.istore_n 2, 1) := by decide +kernel
theorem dX4_on_22 : decode cX4_on 22 = .ok (.iload_n 2, 1) := by decide +kernel
theorem dX4_on_23 : decode cX4_on 23 = .ok (.ifCond .ge 8, 3) := by decide +kernel
theorem dX4_on_26 : decode cX4_on 26 = .ok (.bipush (-9), 2) := by decide +kernel
theorem dX4_on_28 : decode cX4_on 28 = .ok (.goto 4, 3) := by decide +kernel
theorem dX4_on_31 : decode cX4_on 31 = .ok (.iload_n 2, 1) := by decide +kernel
theorem dX4_on_32 : decode cX4_on 32 = .ok (.ireturn, 1) := by decide +kernel
set_option maxRecDepth 20000 in
theorem ggX4_likely_X3_isAlive : GoodIn wsX4_likely wsX3_isAlive := goodIn_r _ [9, 10, 11, 102, 103, 104, 105, 106, 107, 108] (by decide +kernel) (by decide +kernel)
set_option maxRecDepth 20000 in
theorem gX4_likely_X3_isAlive : GoodIn wsX4_likely (wsV RX4 74 RX3 yX3_isAlive wsX3_isAlive) := goodIn_app (goodIn_of _ (by decide +kernel)) ggX4_likely_X3_isAlive
set_option maxRecDepth 20000 in
theorem ggX4_likely_X4_isFloor : GoodIn wsX4_likely wsX4_isFloor := goodIn_r _ [15] (by decide +kernel) (by decide +kernel)
set_option maxRecDepth 20000 in
theorem gX4_likely_X4_isFloor : GoodIn wsX4_likely (va_wsS RX4 99 yX4_isFloor wsX4_isFloor) := goodIn_app (goodIn_of _ (by decide +kernel)) ggX4_likely_X4_isFloor
set_option maxRecDepth 20000 in
theorem ggX4_likely_X4_refuseLong : GoodIn wsX4_likely wsX4_refuseLong := goodIn_r _ [19, 20, 21, 22, 23, 14, 24, 25, 90, 91, 92, 93, 94, 95, 96, 97, 98] (by decide +kernel) (by decide +kernel)
set_option maxRecDepth 20000 in
theorem gX4_likely_X4_refuseLong : GoodIn wsX4_likely (wsV RX4 118 RX4 yX4_refuseLong wsX4_refuseLong) := goodIn_app (goodIn_of _ (by decide +kernel)) ggX4_likely_X4_refuseLong
set_option maxRecDepth 20000 in
theorem ggX4_likely_X1_reckon : GoodIn wsX4_likely wsX1_reckon := goodIn_r _ [30, 31, 32, 33, 34, 35, 36, 37, 38, 39, 40, 41, 42, 29, 43, 44, 45, 6, 7, 8, 9, 10, 11, 46, 47, 48, 49, 50, 51, 52, 53, 54, 55, 56, 57, 58, 59, 60, 61, 62, 63, 64, 65, 66, 67, 68, 69, 70, 71, 72, 73, 74, 75, 76, 77, 78, 79, 80, 81, 82, 83, 84, 85, 86, 87, 88, 89, 102, 103, 104, 105, 106, 107, 108, 99, 100, 101] (by decide +kernel) (by decide +kernel)
set_option maxRecDepth 20000 in
theorem gX4_likely_X1_reckon : GoodIn wsX4_likely (wsV RX4 122 RX1 yX1_reckon wsX1_reckon) := goodIn_app (goodIn_of _ (by decide +kernel)) ggX4_likely_X1_reckon
theorem dX4_likely_0 : decode cX4_likely 0 = .ok (.aload_n 0, 1) := by decide +kernel
theorem dX4_likely_1 : decode cX4_likely 1 = .ok (.getfield 10, 3) := by decide +kernel
theorem dX4_likely_4 : decode cX4_likely 4 = .ok (.iload_n 1, 1) := by decide +kernel
theorem dX4_likely_5 : decode cX4_likely 5 = .ok (.invokevirtual 74, 3) := by decide +kernel
theorem dX4_likely_8 : decode cX4_likely 8 = .ok (.ifCond .eq 10, 3) := by decide +kernel
theorem dX4_likely_11 : decode cX4_likely 11 = .ok (.iload_n 2, 1) := by decide +kernel
theorem dX4_likely_12 : decode cX4_likely 12 = .ok (.invokestatic 99, 3) := by decide +kernel
theorem dX4_likely_15 : decode cX4_likely 15 = .ok (.ifCond .ne 9, 3) := by decide +kernel
theorem dX4_likely_18 : decode cX4_likely 18 = .ok (.aload_n 0, 1) := by decide +kernel
theorem dX4_likely_19 : decode cX4_likely 19 = .ok (.iconst (-1), 1) := by decide +kernel
theorem dX4_likely_20 : decode cX4_likely 20 = .ok (.invokevirtual 118, 3) := by decide +kernel
theorem dX4_likely_23 : decode cX4_likely 23 = .ok (.lreturn, 1) := by decide +kernel
theorem dX4_likely_24 : decode cX4_likely 24 = .ok (.iload_n 3, 1) := by decide +kernel
theorem dX4_likely_25 : decode cX4_likely 25 = .ok (.iconst 1, 1) := by decide +kernel
theorem dX4_likely_26 : decode cX4_likely 26 = .ok (.if_icmp .ge 10, 3) := by decide +kernel
theorem dX4_likely_29 : decode cX4_likely 29 = .ok (.aload_n 0, 1) := by decide +kernel
theorem dX4_likely_30 : decode cX4_likely 30 = .ok (.bipush (-4), 2) := by decide +kernel
theorem dX4_likely_32 : decode cX4_likely 32 = .ok (.invokevirtual 118, 3) := by decide +kernel
theorem dX4_likely_35 : decode cX4_likely 35 = .ok (.lreturn, 1) := by decide +kernel
theorem dX4_likely_36 : decode cX4_likely 36 = .ok (.iload_n 3, 1) := by decide +kernel
theorem dX4_likely_37 : decode cX4_likely 37 = .ok (.iconst 2, 1) := by decide +kernel
theorem dX4_likely_38 : decode cX4_likely 38 = .ok (.if_icmp .le 10, 3) := by decide +kernel
theorem dX4_likely_41 : decode cX4_likely 41 = .ok (.aload_n 0, 1) := by decide +kernel
theorem dX4_likely_42 : decode cX4_likely 42 = .ok (.bipush (-6), 2) := by decide +kernel
theorem dX4_likely_44 : decode cX4_likely 44 = .ok (.invokevirtual 118, 3) := by decide +kernel
theorem dX4_likely_47 : decode cX4_likely 47 = .ok (.lreturn, 1) := by decide +kernel
theorem dX4_likely_48 : decode cX4_likely 48 = .ok (.iload 4, 2) := by decide +kernel
theorem dX4_likely_50 : decode cX4_likely 50 = .ok (.ifCond .eq 16, 3) := by decide +kernel
theorem dX4_likely_53 : decode cX4_likely 53 = .ok (.iload 4, 2) := by decide +kernel
theorem dX4_likely_55 : decode cX4_likely 55 = .ok (.iconst 1, 1) := by decide +kernel
theorem dX4_likely_56 : decode cX4_likely 56 = .ok (.if_icmp .eq 10, 3) := by decide +kernel
theorem dX4_likely_59 : decode cX4_likely 59 = .ok (.aload_n 0, 1) := by decide +kernel
theorem dX4_likely_60 : decode cX4_likely 60 = .ok (.bipush (-2), 2) := by decide +kernel
theorem dX4_likely_62 : decode cX4_likely 62 = .ok (.invokevirtual 118, 3) := by decide +kernel
theorem dX4_likely_65 : decode cX4_likely 65 = .ok (.lreturn, 1) := by decide +kernel
theorem dX4_likely_66 : decode cX4_likely 66 = .ok (.aload_n 0, 1) := by decide +kernel
theorem dX4_likely_67 : decode cX4_likely 67 = .ok (.getfield 32, 3) := by decide +kernel
theorem dX4_likely_70 : decode cX4_likely 70 = .ok (.aload_n 0, 1) := by decide +kernel
theorem dX4_likely_71 : decode cX4_likely 71 = .ok (.getfield 10, 3) := by decide +kernel
theorem dX4_likely_74 : decode cX4_likely 74 = .ok (.iload_n 1, 1) := by decide +kernel
theorem dX4_likely_75 : decode cX4_likely 75 = .ok (.iload_n 2, 1) := by decide +kernel
theorem dX4_likely_76 : decode cX4_likely 76 = .ok (.iload_n 3, 1) := by decide +kernel
theorem dX4_likely_77 : decode cX4_likely 77 = .ok (.invokevirtual 122, 3) := by decide +kernel
theorem dX4_likely_80 : decode cX4_likely 80 = .ok (.iload 4, 2) := by decide +kernel
theorem dX4_likely_82 : decode cX4_likely 82 = .ok (.ifCond .ne 13, 3) := by decide +kernel
theorem dX4_likely_85 : decode cX4_likely 85 = .ok (.aload_n 0, 1) := by decide +kernel
theorem dX4_likely_86 : decode cX4_likely 86 = .ok (.getfield 32, 3) := by decide +kernel
theorem dX4_likely_89 : decode cX4_likely 89 = .ok (.getfield 126, 3) := by decide +kernel
theorem dX4_likely_92 : decode cX4_likely 92 = .ok (.goto 10, 3) := by decide +kernel
theorem dX4_likely_95 : decode cX4_likely 95 = .ok (.aload_n 0, 1) := by decide +kernel
theorem dX4_likely_96 : decode cX4_likely 96 = .ok (.getfield 32, 3) := by decide +kernel
theorem dX4_likely_99 : decode cX4_likely 99 = .ok (.getfield 130, 3) := by decide +kernel
theorem dX4_likely_102 : decode cX4_likely 102 = .ok (.lreturn, 1) := by decide +kernel
set_option maxRecDepth 20000 in
theorem ggX4_mean_X3_isAlive : GoodIn wsX4_mean wsX3_isAlive := goodIn_r _ [6, 7, 8, 46, 47, 48, 49, 50, 51, 52] (by decide +kernel) (by decide +kernel)
set_option maxRecDepth 20000 in
theorem gX4_mean_X3_isAlive : GoodIn wsX4_mean (wsV RX4 74 RX3 yX3_isAlive wsX3_isAlive) := goodIn_app (goodIn_of _ (by decide +kernel)) ggX4_mean_X3_isAlive
set_option maxRecDepth 20000 in
theorem ggX4_mean_X3_chanceAfter : GoodIn wsX4_mean wsX3_chanceAfter := goodIn_r _ [12, 13, 14, 15, 16, 5, 17, 18, 19, 20, 21, 22, 23, 24, 25, 26, 27, 28, 29, 30, 31, 32, 33, 34, 35, 36, 46, 47, 48, 49, 50, 51, 52] (by decide +kernel) (by decide +kernel)
set_option maxRecDepth 20000 in
theorem gX4_mean_X3_chanceAfter : GoodIn wsX4_mean (wsV RX4 89 RX3 yX3_chanceAfter wsX3_chanceAfter) := goodIn_app (goodIn_of _ (by decide +kernel)) ggX4_mean_X3_chanceAfter
theorem dX4_mean_0 : decode cX4_mean 0 = .ok (.iconst 0, 1) := by decide +kernel
theorem dX4_mean_1 : decode cX4_mean 1 = .ok (.istore_n 1, 1) := by decide +kernel
theorem dX4_mean_2 : decode cX4_mean 2 = .ok (.iconst 0, 1) := by decide +kernel
theorem dX4_mean_3 : decode cX4_mean 3 = .ok (.istore_n 2, 1) := by decide +kernel
theorem dX4_mean_4 : decode cX4_mean 4 = .ok (.iload_n 2, 1) := by decide +kernel
theorem dX4_mean_5 : decode cX4_mean 5 = .ok (.bipush 8, 2) := by decide +kernel
theorem dX4_mean_7 : decode cX4_mean 7 = .ok (.if_icmp .ge 32, 3) := by decide +kernel
theorem dX4_mean_10 : decode cX4_mean 10 = .ok (.aload_n 0, 1) := by decide +kernel
theorem dX4_mean_11 : decode cX4_mean 11 = .ok (.getfield 10, 3) := by decide +kernel
theorem dX4_mean_14 : decode cX4_mean 14 = .ok (.iload_n 2, 1) := by decide +kernel
theorem dX4_mean_15 : decode cX4_mean 15 = .ok (.invokevirtual 74, 3) := by decide +kernel
theorem dX4_mean_18 : decode cX4_mean 18 = .ok (.ifCond .eq 15, 3) := by decide +kernel
theorem dX4_mean_21 : decode cX4_mean 21 = .ok (.iload_n 1, 1) := by decide +kernel
theorem dX4_mean_22 : decode cX4_mean 22 = .ok (.aload_n 0, 1) := by decide +kernel
theorem dX4_mean_23 : decode cX4_mean 23 = .ok (.getfield 10, 3) := by decide +kernel
theorem dX4_mean_26 : decode cX4_mean 26 = .ok (.iload_n 2, 1) := by decide +kernel
theorem dX4_mean_27 : decode cX4_mean 27 = .ok (.iconst 0, 1) := by decide +kernel
theorem dX4_mean_28 : decode cX4_mean 28 = .ok (.invokevirtual 89, 3) := by decide +kernel
theorem dX4_mean_31 : decode cX4_mean 31 = .ok (.iadd, 1) := by decide +kernel
theorem dX4_mean_32 : decode cX4_mean 32 = .ok (.istore_n 1, 1) := by decide +kernel
theorem dX4_mean_33 : decode cX4_mean 33 = .ok (.iinc 2 1, 3) := by decide +kernel
theorem dX4_mean_36 : decode cX4_mean 36 = .ok (.goto (-32), 3) := by decide +kernel
theorem dX4_mean_39 : decode cX4_mean 39 = .ok (.iload_n 1, 1) := by decide +kernel
theorem dX4_mean_40 : decode cX4_mean 40 = .ok (.ireturn, 1) := by decide +kernel
set_option maxRecDepth 20000 in
theorem ggX4_deaths_X3_isAlive : GoodIn wsX4_deaths wsX3_isAlive := goodIn_r _ [7, 8, 9, 88, 89, 90, 91, 92, 93, 94] (by decide +kernel) (by decide +kernel)
set_option maxRecDepth 20000 in
theorem gX4_deaths_X3_isAlive : GoodIn wsX4_deaths (wsV RX4 74 RX3 yX3_isAlive wsX3_isAlive) := goodIn_app (goodIn_of _ (by decide +kernel)) ggX4_deaths_X3_isAlive
set_option maxRecDepth 20000 in
theorem ggX4_deaths_X4_isFloor : GoodIn wsX4_deaths wsX4_isFloor := goodIn_r _ [13] (by decide +kernel) (by decide +kernel)
set_option maxRecDepth 20000 in
theorem gX4_deaths_X4_isFloor : GoodIn wsX4_deaths (va_wsS RX4 99 yX4_isFloor wsX4_isFloor) := goodIn_app (goodIn_of _ (by decide +kernel)) ggX4_deaths_X4_isFloor
set_option maxRecDepth 20000 in
theorem ggX4_deaths_X4_refuse : GoodIn wsX4_deaths wsX4_refuse := goodIn_r _ [17, 18, 79, 80, 81, 82, 83, 84, 85, 86, 87] (by decide +kernel) (by decide +kernel)
set_option maxRecDepth 20000 in
theorem gX4_deaths_X4_refuse : GoodIn wsX4_deaths (wsV RX4 43 RX4 yX4_refuse wsX4_refuse) := goodIn_app (goodIn_of _ (by decide +kernel)) ggX4_deaths_X4_refuse
set_option maxRecDepth 20000 in
theorem ggX4_deaths_X3_staysDown : GoodIn wsX4_deaths wsX3_staysDown := goodIn_r _ [22, 23, 9, 88, 89, 90, 91, 92, 93, 94] (by decide +kernel) (by decide +kernel)
set_option maxRecDepth 20000 in
theorem gX4_deaths_X3_staysDown : GoodIn wsX4_deaths (wsV RX4 133 RX3 yX3_staysDown wsX3_staysDown) := goodIn_app (goodIn_of _ (by decide +kernel)) ggX4_deaths_X3_staysDown
set_option maxRecDepth 20000 in
theorem ggX4_deaths_X3_living : GoodIn wsX4_deaths wsX3_living := goodIn_r _ [27, 28, 4, 5, 6, 7, 8, 9, 88, 89, 90, 91, 92, 93, 94] (by decide +kernel) (by decide +kernel)
set_option maxRecDepth 20000 in
theorem gX4_deaths_X3_living : GoodIn wsX4_deaths (wsV RX4 136 RX3 yX3_living wsX3_living) := goodIn_app (goodIn_of _ (by decide +kernel)) ggX4_deaths_X3_living
set_option maxRecDepth 20000 in
theorem ggX4_deaths_X3_floorsOf : GoodIn wsX4_deaths wsX3_floorsOf := goodIn_r _ [32, 9, 33, 34, 6, 35, 88, 89, 90, 91, 92, 93, 94] (by decide +kernel) (by decide +kernel)
set_option maxRecDepth 20000 in
theorem gX4_deaths_X3_floorsOf : GoodIn wsX4_deaths (wsV RX4 139 RX3 yX3_floorsOf wsX3_floorsOf) := goodIn_app (goodIn_of _ (by decide +kernel)) ggX4_deaths_X3_floorsOf
set_option maxRecDepth 20000 in
theorem ggX4_deaths_X3_floorsUp : GoodIn wsX4_deaths wsX3_floorsUp := goodIn_r _ [39, 9, 40, 20, 21, 6, 22, 23, 41, 42, 43, 44, 45, 46, 47, 88, 89, 90, 91, 92, 93, 94] (by decide +kernel) (by decide +kernel)
set_option maxRecDepth 20000 in
theorem gX4_deaths_X3_floorsUp : GoodIn wsX4_deaths (wsV RX4 142 RX3 yX3_floorsUp wsX3_floorsUp) := goodIn_app (goodIn_of _ (by decide +kernel)) ggX4_deaths_X3_floorsUp
set_option maxRecDepth 20000 in
theorem ggX4_deaths_X3_likeliestAbove : GoodIn wsX4_deaths wsX3_likeliestAbove := goodIn_r _ [51, 9, 28, 4, 5, 6, 7, 8, 33, 34, 35, 52, 53, 54, 55, 23, 56, 57, 58, 59, 60, 61, 62, 63, 64, 65, 66, 67, 68, 69, 70, 71, 72, 73, 74, 75, 76, 77, 78, 88, 89, 90, 91, 92, 93, 94] (by decide +kernel) (by decide +kernel)
set_option maxRecDepth 20000 in
theorem gX4_deaths_X3_likeliestAbove : GoodIn wsX4_deaths (wsV RX4 145 RX3 yX3_likeliestAbove wsX3_likeliestAbove) := goodIn_app (goodIn_of _ (by decide +kernel)) ggX4_deaths_X3_likeliestAbove
theorem dX4_deaths_0 : decode cX4_deaths 0 = .ok (.aload_n 0, 1) := by decide +kernel
theorem dX4_deaths_1 : decode cX4_deaths 1 = .ok (.getfield 10, 3) := by decide +kernel
theorem dX4_deaths_4 : decode cX4_deaths 4 = .ok (.iload_n 1, 1) := by decide +kernel
theorem dX4_deaths_5 : decode cX4_deaths 5 = .ok (.invokevirtual 74, 3) := by decide +kernel
theorem dX4_deaths_8 : decode cX4_deaths 8 = .ok (.ifCond .eq 10, 3) := by decide +kernel
theorem dX4_deaths_11 : decode cX4_deaths 11 = .ok (.iload_n 2, 1) := by decide +kernel
theorem dX4_deaths_12 : decode cX4_deaths 12 = .ok (.invokestatic 99, 3) := by decide +kernel
theorem dX4_deaths_15 : decode cX4_deaths 15 = .ok (.ifCond .ne 9, 3) := by decide +kernel
theorem dX4_deaths_18 : decode cX4_deaths 18 = .ok (.aload_n 0, 1) := by decide +kernel
theorem dX4_deaths_19 : decode cX4_deaths 19 = .ok (.iconst (-1), 1) := by decide +kernel
theorem dX4_deaths_20 : decode cX4_deaths 20 = .ok (.invokevirtual 43, 3) := by decide +kernel
theorem dX4_deaths_23 : decode cX4_deaths 23 = .ok (.ireturn, 1) := by decide +kernel
theorem dX4_deaths_24 : decode cX4_deaths 24 = .ok (.iload_n 3, 1) := by decide +kernel
theorem dX4_deaths_25 : decode cX4_deaths 25 = .ok (.ifCond .eq 15, 3) := by decide +kernel
theorem dX4_deaths_28 : decode cX4_deaths 28 = .ok (.iload_n 3, 1) := by decide +kernel
theorem dX4_deaths_29 : decode cX4_deaths 29 = .ok (.iconst 1, 1) := by decide +kernel
theorem dX4_deaths_30 : decode cX4_deaths 30 = .ok (.if_icmp .eq 10, 3) := by decide +kernel
theorem dX4_deaths_33 : decode cX4_deaths 33 = .ok (.aload_n 0, 1) := by decide +kernel
theorem dX4_deaths_34 : decode cX4_deaths 34 = .ok (.bipush (-2), 2) := by decide +kernel
theorem dX4_deaths_36 : decode cX4_deaths 36 = .ok (.invokevirtual 43, 3) := by decide +kernel
theorem dX4_deaths_39 : decode cX4_deaths 39 = .ok (.ireturn, 1) := by decide +kernel
theorem dX4_deaths_40 : decode cX4_deaths 40 = .ok (.iload_n 2, 1) := by decide +kernel
theorem dX4_deaths_41 : decode cX4_deaths 41 = .ok (.aload_n 0, 1) := by decide +kernel
theorem dX4_deaths_42 : decode cX4_deaths 42 = .ok (.getfield 10, 3) := by decide +kernel
theorem dX4_deaths_45 : decode cX4_deaths 45 = .ok (.getfield 83, 3) := by decide +kernel
theorem dX4_deaths_48 : decode cX4_deaths 48 = .ok (.iload_n 1, 1) := by decide +kernel
theorem dX4_deaths_49 : decode cX4_deaths 49 = .ok (.iaload, 1) := by decide +kernel
theorem dX4_deaths_50 : decode cX4_deaths 50 = .ok (.isub, 1) := by decide +kernel
theorem dX4_deaths_51 : decode cX4_deaths 51 = .ok (.istore 4, 2) := by decide +kernel
theorem dX4_deaths_53 : decode cX4_deaths 53 = .ok (.iload 4, 2) := by decide +kernel
theorem dX4_deaths_55 : decode cX4_deaths 55 = .ok (.ifCond .le 14, 3) := by decide +kernel
theorem dX4_deaths_58 : decode cX4_deaths 58 = .ok (.aload_n 0, 1) := by decide +kernel
theorem dX4_deaths_59 : decode cX4_deaths 59 = .ok (.getfield 10, 3) := by decide +kernel
theorem dX4_deaths_62 : decode cX4_deaths 62 = .ok (.iload_n 1, 1) := by decide +kernel
theorem dX4_deaths_63 : decode cX4_deaths 63 = .ok (.invokevirtual 133, 3) := by decide +kernel
theorem dX4_deaths_66 : decode cX4_deaths 66 = .ok (.ifCond .eq 6, 3) := by decide +kernel
theorem dX4_deaths_69 : decode cX4_deaths 69 = .ok (.bipush (-9), 2) := by decide +kernel
theorem dX4_deaths_71 : decode cX4_deaths 71 = .ok (.ireturn, 1) := by decide +kernel
theorem dX4_deaths_72 : decode cX4_deaths 72 = .ok (.iload 4, 2) := by decide +kernel
theorem dX4_deaths_74 : decode cX4_deaths 74 = .ok (.aload_n 0, 1) := by decide +kernel
theorem dX4_deaths_75 : decode cX4_deaths 75 = .ok (.getfield 10, 3) := by decide +kernel
theorem dX4_deaths_78 : decode cX4_deaths 78 = .ok (.iload_n 1, 1) := by decide +kernel
theorem dX4_deaths_79 : decode cX4_deaths 79 = .ok (.aload_n 0, 1) := by decide +kernel
theorem dX4_deaths_80 : decode cX4_deaths 80 = .ok (.getfield 10, 3) := by decide +kernel
theorem dX4_deaths_83 : decode cX4_deaths 83 = .ok (.aload_n 0, 1) := by decide +kernel
theorem dX4_deaths_84 : decode cX4_deaths 84 = .ok (.getfield 10, 3) := by decide +kernel
theorem dX4_deaths_87 : decode cX4_deaths 87 = .ok (.invokevirtual 136, 3) := by decide +kernel
theorem dX4_deaths_90 : decode cX4_deaths 90 = .ok (.invokevirtual 139, 3) := by decide +kernel
theorem dX4_deaths_93 : decode cX4_deaths 93 = .ok (.invokevirtual 142, 3) := by decide +kernel
theorem dX4_deaths_96 : decode cX4_deaths 96 = .ok (.if_icmp .le 6, 3) := by decide +kernel
theorem dX4_deaths_99 : decode cX4_deaths 99 = .ok (.bipush (-9), 2) := by decide +kernel
theorem dX4_deaths_101 : decode cX4_deaths 101 = .ok (.ireturn, 1) := by decide +kernel
theorem dX4_deaths_102 : decode cX4_deaths 102 = .ok (.iload_n 3, 1) := by decide +kernel
theorem dX4_deaths_103 : decode cX4_deaths 103 = .ok (.ifCond .ne 8, 3) := by decide +kernel
theorem dX4_deaths_106 : decode cX4_deaths 106 = .ok (.iload 4, 2) := by decide +kernel
theorem dX4_deaths_108 : decode cX4_deaths 108 = .ok (.goto 13, 3) := by decide +kernel
theorem dX4_deaths_111 : decode cX4_deaths 111 = .ok (.aload_n 0, 1) := by decide +kernel
theorem dX4_deaths_112 : decode cX4_deaths 112 = .ok (.getfield 10, 3) := by decide +kernel
theorem dX4_deaths_115 : decode cX4_deaths 115 = .ok (.iload_n 1, 1) := by decide +kernel
theorem dX4_deaths_116 : decode cX4_deaths 116 = .ok (.iload 4, 2) := by decide +kernel
theorem dX4_deaths_118 : decode cX4_deaths 118 = .ok (.invokevirtual 145, 3) := by decide +kernel
theorem dX4_deaths_121 : decode cX4_deaths 121 = .ok (.ireturn, 1) := by decide +kernel
set_option maxRecDepth 20000 in
theorem ggX4_stuck_X3_isAlive : GoodIn wsX4_stuck wsX3_isAlive := goodIn_r _ [6, 7, 8, 41, 42, 43, 44, 45, 46, 47] (by decide +kernel) (by decide +kernel)
set_option maxRecDepth 20000 in
theorem gX4_stuck_X3_isAlive : GoodIn wsX4_stuck (wsV RX4 74 RX3 yX3_isAlive wsX3_isAlive) := goodIn_app (goodIn_of _ (by decide +kernel)) ggX4_stuck_X3_isAlive
set_option maxRecDepth 20000 in
theorem ggX4_stuck_X3_isOutOfReach : GoodIn wsX4_stuck wsX3_isOutOfReach := goodIn_r _ [12, 8, 13, 14, 15, 5, 16, 17, 18, 19, 20, 21, 22, 23, 24, 25, 26, 27, 28, 29, 30, 31, 41, 42, 43, 44, 45, 46, 47] (by decide +kernel) (by decide +kernel)
set_option maxRecDepth 20000 in
theorem gX4_stuck_X3_isOutOfReach : GoodIn wsX4_stuck (wsV RX4 148 RX3 yX3_isOutOfReach wsX3_isOutOfReach) := goodIn_app (goodIn_of _ (by decide +kernel)) ggX4_stuck_X3_isOutOfReach
theorem dX4_stuck_0 : decode cX4_stuck 0 = .ok (.iconst 0, 1) := by decide +kernel
theorem dX4_stuck_1 : decode cX4_stuck 1 = .ok (.istore_n 1, 1) := by decide +kernel
theorem dX4_stuck_2 : decode cX4_stuck 2 = .ok (.iconst 0, 1) := by decide +kernel
theorem dX4_stuck_3 : decode cX4_stuck 3 = .ok (.istore_n 2, 1) := by decide +kernel
theorem dX4_stuck_4 : decode cX4_stuck 4 = .ok (.iload_n 2, 1) := by decide +kernel
theorem dX4_stuck_5 : decode cX4_stuck 5 = .ok (.bipush 8, 2) := by decide +kernel
theorem dX4_stuck_7 : decode cX4_stuck 7 = .ok (.if_icmp .ge 38, 3) := by decide +kernel
theorem dX4_stuck_10 : decode cX4_stuck 10 = .ok (.aload_n 0, 1) := by decide +kernel
theorem dX4_stuck_11 : decode cX4_stuck 11 = .ok (.getfield 10, 3) := by decide +kernel
theorem dX4_stuck_14 : decode cX4_stuck 14 = .ok (.iload_n 2, 1) := by decide +kernel
theorem dX4_stuck_15 : decode cX4_stuck 15 = .ok (.invokevirtual 74, 3) := by decide +kernel
theorem dX4_stuck_18 : decode cX4_stuck 18 = .ok (.ifCond .eq 21, 3) := by decide +kernel
theorem dX4_stuck_21 : decode cX4_stuck 21 = .ok (.aload_n 0, 1) := by decide +kernel
theorem dX4_stuck_22 : decode cX4_stuck 22 = .ok (.getfield 10, 3) := by decide +kernel
theorem dX4_stuck_25 : decode cX4_stuck 25 = .ok (.iload_n 2, 1) := by decide +kernel
theorem dX4_stuck_26 : decode cX4_stuck 26 = .ok (.iconst 0, 1) := by decide +kernel
theorem dX4_stuck_27 : decode cX4_stuck 27 = .ok (.invokevirtual 148, 3) := by decide +kernel
theorem dX4_stuck_30 : decode cX4_stuck 30 = .ok (.ifCond .eq 9, 3) := by decide +kernel
theorem dX4_stuck_33 : decode cX4_stuck 33 = .ok (.iload_n 1, 1) := by decide +kernel
theorem dX4_stuck_34 : decode cX4_stuck 34 = .ok (.iconst 1, 1) := by decide +kernel
theorem dX4_stuck_35 : decode cX4_stuck 35 = .ok (.iload_n 2, 1) := by decide +kernel
theorem dX4_stuck_36 : decode cX4_stuck 36 = .ok (.ishl, 1) := by decide +kernel
theorem dX4_stuck_37 : decode cX4_stuck 37 = .ok (.ior, 1) := by decide +kernel
theorem dX4_stuck_38 : decode cX4_stuck 38 = .ok (.istore_n 1, 1) := by decide +kernel
theorem dX4_stuck_39 : decode cX4_stuck 39 = .ok (.iinc 2 1, 3) := by decide +kernel
theorem dX4_stuck_42 : decode cX4_stuck 42 = .ok (.goto (-38), 3) := by decide +kernel
theorem dX4_stuck_45 : decode cX4_stuck 45 = .ok (.iload_n 1, 1) := by decide +kernel
theorem dX4_stuck_46 : decode cX4_stuck 46 = .ok (.ireturn, 1) := by decide +kernel
set_option maxRecDepth 20000 in
theorem ggX4_safe_X3_isAlive : GoodIn wsX4_safe wsX3_isAlive := goodIn_r _ [6, 7, 8, 47, 48, 49, 50, 51, 52, 53] (by decide +kernel) (by decide +kernel)
set_option maxRecDepth 20000 in
theorem gX4_safe_X3_isAlive : GoodIn wsX4_safe (wsV RX4 74 RX3 yX3_isAlive wsX3_isAlive) := goodIn_app (goodIn_of _ (by decide +kernel)) ggX4_safe_X3_isAlive
set_option maxRecDepth 20000 in
theorem ggX4_safe_X4_refuse : GoodIn wsX4_safe wsX4_refuse := goodIn_r _ [13, 14, 38, 39, 40, 41, 42, 43, 44, 45, 46] (by decide +kernel) (by decide +kernel)
set_option maxRecDepth 20000 in
theorem gX4_safe_X4_refuse : GoodIn wsX4_safe (wsV RX4 43 RX4 yX4_refuse wsX4_refuse) := goodIn_app (goodIn_of _ (by decide +kernel)) ggX4_safe_X4_refuse
set_option maxRecDepth 20000 in
theorem ggX4_safe_X3_isOutOfReach : GoodIn wsX4_safe wsX3_isOutOfReach := goodIn_r _ [18, 8, 19, 20, 21, 5, 22, 23, 24, 25, 26, 27, 28, 29, 30, 31, 32, 33, 34, 35, 36, 37, 47, 48, 49, 50, 51, 52, 53] (by decide +kernel) (by decide +kernel)
set_option maxRecDepth 20000 in
theorem gX4_safe_X3_isOutOfReach : GoodIn wsX4_safe (wsV RX4 148 RX3 yX3_isOutOfReach wsX3_isOutOfReach) := goodIn_app (goodIn_of _ (by decide +kernel)) ggX4_safe_X3_isOutOfReach
theorem dX4_safe_0 : decode cX4_safe 0 = .ok (.aload_n 0, 1) := by decide +kernel
theorem dX4_safe_1 : decode cX4_safe 1 = .ok (.getfield 10, 3) := by decide +kernel
theorem dX4_safe_4 : decode cX4_safe 4 = .ok (.iload_n 1, 1) := by decide +kernel
theorem dX4_safe_5 : decode cX4_safe 5 = .ok (.invokevirtual 74, 3) := by decide +kernel
theorem dX4_safe_8 : decode cX4_safe 8 = .ok (.ifCond .ne 9, 3) := by decide +kernel
theorem dX4_safe_11 : decode cX4_safe 11 = .ok (.aload_n 0, 1) := by decide +kernel
theorem dX4_safe_12 : decode cX4_safe 12 = .ok (.iconst (-1), 1) := by decide +kernel
theorem dX4_safe_13 : decode cX4_safe 13 = .ok (.invokevirtual 43, 3) := by decide +kernel
theorem dX4_safe_16 : decode cX4_safe 16 = .ok (.ireturn, 1) := by decide +kernel
theorem dX4_safe_17 : decode cX4_safe 17 = .ok (.bipush (-9), 2) := by decide +kernel
theorem dX4_safe_19 : decode cX4_safe 19 = .ok (.istore_n 2, 1) := by decide +kernel
theorem dX4_safe_20 : decode cX4_safe 20 = .ok (.iconst 0, 1) := by decide +kernel
theorem dX4_safe_21 : decode cX4_safe 21 = .ok (.istore_n 3, 1) := by decide +kernel
theorem dX4_safe_22 : decode cX4_safe 22 = .ok (.iload_n 3, 1) := by decide +kernel
theorem dX4_safe_23 : decode cX4_safe 23 = .ok (.bipush 99, 2) := by decide +kernel
theorem dX4_safe_25 : decode cX4_safe 25 = .ok (.if_icmp .gt 26, 3) := by decide +kernel
theorem dX4_safe_28 : decode cX4_safe 28 = .ok (.aload_n 0, 1) := by decide +kernel
theorem dX4_safe_29 : decode cX4_safe 29 = .ok (.getfield 10, 3) := by decide +kernel
theorem dX4_safe_32 : decode cX4_safe 32 = .ok (.iload_n 1, 1) := by decide +kernel
theorem dX4_safe_33 : decode cX4_safe 33 = .ok (.iload_n 3, 1) := by decide +kernel
theorem dX4_safe_34 : decode cX4_safe 34 = .ok (.invokevirtual 148, 3) := by decide +kernel
theorem dX4_safe_37 : decode cX4_safe 37 = .ok (.ifCond .eq 6, 3) := by decide +kernel
theorem dX4_safe_40 : decode cX4_safe 40 = .ok (.goto 11, 3) := by decide +kernel
theorem dX4_safe_43 : decode cX4_safe 43 = .ok (.iload_n 3, 1) := by decide +kernel
theorem dX4_safe_44 : decode cX4_safe 44 = .ok (.istore_n 2, 1) := by decide +kernel
theorem dX4_safe_45 : decode cX4_safe 45 = .ok (.iinc 3 1, 3) := by decide +kernel
theorem dX4_safe_48 : decode cX4_safe 48 = .ok (.goto (-26), 3) := by decide +kernel
theorem dX4_safe_51 : decode cX4_safe 51 = .ok (.iload_n 2, 1) := by decide +kernel
theorem dX4_safe_52 : decode cX4_safe 52 = .ok (.ireturn, 1) := by decide +kernel
set_option maxRecDepth 20000 in
theorem ggX4_carried_X3_areAlive : GoodIn wsX4_carried wsX3_areAlive := goodIn_r _ [6, 7, 8, 9, 5, 10, 11, 12, 13, 14, 15, 16, 60, 61, 62, 63, 64, 65, 66] (by decide +kernel) (by decide +kernel)
set_option maxRecDepth 20000 in
theorem gX4_carried_X3_areAlive : GoodIn wsX4_carried (wsV RX4 105 RX3 yX3_areAlive wsX3_areAlive) := goodIn_app (goodIn_of _ (by decide +kernel)) ggX4_carried_X3_areAlive
set_option maxRecDepth 20000 in
theorem ggX4_carried_X4_refuse : GoodIn wsX4_carried wsX4_refuse := goodIn_r _ [21, 22, 51, 52, 53, 54, 55, 56, 57, 58, 59] (by decide +kernel) (by decide +kernel)
set_option maxRecDepth 20000 in
theorem gX4_carried_X4_refuse : GoodIn wsX4_carried (wsV RX4 43 RX4 yX4_refuse wsX4_refuse) := goodIn_app (goodIn_of _ (by decide +kernel)) ggX4_carried_X4_refuse
set_option maxRecDepth 20000 in
theorem ggX4_carried_X3_burden : GoodIn wsX4_carried wsX3_burden := goodIn_r _ [26, 27, 28, 29, 30, 5, 31, 16, 32, 33, 34, 11, 12, 13, 14, 15, 35, 36, 37, 38, 39, 40, 41, 42, 43, 44, 45, 46, 47, 48, 49, 50, 60, 61, 62, 63, 64, 65, 66] (by decide +kernel) (by decide +kernel)
set_option maxRecDepth 20000 in
theorem gX4_carried_X3_burden : GoodIn wsX4_carried (wsV RX4 151 RX3 yX3_burden wsX3_burden) := goodIn_app (goodIn_of _ (by decide +kernel)) ggX4_carried_X3_burden
theorem dX4_carried_0 : decode cX4_carried 0 = .ok (.aload_n 0, 1) := by decide +kernel
theorem dX4_carried_1 : decode cX4_carried 1 = .ok (.getfield 10, 3) := by decide +kernel
theorem dX4_carried_4 : decode cX4_carried 4 = .ok (.iload_n 1, 1) := by decide +kernel
theorem dX4_carried_5 : decode cX4_carried 5 = .ok (.invokevirtual 105, 3) := by decide +kernel
theorem dX4_carried_8 : decode cX4_carried 8 = .ok (.ifCond .ne 9, 3) := by decide +kernel
theorem dX4_carried_11 : decode cX4_carried 11 = .ok (.aload_n 0, 1) := by decide +kernel
theorem dX4_carried_12 : decode cX4_carried 12 = .ok (.iconst (-1), 1) := by decide +kernel
theorem dX4_carried_13 : decode cX4_carried 13 = .ok (.invokevirtual 43, 3) := by decide +kernel
theorem dX4_carried_16 : decode cX4_carried 16 = .ok (.ireturn, 1) := by decide +kernel
theorem dX4_carried_17 : decode cX4_carried 17 = .ok (.aload_n 0, 1) := by decide +kernel
theorem dX4_carried_18 : decode cX4_carried 18 = .ok (.getfield 10, 3) := by decide +kernel
theorem dX4_carried_21 : decode cX4_carried 21 = .ok (.iload_n 1, 1) := by decide +kernel
theorem dX4_carried_22 : decode cX4_carried 22 = .ok (.invokevirtual 151, 3) := by decide +kernel
theorem dX4_carried_25 : decode cX4_carried 25 = .ok (.ireturn, 1) := by decide +kernel
set_option maxRecDepth 20000 in
theorem ggX4_leastCarried_X3_isAlive : GoodIn wsX4_leastCarried wsX3_isAlive := goodIn_r _ [6, 7, 8, 47, 48, 49, 50, 51, 52, 53] (by decide +kernel) (by decide +kernel)
set_option maxRecDepth 20000 in
theorem gX4_leastCarried_X3_isAlive : GoodIn wsX4_leastCarried (wsV RX4 74 RX3 yX3_isAlive wsX3_isAlive) := goodIn_app (goodIn_of _ (by decide +kernel)) ggX4_leastCarried_X3_isAlive
set_option maxRecDepth 20000 in
theorem ggX4_leastCarried_X3_burden : GoodIn wsX4_leastCarried wsX3_burden := goodIn_r _ [12, 13, 14, 15, 16, 5, 17, 8, 18, 19, 20, 21, 3, 4, 6, 7, 22, 23, 24, 25, 26, 27, 28, 29, 30, 31, 32, 33, 34, 35, 36, 37, 47, 48, 49, 50, 51, 52, 53] (by decide +kernel) (by decide +kernel)
set_option maxRecDepth 20000 in
theorem gX4_leastCarried_X3_burden : GoodIn wsX4_leastCarried (wsV RX4 151 RX3 yX3_burden wsX3_burden) := goodIn_app (goodIn_of _ (by decide +kernel)) ggX4_leastCarried_X3_burden
theorem dX4_leastCarried_0 : decode cX4_leastCarried 0 = .ok (.bipush (-9), 2) := by decide +kernel
theorem dX4_leastCarried_2 : decode cX4_leastCarried 2 = .ok (.istore_n 1, 1) := by decide +kernel
theorem dX4_leastCarried_3 : decode cX4_leastCarried 3 = .ok (.iconst 0, 1) := by decide +kernel
theorem dX4_leastCarried_4 : decode cX4_leastCarried 4 = .ok (.istore_n 2, 1) := by decide +kernel
theorem dX4_leastCarried_5 : decode cX4_leastCarried 5 = .ok (.iconst 0, 1) := by decide +kernel
theorem dX4_leastCarried_6 : decode cX4_leastCarried 6 = .ok (.istore_n 3, 1) := by decide +kernel
theorem dX4_leastCarried_7 : decode cX4_leastCarried 7 = .ok (.iload_n 3, 1) := by decide +kernel
theorem dX4_leastCarried_8 : decode cX4_leastCarried 8 = .ok (.bipush 8, 2) := by decide +kernel
theorem dX4_leastCarried_10 : decode cX4_leastCarried 10 = .ok (.if_icmp .ge 52, 3) := by decide +kernel
theorem dX4_leastCarried_13 : decode cX4_leastCarried 13 = .ok (.aload_n 0, 1) := by decide +kernel
theorem dX4_leastCarried_14 : decode cX4_leastCarried 14 = .ok (.getfield 10, 3) := by decide +kernel
theorem dX4_leastCarried_17 : decode cX4_leastCarried 17 = .ok (.iload_n 3, 1) := by decide +kernel
theorem dX4_leastCarried_18 : decode cX4_leastCarried 18 = .ok (.invokevirtual 74, 3) := by decide +kernel
theorem dX4_leastCarried_21 : decode cX4_leastCarried 21 = .ok (.ifCond .ne 6, 3) := by decide +kernel
theorem dX4_leastCarried_24 : decode cX4_leastCarried 24 = .ok (.goto 32, 3) := by decide +kernel
theorem dX4_leastCarried_27 : decode cX4_leastCarried 27 = .ok (.aload_n 0, 1) := by decide +kernel
theorem dX4_leastCarried_28 : decode cX4_leastCarried 28 = .ok (.getfield 10, 3) := by decide +kernel
theorem dX4_leastCarried_31 : decode cX4_leastCarried 31 = .ok (.iconst 1, 1) := by decide +kernel
theorem dX4_leastCarried_32 : decode cX4_leastCarried 32 = .ok (.iload_n 3, 1) := by decide +kernel
theorem dX4_leastCarried_33 : decode cX4_leastCarried 33 = .ok (.ishl, 1) := by decide +kernel
theorem dX4_leastCarried_34 : decode cX4_leastCarried 34 = .ok (.invokevirtual 151, 3) := by decide +kernel
theorem dX4_leastCarried_37 : decode cX4_leastCarried 37 = .ok (.istore 4, 2) := by decide +kernel
theorem dX4_leastCarried_39 : decode cX4_leastCarried 39 = .ok (.iload_n 1, 1) := by decide +kernel
theorem dX4_leastCarried_40 : decode cX4_leastCarried 40 = .ok (.bipush (-9), 2) := by decide +kernel
theorem dX4_leastCarried_42 : decode cX4_leastCarried 42 = .ok (.if_icmp .eq 9, 3) := by decide +kernel
theorem dX4_leastCarried_45 : decode cX4_leastCarried 45 = .ok (.iload 4, 2) := by decide +kernel
theorem dX4_leastCarried_47 : decode cX4_leastCarried 47 = .ok (.iload_n 2, 1) := by decide +kernel
theorem dX4_leastCarried_48 : decode cX4_leastCarried 48 = .ok (.if_icmp .ge 8, 3) := by decide +kernel
theorem dX4_leastCarried_51 : decode cX4_leastCarried 51 = .ok (.iload_n 3, 1) := by decide +kernel
theorem dX4_leastCarried_52 : decode cX4_leastCarried 52 = .ok (.istore_n 1, 1) := by decide +kernel
theorem dX4_leastCarried_53 : decode cX4_leastCarried 53 = .ok (.iload 4, 2) := by decide +kernel
theorem dX4_leastCarried_55 : decode cX4_leastCarried 55 = .ok (.istore_n 2, 1) := by decide +kernel
theorem dX4_leastCarried_56 : decode cX4_leastCarried 56 = .ok (.iinc 3 1, 3) := by decide +kernel
theorem dX4_leastCarried_59 : decode cX4_leastCarried 59 = .ok (.goto (-52), 3) := by decide +kernel
theorem dX4_leastCarried_62 : decode cX4_leastCarried 62 = .ok (.iload_n 1, 1) := by decide +kernel
theorem dX4_leastCarried_63 : decode cX4_leastCarried 63 = .ok (.ireturn, 1) := by decide +kernel
set_option maxRecDepth 20000 in
theorem ggX4_rings_X3_inRings : GoodIn wsX4_rings wsX3_inRings := goodIn_r _ [6, 7, 8, 9, 5, 10, 11, 12, 13, 14, 15, 16, 17, 18, 19, 20, 21, 31, 32, 33, 34, 35, 36, 37] (by decide +kernel) (by decide +kernel)
set_option maxRecDepth 20000 in
theorem gX4_rings_X3_inRings : GoodIn wsX4_rings (wsV RX4 154 RX3 yX3_inRings wsX3_inRings) := goodIn_app (goodIn_of _ (by decide +kernel)) ggX4_rings_X3_inRings
theorem dX4_rings_0 : decode cX4_rings 0 = .ok (.aload_n 0, 1) := by decide +kernel
theorem dX4_rings_1 : decode cX4_rings 1 = .ok (.getfield 10, 3) := by decide +kernel
theorem dX4_rings_4 : decode cX4_rings 4 = .ok (.invokevirtual 154, 3) := by decide +kernel
theorem dX4_rings_7 : decode cX4_rings 7 = .ok (.ireturn, 1) := by decide +kernel
set_option maxRecDepth 20000 in
theorem ggX4_changing_X3_changeRings : GoodIn wsX4_changing wsX3_changeRings := goodIn_r _ [6, 7, 8, 9, 10, 11, 5, 12, 13, 14, 15, 16, 17, 18, 19, 20, 21, 22, 23, 24, 25, 26, 27, 28, 38, 39, 40, 41, 42, 43, 44] (by decide +kernel) (by decide +kernel)
set_option maxRecDepth 20000 in
theorem gX4_changing_X3_changeRings : GoodIn wsX4_changing (wsV RX4 157 RX3 yX3_changeRings wsX3_changeRings) := goodIn_app (goodIn_of _ (by decide +kernel)) ggX4_changing_X3_changeRings
theorem dX4_changing_0 : decode cX4_changing 0 = .ok (.aload_n 0, 1) := by decide +kernel
theorem dX4_changing_1 : decode cX4_changing 1 = .ok (.getfield 10, 3) := by decide +kernel
theorem dX4_changing_4 : decode cX4_changing 4 = .ok (.invokevirtual 157, 3) := by decide +kernel
theorem dX4_changing_7 : decode cX4_changing 7 = .ok (.ireturn, 1) := by decide +kernel
set_option maxRecDepth 20000 in
theorem ggX4_free_X3_living : GoodIn wsX4_free wsX3_living := goodIn_r _ [6, 7, 8, 9, 5, 10, 11, 12, 29, 30, 31, 32, 33, 34, 35] (by decide +kernel) (by decide +kernel)
set_option maxRecDepth 20000 in
theorem gX4_free_X3_living : GoodIn wsX4_free (wsV RX4 136 RX3 yX3_living wsX3_living) := goodIn_app (goodIn_of _ (by decide +kernel)) ggX4_free_X3_living
set_option maxRecDepth 20000 in
theorem ggX4_free_X3_floorsOf : GoodIn wsX4_free wsX3_floorsOf := goodIn_r _ [16, 12, 17, 18, 5, 19, 29, 30, 31, 32, 33, 34, 35] (by decide +kernel) (by decide +kernel)
set_option maxRecDepth 20000 in
theorem gX4_free_X3_floorsOf : GoodIn wsX4_free (wsV RX4 139 RX3 yX3_floorsOf wsX3_floorsOf) := goodIn_app (goodIn_of _ (by decide +kernel)) ggX4_free_X3_floorsOf
theorem dX4_free_0 : decode cX4_free 0 = .ok (.sipush 1023, 3) := by decide +kernel
theorem dX4_free_3 : decode cX4_free 3 = .ok (.aload_n 0, 1) := by decide +kernel
theorem dX4_free_4 : decode cX4_free 4 = .ok (.getfield 10, 3) := by decide +kernel
theorem dX4_free_7 : decode cX4_free 7 = .ok (.aload_n 0, 1) := by decide +kernel
theorem dX4_free_8 : decode cX4_free 8 = .ok (.getfield 10, 3) := by decide +kernel
theorem dX4_free_11 : decode cX4_free 11 = .ok (.invokevirtual 136, 3) := by decide +kernel
theorem dX4_free_14 : decode cX4_free 14 = .ok (.invokevirtual 139, 3) := by decide +kernel
theorem dX4_free_17 : decode cX4_free 17 = .ok (.iconst (-1), 1) := by decide +kernel
theorem dX4_free_18 : decode cX4_free 18 = .ok (.ixor, 1) := by decide +kernel
theorem dX4_free_19 : decode cX4_free 19 = .ok (.iand, 1) := by decide +kernel
theorem dX4_free_20 : decode cX4_free 20 = .ok (.ireturn, 1) := by decide +kernel
set_option maxRecDepth 20000 in
theorem ggX4_ages_X4_isKind : GoodIn wsX4_ages wsX4_isKind := goodIn_r _ [5] (by decide +kernel) (by decide +kernel)
set_option maxRecDepth 20000 in
theorem gX4_ages_X4_isKind : GoodIn wsX4_ages (va_wsS RX4 61 yX4_isKind wsX4_isKind) := goodIn_app (goodIn_of _ (by decide +kernel)) ggX4_ages_X4_isKind
set_option maxRecDepth 20000 in
theorem ggX4_ages_X4_refuse : GoodIn wsX4_ages wsX4_refuse := goodIn_r _ [9, 10, 38, 39, 40, 41, 42, 43, 44, 45, 46] (by decide +kernel) (by decide +kernel)
set_option maxRecDepth 20000 in
theorem gX4_ages_X4_refuse : GoodIn wsX4_ages (wsV RX4 43 RX4 yX4_refuse wsX4_refuse) := goodIn_app (goodIn_of _ (by decide +kernel)) ggX4_ages_X4_refuse
set_option maxRecDepth 20000 in
theorem ggX4_ages_X3_couldComeIn : GoodIn wsX4_ages wsX3_couldComeIn := goodIn_r _ [15, 16, 17, 18, 14, 19, 20, 21, 22, 23, 24, 25, 26, 27, 28, 29, 30, 31, 32, 33, 34, 35, 36, 37, 47, 48, 49, 50, 51, 52, 53] (by decide +kernel) (by decide +kernel)
set_option maxRecDepth 20000 in
theorem gX4_ages_X3_couldComeIn : GoodIn wsX4_ages (wsV RX4 66 RX3 yX3_couldComeIn wsX3_couldComeIn) := goodIn_app (goodIn_of _ (by decide +kernel)) ggX4_ages_X3_couldComeIn
theorem dX4_ages_0 : decode cX4_ages 0 = .ok (.iload_n 1, 1) := by decide +kernel
theorem dX4_ages_1 : decode cX4_ages 1 = .ok (.invokestatic 61, 3) := by decide +kernel
theorem dX4_ages_4 : decode cX4_ages 4 = .ok (.ifCond .eq 12, 3) := by decide +kernel
theorem dX4_ages_7 : decode cX4_ages 7 = .ok (.iload_n 2, 1) := by decide +kernel
theorem dX4_ages_8 : decode cX4_ages 8 = .ok (.ifCond .eq 15, 3) := by decide +kernel
theorem dX4_ages_11 : decode cX4_ages 11 = .ok (.iload_n 2, 1) := by decide +kernel
theorem dX4_ages_12 : decode cX4_ages 12 = .ok (.iconst 1, 1) := by decide +kernel
theorem dX4_ages_13 : decode cX4_ages 13 = .ok (.if_icmp .eq 10, 3) := by decide +kernel
theorem dX4_ages_16 : decode cX4_ages 16 = .ok (.aload_n 0, 1) := by decide +kernel
theorem dX4_ages_17 : decode cX4_ages 17 = .ok (.bipush (-2), 2) := by decide +kernel
theorem dX4_ages_19 : decode cX4_ages 19 = .ok (.invokevirtual 43, 3) := by decide +kernel
theorem dX4_ages_22 : decode cX4_ages 22 = .ok (.ireturn, 1) := by decide +kernel
theorem dX4_ages_23 : decode cX4_ages 23 = .ok (.iconst 0, 1) := by decide +kernel
theorem dX4_ages_24 : decode cX4_ages 24 = .ok (.istore_n 3, 1) := by decide +kernel
theorem dX4_ages_25 : decode cX4_ages 25 = .ok (.bipush (-9), 2) := by decide +kernel
theorem dX4_ages_27 : decode cX4_ages 27 = .ok (.istore 4, 2) := by decide +kernel
theorem dX4_ages_29 : decode cX4_ages 29 = .ok (.iconst 0, 1) := by decide +kernel
theorem dX4_ages_30 : decode cX4_ages 30 = .ok (.istore 5, 2) := by decide +kernel
theorem dX4_ages_32 : decode cX4_ages 32 = .ok (.iload 5, 2) := by decide +kernel
theorem dX4_ages_34 : decode cX4_ages 34 = .ok (.bipush 99, 2) := by decide +kernel
theorem dX4_ages_36 : decode cX4_ages 36 = .ok (.if_icmp .gt 36, 3) := by decide +kernel
theorem dX4_ages_39 : decode cX4_ages 39 = .ok (.aload_n 0, 1) := by decide +kernel
theorem dX4_ages_40 : decode cX4_ages 40 = .ok (.getfield 10, 3) := by decide +kernel
theorem dX4_ages_43 : decode cX4_ages 43 = .ok (.iload_n 1, 1) := by decide +kernel
theorem dX4_ages_44 : decode cX4_ages 44 = .ok (.iload 5, 2) := by decide +kernel
theorem dX4_ages_46 : decode cX4_ages 46 = .ok (.invokevirtual 66, 3) := by decide +kernel
theorem dX4_ages_49 : decode cX4_ages 49 = .ok (.ifCond .ne 6, 3) := by decide +kernel
theorem dX4_ages_52 : decode cX4_ages 52 = .ok (.goto 14, 3) := by decide +kernel
theorem dX4_ages_55 : decode cX4_ages 55 = .ok (.iload_n 3, 1) := by decide +kernel
theorem dX4_ages_56 : decode cX4_ages 56 = .ok (.ifCond .ne 7, 3) := by decide +kernel
theorem dX4_ages_59 : decode cX4_ages 59 = .ok (.iload 5, 2) := by decide +kernel
theorem dX4_ages_61 : decode cX4_ages 61 = .ok (.istore 4, 2) := by decide +kernel
theorem dX4_ages_63 : decode cX4_ages 63 = .ok (.iinc 3 1, 3) := by decide +kernel
theorem dX4_ages_66 : decode cX4_ages 66 = .ok (.iinc 5 1, 3) := by decide +kernel
theorem dX4_ages_69 : decode cX4_ages 69 = .ok (.goto (-37), 3) := by decide +kernel
theorem dX4_ages_72 : decode cX4_ages 72 = .ok (.iload_n 2, 1) := by decide +kernel
theorem dX4_ages_73 : decode cX4_ages 73 = .ok (.ifCond .ne 7, 3) := by decide +kernel
theorem dX4_ages_76 : decode cX4_ages 76 = .ok (.iload_n 3, 1) := by decide +kernel
theorem dX4_ages_77 : decode cX4_ages 77 = .ok (.goto 5, 3) := by decide +kernel
theorem dX4_ages_80 : decode cX4_ages 80 = .ok (.iload 4, 2) := by decide +kernel
theorem dX4_ages_82 : decode cX4_ages 82 = .ok (.ireturn, 1) := by decide +kernel
set_option maxRecDepth 20000 in
theorem ggX4_row_X4_refuse : GoodIn wsX4_row wsX4_refuse := goodIn_r _ [7, 8, 9, 10, 11, 12, 13, 14, 15, 16, 17] (by decide +kernel) (by decide +kernel)
set_option maxRecDepth 20000 in
theorem gX4_row_X4_refuse : GoodIn wsX4_row (wsV RX4 43 RX4 yX4_refuse wsX4_refuse) := goodIn_app (goodIn_of _ (by decide +kernel)) ggX4_row_X4_refuse
theorem dX4_row_0 : decode cX4_row 0 = .ok (.iload_n 1, 1) := by decide +kernel
theorem dX4_row_1 : decode cX4_row 1 = .ok (.ifCond .ge 10, 3) := by decide +kernel
theorem dX4_row_4 : decode cX4_row 4 = .ok (.aload_n 0, 1) := by decide +kernel
theorem dX4_row_5 : decode cX4_row 5 = .ok (.bipush (-4), 2) := by decide +kernel
theorem dX4_row_7 : decode cX4_row 7 = .ok (.invokevirtual 43, 3) := by decide +kernel
theorem dX4_row_10 : decode cX4_row 10 = .ok (.ireturn, 1) := by decide +kernel
theorem dX4_row_11 : decode cX4_row 11 = .ok (.iload_n 1, 1) := by decide +kernel
theorem dX4_row_12 : decode cX4_row 12 = .ok (.bipush 10, 2) := by decide +kernel
theorem dX4_row_14 : decode cX4_row 14 = .ok (.if_icmp .gt 12, 3) := by decide +kernel
theorem dX4_row_17 : decode cX4_row 17 = .ok (.aload_n 0, 1) := by decide +kernel
theorem dX4_row_18 : decode cX4_row 18 = .ok (.getfield 160, 3) := by decide +kernel
theorem dX4_row_21 : decode cX4_row 21 = .ok (.bipush 8, 2) := by decide +kernel
theorem dX4_row_23 : decode cX4_row 23 = .ok (.if_icmp .lt 10, 3) := by decide +kernel
theorem dX4_row_26 : decode cX4_row 26 = .ok (.aload_n 0, 1) := by decide +kernel
theorem dX4_row_27 : decode cX4_row 27 = .ok (.bipush (-6), 2) := by decide +kernel
theorem dX4_row_29 : decode cX4_row 29 = .ok (.invokevirtual 43, 3) := by decide +kernel
theorem dX4_row_32 : decode cX4_row 32 = .ok (.ireturn, 1) := by decide +kernel
theorem dX4_row_33 : decode cX4_row 33 = .ok (.aload_n 0, 1) := by decide +kernel
theorem dX4_row_34 : decode cX4_row 34 = .ok (.getfield 36, 3) := by decide +kernel
theorem dX4_row_37 : decode cX4_row 37 = .ok (.aload_n 0, 1) := by decide +kernel
theorem dX4_row_38 : decode cX4_row 38 = .ok (.getfield 160, 3) := by decide +kernel
theorem dX4_row_41 : decode cX4_row 41 = .ok (.iload_n 1, 1) := by decide +kernel
theorem dX4_row_42 : decode cX4_row 42 = .ok (.iastore, 1) := by decide +kernel
theorem dX4_row_43 : decode cX4_row 43 = .ok (.aload_n 0, 1) := by decide +kernel
theorem dX4_row_44 : decode cX4_row 44 = .ok (.dup, 1) := by decide +kernel
theorem dX4_row_45 : decode cX4_row 45 = .ok (.getfield 160, 3) := by decide +kernel
theorem dX4_row_48 : decode cX4_row 48 = .ok (.iconst 1, 1) := by decide +kernel
theorem dX4_row_49 : decode cX4_row 49 = .ok (.iadd, 1) := by decide +kernel
theorem dX4_row_50 : decode cX4_row 50 = .ok (.putfield 160, 3) := by decide +kernel
theorem dX4_row_53 : decode cX4_row 53 = .ok (.aload_n 0, 1) := by decide +kernel
theorem dX4_row_54 : decode cX4_row 54 = .ok (.getfield 160, 3) := by decide +kernel
theorem dX4_row_57 : decode cX4_row 57 = .ok (.ireturn, 1) := by decide +kernel
set_option maxRecDepth 20000 in
theorem ggX4_fitting_X4_refuse : GoodIn wsX4_fitting wsX4_refuse := goodIn_r _ [7, 8, 57, 58, 59, 60, 61, 62, 63, 64, 65] (by decide +kernel) (by decide +kernel)
set_option maxRecDepth 20000 in
theorem gX4_fitting_X4_refuse : GoodIn wsX4_fitting (wsV RX4 43 RX4 yX4_refuse wsX4_refuse) := goodIn_app (goodIn_of _ (by decide +kernel)) ggX4_fitting_X4_refuse
set_option maxRecDepth 20000 in
theorem ggX4_fitting_X3_living : GoodIn wsX4_fitting wsX3_living := goodIn_r _ [13, 14, 15, 16, 12, 17, 18, 19, 66, 67, 68, 69, 70, 71, 72] (by decide +kernel) (by decide +kernel)
set_option maxRecDepth 20000 in
theorem gX4_fitting_X3_living : GoodIn wsX4_fitting (wsV RX4 136 RX3 yX3_living wsX3_living) := goodIn_app (goodIn_of _ (by decide +kernel)) ggX4_fitting_X3_living
set_option maxRecDepth 20000 in
theorem ggX4_fitting_J6_bitCount_0f7a4 : GoodIn wsX4_fitting wsJ6_bitCount_0f7a4 := goodIn_r _ [23, 24, 25, 26] (by decide +kernel) (by decide +kernel)
set_option maxRecDepth 20000 in
theorem gX4_fitting_J6_bitCount_0f7a4 : GoodIn wsX4_fitting (va_wsS RX4 163 yJ6_bitCount_0f7a4 wsJ6_bitCount_0f7a4) := goodIn_app (goodIn_of _ (by decide +kernel)) ggX4_fitting_J6_bitCount_0f7a4
set_option maxRecDepth 20000 in
theorem ggX4_fitting_X3_areAlive : GoodIn wsX4_fitting wsX3_areAlive := goodIn_r _ [30, 31, 10, 11, 12, 13, 14, 15, 16, 17, 18, 19, 66, 67, 68, 69, 70, 71, 72] (by decide +kernel) (by decide +kernel)
set_option maxRecDepth 20000 in
theorem gX4_fitting_X3_areAlive : GoodIn wsX4_fitting (wsV RX4 105 RX3 yX3_areAlive wsX3_areAlive) := goodIn_app (goodIn_of _ (by decide +kernel)) ggX4_fitting_X3_areAlive
set_option maxRecDepth 20000 in
theorem ggX4_fitting_X4_fitsTheRow : GoodIn wsX4_fitting wsX4_fitsTheRow := goodIn_r _ [35, 2, 1, 36, 37, 38, 39, 40, 12, 41, 19, 42, 43, 44, 45, 15, 16, 17, 18, 46, 47, 48, 49, 50, 51, 52, 53, 54, 55, 56, 21, 22, 23, 24, 25, 26, 57, 58, 59, 60, 61, 62, 63, 64, 65, 66, 67, 68, 69, 70, 71, 72] (by decide +kernel) (by decide +kernel)
set_option maxRecDepth 20000 in
theorem gX4_fitting_X4_fitsTheRow : GoodIn wsX4_fitting (wsV RX4 168 RX4 yX4_fitsTheRow wsX4_fitsTheRow) := goodIn_app (goodIn_of _ (by decide +kernel)) ggX4_fitting_X4_fitsTheRow
theorem dX4_fitting_0 : decode cX4_fitting 0 = .ok (.iload_n 1, 1) := by decide +kernel
theorem dX4_fitting_1 : decode cX4_fitting 1 = .ok (.ifCond .eq 15, 3) := by decide +kernel
theorem dX4_fitting_4 : decode cX4_fitting 4 = .ok (.iload_n 1, 1) := by decide +kernel
theorem dX4_fitting_5 : decode cX4_fitting 5 = .ok (.iconst 1, 1) := by decide +kernel
theorem dX4_fitting_6 : decode cX4_fitting 6 = .ok (.if_icmp .eq 10, 3) := by decide +kernel
theorem dX4_fitting_9 : decode cX4_fitting 9 = .ok (.aload_n 0, 1) := by decide +kernel
theorem dX4_fitting_10 : decode cX4_fitting 10 = .ok (.bipush (-2), 2) := by decide +kernel
theorem dX4_fitting_12 : decode cX4_fitting 12 = .ok (.invokevirtual 43, 3) := by decide +kernel
theorem dX4_fitting_15 : decode cX4_fitting 15 = .ok (.ireturn, 1) := by decide +kernel
theorem dX4_fitting_16 : decode cX4_fitting 16 = .ok (.aload_n 0, 1) := by decide +kernel
theorem dX4_fitting_17 : decode cX4_fitting 17 = .ok (.getfield 160, 3) := by decide +kernel
theorem dX4_fitting_20 : decode cX4_fitting 20 = .ok (.aload_n 0, 1) := by decide +kernel
theorem dX4_fitting_21 : decode cX4_fitting 21 = .ok (.getfield 10, 3) := by decide +kernel
theorem dX4_fitting_24 : decode cX4_fitting 24 = .ok (.invokevirtual 136, 3) := by decide +kernel
theorem dX4_fitting_27 : decode cX4_fitting 27 = .ok (.invokestatic 163, 3) := by decide +kernel
theorem dX4_fitting_30 : decode cX4_fitting 30 = .ok (.if_icmp .eq 10, 3) := by decide +kernel
theorem dX4_fitting_33 : decode cX4_fitting 33 = .ok (.aload_n 0, 1) := by decide +kernel
theorem dX4_fitting_34 : decode cX4_fitting 34 = .ok (.bipush (-3), 2) := by decide +kernel
theorem dX4_fitting_36 : decode cX4_fitting 36 = .ok (.invokevirtual 43, 3) := by decide +kernel
theorem dX4_fitting_39 : decode cX4_fitting 39 = .ok (.ireturn, 1) := by decide +kernel
theorem dX4_fitting_40 : decode cX4_fitting 40 = .ok (.iconst 0, 1) := by decide +kernel
theorem dX4_fitting_41 : decode cX4_fitting 41 = .ok (.istore_n 2, 1) := by decide +kernel
theorem dX4_fitting_42 : decode cX4_fitting 42 = .ok (.bipush (-9), 2) := by decide +kernel
theorem dX4_fitting_44 : decode cX4_fitting 44 = .ok (.istore_n 3, 1) := by decide +kernel
theorem dX4_fitting_45 : decode cX4_fitting 45 = .ok (.iconst 0, 1) := by decide +kernel
theorem dX4_fitting_46 : decode cX4_fitting 46 = .ok (.istore 4, 2) := by decide +kernel
theorem dX4_fitting_48 : decode cX4_fitting 48 = .ok (.iload 4, 2) := by decide +kernel
theorem dX4_fitting_50 : decode cX4_fitting 50 = .ok (.sipush 256, 3) := by decide +kernel
theorem dX4_fitting_53 : decode cX4_fitting 53 = .ok (.if_icmp .ge 43, 3) := by decide +kernel
theorem dX4_fitting_56 : decode cX4_fitting 56 = .ok (.aload_n 0, 1) := by decide +kernel
theorem dX4_fitting_57 : decode cX4_fitting 57 = .ok (.getfield 10, 3) := by decide +kernel
theorem dX4_fitting_60 : decode cX4_fitting 60 = .ok (.iload 4, 2) := by decide +kernel
theorem dX4_fitting_62 : decode cX4_fitting 62 = .ok (.invokevirtual 105, 3) := by decide +kernel
theorem dX4_fitting_65 : decode cX4_fitting 65 = .ok (.ifCond .eq 25, 3) := by decide +kernel
theorem dX4_fitting_68 : decode cX4_fitting 68 = .ok (.aload_n 0, 1) := by decide +kernel
theorem dX4_fitting_69 : decode cX4_fitting 69 = .ok (.iload 4, 2) := by decide +kernel
theorem dX4_fitting_71 : decode cX4_fitting 71 = .ok (.invokevirtual 168, 3) := by decide +kernel
theorem dX4_fitting_74 : decode cX4_fitting 74 = .ok (.ifCond .ne 6, 3) := by decide +kernel
theorem dX4_fitting_77 : decode cX4_fitting 77 = .ok (.goto 13, 3) := by decide +kernel
theorem dX4_fitting_80 : decode cX4_fitting 80 = .ok (.iload_n 2, 1) := by decide +kernel
theorem dX4_fitting_81 : decode cX4_fitting 81 = .ok (.ifCond .ne 6, 3) := by decide +kernel
theorem dX4_fitting_84 : decode cX4_fitting 84 = .ok (.iload 4, 2) := by decide +kernel
theorem dX4_fitting_86 : decode cX4_fitting 86 = .ok (.istore_n 3, 1) := by decide +kernel
theorem dX4_fitting_87 : decode cX4_fitting 87 = .ok (.iinc 2 1, 3) := by decide +kernel
theorem dX4_fitting_90 : decode cX4_fitting 90 = .ok (.iinc 4 1, 3) := by decide +kernel
theorem dX4_fitting_93 : decode cX4_fitting 93 = .ok (.goto (-45), 3) := by decide +kernel
theorem dX4_fitting_96 : decode cX4_fitting 96 = .ok (.iload_n 1, 1) := by decide +kernel
theorem dX4_fitting_97 : decode cX4_fitting 97 = .ok (.ifCond .ne 7, 3) := by decide +kernel
theorem dX4_fitting_100 : decode cX4_fitting 100 = .ok (.iload_n 2, 1) := by decide +kernel
theorem dX4_fitting_101 : decode cX4_fitting 101 = .ok (.goto 4, 3) := by decide +kernel
theorem dX4_fitting_104 : decode cX4_fitting 104 = .ok (.iload_n 3, 1) := by decide +kernel
theorem dX4_fitting_105 : decode cX4_fitting 105 = .ok (.ireturn, 1) := by decide +kernel
set_option maxRecDepth 20000 in
theorem ggX4_judge_X4_firstNotSo : GoodIn wsX4_judge wsX4_firstNotSo := goodIn_r _ [6, 7, 1, 8, 9, 10, 11, 12, 13, 14, 15, 16, 17, 18, 19, 20, 21, 22, 23, 24, 25, 26, 27, 28, 29, 30, 31, 32] (by decide +kernel) (by decide +kernel)
set_option maxRecDepth 20000 in
theorem gX4_judge_X4_firstNotSo : GoodIn wsX4_judge (wsV RX4 171 RX4 yX4_firstNotSo wsX4_firstNotSo) := goodIn_app (goodIn_of _ (by decide +kernel)) ggX4_judge_X4_firstNotSo
theorem dX4_judge_0 : decode cX4_judge 0 = .ok (.aload_n 0, 1) := by decide +kernel
theorem dX4_judge_1 : decode cX4_judge 1 = .ok (.invokevirtual 171, 3) := by decide +kernel
theorem dX4_judge_4 : decode cX4_judge 4 = .ok (.istore_n 1, 1) := by decide +kernel
theorem dX4_judge_5 : decode cX4_judge 5 = .ok (.aload_n 0, 1) := by decide +kernel
theorem dX4_judge_6 : decode cX4_judge 6 = .ok (.iconst 0, 1) := by decide +kernel
theorem dX4_judge_7 : decode cX4_judge 7 = .ok (.putfield 160, 3) := by decide +kernel
theorem dX4_judge_10 : decode cX4_judge 10 = .ok (.iload_n 1, 1) := by decide +kernel
theorem dX4_judge_11 : decode cX4_judge 11 = .ok (.ireturn, 1) := by decide +kernel
set_option maxRecDepth 20000 in
theorem ggX4_lots_X4_refuse : GoodIn wsX4_lots wsX4_refuse := goodIn_r _ [6, 7, 57, 58, 59, 60, 61, 62, 63, 64, 65] (by decide +kernel) (by decide +kernel)
set_option maxRecDepth 20000 in
theorem gX4_lots_X4_refuse : GoodIn wsX4_lots (wsV RX4 43 RX4 yX4_refuse wsX4_refuse) := goodIn_app (goodIn_of _ (by decide +kernel)) ggX4_lots_X4_refuse
set_option maxRecDepth 20000 in
theorem ggX4_lots_X3_livingByLot : GoodIn wsX4_lots wsX3_livingByLot := goodIn_r _ [12, 13, 14, 15, 16, 17, 18, 11, 19, 20, 21, 22, 23, 24, 25, 26, 27, 28, 29, 30, 31, 32, 33, 34, 35, 36, 37, 38, 39, 40, 41, 42, 43, 44, 45, 46, 47, 48, 49, 50, 51, 52, 53, 54, 55, 56, 66, 67, 68, 69, 70, 71, 72] (by decide +kernel) (by decide +kernel)
set_option maxRecDepth 20000 in
theorem gX4_lots_X3_livingByLot : GoodIn wsX4_lots (wsV RX4 174 RX3 yX3_livingByLot wsX3_livingByLot) := goodIn_app (goodIn_of _ (by decide +kernel)) ggX4_lots_X3_livingByLot
theorem dX4_lots_0 : decode cX4_lots 0 = .ok (.iload_n 1, 1) := by decide +kernel
theorem dX4_lots_1 : decode cX4_lots 1 = .ok (.iconst 1, 1) := by decide +kernel
theorem dX4_lots_2 : decode cX4_lots 2 = .ok (.if_icmp .ge 10, 3) := by decide +kernel
theorem dX4_lots_5 : decode cX4_lots 5 = .ok (.aload_n 0, 1) := by decide +kernel
theorem dX4_lots_6 : decode cX4_lots 6 = .ok (.bipush (-4), 2) := by decide +kernel
theorem dX4_lots_8 : decode cX4_lots 8 = .ok (.invokevirtual 43, 3) := by decide +kernel
theorem dX4_lots_11 : decode cX4_lots 11 = .ok (.ireturn, 1) := by decide +kernel
theorem dX4_lots_12 : decode cX4_lots 12 = .ok (.iload_n 1, 1) := by decide +kernel
theorem dX4_lots_13 : decode cX4_lots 13 = .ok (.bipush 40, 2) := by decide +kernel
theorem dX4_lots_15 : decode cX4_lots 15 = .ok (.if_icmp .le 10, 3) := by decide +kernel
theorem dX4_lots_18 : decode cX4_lots 18 = .ok (.aload_n 0, 1) := by decide +kernel
theorem dX4_lots_19 : decode cX4_lots 19 = .ok (.bipush (-6), 2) := by decide +kernel
theorem dX4_lots_21 : decode cX4_lots 21 = .ok (.invokevirtual 43, 3) := by decide +kernel
theorem dX4_lots_24 : decode cX4_lots 24 = .ok (.ireturn, 1) := by decide +kernel
theorem dX4_lots_25 : decode cX4_lots 25 = .ok (.aload_n 0, 1) := by decide +kernel
theorem dX4_lots_26 : decode cX4_lots 26 = .ok (.getfield 10, 3) := by decide +kernel
theorem dX4_lots_29 : decode cX4_lots 29 = .ok (.iload_n 1, 1) := by decide +kernel
theorem dX4_lots_30 : decode cX4_lots 30 = .ok (.iload_n 2, 1) := by decide +kernel
theorem dX4_lots_31 : decode cX4_lots 31 = .ok (.invokevirtual 174, 3) := by decide +kernel
theorem dX4_lots_34 : decode cX4_lots 34 = .ok (.ireturn, 1) := by decide +kernel
set_option maxRecDepth 20000 in
theorem ggX4_image_X3_becomeLike : GoodIn wsX4_image wsX3_becomeLike := goodIn_r _ [9, 10, 11, 12, 13, 14, 15, 16, 26, 27, 28, 29, 30, 31, 32] (by decide +kernel) (by decide +kernel)
set_option maxRecDepth 20000 in
theorem gX4_image_X3_becomeLike : GoodIn wsX4_image (wsV RX4 177 RX3 yX3_becomeLike wsX3_becomeLike) := goodIn_app (goodIn_of _ (by decide +kernel)) ggX4_image_X3_becomeLike
theorem dX4_image_0 : decode cX4_image 0 = .ok (.aload_n 0, 1) := by decide +kernel
theorem dX4_image_1 : decode cX4_image 1 = .ok (.getfield 19, 3) := by decide +kernel
theorem dX4_image_4 : decode cX4_image 4 = .ok (.aload_n 0, 1) := by decide +kernel
theorem dX4_image_5 : decode cX4_image 5 = .ok (.getfield 10, 3) := by decide +kernel
theorem dX4_image_8 : decode cX4_image 8 = .ok (.invokevirtual 177, 3) := by decide +kernel
theorem dX4_image_11 : decode cX4_image 11 = .ok (.aload_n 0, 1) := by decide +kernel
theorem dX4_image_12 : decode cX4_image 12 = .ok (.iconst 1, 1) := by decide +kernel
theorem dX4_image_13 : decode cX4_image 13 = .ok (.putfield 181, 3) := by decide +kernel
theorem dX4_image_16 : decode cX4_image 16 = .ok (.aload_n 0, 1) := by decide +kernel
theorem dX4_image_17 : decode cX4_image 17 = .ok (.getfield 19, 3) := by decide +kernel
theorem dX4_image_20 : decode cX4_image 20 = .ok (.getfield 108, 3) := by decide +kernel
theorem dX4_image_23 : decode cX4_image 23 = .ok (.ireturn, 1) := by decide +kernel
set_option maxRecDepth 20000 in
theorem ggX4_back_X4_refuse : GoodIn wsX4_back wsX4_refuse := goodIn_r _ [9, 10, 23, 24, 25, 26, 27, 28, 29, 30, 31] (by decide +kernel) (by decide +kernel)
set_option maxRecDepth 20000 in
theorem gX4_back_X4_refuse : GoodIn wsX4_back (wsV RX4 43 RX4 yX4_refuse wsX4_refuse) := goodIn_app (goodIn_of _ (by decide +kernel)) ggX4_back_X4_refuse
set_option maxRecDepth 20000 in
theorem ggX4_back_X3_becomeLike : GoodIn wsX4_back wsX3_becomeLike := goodIn_r _ [15, 16, 17, 18, 19, 20, 21, 22, 32, 33, 34, 35, 36, 37, 38] (by decide +kernel) (by decide +kernel)
set_option maxRecDepth 20000 in
theorem gX4_back_X3_becomeLike : GoodIn wsX4_back (wsV RX4 177 RX3 yX3_becomeLike wsX3_becomeLike) := goodIn_app (goodIn_of _ (by decide +kernel)) ggX4_back_X3_becomeLike
theorem dX4_back_0 : decode cX4_back 0 = .ok (.aload_n 0, 1) := by decide +kernel
theorem dX4_back_1 : decode cX4_back 1 = .ok (.getfield 181, 3) := by decide +kernel
theorem dX4_back_4 : decode cX4_back 4 = .ok (.ifCond .ne 10, 3) := by decide +kernel
theorem dX4_back_7 : decode cX4_back 7 = .ok (.aload_n 0, 1) := by decide +kernel
theorem dX4_back_8 : decode cX4_back 8 = .ok (.bipush (-3), 2) := by decide +kernel
theorem dX4_back_10 : decode cX4_back 10 = .ok (.invokevirtual 43, 3) := by decide +kernel
theorem dX4_back_13 : decode cX4_back 13 = .ok (.ireturn, 1) := by decide +kernel
theorem dX4_back_14 : decode cX4_back 14 = .ok (.aload_n 0, 1) := by decide +kernel
theorem dX4_back_15 : decode cX4_back 15 = .ok (.getfield 10, 3) := by decide +kernel
theorem dX4_back_18 : decode cX4_back 18 = .ok (.aload_n 0, 1) := by decide +kernel
theorem dX4_back_19 : decode cX4_back 19 = .ok (.getfield 19, 3) := by decide +kernel
theorem dX4_back_22 : decode cX4_back 22 = .ok (.invokevirtual 177, 3) := by decide +kernel
theorem dX4_back_25 : decode cX4_back 25 = .ok (.aload_n 0, 1) := by decide +kernel
theorem dX4_back_26 : decode cX4_back 26 = .ok (.getfield 10, 3) := by decide +kernel
theorem dX4_back_29 : decode cX4_back 29 = .ok (.getfield 108, 3) := by decide +kernel
theorem dX4_back_32 : decode cX4_back 32 = .ok (.ireturn, 1) := by decide +kernel
set_option maxRecDepth 20000 in
theorem ggX4_count_X3_living : GoodIn wsX4_count wsX3_living := goodIn_r _ [14, 15, 16, 17, 13, 18, 19, 20, 41, 42, 43, 44, 45, 46, 47] (by decide +kernel) (by decide +kernel)
set_option maxRecDepth 20000 in
theorem gX4_count_X3_living : GoodIn wsX4_count (wsV RX4 136 RX3 yX3_living wsX3_living) := goodIn_app (goodIn_of _ (by decide +kernel)) ggX4_count_X3_living
set_option maxRecDepth 20000 in
theorem ggX4_count_J6_bitCount_0f7a4 : GoodIn wsX4_count wsJ6_bitCount_0f7a4 := goodIn_r _ [24, 25, 26, 27] (by decide +kernel) (by decide +kernel)
set_option maxRecDepth 20000 in
theorem gX4_count_J6_bitCount_0f7a4 : GoodIn wsX4_count (va_wsS RX4 163 yJ6_bitCount_0f7a4 wsJ6_bitCount_0f7a4) := goodIn_app (goodIn_of _ (by decide +kernel)) ggX4_count_J6_bitCount_0f7a4
set_option maxRecDepth 20000 in
theorem ggX4_count_X3_sumOfLiving : GoodIn wsX4_count wsX3_sumOfLiving := goodIn_r _ [31, 15, 16, 17, 13, 18, 19, 20, 41, 42, 43, 44, 45, 46, 47] (by decide +kernel) (by decide +kernel)
set_option maxRecDepth 20000 in
theorem gX4_count_X3_sumOfLiving : GoodIn wsX4_count (wsV RX4 188 RX3 yX3_sumOfLiving wsX3_sumOfLiving) := goodIn_app (goodIn_of _ (by decide +kernel)) ggX4_count_X3_sumOfLiving
theorem dX4_count_0 : decode cX4_count 0 = .ok (.iload_n 1, 1) := by decide +kernel
theorem dX4_count_1 : decode cX4_count 1 = .ok (.tableswitch 113 0 6 #[43, 54, 62, 70, 85, 100, 105], 43) := by decide +kernel
theorem dX4_count_44 : decode cX4_count 44 = .ok (.aload_n 0, 1) := by decide +kernel
theorem dX4_count_45 : decode cX4_count 45 = .ok (.getfield 10, 3) := by decide +kernel
theorem dX4_count_48 : decode cX4_count 48 = .ok (.invokevirtual 136, 3) := by decide +kernel
theorem dX4_count_51 : decode cX4_count 51 = .ok (.invokestatic 163, 3) := by decide +kernel
theorem dX4_count_54 : decode cX4_count 54 = .ok (.ireturn, 1) := by decide +kernel
theorem dX4_count_55 : decode cX4_count 55 = .ok (.aload_n 0, 1) := by decide +kernel
theorem dX4_count_56 : decode cX4_count 56 = .ok (.getfield 10, 3) := by decide +kernel
theorem dX4_count_59 : decode cX4_count 59 = .ok (.getfield 185, 3) := by decide +kernel
theorem dX4_count_62 : decode cX4_count 62 = .ok (.ireturn, 1) := by decide +kernel
theorem dX4_count_63 : decode cX4_count 63 = .ok (.aload_n 0, 1) := by decide +kernel
theorem dX4_count_64 : decode cX4_count 64 = .ok (.getfield 10, 3) := by decide +kernel
theorem dX4_count_67 : decode cX4_count 67 = .ok (.getfield 108, 3) := by decide +kernel
theorem dX4_count_70 : decode cX4_count 70 = .ok (.ireturn, 1) := by decide +kernel
theorem dX4_count_71 : decode cX4_count 71 = .ok (.aload_n 0, 1) := by decide +kernel
theorem dX4_count_72 : decode cX4_count 72 = .ok (.getfield 10, 3) := by decide +kernel
theorem dX4_count_75 : decode cX4_count 75 = .ok (.aload_n 0, 1) := by decide +kernel
theorem dX4_count_76 : decode cX4_count 76 = .ok (.getfield 10, 3) := by decide +kernel
theorem dX4_count_79 : decode cX4_count 79 = .ok (.getfield 86, 3) := by decide +kernel
theorem dX4_count_82 : decode cX4_count 82 = .ok (.invokevirtual 188, 3) := by decide +kernel
theorem dX4_count_85 : decode cX4_count 85 = .ok (.ireturn, 1) := by decide +kernel
theorem dX4_count_86 : decode cX4_count 86 = .ok (.aload_n 0, 1) := by decide +kernel
theorem dX4_count_87 : decode cX4_count 87 = .ok (.getfield 10, 3) := by decide +kernel
theorem dX4_count_90 : decode cX4_count 90 = .ok (.aload_n 0, 1) := by decide +kernel
theorem dX4_count_91 : decode cX4_count 91 = .ok (.getfield 10, 3) := by decide +kernel
theorem dX4_count_94 : decode cX4_count 94 = .ok (.getfield 80, 3) := by decide +kernel
theorem dX4_count_97 : decode cX4_count 97 = .ok (.invokevirtual 188, 3) := by decide +kernel
theorem dX4_count_100 : decode cX4_count 100 = .ok (.ireturn, 1) := by decide +kernel
theorem dX4_count_101 : decode cX4_count 101 = .ok (.aload_n 0, 1) := by decide +kernel
theorem dX4_count_102 : decode cX4_count 102 = .ok (.getfield 160, 3) := by decide +kernel
theorem dX4_count_105 : decode cX4_count 105 = .ok (.ireturn, 1) := by decide +kernel
theorem dX4_count_106 : decode cX4_count 106 = .ok (.aload_n 0, 1) := by decide +kernel
theorem dX4_count_107 : decode cX4_count 107 = .ok (.getfield 25, 3) := by decide +kernel
theorem dX4_count_110 : decode cX4_count 110 = .ok (.getfield 192, 3) := by decide +kernel
theorem dX4_count_113 : decode cX4_count 113 = .ok (.ireturn, 1) := by decide +kernel
theorem dX4_count_114 : decode cX4_count 114 = .ok (.iload_n 1, 1) := by decide +kernel
theorem dX4_count_115 : decode cX4_count 115 = .ok (.bipush 10, 2) := by decide +kernel
theorem dX4_count_117 : decode cX4_count 117 = .ok (.if_icmp .le 21, 3) := by decide +kernel
theorem dX4_count_120 : decode cX4_count 120 = .ok (.iload_n 1, 1) := by decide +kernel
theorem dX4_count_121 : decode cX4_count 121 = .ok (.bipush 16, 2) := by decide +kernel
theorem dX4_count_123 : decode cX4_count 123 = .ok (.if_icmp .gt 15, 3) := by decide +kernel
theorem dX4_count_126 : decode cX4_count 126 = .ok (.aload_n 0, 1) := by decide +kernel
theorem dX4_count_127 : decode cX4_count 127 = .ok (.getfield 40, 3) := by decide +kernel
theorem dX4_count_130 : decode cX4_count 130 = .ok (.iload_n 1, 1) := by decide +kernel
theorem dX4_count_131 : decode cX4_count 131 = .ok (.bipush 10, 2) := by decide +kernel
theorem dX4_count_133 : decode cX4_count 133 = .ok (.isub, 1) := by decide +kernel
theorem dX4_count_134 : decode cX4_count 134 = .ok (.iaload, 1) := by decide +kernel
theorem dX4_count_135 : decode cX4_count 135 = .ok (.goto 5, 3) := by decide +kernel
theorem dX4_count_138 : decode cX4_count 138 = .ok (.bipush (-9), 2) := by decide +kernel
theorem dX4_count_140 : decode cX4_count 140 = .ok (.ireturn, 1) := by decide +kernel
theorem dX4_refuse_0 : decode cX4_refuse 0 = .ok (.iload_n 1, 1) := by decide +kernel
theorem dX4_refuse_1 : decode cX4_refuse 1 = .ok (.ineg, 1) := by decide +kernel
theorem dX4_refuse_2 : decode cX4_refuse 2 = .ok (.istore_n 2, 1) := by decide +kernel
theorem dX4_refuse_3 : decode cX4_refuse 3 = .ok (.iload_n 2, 1) := by decide +kernel
theorem dX4_refuse_4 : decode cX4_refuse 4 = .ok (.iconst 1, 1) := by decide +kernel
theorem dX4_refuse_5 : decode cX4_refuse 5 = .ok (.if_icmp .lt 19, 3) := by decide +kernel
theorem dX4_refuse_8 : decode cX4_refuse 8 = .ok (.iload_n 2, 1) := by decide +kernel
theorem dX4_refuse_9 : decode cX4_refuse 9 = .ok (.bipush 6, 2) := by decide +kernel
theorem dX4_refuse_11 : decode cX4_refuse 11 = .ok (.if_icmp .gt 13, 3) := by decide +kernel
theorem dX4_refuse_14 : decode cX4_refuse 14 = .ok (.aload_n 0, 1) := by decide +kernel
theorem dX4_refuse_15 : decode cX4_refuse 15 = .ok (.getfield 40, 3) := by decide +kernel
theorem dX4_refuse_18 : decode cX4_refuse 18 = .ok (.iload_n 2, 1) := by decide +kernel
theorem dX4_refuse_19 : decode cX4_refuse 19 = .ok (.dup2, 1) := by decide +kernel
theorem dX4_refuse_20 : decode cX4_refuse 20 = .ok (.iaload, 1) := by decide +kernel
theorem dX4_refuse_21 : decode cX4_refuse 21 = .ok (.iconst 1, 1) := by decide +kernel
theorem dX4_refuse_22 : decode cX4_refuse 22 = .ok (.iadd, 1) := by decide +kernel
theorem dX4_refuse_23 : decode cX4_refuse 23 = .ok (.iastore, 1) := by decide +kernel
theorem dX4_refuse_24 : decode cX4_refuse 24 = .ok (.iload_n 1, 1) := by decide +kernel
theorem dX4_refuse_25 : decode cX4_refuse 25 = .ok (.ireturn, 1) := by decide +kernel
set_option maxRecDepth 20000 in
theorem ggX4_refuseLong_X4_refuse : GoodIn wsX4_refuseLong wsX4_refuse := goodIn_r _ [6, 7, 8, 9, 10, 11, 12, 13, 14, 15, 16] (by decide +kernel) (by decide +kernel)
set_option maxRecDepth 20000 in
theorem gX4_refuseLong_X4_refuse : GoodIn wsX4_refuseLong (wsV RX4 43 RX4 yX4_refuse wsX4_refuse) := goodIn_app (goodIn_of _ (by decide +kernel)) ggX4_refuseLong_X4_refuse
theorem dX4_refuseLong_0 : decode cX4_refuseLong 0 = .ok (.ldc2_w 195, 3) := by decide +kernel
theorem dX4_refuseLong_3 : decode cX4_refuseLong 3 = .ok (.aload_n 0, 1) := by decide +kernel
theorem dX4_refuseLong_4 : decode cX4_refuseLong 4 = .ok (.iload_n 1, 1) := by decide +kernel
theorem dX4_refuseLong_5 : decode cX4_refuseLong 5 = .ok (.invokevirtual 43, 3) := by decide +kernel
theorem dX4_refuseLong_8 : decode cX4_refuseLong 8 = .ok (.i2l, 1) := by decide +kernel
theorem dX4_refuseLong_9 : decode cX4_refuseLong 9 = .ok (.lsub, 1) := by decide +kernel
theorem dX4_refuseLong_10 : decode cX4_refuseLong 10 = .ok (.lreturn, 1) := by decide +kernel
theorem dX4_isFloor_0 : decode cX4_isFloor 0 = .ok (.iload_n 0, 1) := by decide +kernel
theorem dX4_isFloor_1 : decode cX4_isFloor 1 = .ok (.ifCond .lt 13, 3) := by decide +kernel
theorem dX4_isFloor_4 : decode cX4_isFloor 4 = .ok (.iload_n 0, 1) := by decide +kernel
theorem dX4_isFloor_5 : decode cX4_isFloor 5 = .ok (.bipush 9, 2) := by decide +kernel
theorem dX4_isFloor_7 : decode cX4_isFloor 7 = .ok (.if_icmp .gt 7, 3) := by decide +kernel
theorem dX4_isFloor_10 : decode cX4_isFloor 10 = .ok (.iconst 1, 1) := by decide +kernel
theorem dX4_isFloor_11 : decode cX4_isFloor 11 = .ok (.goto 4, 3) := by decide +kernel
theorem dX4_isFloor_14 : decode cX4_isFloor 14 = .ok (.iconst 0, 1) := by decide +kernel
theorem dX4_isFloor_15 : decode cX4_isFloor 15 = .ok (.ireturn, 1) := by decide +kernel
theorem dX4_isKind_0 : decode cX4_isKind 0 = .ok (.iload_n 0, 1) := by decide +kernel
theorem dX4_isKind_1 : decode cX4_isKind 1 = .ok (.ifCond .lt 13, 3) := by decide +kernel
theorem dX4_isKind_4 : decode cX4_isKind 4 = .ok (.iload_n 0, 1) := by decide +kernel
theorem dX4_isKind_5 : decode cX4_isKind 5 = .ok (.bipush 6, 2) := by decide +kernel
theorem dX4_isKind_7 : decode cX4_isKind 7 = .ok (.if_icmp .ge 7, 3) := by decide +kernel
theorem dX4_isKind_10 : decode cX4_isKind 10 = .ok (.iconst 1, 1) := by decide +kernel
theorem dX4_isKind_11 : decode cX4_isKind 11 = .ok (.goto 4, 3) := by decide +kernel
theorem dX4_isKind_14 : decode cX4_isKind 14 = .ok (.iconst 0, 1) := by decide +kernel
theorem dX4_isKind_15 : decode cX4_isKind 15 = .ok (.ireturn, 1) := by decide +kernel
set_option maxRecDepth 20000 in
theorem ggX4_takeHouse_X2_firstMisfit : GoodIn wsX4_takeHouse wsX2_firstMisfit := goodIn_r _ [8, 9, 10, 11, 12, 7, 13, 14, 15, 16, 17, 18, 19, 20, 21, 22, 23, 24, 25, 26, 27, 28, 29, 30, 31, 32, 33, 147, 148] (by decide +kernel) (by decide +kernel)
set_option maxRecDepth 20000 in
theorem gX4_takeHouse_X2_firstMisfit : GoodIn wsX4_takeHouse (wsV RX4 197 RX2 yX2_firstMisfit wsX2_firstMisfit) := goodIn_app (goodIn_of _ (by decide +kernel)) ggX4_takeHouse_X2_firstMisfit
set_option maxRecDepth 20000 in
theorem ggX4_takeHouse_X3_becomeLike : GoodIn wsX4_takeHouse wsX3_becomeLike := goodIn_r _ [38, 39, 40, 41, 42, 43, 44, 45, 149, 150, 151, 152, 153, 154, 155] (by decide +kernel) (by decide +kernel)
set_option maxRecDepth 20000 in
theorem gX4_takeHouse_X3_becomeLike : GoodIn wsX4_takeHouse (wsV RX4 177 RX3 yX3_becomeLike wsX3_becomeLike) := goodIn_app (goodIn_of _ (by decide +kernel)) ggX4_takeHouse_X3_becomeLike
set_option maxRecDepth 20000 in
theorem ggX4_takeHouse_X2_playOn : GoodIn wsX4_takeHouse wsX2_playOn := goodIn_r _ [49, 9, 10, 11, 12, 7, 13, 14, 50, 51, 52, 53, 21, 22, 23, 24, 54, 55, 56, 57, 58, 59, 60, 37, 61, 62, 63, 64, 65, 44, 66, 67, 68, 69, 70, 71, 72, 73, 74, 75, 76, 41, 77, 78, 79, 80, 81, 82, 83, 84, 39, 40, 42, 43, 85, 86, 87, 88, 89, 90, 91, 92, 93, 94, 95, 96, 97, 98, 99, 100, 101, 102, 45, 103, 104, 105, 106, 107, 108, 109, 110, 111, 112, 113, 114, 115, 116, 117, 118, 119, 120, 121, 122, 123, 124, 125, 126, 127, 128, 129, 130, 131, 132, 133, 147, 148, 149, 150, 151, 152, 153, 154, 155] (by decide +kernel) (by decide +kernel)
set_option maxRecDepth 20000 in
theorem gX4_takeHouse_X2_playOn : GoodIn wsX4_takeHouse (wsV RX4 200 RX2 yX2_playOn wsX2_playOn) := goodIn_app (goodIn_of _ (by decide +kernel)) ggX4_takeHouse_X2_playOn
set_option maxRecDepth 20000 in
theorem ggX4_takeHouse_X2_statements : GoodIn wsX4_takeHouse wsX2_statements := goodIn_r _ [137, 9, 10, 11, 12, 7, 13, 14, 147, 148] (by decide +kernel) (by decide +kernel)
set_option maxRecDepth 20000 in
theorem gX4_takeHouse_X2_statements : GoodIn wsX4_takeHouse (wsV RX4 204 RX2 yX2_statements wsX2_statements) := goodIn_app (goodIn_of _ (by decide +kernel)) ggX4_takeHouse_X2_statements
theorem dX4_takeHouse_0 : decode cX4_takeHouse 0 = .ok (.aload_n 0, 1) := by decide +kernel
theorem dX4_takeHouse_1 : decode cX4_takeHouse 1 = .ok (.getfield 25, 3) := by decide +kernel
theorem dX4_takeHouse_4 : decode cX4_takeHouse 4 = .ok (.invokevirtual 197, 3) := by decide +kernel
theorem dX4_takeHouse_7 : decode cX4_takeHouse 7 = .ok (.istore_n 1, 1) := by decide +kernel
theorem dX4_takeHouse_8 : decode cX4_takeHouse 8 = .ok (.iload_n 1, 1) := by decide +kernel
theorem dX4_takeHouse_9 : decode cX4_takeHouse 9 = .ok (.ifCond .lt 9, 3) := by decide +kernel
theorem dX4_takeHouse_12 : decode cX4_takeHouse 12 = .ok (.sipush (-1000), 3) := by decide +kernel
theorem dX4_takeHouse_15 : decode cX4_takeHouse 15 = .ok (.iload_n 1, 1) := by decide +kernel
theorem dX4_takeHouse_16 : decode cX4_takeHouse 16 = .ok (.isub, 1) := by decide +kernel
theorem dX4_takeHouse_17 : decode cX4_takeHouse 17 = .ok (.ireturn, 1) := by decide +kernel
theorem dX4_takeHouse_18 : decode cX4_takeHouse 18 = .ok (.aload_n 0, 1) := by decide +kernel
theorem dX4_takeHouse_19 : decode cX4_takeHouse 19 = .ok (.getfield 16, 3) := by decide +kernel
theorem dX4_takeHouse_22 : decode cX4_takeHouse 22 = .ok (.aload_n 0, 1) := by decide +kernel
theorem dX4_takeHouse_23 : decode cX4_takeHouse 23 = .ok (.getfield 10, 3) := by decide +kernel
theorem dX4_takeHouse_26 : decode cX4_takeHouse 26 = .ok (.invokevirtual 177, 3) := by decide +kernel
theorem dX4_takeHouse_29 : decode cX4_takeHouse 29 = .ok (.aload_n 0, 1) := by decide +kernel
theorem dX4_takeHouse_30 : decode cX4_takeHouse 30 = .ok (.getfield 25, 3) := by decide +kernel
theorem dX4_takeHouse_33 : decode cX4_takeHouse 33 = .ok (.aload_n 0, 1) := by decide +kernel
theorem dX4_takeHouse_34 : decode cX4_takeHouse 34 = .ok (.getfield 16, 3) := by decide +kernel
theorem dX4_takeHouse_37 : decode cX4_takeHouse 37 = .ok (.invokevirtual 200, 3) := by decide +kernel
theorem dX4_takeHouse_40 : decode cX4_takeHouse 40 = .ok (.istore_n 1, 1) := by decide +kernel
theorem dX4_takeHouse_41 : decode cX4_takeHouse 41 = .ok (.iload_n 1, 1) := by decide +kernel
theorem dX4_takeHouse_42 : decode cX4_takeHouse 42 = .ok (.ifCond .lt 9, 3) := by decide +kernel
theorem dX4_takeHouse_45 : decode cX4_takeHouse 45 = .ok (.sipush (-2000), 3) := by decide +kernel
theorem dX4_takeHouse_48 : decode cX4_takeHouse 48 = .ok (.iload_n 1, 1) := by decide +kernel
theorem dX4_takeHouse_49 : decode cX4_takeHouse 49 = .ok (.isub, 1) := by decide +kernel
theorem dX4_takeHouse_50 : decode cX4_takeHouse 50 = .ok (.ireturn, 1) := by decide +kernel
theorem dX4_takeHouse_51 : decode cX4_takeHouse 51 = .ok (.aload_n 0, 1) := by decide +kernel
theorem dX4_takeHouse_52 : decode cX4_takeHouse 52 = .ok (.getfield 10, 3) := by decide +kernel
theorem dX4_takeHouse_55 : decode cX4_takeHouse 55 = .ok (.aload_n 0, 1) := by decide +kernel
theorem dX4_takeHouse_56 : decode cX4_takeHouse 56 = .ok (.getfield 16, 3) := by decide +kernel
theorem dX4_takeHouse_59 : decode cX4_takeHouse 59 = .ok (.invokevirtual 177, 3) := by decide +kernel
theorem dX4_takeHouse_62 : decode cX4_takeHouse 62 = .ok (.aload_n 0, 1) := by decide +kernel
theorem dX4_takeHouse_63 : decode cX4_takeHouse 63 = .ok (.getfield 25, 3) := by decide +kernel
theorem dX4_takeHouse_66 : decode cX4_takeHouse 66 = .ok (.invokevirtual 204, 3) := by decide +kernel
theorem dX4_takeHouse_69 : decode cX4_takeHouse 69 = .ok (.ireturn, 1) := by decide +kernel
set_option maxRecDepth 20000 in
theorem ggX4_fitsTheRow_X3_floorsOf : GoodIn wsX4_fitsTheRow wsX3_floorsOf := goodIn_r _ [9, 10, 11, 12, 8, 13, 45, 46, 47, 48, 49, 50, 51] (by decide +kernel) (by decide +kernel)
set_option maxRecDepth 20000 in
theorem gX4_fitsTheRow_X3_floorsOf : GoodIn wsX4_fitsTheRow (wsV RX4 139 RX3 yX3_floorsOf wsX3_floorsOf) := goodIn_app (goodIn_of _ (by decide +kernel)) ggX4_fitsTheRow_X3_floorsOf
set_option maxRecDepth 20000 in
theorem ggX4_fitsTheRow_X3_isAlive : GoodIn wsX4_fitsTheRow wsX3_isAlive := goodIn_r _ [17, 18, 10, 45, 46, 47, 48, 49, 50, 51] (by decide +kernel) (by decide +kernel)
set_option maxRecDepth 20000 in
theorem gX4_fitsTheRow_X3_isAlive : GoodIn wsX4_fitsTheRow (wsV RX4 74 RX3 yX3_isAlive wsX3_isAlive) := goodIn_app (goodIn_of _ (by decide +kernel)) ggX4_fitsTheRow_X3_isAlive
set_option maxRecDepth 20000 in
theorem ggX4_fitsTheRow_X3_holds : GoodIn wsX4_fitsTheRow wsX3_holds := goodIn_r _ [13] (by decide +kernel) (by decide +kernel)
set_option maxRecDepth 20000 in
theorem gX4_fitsTheRow_X3_holds : GoodIn wsX4_fitsTheRow (va_wsS RX4 207 yX3_holds wsX3_holds) := goodIn_app (goodIn_of _ (by decide +kernel)) ggX4_fitsTheRow_X3_holds
set_option maxRecDepth 20000 in
theorem ggX4_fitsTheRow_X3_floorsUp : GoodIn wsX4_fitsTheRow wsX3_floorsUp := goodIn_r _ [23, 10, 24, 25, 26, 8, 27, 28, 29, 30, 31, 32, 33, 34, 35, 45, 46, 47, 48, 49, 50, 51] (by decide +kernel) (by decide +kernel)
set_option maxRecDepth 20000 in
theorem gX4_fitsTheRow_X3_floorsUp : GoodIn wsX4_fitsTheRow (wsV RX4 142 RX3 yX3_floorsUp wsX3_floorsUp) := goodIn_app (goodIn_of _ (by decide +kernel)) ggX4_fitsTheRow_X3_floorsUp
theorem dX4_fitsTheRow_0 : decode cX4_fitsTheRow 0 = .ok (.aload_n 0, 1) := by decide +kernel
theorem dX4_fitsTheRow_1 : decode cX4_fitsTheRow 1 = .ok (.getfield 10, 3) := by decide +kernel
theorem dX4_fitsTheRow_4 : decode cX4_fitsTheRow 4 = .ok (.iload_n 1, 1) := by decide +kernel
theorem dX4_fitsTheRow_5 : decode cX4_fitsTheRow 5 = .ok (.invokevirtual 139, 3) := by decide +kernel
theorem dX4_fitsTheRow_8 : decode cX4_fitsTheRow 8 = .ok (.istore_n 2, 1) := by decide +kernel
theorem dX4_fitsTheRow_9 : decode cX4_fitsTheRow 9 = .ok (.iconst 0, 1) := by decide +kernel
theorem dX4_fitsTheRow_10 : decode cX4_fitsTheRow 10 = .ok (.istore_n 3, 1) := by decide +kernel
theorem dX4_fitsTheRow_11 : decode cX4_fitsTheRow 11 = .ok (.iconst 0, 1) := by decide +kernel
theorem dX4_fitsTheRow_12 : decode cX4_fitsTheRow 12 = .ok (.istore 4, 2) := by decide +kernel
theorem dX4_fitsTheRow_14 : decode cX4_fitsTheRow 14 = .ok (.iload 4, 2) := by decide +kernel
theorem dX4_fitsTheRow_16 : decode cX4_fitsTheRow 16 = .ok (.bipush 8, 2) := by decide +kernel
theorem dX4_fitsTheRow_18 : decode cX4_fitsTheRow 18 = .ok (.if_icmp .ge 95, 3) := by decide +kernel
theorem dX4_fitsTheRow_21 : decode cX4_fitsTheRow 21 = .ok (.iload_n 3, 1) := by decide +kernel
theorem dX4_fitsTheRow_22 : decode cX4_fitsTheRow 22 = .ok (.aload_n 0, 1) := by decide +kernel
theorem dX4_fitsTheRow_23 : decode cX4_fitsTheRow 23 = .ok (.getfield 160, 3) := by decide +kernel
theorem dX4_fitsTheRow_26 : decode cX4_fitsTheRow 26 = .ok (.if_icmp .ge 87, 3) := by decide +kernel
theorem dX4_fitsTheRow_29 : decode cX4_fitsTheRow 29 = .ok (.aload_n 0, 1) := by decide +kernel
theorem dX4_fitsTheRow_30 : decode cX4_fitsTheRow 30 = .ok (.getfield 10, 3) := by decide +kernel
theorem dX4_fitsTheRow_33 : decode cX4_fitsTheRow 33 = .ok (.iload 4, 2) := by decide +kernel
theorem dX4_fitsTheRow_35 : decode cX4_fitsTheRow 35 = .ok (.invokevirtual 74, 3) := by decide +kernel
theorem dX4_fitsTheRow_38 : decode cX4_fitsTheRow 38 = .ok (.ifCond .ne 6, 3) := by decide +kernel
theorem dX4_fitsTheRow_41 : decode cX4_fitsTheRow 41 = .ok (.goto 66, 3) := by decide +kernel
theorem dX4_fitsTheRow_44 : decode cX4_fitsTheRow 44 = .ok (.iload_n 1, 1) := by decide +kernel
theorem dX4_fitsTheRow_45 : decode cX4_fitsTheRow 45 = .ok (.iload 4, 2) := by decide +kernel
theorem dX4_fitsTheRow_47 : decode cX4_fitsTheRow 47 = .ok (.invokestatic 207, 3) := by decide +kernel
theorem dX4_fitsTheRow_50 : decode cX4_fitsTheRow 50 = .ok (.ifCond .eq 7, 3) := by decide +kernel
theorem dX4_fitsTheRow_53 : decode cX4_fitsTheRow 53 = .ok (.iconst (-1), 1) := by decide +kernel
theorem dX4_fitsTheRow_54 : decode cX4_fitsTheRow 54 = .ok (.goto 24, 3) := by decide +kernel
theorem dX4_fitsTheRow_57 : decode cX4_fitsTheRow 57 = .ok (.aload_n 0, 1) := by decide +kernel
theorem dX4_fitsTheRow_58 : decode cX4_fitsTheRow 58 = .ok (.getfield 10, 3) := by decide +kernel
theorem dX4_fitsTheRow_61 : decode cX4_fitsTheRow 61 = .ok (.getfield 83, 3) := by decide +kernel
theorem dX4_fitsTheRow_64 : decode cX4_fitsTheRow 64 = .ok (.iload 4, 2) := by decide +kernel
theorem dX4_fitsTheRow_66 : decode cX4_fitsTheRow 66 = .ok (.iaload, 1) := by decide +kernel
theorem dX4_fitsTheRow_67 : decode cX4_fitsTheRow 67 = .ok (.aload_n 0, 1) := by decide +kernel
theorem dX4_fitsTheRow_68 : decode cX4_fitsTheRow 68 = .ok (.getfield 10, 3) := by decide +kernel
theorem dX4_fitsTheRow_71 : decode cX4_fitsTheRow 71 = .ok (.iload 4, 2) := by decide +kernel
theorem dX4_fitsTheRow_73 : decode cX4_fitsTheRow 73 = .ok (.iload_n 2, 1) := by decide +kernel
theorem dX4_fitsTheRow_74 : decode cX4_fitsTheRow 74 = .ok (.invokevirtual 142, 3) := by decide +kernel
theorem dX4_fitsTheRow_77 : decode cX4_fitsTheRow 77 = .ok (.iadd, 1) := by decide +kernel
theorem dX4_fitsTheRow_78 : decode cX4_fitsTheRow 78 = .ok (.istore 5, 2) := by decide +kernel
theorem dX4_fitsTheRow_80 : decode cX4_fitsTheRow 80 = .ok (.aload_n 0, 1) := by decide +kernel
theorem dX4_fitsTheRow_81 : decode cX4_fitsTheRow 81 = .ok (.getfield 36, 3) := by decide +kernel
theorem dX4_fitsTheRow_84 : decode cX4_fitsTheRow 84 = .ok (.iload_n 3, 1) := by decide +kernel
theorem dX4_fitsTheRow_85 : decode cX4_fitsTheRow 85 = .ok (.iaload, 1) := by decide +kernel
theorem dX4_fitsTheRow_86 : decode cX4_fitsTheRow 86 = .ok (.bipush 10, 2) := by decide +kernel
theorem dX4_fitsTheRow_88 : decode cX4_fitsTheRow 88 = .ok (.if_icmp .eq 16, 3) := by decide +kernel
theorem dX4_fitsTheRow_91 : decode cX4_fitsTheRow 91 = .ok (.aload_n 0, 1) := by decide +kernel
theorem dX4_fitsTheRow_92 : decode cX4_fitsTheRow 92 = .ok (.getfield 36, 3) := by decide +kernel
theorem dX4_fitsTheRow_95 : decode cX4_fitsTheRow 95 = .ok (.iload_n 3, 1) := by decide +kernel
theorem dX4_fitsTheRow_96 : decode cX4_fitsTheRow 96 = .ok (.iaload, 1) := by decide +kernel
theorem dX4_fitsTheRow_97 : decode cX4_fitsTheRow 97 = .ok (.iload 5, 2) := by decide +kernel
theorem dX4_fitsTheRow_99 : decode cX4_fitsTheRow 99 = .ok (.if_icmp .eq 5, 3) := by decide +kernel
theorem dX4_fitsTheRow_102 : decode cX4_fitsTheRow 102 = .ok (.iconst 0, 1) := by decide +kernel
theorem dX4_fitsTheRow_103 : decode cX4_fitsTheRow 103 = .ok (.ireturn, 1) := by decide +kernel
theorem dX4_fitsTheRow_104 : decode cX4_fitsTheRow 104 = .ok (.iinc 3 1, 3) := by decide +kernel
theorem dX4_fitsTheRow_107 : decode cX4_fitsTheRow 107 = .ok (.iinc 4 1, 3) := by decide +kernel
theorem dX4_fitsTheRow_110 : decode cX4_fitsTheRow 110 = .ok (.goto (-96), 3) := by decide +kernel
theorem dX4_fitsTheRow_113 : decode cX4_fitsTheRow 113 = .ok (.iconst 1, 1) := by decide +kernel
theorem dX4_fitsTheRow_114 : decode cX4_fitsTheRow 114 = .ok (.ireturn, 1) := by decide +kernel
set_option maxRecDepth 20000 in
theorem ggX4_firstNotSo_X3_isAlive : GoodIn wsX4_firstNotSo wsX3_isAlive := goodIn_r _ [9, 10, 11, 21, 22, 23, 24, 25, 26, 27] (by decide +kernel) (by decide +kernel)
set_option maxRecDepth 20000 in
theorem gX4_firstNotSo_X3_isAlive : GoodIn wsX4_firstNotSo (wsV RX4 74 RX3 yX3_isAlive wsX3_isAlive) := goodIn_app (goodIn_of _ (by decide +kernel)) ggX4_firstNotSo_X3_isAlive
theorem dX4_firstNotSo_0 : decode cX4_firstNotSo 0 = .ok (.iconst 0, 1) := by decide +kernel
theorem dX4_firstNotSo_1 : decode cX4_firstNotSo 1 = .ok (.istore_n 1, 1) := by decide +kernel
theorem dX4_firstNotSo_2 : decode cX4_firstNotSo 2 = .ok (.iconst 0, 1) := by decide +kernel
theorem dX4_firstNotSo_3 : decode cX4_firstNotSo 3 = .ok (.istore_n 2, 1) := by decide +kernel
theorem dX4_firstNotSo_4 : decode cX4_firstNotSo 4 = .ok (.iload_n 2, 1) := by decide +kernel
theorem dX4_firstNotSo_5 : decode cX4_firstNotSo 5 = .ok (.bipush 8, 2) := by decide +kernel
theorem dX4_firstNotSo_7 : decode cX4_firstNotSo 7 = .ok (.if_icmp .ge 54, 3) := by decide +kernel
theorem dX4_firstNotSo_10 : decode cX4_firstNotSo 10 = .ok (.aload_n 0, 1) := by decide +kernel
theorem dX4_firstNotSo_11 : decode cX4_firstNotSo 11 = .ok (.getfield 10, 3) := by decide +kernel
theorem dX4_firstNotSo_14 : decode cX4_firstNotSo 14 = .ok (.iload_n 2, 1) := by decide +kernel
theorem dX4_firstNotSo_15 : decode cX4_firstNotSo 15 = .ok (.invokevirtual 74, 3) := by decide +kernel
theorem dX4_firstNotSo_18 : decode cX4_firstNotSo 18 = .ok (.ifCond .ne 6, 3) := by decide +kernel
theorem dX4_firstNotSo_21 : decode cX4_firstNotSo 21 = .ok (.goto 34, 3) := by decide +kernel
theorem dX4_firstNotSo_24 : decode cX4_firstNotSo 24 = .ok (.iload_n 1, 1) := by decide +kernel
theorem dX4_firstNotSo_25 : decode cX4_firstNotSo 25 = .ok (.aload_n 0, 1) := by decide +kernel
theorem dX4_firstNotSo_26 : decode cX4_firstNotSo 26 = .ok (.getfield 160, 3) := by decide +kernel
theorem dX4_firstNotSo_29 : decode cX4_firstNotSo 29 = .ok (.if_icmp .ge 21, 3) := by decide +kernel
theorem dX4_firstNotSo_32 : decode cX4_firstNotSo 32 = .ok (.aload_n 0, 1) := by decide +kernel
theorem dX4_firstNotSo_33 : decode cX4_firstNotSo 33 = .ok (.getfield 36, 3) := by decide +kernel
theorem dX4_firstNotSo_36 : decode cX4_firstNotSo 36 = .ok (.iload_n 1, 1) := by decide +kernel
theorem dX4_firstNotSo_37 : decode cX4_firstNotSo 37 = .ok (.iaload, 1) := by decide +kernel
theorem dX4_firstNotSo_38 : decode cX4_firstNotSo 38 = .ok (.aload_n 0, 1) := by decide +kernel
theorem dX4_firstNotSo_39 : decode cX4_firstNotSo 39 = .ok (.getfield 10, 3) := by decide +kernel
theorem dX4_firstNotSo_42 : decode cX4_firstNotSo 42 = .ok (.getfield 83, 3) := by decide +kernel
theorem dX4_firstNotSo_45 : decode cX4_firstNotSo 45 = .ok (.iload_n 2, 1) := by decide +kernel
theorem dX4_firstNotSo_46 : decode cX4_firstNotSo 46 = .ok (.iaload, 1) := by decide +kernel
theorem dX4_firstNotSo_47 : decode cX4_firstNotSo 47 = .ok (.if_icmp .eq 5, 3) := by decide +kernel
theorem dX4_firstNotSo_50 : decode cX4_firstNotSo 50 = .ok (.iload_n 1, 1) := by decide +kernel
theorem dX4_firstNotSo_51 : decode cX4_firstNotSo 51 = .ok (.ireturn, 1) := by decide +kernel
theorem dX4_firstNotSo_52 : decode cX4_firstNotSo 52 = .ok (.iinc 1 1, 3) := by decide +kernel
theorem dX4_firstNotSo_55 : decode cX4_firstNotSo 55 = .ok (.iinc 2 1, 3) := by decide +kernel
theorem dX4_firstNotSo_58 : decode cX4_firstNotSo 58 = .ok (.goto (-54), 3) := by decide +kernel
theorem dX4_firstNotSo_61 : decode cX4_firstNotSo 61 = .ok (.iload_n 1, 1) := by decide +kernel
theorem dX4_firstNotSo_62 : decode cX4_firstNotSo 62 = .ok (.aload_n 0, 1) := by decide +kernel
theorem dX4_firstNotSo_63 : decode cX4_firstNotSo 63 = .ok (.getfield 160, 3) := by decide +kernel
theorem dX4_firstNotSo_66 : decode cX4_firstNotSo 66 = .ok (.if_icmp .ge 7, 3) := by decide +kernel
theorem dX4_firstNotSo_69 : decode cX4_firstNotSo 69 = .ok (.iload_n 1, 1) := by decide +kernel
theorem dX4_firstNotSo_70 : decode cX4_firstNotSo 70 = .ok (.goto 5, 3) := by decide +kernel
theorem dX4_firstNotSo_73 : decode cX4_firstNotSo 73 = .ok (.bipush (-9), 2) := by decide +kernel
theorem dX4_firstNotSo_75 : decode cX4_firstNotSo 75 = .ok (.ireturn, 1) := by decide +kernel
theorem dX5_init_0 : decode cX5_init 0 = .ok (.aload_n 0, 1) := by decide +kernel
theorem dX5_init_1 : decode cX5_init 1 = .ok (.invokespecial 1, 3) := by decide +kernel
theorem dX5_init_4 : decode cX5_init 4 = .ok (.aload_n 0, 1) := by decide +kernel
theorem dX5_init_5 : decode cX5_init 5 = .ok (.bipush 7, 2) := by decide +kernel
theorem dX5_init_7 : decode cX5_init 7 = .ok (.newarray .int, 2) := by decide +kernel
theorem dX5_init_9 : decode cX5_init 9 = .ok (.putfield 7, 3) := by decide +kernel
theorem dX5_init_12 : decode cX5_init 12 = .ok (.aload_n 0, 1) := by decide +kernel
theorem dX5_init_13 : decode cX5_init 13 = .ok (.bipush 8, 2) := by decide +kernel
theorem dX5_init_15 : decode cX5_init 15 = .ok (.newarray .int, 2) := by decide +kernel
theorem dX5_init_17 : decode cX5_init 17 = .ok (.putfield 13, 3) := by decide +kernel
theorem dX5_init_20 : decode cX5_init 20 = .ok (.aload_n 0, 1) := by decide +kernel
theorem dX5_init_21 : decode cX5_init 21 = .ok (.bipush 8, 2) := by decide +kernel
theorem dX5_init_23 : decode cX5_init 23 = .ok (.newarray .int, 2) := by decide +kernel
theorem dX5_init_25 : decode cX5_init 25 = .ok (.putfield 16, 3) := by decide +kernel
theorem dX5_init_28 : decode cX5_init 28 = .ok (.aload_n 0, 1) := by decide +kernel
theorem dX5_init_29 : decode cX5_init 29 = .ok (.bipush 8, 2) := by decide +kernel
theorem dX5_init_31 : decode cX5_init 31 = .ok (.newarray .int, 2) := by decide +kernel
theorem dX5_init_33 : decode cX5_init 33 = .ok (.putfield 19, 3) := by decide +kernel
theorem dX5_init_36 : decode cX5_init 36 = .ok (.aload_n 0, 1) := by decide +kernel
theorem dX5_init_37 : decode cX5_init 37 = .ok (.bipush 8, 2) := by decide +kernel
theorem dX5_init_39 : decode cX5_init 39 = .ok (.newarray .int, 2) := by decide +kernel
theorem dX5_init_41 : decode cX5_init 41 = .ok (.putfield 22, 3) := by decide +kernel
theorem dX5_init_44 : decode cX5_init 44 = .ok (.aload_n 0, 1) := by decide +kernel
theorem dX5_init_45 : decode cX5_init 45 = .ok (.bipush 8, 2) := by decide +kernel
theorem dX5_init_47 : decode cX5_init 47 = .ok (.newarray .int, 2) := by decide +kernel
theorem dX5_init_49 : decode cX5_init 49 = .ok (.putfield 25, 3) := by decide +kernel
theorem dX5_init_52 : decode cX5_init 52 = .ok (.aload_n 0, 1) := by decide +kernel
theorem dX5_init_53 : decode cX5_init 53 = .ok (.bipush 80, 2) := by decide +kernel
theorem dX5_init_55 : decode cX5_init 55 = .ok (.newarray .int, 2) := by decide +kernel
theorem dX5_init_57 : decode cX5_init 57 = .ok (.putfield 28, 3) := by decide +kernel
theorem dX5_init_60 : decode cX5_init 60 = .ok (.aload_n 0, 1) := by decide +kernel
theorem dX5_init_61 : decode cX5_init 61 = .ok (.bipush 40, 2) := by decide +kernel
theorem dX5_init_63 : decode cX5_init 63 = .ok (.newarray .int, 2) := by decide +kernel
theorem dX5_init_65 : decode cX5_init 65 = .ok (.putfield 31, 3) := by decide +kernel
theorem dX5_init_68 : decode cX5_init 68 = .ok (.aload_n 0, 1) := by decide +kernel
theorem dX5_init_69 : decode cX5_init 69 = .ok (.bipush 40, 2) := by decide +kernel
theorem dX5_init_71 : decode cX5_init 71 = .ok (.newarray .int, 2) := by decide +kernel
theorem dX5_init_73 : decode cX5_init 73 = .ok (.putfield 34, 3) := by decide +kernel
theorem dX5_init_76 : decode cX5_init 76 = .ok (.aload_n 0, 1) := by decide +kernel
theorem dX5_init_77 : decode cX5_init 77 = .ok (.bipush 120, 2) := by decide +kernel
theorem dX5_init_79 : decode cX5_init 79 = .ok (.newarray .int, 2) := by decide +kernel
theorem dX5_init_81 : decode cX5_init 81 = .ok (.putfield 37, 3) := by decide +kernel
theorem dX5_init_84 : decode cX5_init 84 = .ok (.aload_n 0, 1) := by decide +kernel
theorem dX5_init_85 : decode cX5_init 85 = .ok (.bipush 40, 2) := by decide +kernel
theorem dX5_init_87 : decode cX5_init 87 = .ok (.newarray .int, 2) := by decide +kernel
theorem dX5_init_89 : decode cX5_init 89 = .ok (.putfield 40, 3) := by decide +kernel
theorem dX5_init_92 : decode cX5_init 92 = .ok (.aload_n 0, 1) := by decide +kernel
theorem dX5_init_93 : decode cX5_init 93 = .ok (.bipush 40, 2) := by decide +kernel
theorem dX5_init_95 : decode cX5_init 95 = .ok (.newarray .int, 2) := by decide +kernel
theorem dX5_init_97 : decode cX5_init 97 = .ok (.putfield 43, 3) := by decide +kernel
theorem dX5_init_100 : decode cX5_init 100 = .ok (.aload_n 0, 1) := by decide +kernel
theorem dX5_init_101 : decode cX5_init 101 = .ok (.sipush 130, 3) := by decide +kernel
theorem dX5_init_104 : decode cX5_init 104 = .ok (.newarray .int, 2) := by decide +kernel
theorem dX5_init_106 : decode cX5_init 106 = .ok (.putfield 46, 3) := by decide +kernel
theorem dX5_init_109 : decode cX5_init 109 = .ok (.aload_n 0, 1) := by decide +kernel
theorem dX5_init_110 : decode cX5_init 110 = .ok (.bipush 8, 2) := by decide +kernel
theorem dX5_init_112 : decode cX5_init 112 = .ok (.newarray .int, 2) := by decide +kernel
theorem dX5_init_114 : decode cX5_init 114 = .ok (.putfield 49, 3) := by decide +kernel
theorem dX5_init_117 : decode cX5_init 117 = .ok (.aload_n 0, 1) := by decide +kernel
theorem dX5_init_118 : decode cX5_init 118 = .ok (.bipush 8, 2) := by decide +kernel
theorem dX5_init_120 : decode cX5_init 120 = .ok (.newarray .int, 2) := by decide +kernel
theorem dX5_init_122 : decode cX5_init 122 = .ok (.putfield 52, 3) := by decide +kernel
theorem dX5_init_125 : decode cX5_init 125 = .ok (.return_, 1) := by decide +kernel
theorem dX5_no_0 : decode cX5_no 0 = .ok (.aload_n 0, 1) := by decide +kernel
theorem dX5_no_1 : decode cX5_no 1 = .ok (.getfield 7, 3) := by decide +kernel
theorem dX5_no_4 : decode cX5_no 4 = .ok (.iload_n 1, 1) := by decide +kernel
theorem dX5_no_5 : decode cX5_no 5 = .ok (.ineg, 1) := by decide +kernel
theorem dX5_no_6 : decode cX5_no 6 = .ok (.dup2, 1) := by decide +kernel
theorem dX5_no_7 : decode cX5_no 7 = .ok (.iaload, 1) := by decide +kernel
theorem dX5_no_8 : decode cX5_no 8 = .ok (.iconst 1, 1) := by decide +kernel
theorem dX5_no_9 : decode cX5_no 9 = .ok (.iadd, 1) := by decide +kernel
theorem dX5_no_10 : decode cX5_no 10 = .ok (.iastore, 1) := by decide +kernel
theorem dX5_no_11 : decode cX5_no 11 = .ok (.iload_n 1, 1) := by decide +kernel
theorem dX5_no_12 : decode cX5_no 12 = .ok (.ireturn, 1) := by decide +kernel
theorem dX5_lowest_0 : decode cX5_lowest 0 = .ok (.aload_n 0, 1) := by decide +kernel
theorem dX5_lowest_1 : decode cX5_lowest 1 = .ok (.getfield 7, 3) := by decide +kernel
theorem dX5_lowest_4 : decode cX5_lowest 4 = .ok (.iload_n 1, 1) := by decide +kernel
theorem dX5_lowest_5 : decode cX5_lowest 5 = .ok (.ineg, 1) := by decide +kernel
theorem dX5_lowest_6 : decode cX5_lowest 6 = .ok (.dup2, 1) := by decide +kernel
theorem dX5_lowest_7 : decode cX5_lowest 7 = .ok (.iaload, 1) := by decide +kernel
theorem dX5_lowest_8 : decode cX5_lowest 8 = .ok (.iconst 1, 1) := by decide +kernel
theorem dX5_lowest_9 : decode cX5_lowest 9 = .ok (.iadd, 1) := by decide +kernel
theorem dX5_lowest_10 : decode cX5_lowest 10 = .ok (.iastore, 1) := by decide +kernel
theorem dX5_lowest_11 : decode cX5_lowest 11 = .ok (.ldc2_w 55, 3) := by decide +kernel
theorem dX5_lowest_14 : decode cX5_lowest 14 = .ok (.iload_n 1, 1) := by decide +kernel
theorem dX5_lowest_15 : decode cX5_lowest 15 = .ok (.i2l, 1) := by decide +kernel
theorem dX5_lowest_16 : decode cX5_lowest 16 = .ok (.lsub, 1) := by decide +kernel
theorem dX5_lowest_17 : decode cX5_lowest 17 = .ok (.lreturn, 1) := by decide +kernel
theorem dX5_isIn_0 : decode cX5_isIn 0 = .ok (.iload_n 0, 1) := by decide +kernel
theorem dX5_isIn_1 : decode cX5_isIn 1 = .ok (.iload_n 1, 1) := by decide +kernel
theorem dX5_isIn_2 : decode cX5_isIn 2 = .ok (.if_icmp .lt 12, 3) := by decide +kernel
theorem dX5_isIn_5 : decode cX5_isIn 5 = .ok (.iload_n 0, 1) := by decide +kernel
theorem dX5_isIn_6 : decode cX5_isIn 6 = .ok (.iload_n 2, 1) := by decide +kernel
theorem dX5_isIn_7 : decode cX5_isIn 7 = .ok (.if_icmp .gt 7, 3) := by decide +kernel
theorem dX5_isIn_10 : decode cX5_isIn 10 = .ok (.iconst 1, 1) := by decide +kernel
theorem dX5_isIn_11 : decode cX5_isIn 11 = .ok (.goto 4, 3) := by decide +kernel
theorem dX5_isIn_14 : decode cX5_isIn 14 = .ok (.iconst 0, 1) := by decide +kernel
theorem dX5_isIn_15 : decode cX5_isIn 15 = .ok (.ireturn, 1) := by decide +kernel
theorem dX5_bound_0 : decode cX5_bound 0 = .ok (.iload_n 0, 1) := by decide +kernel
theorem dX5_bound_1 : decode cX5_bound 1 = .ok (.iload_n 1, 1) := by decide +kernel
theorem dX5_bound_2 : decode cX5_bound 2 = .ok (.if_icmp .ge 8, 3) := by decide +kernel
theorem dX5_bound_5 : decode cX5_bound 5 = .ok (.bipush (-4), 2) := by decide +kernel
theorem dX5_bound_7 : decode cX5_bound 7 = .ok (.goto 14, 3) := by decide +kernel
theorem dX5_bound_10 : decode cX5_bound 10 = .ok (.iload_n 0, 1) := by decide +kernel
theorem dX5_bound_11 : decode cX5_bound 11 = .ok (.iload_n 2, 1) := by decide +kernel
theorem dX5_bound_12 : decode cX5_bound 12 = .ok (.if_icmp .le 8, 3) := by decide +kernel
theorem dX5_bound_15 : decode cX5_bound 15 = .ok (.bipush (-6), 2) := by decide +kernel
theorem dX5_bound_17 : decode cX5_bound 17 = .ok (.goto 4, 3) := by decide +kernel
theorem dX5_bound_20 : decode cX5_bound 20 = .ok (.iconst 0, 1) := by decide +kernel
theorem dX5_bound_21 : decode cX5_bound 21 = .ok (.ireturn, 1) := by decide +kernel
theorem dX5_least_0 : decode cX5_least 0 = .ok (.iload_n 0, 1) := by decide +kernel
theorem dX5_least_1 : decode cX5_least 1 = .ok (.iload_n 1, 1) := by decide +kernel
theorem dX5_least_2 : decode cX5_least 2 = .ok (.if_icmp .ge 7, 3) := by decide +kernel
theorem dX5_least_5 : decode cX5_least 5 = .ok (.iload_n 0, 1) := by decide +kernel
theorem dX5_least_6 : decode cX5_least 6 = .ok (.goto 4, 3) := by decide +kernel
theorem dX5_least_9 : decode cX5_least 9 = .ok (.iload_n 1, 1) := by decide +kernel
theorem dX5_least_10 : decode cX5_least 10 = .ok (.ireturn, 1) := by decide +kernel
theorem dX5_isAlive_0 : decode cX5_isAlive 0 = .ok (.iload_n 1, 1) := by decide +kernel
theorem dX5_isAlive_1 : decode cX5_isAlive 1 = .ok (.ifCond .lt 24, 3) := by decide +kernel
theorem dX5_isAlive_4 : decode cX5_isAlive 4 = .ok (.iload_n 1, 1) := by decide +kernel
theorem dX5_isAlive_5 : decode cX5_isAlive 5 = .ok (.aload_n 0, 1) := by decide +kernel
theorem dX5_isAlive_6 : decode cX5_isAlive 6 = .ok (.getfield 57, 3) := by decide +kernel
theorem dX5_isAlive_9 : decode cX5_isAlive 9 = .ok (.if_icmp .ge 16, 3) := by decide +kernel
theorem dX5_isAlive_12 : decode cX5_isAlive 12 = .ok (.aload_n 0, 1) := by decide +kernel
theorem dX5_isAlive_13 : decode cX5_isAlive 13 = .ok (.getfield 19, 3) := by decide +kernel
theorem dX5_isAlive_16 : decode cX5_isAlive 16 = .ok (.iload_n 1, 1) := by decide +kernel
theorem dX5_isAlive_17 : decode cX5_isAlive 17 = .ok (.iaload, 1) := by decide +kernel
theorem dX5_isAlive_18 : decode cX5_isAlive 18 = .ok (.ifCond .lt 7, 3) := by decide +kernel
theorem dX5_isAlive_21 : decode cX5_isAlive 21 = .ok (.iconst 1, 1) := by decide +kernel
theorem dX5_isAlive_22 : decode cX5_isAlive 22 = .ok (.goto 4, 3) := by decide +kernel
theorem dX5_isAlive_25 : decode cX5_isAlive 25 = .ok (.iconst 0, 1) := by decide +kernel
theorem dX5_isAlive_26 : decode cX5_isAlive 26 = .ok (.ireturn, 1) := by decide +kernel
theorem dX5_isFloor_0 : decode cX5_isFloor 0 = .ok (.iload_n 0, 1) := by decide +kernel
theorem dX5_isFloor_1 : decode cX5_isFloor 1 = .ok (.ifCond .lt 13, 3) := by decide +kernel
theorem dX5_isFloor_4 : decode cX5_isFloor 4 = .ok (.iload_n 0, 1) := by decide +kernel
theorem dX5_isFloor_5 : decode cX5_isFloor 5 = .ok (.bipush 10, 2) := by decide +kernel
theorem dX5_isFloor_7 : decode cX5_isFloor 7 = .ok (.if_icmp .ge 7, 3) := by decide +kernel
theorem dX5_isFloor_10 : decode cX5_isFloor 10 = .ok (.iconst 1, 1) := by decide +kernel
theorem dX5_isFloor_11 : decode cX5_isFloor 11 = .ok (.goto 4, 3) := by decide +kernel
theorem dX5_isFloor_14 : decode cX5_isFloor 14 = .ok (.iconst 0, 1) := by decide +kernel
theorem dX5_isFloor_15 : decode cX5_isFloor 15 = .ok (.ireturn, 1) := by decide +kernel
theorem dX5_whoOn_0 : decode cX5_whoOn 0 = .ok (.iconst 0, 1) := by decide +kernel
theorem dX5_whoOn_1 : decode cX5_whoOn 1 = .ok (.istore_n 2, 1) := by decide +kernel
theorem dX5_whoOn_2 : decode cX5_whoOn 2 = .ok (.iload_n 2, 1) := by decide +kernel
theorem dX5_whoOn_3 : decode cX5_whoOn 3 = .ok (.aload_n 0, 1) := by decide +kernel
theorem dX5_whoOn_4 : decode cX5_whoOn 4 = .ok (.getfield 57, 3) := by decide +kernel
theorem dX5_whoOn_7 : decode cX5_whoOn 7 = .ok (.if_icmp .ge 21, 3) := by decide +kernel
theorem dX5_whoOn_10 : decode cX5_whoOn 10 = .ok (.aload_n 0, 1) := by decide +kernel
theorem dX5_whoOn_11 : decode cX5_whoOn 11 = .ok (.getfield 19, 3) := by decide +kernel
theorem dX5_whoOn_14 : decode cX5_whoOn 14 = .ok (.iload_n 2, 1) := by decide +kernel
theorem dX5_whoOn_15 : decode cX5_whoOn 15 = .ok (.iaload, 1) := by decide +kernel
theorem dX5_whoOn_16 : decode cX5_whoOn 16 = .ok (.iload_n 1, 1) := by decide +kernel
theorem dX5_whoOn_17 : decode cX5_whoOn 17 = .ok (.if_icmp .ne 5, 3) := by decide +kernel
theorem dX5_whoOn_20 : decode cX5_whoOn 20 = .ok (.iload_n 2, 1) := by decide +kernel
theorem dX5_whoOn_21 : decode cX5_whoOn 21 = .ok (.ireturn, 1) := by decide +kernel
theorem dX5_whoOn_22 : decode cX5_whoOn 22 = .ok (.iinc 2 1, 3) := by decide +kernel
theorem dX5_whoOn_25 : decode cX5_whoOn 25 = .ok (.goto (-23), 3) := by decide +kernel
theorem dX5_whoOn_28 : decode cX5_whoOn 28 = .ok (.bipush (-9), 2) := by decide +kernel
theorem dX5_whoOn_30 : decode cX5_whoOn 30 = .ok (.ireturn, 1) := by decide +kernel
theorem dX5_aliveBits_0 : decode cX5_aliveBits 0 = .ok (.iconst 0, 1) := by decide +kernel
theorem dX5_aliveBits_1 : decode cX5_aliveBits 1 = .ok (.istore_n 1, 1) := by decide +kernel
theorem dX5_aliveBits_2 : decode cX5_aliveBits 2 = .ok (.iconst 0, 1) := by decide +kernel
theorem dX5_aliveBits_3 : decode cX5_aliveBits 3 = .ok (.istore_n 2, 1) := by decide +kernel
theorem dX5_aliveBits_4 : decode cX5_aliveBits 4 = .ok (.iload_n 2, 1) := by decide +kernel
theorem dX5_aliveBits_5 : decode cX5_aliveBits 5 = .ok (.aload_n 0, 1) := by decide +kernel
theorem dX5_aliveBits_6 : decode cX5_aliveBits 6 = .ok (.getfield 57, 3) := by decide +kernel
theorem dX5_aliveBits_9 : decode cX5_aliveBits 9 = .ok (.if_icmp .ge 28, 3) := by decide +kernel
theorem dX5_aliveBits_12 : decode cX5_aliveBits 12 = .ok (.iload_n 1, 1) := by decide +kernel
theorem dX5_aliveBits_13 : decode cX5_aliveBits 13 = .ok (.aload_n 0, 1) := by decide +kernel
theorem dX5_aliveBits_14 : decode cX5_aliveBits 14 = .ok (.getfield 19, 3) := by decide +kernel
theorem dX5_aliveBits_17 : decode cX5_aliveBits 17 = .ok (.iload_n 2, 1) := by decide +kernel
theorem dX5_aliveBits_18 : decode cX5_aliveBits 18 = .ok (.iaload, 1) := by decide +kernel
theorem dX5_aliveBits_19 : decode cX5_aliveBits 19 = .ok (.ifCond .lt 9, 3) := by decide +kernel
theorem dX5_aliveBits_22 : decode cX5_aliveBits 22 = .ok (.iconst 1, 1) := by decide +kernel
theorem dX5_aliveBits_23 : decode cX5_aliveBits 23 = .ok (.iload_n 2, 1) := by decide +kernel
theorem dX5_aliveBits_24 : decode cX5_aliveBits 24 = .ok (.ishl, 1) := by decide +kernel
theorem dX5_aliveBits_25 : decode cX5_aliveBits 25 = .ok (.goto 4, 3) := by decide +kernel
theorem dX5_aliveBits_28 : decode cX5_aliveBits 28 = .ok (.iconst 0, 1) := by decide +kernel
theorem dX5_aliveBits_29 : decode cX5_aliveBits 29 = .ok (.ior, 1) := by decide +kernel
theorem dX5_aliveBits_30 : decode cX5_aliveBits 30 = .ok (.istore_n 1, 1) := by decide +kernel
theorem dX5_aliveBits_31 : decode cX5_aliveBits 31 = .ok (.iinc 2 1, 3) := by decide +kernel
theorem dX5_aliveBits_34 : decode cX5_aliveBits 34 = .ok (.goto (-30), 3) := by decide +kernel
theorem dX5_aliveBits_37 : decode cX5_aliveBits 37 = .ok (.iload_n 1, 1) := by decide +kernel
theorem dX5_aliveBits_38 : decode cX5_aliveBits 38 = .ok (.ireturn, 1) := by decide +kernel
theorem dX5_bits_0 : decode cX5_bits 0 = .ok (.iconst 0, 1) := by decide +kernel
theorem dX5_bits_1 : decode cX5_bits 1 = .ok (.istore_n 1, 1) := by decide +kernel
theorem dX5_bits_2 : decode cX5_bits 2 = .ok (.iconst 0, 1) := by decide +kernel
theorem dX5_bits_3 : decode cX5_bits 3 = .ok (.istore_n 2, 1) := by decide +kernel
theorem dX5_bits_4 : decode cX5_bits 4 = .ok (.iload_n 2, 1) := by decide +kernel
theorem dX5_bits_5 : decode cX5_bits 5 = .ok (.bipush 31, 2) := by decide +kernel
theorem dX5_bits_7 : decode cX5_bits 7 = .ok (.if_icmp .ge 17, 3) := by decide +kernel
theorem dX5_bits_10 : decode cX5_bits 10 = .ok (.iload_n 1, 1) := by decide +kernel
theorem dX5_bits_11 : decode cX5_bits 11 = .ok (.iload_n 0, 1) := by decide +kernel
theorem dX5_bits_12 : decode cX5_bits 12 = .ok (.iload_n 2, 1) := by decide +kernel
theorem dX5_bits_13 : decode cX5_bits 13 = .ok (.ishr, 1) := by decide +kernel
theorem dX5_bits_14 : decode cX5_bits 14 = .ok (.iconst 1, 1) := by decide +kernel
theorem dX5_bits_15 : decode cX5_bits 15 = .ok (.iand, 1) := by decide +kernel
theorem dX5_bits_16 : decode cX5_bits 16 = .ok (.iadd, 1) := by decide +kernel
theorem dX5_bits_17 : decode cX5_bits 17 = .ok (.istore_n 1, 1) := by decide +kernel
theorem dX5_bits_18 : decode cX5_bits 18 = .ok (.iinc 2 1, 3) := by decide +kernel
theorem dX5_bits_21 : decode cX5_bits 21 = .ok (.goto (-17), 3) := by decide +kernel
theorem dX5_bits_24 : decode cX5_bits 24 = .ok (.iload_n 1, 1) := by decide +kernel
theorem dX5_bits_25 : decode cX5_bits 25 = .ok (.ireturn, 1) := by decide +kernel
set_option maxRecDepth 20000 in
theorem ggX5_letter_X5_bound : GoodIn wsX5_letter wsX5_bound := goodIn_r _ [6] (by decide +kernel) (by decide +kernel)
set_option maxRecDepth 20000 in
theorem gX5_letter_X5_bound : GoodIn wsX5_letter (va_wsS RX5 61 yX5_bound wsX5_bound) := goodIn_app (goodIn_of _ (by decide +kernel)) ggX5_letter_X5_bound
set_option maxRecDepth 20000 in
theorem ggX5_letter_X5_no : GoodIn wsX5_letter wsX5_no := goodIn_r _ [10, 11, 12, 13, 14, 15, 16, 17, 18, 19, 20, 21, 22, 23, 24, 25, 26, 27, 28, 29, 30, 31, 32, 33, 34, 35] (by decide +kernel) (by decide +kernel)
set_option maxRecDepth 20000 in
theorem gX5_letter_X5_no : GoodIn wsX5_letter (wsV RX5 68 RX5 yX5_no wsX5_no) := goodIn_app (goodIn_of _ (by decide +kernel)) ggX5_letter_X5_no
theorem dX5_letter_0 : decode cX5_letter 0 = .ok (.iload_n 1, 1) := by decide +kernel
theorem dX5_letter_1 : decode cX5_letter 1 = .ok (.iconst 0, 1) := by decide +kernel
theorem dX5_letter_2 : decode cX5_letter 2 = .ok (.sipush 255, 3) := by decide +kernel
theorem dX5_letter_5 : decode cX5_letter 5 = .ok (.invokestatic 61, 3) := by decide +kernel
theorem dX5_letter_8 : decode cX5_letter 8 = .ok (.istore_n 2, 1) := by decide +kernel
theorem dX5_letter_9 : decode cX5_letter 9 = .ok (.iload_n 2, 1) := by decide +kernel
theorem dX5_letter_10 : decode cX5_letter 10 = .ok (.ifCond .ne 15, 3) := by decide +kernel
theorem dX5_letter_13 : decode cX5_letter 13 = .ok (.aload_n 0, 1) := by decide +kernel
theorem dX5_letter_14 : decode cX5_letter 14 = .ok (.getfield 65, 3) := by decide +kernel
theorem dX5_letter_17 : decode cX5_letter 17 = .ok (.bipush 80, 2) := by decide +kernel
theorem dX5_letter_19 : decode cX5_letter 19 = .ok (.if_icmp .ne 6, 3) := by decide +kernel
theorem dX5_letter_22 : decode cX5_letter 22 = .ok (.bipush (-6), 2) := by decide +kernel
theorem dX5_letter_24 : decode cX5_letter 24 = .ok (.istore_n 2, 1) := by decide +kernel
theorem dX5_letter_25 : decode cX5_letter 25 = .ok (.iload_n 2, 1) := by decide +kernel
theorem dX5_letter_26 : decode cX5_letter 26 = .ok (.ifCond .eq 9, 3) := by decide +kernel
theorem dX5_letter_29 : decode cX5_letter 29 = .ok (.aload_n 0, 1) := by decide +kernel
theorem dX5_letter_30 : decode cX5_letter 30 = .ok (.iload_n 2, 1) := by decide +kernel
theorem dX5_letter_31 : decode cX5_letter 31 = .ok (.invokevirtual 68, 3) := by decide +kernel
theorem dX5_letter_34 : decode cX5_letter 34 = .ok (.ireturn, 1) := by decide +kernel
theorem dX5_letter_35 : decode cX5_letter 35 = .ok (.aload_n 0, 1) := by decide +kernel
theorem dX5_letter_36 : decode cX5_letter 36 = .ok (.getfield 28, 3) := by decide +kernel
theorem dX5_letter_39 : decode cX5_letter 39 = .ok (.aload_n 0, 1) := by decide +kernel
theorem dX5_letter_40 : decode cX5_letter 40 = .ok (.getfield 65, 3) := by decide +kernel
theorem dX5_letter_43 : decode cX5_letter 43 = .ok (.iload_n 1, 1) := by decide +kernel
theorem dX5_letter_44 : decode cX5_letter 44 = .ok (.iastore, 1) := by decide +kernel
theorem dX5_letter_45 : decode cX5_letter 45 = .ok (.aload_n 0, 1) := by decide +kernel
theorem dX5_letter_46 : decode cX5_letter 46 = .ok (.dup, 1) := by decide +kernel
theorem dX5_letter_47 : decode cX5_letter 47 = .ok (.getfield 65, 3) := by decide +kernel
theorem dX5_letter_50 : decode cX5_letter 50 = .ok (.iconst 1, 1) := by decide +kernel
theorem dX5_letter_51 : decode cX5_letter 51 = .ok (.iadd, 1) := by decide +kernel
theorem dX5_letter_52 : decode cX5_letter 52 = .ok (.putfield 65, 3) := by decide +kernel
theorem dX5_letter_55 : decode cX5_letter 55 = .ok (.aload_n 0, 1) := by decide +kernel
theorem dX5_letter_56 : decode cX5_letter 56 = .ok (.getfield 65, 3) := by decide +kernel
theorem dX5_letter_59 : decode cX5_letter 59 = .ok (.ireturn, 1) := by decide +kernel
theorem dX5_next_0 : decode cX5_next 0 = .ok (.aload_n 0, 1) := by decide +kernel
theorem dX5_next_1 : decode cX5_next 1 = .ok (.getfield 72, 3) := by decide +kernel
theorem dX5_next_4 : decode cX5_next 4 = .ok (.aload_n 0, 1) := by decide +kernel
theorem dX5_next_5 : decode cX5_next 5 = .ok (.getfield 65, 3) := by decide +kernel
theorem dX5_next_8 : decode cX5_next 8 = .ok (.if_icmp .ge 15, 3) := by decide +kernel
theorem dX5_next_11 : decode cX5_next 11 = .ok (.aload_n 0, 1) := by decide +kernel
theorem dX5_next_12 : decode cX5_next 12 = .ok (.getfield 28, 3) := by decide +kernel
theorem dX5_next_15 : decode cX5_next 15 = .ok (.aload_n 0, 1) := by decide +kernel
theorem dX5_next_16 : decode cX5_next 16 = .ok (.getfield 72, 3) := by decide +kernel
theorem dX5_next_19 : decode cX5_next 19 = .ok (.iaload, 1) := by decide +kernel
theorem dX5_next_20 : decode cX5_next 20 = .ok (.goto 4, 3) := by decide +kernel
theorem dX5_next_23 : decode cX5_next 23 = .ok (.iconst (-1), 1) := by decide +kernel
theorem dX5_next_24 : decode cX5_next 24 = .ok (.ireturn, 1) := by decide +kernel
set_option maxRecDepth 20000 in
theorem ggX5_isDigit_X5_next : GoodIn wsX5_isDigit wsX5_next := goodIn_r _ [5, 6, 7, 8, 12, 13, 14, 15, 16, 17, 18, 19, 20, 21, 22, 23, 24, 25, 26, 27, 28, 29, 30, 31, 32, 33, 34, 35] (by decide +kernel) (by decide +kernel)
set_option maxRecDepth 20000 in
theorem gX5_isDigit_X5_next : GoodIn wsX5_isDigit (wsV RX5 75 RX5 yX5_next wsX5_next) := goodIn_app (goodIn_of _ (by decide +kernel)) ggX5_isDigit_X5_next
set_option maxRecDepth 20000 in
theorem ggX5_isDigit_X5_isIn : GoodIn wsX5_isDigit wsX5_isIn := goodIn_r _ [11] (by decide +kernel) (by decide +kernel)
set_option maxRecDepth 20000 in
theorem gX5_isDigit_X5_isIn : GoodIn wsX5_isDigit (va_wsS RX5 79 yX5_isIn wsX5_isIn) := goodIn_app (goodIn_of _ (by decide +kernel)) ggX5_isDigit_X5_isIn
theorem dX5_isDigit_0 : decode cX5_isDigit 0 = .ok (.aload_n 0, 1) := by decide +kernel
theorem dX5_isDigit_1 : decode cX5_isDigit 1 = .ok (.invokevirtual 75, 3) := by decide +kernel
theorem dX5_isDigit_4 : decode cX5_isDigit 4 = .ok (.bipush 48, 2) := by decide +kernel
theorem dX5_isDigit_6 : decode cX5_isDigit 6 = .ok (.bipush 57, 2) := by decide +kernel
theorem dX5_isDigit_8 : decode cX5_isDigit 8 = .ok (.invokestatic 79, 3) := by decide +kernel
theorem dX5_isDigit_11 : decode cX5_isDigit 11 = .ok (.ireturn, 1) := by decide +kernel
set_option maxRecDepth 20000 in
theorem ggX5_readsNumber_X5_isDigit : GoodIn wsX5_readsNumber wsX5_isDigit := goodIn_r _ [7, 8, 9, 10, 6, 11, 1, 12, 13, 14, 15, 16, 17, 18, 19, 20, 21, 22, 23, 24, 25, 26, 27, 28, 29, 30, 31, 32, 33, 34, 35, 36, 37, 38, 39, 40] (by decide +kernel) (by decide +kernel)
set_option maxRecDepth 20000 in
theorem gX5_readsNumber_X5_isDigit : GoodIn wsX5_readsNumber (wsV RX5 83 RX5 yX5_isDigit wsX5_isDigit) := goodIn_app (goodIn_of _ (by decide +kernel)) ggX5_readsNumber_X5_isDigit
set_option maxRecDepth 20000 in
theorem ggX5_readsNumber_X5_next : GoodIn wsX5_readsNumber wsX5_next := goodIn_r _ [11, 1, 12, 13, 17, 18, 19, 20, 21, 22, 23, 24, 25, 26, 27, 28, 29, 30, 31, 32, 33, 34, 35, 36, 37, 38, 39, 40] (by decide +kernel) (by decide +kernel)
set_option maxRecDepth 20000 in
theorem gX5_readsNumber_X5_next : GoodIn wsX5_readsNumber (wsV RX5 75 RX5 yX5_next wsX5_next) := goodIn_app (goodIn_of _ (by decide +kernel)) ggX5_readsNumber_X5_next
theorem dX5_readsNumber_0 : decode cX5_readsNumber 0 = .ok (.aload_n 0, 1) := by decide +kernel
theorem dX5_readsNumber_1 : decode cX5_readsNumber 1 = .ok (.invokevirtual 83, 3) := by decide +kernel
theorem dX5_readsNumber_4 : decode cX5_readsNumber 4 = .ok (.ifCond .ne 5, 3) := by decide +kernel
theorem dX5_readsNumber_7 : decode cX5_readsNumber 7 = .ok (.iconst 0, 1) := by decide +kernel
theorem dX5_readsNumber_8 : decode cX5_readsNumber 8 = .ok (.ireturn, 1) := by decide +kernel
theorem dX5_readsNumber_9 : decode cX5_readsNumber 9 = .ok (.iconst 0, 1) := by decide +kernel
theorem dX5_readsNumber_10 : decode cX5_readsNumber 10 = .ok (.istore_n 3, 1) := by decide +kernel
theorem dX5_readsNumber_11 : decode cX5_readsNumber 11 = .ok (.iconst 0, 1) := by decide +kernel
theorem dX5_readsNumber_12 : decode cX5_readsNumber 12 = .ok (.istore 4, 2) := by decide +kernel
theorem dX5_readsNumber_14 : decode cX5_readsNumber 14 = .ok (.iload 4, 2) := by decide +kernel
theorem dX5_readsNumber_16 : decode cX5_readsNumber 16 = .ok (.iload_n 2, 1) := by decide +kernel
theorem dX5_readsNumber_17 : decode cX5_readsNumber 17 = .ok (.if_icmp .ge 39, 3) := by decide +kernel
theorem dX5_readsNumber_20 : decode cX5_readsNumber 20 = .ok (.aload_n 0, 1) := by decide +kernel
theorem dX5_readsNumber_21 : decode cX5_readsNumber 21 = .ok (.invokevirtual 83, 3) := by decide +kernel
theorem dX5_readsNumber_24 : decode cX5_readsNumber 24 = .ok (.ifCond .eq 32, 3) := by decide +kernel
theorem dX5_readsNumber_27 : decode cX5_readsNumber 27 = .ok (.bipush 10, 2) := by decide +kernel
theorem dX5_readsNumber_29 : decode cX5_readsNumber 29 = .ok (.iload_n 3, 1) := by decide +kernel
theorem dX5_readsNumber_30 : decode cX5_readsNumber 30 = .ok (.imul, 1) := by decide +kernel
theorem dX5_readsNumber_31 : decode cX5_readsNumber 31 = .ok (.aload_n 0, 1) := by decide +kernel
theorem dX5_readsNumber_32 : decode cX5_readsNumber 32 = .ok (.invokevirtual 75, 3) := by decide +kernel
theorem dX5_readsNumber_35 : decode cX5_readsNumber 35 = .ok (.iadd, 1) := by decide +kernel
theorem dX5_readsNumber_36 : decode cX5_readsNumber 36 = .ok (.bipush 48, 2) := by decide +kernel
theorem dX5_readsNumber_38 : decode cX5_readsNumber 38 = .ok (.isub, 1) := by decide +kernel
theorem dX5_readsNumber_39 : decode cX5_readsNumber 39 = .ok (.istore_n 3, 1) := by decide +kernel
theorem dX5_readsNumber_40 : decode cX5_readsNumber 40 = .ok (.aload_n 0, 1) := by decide +kernel
theorem dX5_readsNumber_41 : decode cX5_readsNumber 41 = .ok (.dup, 1) := by decide +kernel
theorem dX5_readsNumber_42 : decode cX5_readsNumber 42 = .ok (.getfield 72, 3) := by decide +kernel
theorem dX5_readsNumber_45 : decode cX5_readsNumber 45 = .ok (.iconst 1, 1) := by decide +kernel
theorem dX5_readsNumber_46 : decode cX5_readsNumber 46 = .ok (.iadd, 1) := by decide +kernel
theorem dX5_readsNumber_47 : decode cX5_readsNumber 47 = .ok (.putfield 72, 3) := by decide +kernel
theorem dX5_readsNumber_50 : decode cX5_readsNumber 50 = .ok (.iinc 4 1, 3) := by decide +kernel
theorem dX5_readsNumber_53 : decode cX5_readsNumber 53 = .ok (.goto (-39), 3) := by decide +kernel
theorem dX5_readsNumber_56 : decode cX5_readsNumber 56 = .ok (.aload_n 0, 1) := by decide +kernel
theorem dX5_readsNumber_57 : decode cX5_readsNumber 57 = .ok (.getfield 37, 3) := by decide +kernel
theorem dX5_readsNumber_60 : decode cX5_readsNumber 60 = .ok (.iload_n 1, 1) := by decide +kernel
theorem dX5_readsNumber_61 : decode cX5_readsNumber 61 = .ok (.iload_n 3, 1) := by decide +kernel
theorem dX5_readsNumber_62 : decode cX5_readsNumber 62 = .ok (.iastore, 1) := by decide +kernel
theorem dX5_readsNumber_63 : decode cX5_readsNumber 63 = .ok (.iconst 1, 1) := by decide +kernel
theorem dX5_readsNumber_64 : decode cX5_readsNumber 64 = .ok (.ireturn, 1) := by decide +kernel
theorem dX5_kindOf_0 : decode cX5_kindOf 0 = .ok (.iload_n 0, 1) := by decide +kernel
theorem dX5_kindOf_1 : decode cX5_kindOf 1 = .ok (.lookupswitch 71 #[(99, 65), (100, 67), (105, 63), (108, 59), (115, 61), (121, 69)], 59) := by decide +kernel
theorem dX5_kindOf_60 : decode cX5_kindOf 60 = .ok (.iconst 0, 1) := by decide +kernel
theorem dX5_kindOf_61 : decode cX5_kindOf 61 = .ok (.ireturn, 1) := by decide +kernel
theorem dX5_kindOf_62 : decode cX5_kindOf 62 = .ok (.iconst 1, 1) := by decide +kernel
theorem dX5_kindOf_63 : decode cX5_kindOf 63 = .ok (.ireturn, 1) := by decide +kernel
theorem dX5_kindOf_64 : decode cX5_kindOf 64 = .ok (.iconst 2, 1) := by decide +kernel
theorem dX5_kindOf_65 : decode cX5_kindOf 65 = .ok (.ireturn, 1) := by decide +kernel
theorem dX5_kindOf_66 : decode cX5_kindOf 66 = .ok (.iconst 3, 1) := by decide +kernel
theorem dX5_kindOf_67 : decode cX5_kindOf 67 = .ok (.ireturn, 1) := by decide +kernel
theorem dX5_kindOf_68 : decode cX5_kindOf 68 = .ok (.iconst 4, 1) := by decide +kernel
theorem dX5_kindOf_69 : decode cX5_kindOf 69 = .ok (.ireturn, 1) := by decide +kernel
theorem dX5_kindOf_70 : decode cX5_kindOf 70 = .ok (.iconst 5, 1) := by decide +kernel
theorem dX5_kindOf_71 : decode cX5_kindOf 71 = .ok (.ireturn, 1) := by decide +kernel
theorem dX5_kindOf_72 : decode cX5_kindOf 72 = .ok (.iconst (-1), 1) := by decide +kernel
theorem dX5_kindOf_73 : decode cX5_kindOf 73 = .ok (.ireturn, 1) := by decide +kernel
set_option maxRecDepth 20000 in
theorem ggX5_readsLodger_X5_next : GoodIn wsX5_readsLodger wsX5_next := goodIn_r _ [7, 2, 8, 9, 24, 25, 26, 27, 28, 29, 30, 31, 32, 33, 34, 35, 36, 37, 38, 39, 40, 41, 42, 43, 44, 45, 46, 47] (by decide +kernel) (by decide +kernel)
set_option maxRecDepth 20000 in
theorem gX5_readsLodger_X5_next : GoodIn wsX5_readsLodger (wsV RX5 75 RX5 yX5_next wsX5_next) := goodIn_app (goodIn_of _ (by decide +kernel)) ggX5_readsLodger_X5_next
set_option maxRecDepth 20000 in
theorem ggX5_readsLodger_X5_kindOf : GoodIn wsX5_readsLodger wsX5_kindOf := goodIn_r _ [12] (by decide +kernel) (by decide +kernel)
set_option maxRecDepth 20000 in
theorem gX5_readsLodger_X5_kindOf : GoodIn wsX5_readsLodger (va_wsS RX5 87 yX5_kindOf wsX5_kindOf) := goodIn_app (goodIn_of _ (by decide +kernel)) ggX5_readsLodger_X5_kindOf
set_option maxRecDepth 20000 in
theorem ggX5_readsLodger_X5_readsNumber : GoodIn wsX5_readsLodger wsX5_readsNumber := goodIn_r _ [16, 2, 1, 17, 18, 19, 6, 20, 3, 4, 5, 7, 8, 9, 21, 22, 23, 24, 25, 26, 27, 28, 29, 30, 31, 32, 33, 34, 35, 36, 37, 38, 39, 40, 41, 42, 43, 44, 45, 46, 47] (by decide +kernel) (by decide +kernel)
set_option maxRecDepth 20000 in
theorem gX5_readsLodger_X5_readsNumber : GoodIn wsX5_readsLodger (wsV RX5 90 RX5 yX5_readsNumber wsX5_readsNumber) := goodIn_app (goodIn_of _ (by decide +kernel)) ggX5_readsLodger_X5_readsNumber
theorem dX5_readsLodger_0 : decode cX5_readsLodger 0 = .ok (.aload_n 0, 1) := by decide +kernel
theorem dX5_readsLodger_1 : decode cX5_readsLodger 1 = .ok (.getfield 37, 3) := by decide +kernel
theorem dX5_readsLodger_4 : decode cX5_readsLodger 4 = .ok (.iload_n 1, 1) := by decide +kernel
theorem dX5_readsLodger_5 : decode cX5_readsLodger 5 = .ok (.aload_n 0, 1) := by decide +kernel
theorem dX5_readsLodger_6 : decode cX5_readsLodger 6 = .ok (.invokevirtual 75, 3) := by decide +kernel
theorem dX5_readsLodger_9 : decode cX5_readsLodger 9 = .ok (.invokestatic 87, 3) := by decide +kernel
theorem dX5_readsLodger_12 : decode cX5_readsLodger 12 = .ok (.iastore, 1) := by decide +kernel
theorem dX5_readsLodger_13 : decode cX5_readsLodger 13 = .ok (.aload_n 0, 1) := by decide +kernel
theorem dX5_readsLodger_14 : decode cX5_readsLodger 14 = .ok (.getfield 37, 3) := by decide +kernel
theorem dX5_readsLodger_17 : decode cX5_readsLodger 17 = .ok (.iload_n 1, 1) := by decide +kernel
theorem dX5_readsLodger_18 : decode cX5_readsLodger 18 = .ok (.iaload, 1) := by decide +kernel
theorem dX5_readsLodger_19 : decode cX5_readsLodger 19 = .ok (.ifCond .ge 5, 3) := by decide +kernel
theorem dX5_readsLodger_22 : decode cX5_readsLodger 22 = .ok (.iconst 0, 1) := by decide +kernel
theorem dX5_readsLodger_23 : decode cX5_readsLodger 23 = .ok (.ireturn, 1) := by decide +kernel
theorem dX5_readsLodger_24 : decode cX5_readsLodger 24 = .ok (.aload_n 0, 1) := by decide +kernel
theorem dX5_readsLodger_25 : decode cX5_readsLodger 25 = .ok (.dup, 1) := by decide +kernel
theorem dX5_readsLodger_26 : decode cX5_readsLodger 26 = .ok (.getfield 72, 3) := by decide +kernel
theorem dX5_readsLodger_29 : decode cX5_readsLodger 29 = .ok (.iconst 1, 1) := by decide +kernel
theorem dX5_readsLodger_30 : decode cX5_readsLodger 30 = .ok (.iadd, 1) := by decide +kernel
theorem dX5_readsLodger_31 : decode cX5_readsLodger 31 = .ok (.putfield 72, 3) := by decide +kernel
theorem dX5_readsLodger_34 : decode cX5_readsLodger 34 = .ok (.aload_n 0, 1) := by decide +kernel
theorem dX5_readsLodger_35 : decode cX5_readsLodger 35 = .ok (.iload_n 1, 1) := by decide +kernel
theorem dX5_readsLodger_36 : decode cX5_readsLodger 36 = .ok (.iconst 1, 1) := by decide +kernel
theorem dX5_readsLodger_37 : decode cX5_readsLodger 37 = .ok (.iadd, 1) := by decide +kernel
theorem dX5_readsLodger_38 : decode cX5_readsLodger 38 = .ok (.iconst 2, 1) := by decide +kernel
theorem dX5_readsLodger_39 : decode cX5_readsLodger 39 = .ok (.invokevirtual 90, 3) := by decide +kernel
theorem dX5_readsLodger_42 : decode cX5_readsLodger 42 = .ok (.ifCond .eq 12, 3) := by decide +kernel
theorem dX5_readsLodger_45 : decode cX5_readsLodger 45 = .ok (.aload_n 0, 1) := by decide +kernel
theorem dX5_readsLodger_46 : decode cX5_readsLodger 46 = .ok (.invokevirtual 75, 3) := by decide +kernel
theorem dX5_readsLodger_49 : decode cX5_readsLodger 49 = .ok (.bipush 44, 2) := by decide +kernel
theorem dX5_readsLodger_51 : decode cX5_readsLodger 51 = .ok (.if_icmp .eq 5, 3) := by decide +kernel
theorem dX5_readsLodger_54 : decode cX5_readsLodger 54 = .ok (.iconst 0, 1) := by decide +kernel
theorem dX5_readsLodger_55 : decode cX5_readsLodger 55 = .ok (.ireturn, 1) := by decide +kernel
theorem dX5_readsLodger_56 : decode cX5_readsLodger 56 = .ok (.aload_n 0, 1) := by decide +kernel
theorem dX5_readsLodger_57 : decode cX5_readsLodger 57 = .ok (.dup, 1) := by decide +kernel
theorem dX5_readsLodger_58 : decode cX5_readsLodger 58 = .ok (.getfield 72, 3) := by decide +kernel
theorem dX5_readsLodger_61 : decode cX5_readsLodger 61 = .ok (.iconst 1, 1) := by decide +kernel
theorem dX5_readsLodger_62 : decode cX5_readsLodger 62 = .ok (.iadd, 1) := by decide +kernel
theorem dX5_readsLodger_63 : decode cX5_readsLodger 63 = .ok (.putfield 72, 3) := by decide +kernel
theorem dX5_readsLodger_66 : decode cX5_readsLodger 66 = .ok (.aload_n 0, 1) := by decide +kernel
theorem dX5_readsLodger_67 : decode cX5_readsLodger 67 = .ok (.iload_n 1, 1) := by decide +kernel
theorem dX5_readsLodger_68 : decode cX5_readsLodger 68 = .ok (.iconst 2, 1) := by decide +kernel
theorem dX5_readsLodger_69 : decode cX5_readsLodger 69 = .ok (.iadd, 1) := by decide +kernel
theorem dX5_readsLodger_70 : decode cX5_readsLodger 70 = .ok (.iconst 1, 1) := by decide +kernel
theorem dX5_readsLodger_71 : decode cX5_readsLodger 71 = .ok (.invokevirtual 90, 3) := by decide +kernel
theorem dX5_readsLodger_74 : decode cX5_readsLodger 74 = .ok (.ireturn, 1) := by decide +kernel
set_option maxRecDepth 20000 in
theorem ggX5_readsDeaths_X5_isDigit : GoodIn wsX5_readsDeaths wsX5_isDigit := goodIn_r _ [9, 10, 11, 12, 8, 13, 3, 14, 15, 16, 17, 18, 19, 20, 21, 22, 23, 24, 25, 26, 27, 28, 29, 30, 31, 32, 33, 34, 35, 36, 37, 38, 39, 40, 41, 42] (by decide +kernel) (by decide +kernel)
set_option maxRecDepth 20000 in
theorem gX5_readsDeaths_X5_isDigit : GoodIn wsX5_readsDeaths (wsV RX5 83 RX5 yX5_isDigit wsX5_isDigit) := goodIn_app (goodIn_of _ (by decide +kernel)) ggX5_readsDeaths_X5_isDigit
theorem dX5_readsDeaths_0 : decode cX5_readsDeaths 0 = .ok (.aload_n 0, 1) := by decide +kernel
theorem dX5_readsDeaths_1 : decode cX5_readsDeaths 1 = .ok (.getfield 40, 3) := by decide +kernel
theorem dX5_readsDeaths_4 : decode cX5_readsDeaths 4 = .ok (.aload_n 0, 1) := by decide +kernel
theorem dX5_readsDeaths_5 : decode cX5_readsDeaths 5 = .ok (.getfield 94, 3) := by decide +kernel
theorem dX5_readsDeaths_8 : decode cX5_readsDeaths 8 = .ok (.aload_n 0, 1) := by decide +kernel
theorem dX5_readsDeaths_9 : decode cX5_readsDeaths 9 = .ok (.getfield 72, 3) := by decide +kernel
theorem dX5_readsDeaths_12 : decode cX5_readsDeaths 12 = .ok (.iastore, 1) := by decide +kernel
theorem dX5_readsDeaths_13 : decode cX5_readsDeaths 13 = .ok (.aload_n 0, 1) := by decide +kernel
theorem dX5_readsDeaths_14 : decode cX5_readsDeaths 14 = .ok (.getfield 72, 3) := by decide +kernel
theorem dX5_readsDeaths_17 : decode cX5_readsDeaths 17 = .ok (.aload_n 0, 1) := by decide +kernel
theorem dX5_readsDeaths_18 : decode cX5_readsDeaths 18 = .ok (.getfield 40, 3) := by decide +kernel
theorem dX5_readsDeaths_21 : decode cX5_readsDeaths 21 = .ok (.aload_n 0, 1) := by decide +kernel
theorem dX5_readsDeaths_22 : decode cX5_readsDeaths 22 = .ok (.getfield 94, 3) := by decide +kernel
theorem dX5_readsDeaths_25 : decode cX5_readsDeaths 25 = .ok (.iaload, 1) := by decide +kernel
theorem dX5_readsDeaths_26 : decode cX5_readsDeaths 26 = .ok (.isub, 1) := by decide +kernel
theorem dX5_readsDeaths_27 : decode cX5_readsDeaths 27 = .ok (.bipush 8, 2) := by decide +kernel
theorem dX5_readsDeaths_29 : decode cX5_readsDeaths 29 = .ok (.if_icmp .ge 23, 3) := by decide +kernel
theorem dX5_readsDeaths_32 : decode cX5_readsDeaths 32 = .ok (.aload_n 0, 1) := by decide +kernel
theorem dX5_readsDeaths_33 : decode cX5_readsDeaths 33 = .ok (.invokevirtual 83, 3) := by decide +kernel
theorem dX5_readsDeaths_36 : decode cX5_readsDeaths 36 = .ok (.ifCond .eq 16, 3) := by decide +kernel
theorem dX5_readsDeaths_39 : decode cX5_readsDeaths 39 = .ok (.aload_n 0, 1) := by decide +kernel
theorem dX5_readsDeaths_40 : decode cX5_readsDeaths 40 = .ok (.dup, 1) := by decide +kernel
theorem dX5_readsDeaths_41 : decode cX5_readsDeaths 41 = .ok (.getfield 72, 3) := by decide +kernel
theorem dX5_readsDeaths_44 : decode cX5_readsDeaths 44 = .ok (.iconst 1, 1) := by decide +kernel
theorem dX5_readsDeaths_45 : decode cX5_readsDeaths 45 = .ok (.iadd, 1) := by decide +kernel
theorem dX5_readsDeaths_46 : decode cX5_readsDeaths 46 = .ok (.putfield 72, 3) := by decide +kernel
theorem dX5_readsDeaths_49 : decode cX5_readsDeaths 49 = .ok (.goto (-36), 3) := by decide +kernel
theorem dX5_readsDeaths_52 : decode cX5_readsDeaths 52 = .ok (.aload_n 0, 1) := by decide +kernel
theorem dX5_readsDeaths_53 : decode cX5_readsDeaths 53 = .ok (.getfield 43, 3) := by decide +kernel
theorem dX5_readsDeaths_56 : decode cX5_readsDeaths 56 = .ok (.aload_n 0, 1) := by decide +kernel
theorem dX5_readsDeaths_57 : decode cX5_readsDeaths 57 = .ok (.getfield 94, 3) := by decide +kernel
theorem dX5_readsDeaths_60 : decode cX5_readsDeaths 60 = .ok (.aload_n 0, 1) := by decide +kernel
theorem dX5_readsDeaths_61 : decode cX5_readsDeaths 61 = .ok (.getfield 72, 3) := by decide +kernel
theorem dX5_readsDeaths_64 : decode cX5_readsDeaths 64 = .ok (.iastore, 1) := by decide +kernel
theorem dX5_readsDeaths_65 : decode cX5_readsDeaths 65 = .ok (.iconst 1, 1) := by decide +kernel
theorem dX5_readsDeaths_66 : decode cX5_readsDeaths 66 = .ok (.ireturn, 1) := by decide +kernel
set_option maxRecDepth 20000 in
theorem ggX5_statement_X5_next : GoodIn wsX5_statement wsX5_next := goodIn_r _ [9, 4, 10, 11, 37, 38, 39, 40, 41, 42, 43, 44, 45, 46, 47, 48, 49, 50, 51, 52, 53, 54, 55, 56, 57, 58, 59, 60] (by decide +kernel) (by decide +kernel)
set_option maxRecDepth 20000 in
theorem gX5_statement_X5_next : GoodIn wsX5_statement (wsV RX5 75 RX5 yX5_next wsX5_next) := goodIn_app (goodIn_of _ (by decide +kernel)) ggX5_statement_X5_next
set_option maxRecDepth 20000 in
theorem ggX5_statement_X5_readsLodger : GoodIn wsX5_statement wsX5_readsLodger := goodIn_r _ [15, 16, 4, 5, 6, 7, 8, 9, 10, 11, 17, 18, 19, 20, 21, 22, 23, 24, 25, 26, 27, 28, 29, 30, 37, 38, 39, 40, 41, 42, 43, 44, 45, 46, 47, 48, 49, 50, 51, 52, 53, 54, 55, 56, 57, 58, 59, 60] (by decide +kernel) (by decide +kernel)
set_option maxRecDepth 20000 in
theorem gX5_statement_X5_readsLodger : GoodIn wsX5_statement (wsV RX5 97 RX5 yX5_readsLodger wsX5_readsLodger) := goodIn_app (goodIn_of _ (by decide +kernel)) ggX5_statement_X5_readsLodger
set_option maxRecDepth 20000 in
theorem ggX5_statement_X5_readsNumber : GoodIn wsX5_statement wsX5_readsNumber := goodIn_r _ [23, 4, 16, 24, 25, 26, 8, 27, 5, 6, 7, 9, 10, 11, 28, 29, 30, 37, 38, 39, 40, 41, 42, 43, 44, 45, 46, 47, 48, 49, 50, 51, 52, 53, 54, 55, 56, 57, 58, 59, 60] (by decide +kernel) (by decide +kernel)
set_option maxRecDepth 20000 in
theorem gX5_statement_X5_readsNumber : GoodIn wsX5_statement (wsV RX5 90 RX5 yX5_readsNumber wsX5_readsNumber) := goodIn_app (goodIn_of _ (by decide +kernel)) ggX5_statement_X5_readsNumber
set_option maxRecDepth 20000 in
theorem ggX5_statement_X5_readsDeaths : GoodIn wsX5_statement wsX5_readsDeaths := goodIn_r _ [34, 35, 2, 4, 36, 24, 25, 26, 8, 27, 5, 6, 7, 9, 10, 11, 28, 29, 30, 37, 38, 39, 40, 41, 42, 43, 44, 45, 46, 47, 48, 49, 50, 51, 52, 53, 54, 55, 56, 57, 58, 59, 60] (by decide +kernel) (by decide +kernel)
set_option maxRecDepth 20000 in
theorem gX5_statement_X5_readsDeaths : GoodIn wsX5_statement (wsV RX5 101 RX5 yX5_readsDeaths wsX5_readsDeaths) := goodIn_app (goodIn_of _ (by decide +kernel)) ggX5_statement_X5_readsDeaths
theorem dX5_statement_0 : decode cX5_statement 0 = .ok (.aload_n 0, 1) := by decide +kernel
theorem dX5_statement_1 : decode cX5_statement 1 = .ok (.invokevirtual 75, 3) := by decide +kernel
theorem dX5_statement_4 : decode cX5_statement 4 = .ok (.istore_n 1, 1) := by decide +kernel
theorem dX5_statement_5 : decode cX5_statement 5 = .ok (.iload_n 1, 1) := by decide +kernel
theorem dX5_statement_6 : decode cX5_statement 6 = .ok (.bipush 108, 2) := by decide +kernel
theorem dX5_statement_8 : decode cX5_statement 8 = .ok (.if_icmp .eq 17, 3) := by decide +kernel
theorem dX5_statement_11 : decode cX5_statement 11 = .ok (.iload_n 1, 1) := by decide +kernel
theorem dX5_statement_12 : decode cX5_statement 12 = .ok (.bipush 119, 2) := by decide +kernel
theorem dX5_statement_14 : decode cX5_statement 14 = .ok (.if_icmp .eq 11, 3) := by decide +kernel
theorem dX5_statement_17 : decode cX5_statement 17 = .ok (.iload_n 1, 1) := by decide +kernel
theorem dX5_statement_18 : decode cX5_statement 18 = .ok (.bipush 121, 2) := by decide +kernel
theorem dX5_statement_20 : decode cX5_statement 20 = .ok (.if_icmp .eq 5, 3) := by decide +kernel
theorem dX5_statement_23 : decode cX5_statement 23 = .ok (.iconst 0, 1) := by decide +kernel
theorem dX5_statement_24 : decode cX5_statement 24 = .ok (.ireturn, 1) := by decide +kernel
theorem dX5_statement_25 : decode cX5_statement 25 = .ok (.aload_n 0, 1) := by decide +kernel
theorem dX5_statement_26 : decode cX5_statement 26 = .ok (.getfield 31, 3) := by decide +kernel
theorem dX5_statement_29 : decode cX5_statement 29 = .ok (.aload_n 0, 1) := by decide +kernel
theorem dX5_statement_30 : decode cX5_statement 30 = .ok (.getfield 94, 3) := by decide +kernel
theorem dX5_statement_33 : decode cX5_statement 33 = .ok (.iload_n 1, 1) := by decide +kernel
theorem dX5_statement_34 : decode cX5_statement 34 = .ok (.iastore, 1) := by decide +kernel
theorem dX5_statement_35 : decode cX5_statement 35 = .ok (.aload_n 0, 1) := by decide +kernel
theorem dX5_statement_36 : decode cX5_statement 36 = .ok (.getfield 34, 3) := by decide +kernel
theorem dX5_statement_39 : decode cX5_statement 39 = .ok (.aload_n 0, 1) := by decide +kernel
theorem dX5_statement_40 : decode cX5_statement 40 = .ok (.getfield 94, 3) := by decide +kernel
theorem dX5_statement_43 : decode cX5_statement 43 = .ok (.aload_n 0, 1) := by decide +kernel
theorem dX5_statement_44 : decode cX5_statement 44 = .ok (.getfield 72, 3) := by decide +kernel
theorem dX5_statement_47 : decode cX5_statement 47 = .ok (.iastore, 1) := by decide +kernel
theorem dX5_statement_48 : decode cX5_statement 48 = .ok (.aload_n 0, 1) := by decide +kernel
theorem dX5_statement_49 : decode cX5_statement 49 = .ok (.dup, 1) := by decide +kernel
theorem dX5_statement_50 : decode cX5_statement 50 = .ok (.getfield 72, 3) := by decide +kernel
theorem dX5_statement_53 : decode cX5_statement 53 = .ok (.iconst 1, 1) := by decide +kernel
theorem dX5_statement_54 : decode cX5_statement 54 = .ok (.iadd, 1) := by decide +kernel
theorem dX5_statement_55 : decode cX5_statement 55 = .ok (.putfield 72, 3) := by decide +kernel
theorem dX5_statement_58 : decode cX5_statement 58 = .ok (.iconst 3, 1) := by decide +kernel
theorem dX5_statement_59 : decode cX5_statement 59 = .ok (.aload_n 0, 1) := by decide +kernel
theorem dX5_statement_60 : decode cX5_statement 60 = .ok (.getfield 94, 3) := by decide +kernel
theorem dX5_statement_63 : decode cX5_statement 63 = .ok (.imul, 1) := by decide +kernel
theorem dX5_statement_64 : decode cX5_statement 64 = .ok (.istore_n 2, 1) := by decide +kernel
theorem dX5_statement_65 : decode cX5_statement 65 = .ok (.iload_n 1, 1) := by decide +kernel
theorem dX5_statement_66 : decode cX5_statement 66 = .ok (.bipush 108, 2) := by decide +kernel
theorem dX5_statement_68 : decode cX5_statement 68 = .ok (.if_icmp .ne 11, 3) := by decide +kernel
theorem dX5_statement_71 : decode cX5_statement 71 = .ok (.aload_n 0, 1) := by decide +kernel
theorem dX5_statement_72 : decode cX5_statement 72 = .ok (.iload_n 2, 1) := by decide +kernel
theorem dX5_statement_73 : decode cX5_statement 73 = .ok (.invokevirtual 97, 3) := by decide +kernel
theorem dX5_statement_76 : decode cX5_statement 76 = .ok (.goto 41, 3) := by decide +kernel
theorem dX5_statement_79 : decode cX5_statement 79 = .ok (.iload_n 1, 1) := by decide +kernel
theorem dX5_statement_80 : decode cX5_statement 80 = .ok (.bipush 119, 2) := by decide +kernel
theorem dX5_statement_82 : decode cX5_statement 82 = .ok (.if_icmp .ne 31, 3) := by decide +kernel
theorem dX5_statement_85 : decode cX5_statement 85 = .ok (.aload_n 0, 1) := by decide +kernel
theorem dX5_statement_86 : decode cX5_statement 86 = .ok (.iload_n 2, 1) := by decide +kernel
theorem dX5_statement_87 : decode cX5_statement 87 = .ok (.iconst 1, 1) := by decide +kernel
theorem dX5_statement_88 : decode cX5_statement 88 = .ok (.invokevirtual 90, 3) := by decide +kernel
theorem dX5_statement_91 : decode cX5_statement 91 = .ok (.ifCond .eq 18, 3) := by decide +kernel
theorem dX5_statement_94 : decode cX5_statement 94 = .ok (.aload_n 0, 1) := by decide +kernel
theorem dX5_statement_95 : decode cX5_statement 95 = .ok (.iload_n 2, 1) := by decide +kernel
theorem dX5_statement_96 : decode cX5_statement 96 = .ok (.iconst 1, 1) := by decide +kernel
theorem dX5_statement_97 : decode cX5_statement 97 = .ok (.iadd, 1) := by decide +kernel
theorem dX5_statement_98 : decode cX5_statement 98 = .ok (.iconst 1, 1) := by decide +kernel
theorem dX5_statement_99 : decode cX5_statement 99 = .ok (.invokevirtual 90, 3) := by decide +kernel
theorem dX5_statement_102 : decode cX5_statement 102 = .ok (.ifCond .eq 7, 3) := by decide +kernel
theorem dX5_statement_105 : decode cX5_statement 105 = .ok (.iconst 1, 1) := by decide +kernel
theorem dX5_statement_106 : decode cX5_statement 106 = .ok (.goto 11, 3) := by decide +kernel
theorem dX5_statement_109 : decode cX5_statement 109 = .ok (.iconst 0, 1) := by decide +kernel
theorem dX5_statement_110 : decode cX5_statement 110 = .ok (.goto 7, 3) := by decide +kernel
theorem dX5_statement_113 : decode cX5_statement 113 = .ok (.aload_n 0, 1) := by decide +kernel
theorem dX5_statement_114 : decode cX5_statement 114 = .ok (.invokevirtual 101, 3) := by decide +kernel
theorem dX5_statement_117 : decode cX5_statement 117 = .ok (.istore_n 3, 1) := by decide +kernel
theorem dX5_statement_118 : decode cX5_statement 118 = .ok (.iload_n 3, 1) := by decide +kernel
theorem dX5_statement_119 : decode cX5_statement 119 = .ok (.ifCond .eq 12, 3) := by decide +kernel
theorem dX5_statement_122 : decode cX5_statement 122 = .ok (.aload_n 0, 1) := by decide +kernel
theorem dX5_statement_123 : decode cX5_statement 123 = .ok (.invokevirtual 75, 3) := by decide +kernel
theorem dX5_statement_126 : decode cX5_statement 126 = .ok (.bipush 59, 2) := by decide +kernel
theorem dX5_statement_128 : decode cX5_statement 128 = .ok (.if_icmp .eq 5, 3) := by decide +kernel
theorem dX5_statement_131 : decode cX5_statement 131 = .ok (.iconst 0, 1) := by decide +kernel
theorem dX5_statement_132 : decode cX5_statement 132 = .ok (.ireturn, 1) := by decide +kernel
theorem dX5_statement_133 : decode cX5_statement 133 = .ok (.aload_n 0, 1) := by decide +kernel
theorem dX5_statement_134 : decode cX5_statement 134 = .ok (.dup, 1) := by decide +kernel
theorem dX5_statement_135 : decode cX5_statement 135 = .ok (.getfield 72, 3) := by decide +kernel
theorem dX5_statement_138 : decode cX5_statement 138 = .ok (.iconst 1, 1) := by decide +kernel
theorem dX5_statement_139 : decode cX5_statement 139 = .ok (.iadd, 1) := by decide +kernel
theorem dX5_statement_140 : decode cX5_statement 140 = .ok (.putfield 72, 3) := by decide +kernel
theorem dX5_statement_143 : decode cX5_statement 143 = .ok (.iconst 1, 1) := by decide +kernel
theorem dX5_statement_144 : decode cX5_statement 144 = .ok (.ireturn, 1) := by decide +kernel
set_option maxRecDepth 20000 in
theorem ggX5_comesYear_X5_isAlive : GoodIn wsX5_comesYear wsX5_isAlive := goodIn_r _ [9, 10, 11, 26, 27, 28, 29, 30, 31, 32, 33, 34, 35, 36, 37, 38, 39, 40, 41, 42, 43, 44, 45, 46, 47, 48, 49] (by decide +kernel) (by decide +kernel)
set_option maxRecDepth 20000 in
theorem gX5_comesYear_X5_isAlive : GoodIn wsX5_comesYear (wsV RX5 104 RX5 yX5_isAlive wsX5_isAlive) := goodIn_app (goodIn_of _ (by decide +kernel)) ggX5_comesYear_X5_isAlive
set_option maxRecDepth 20000 in
theorem ggX5_comesYear_X5_goesYear : GoodIn wsX5_comesYear wsX5_goesYear := goodIn_r _ [15, 10, 16, 11, 17, 4, 18, 19, 20, 8, 21, 22, 23, 24, 25, 26, 27, 28, 29, 30, 31, 32, 33, 34, 35, 36, 37, 38, 39, 40, 41, 42, 43, 44, 45, 46, 47, 48, 49] (by decide +kernel) (by decide +kernel)
set_option maxRecDepth 20000 in
theorem gX5_comesYear_X5_goesYear : GoodIn wsX5_comesYear (wsV RX5 110 RX5 yX5_goesYear wsX5_goesYear) := goodIn_app (goodIn_of _ (by decide +kernel)) ggX5_comesYear_X5_goesYear
theorem dX5_comesYear_0 : decode cX5_comesYear 0 = .ok (.iconst 0, 1) := by decide +kernel
theorem dX5_comesYear_1 : decode cX5_comesYear 1 = .ok (.istore_n 2, 1) := by decide +kernel
theorem dX5_comesYear_2 : decode cX5_comesYear 2 = .ok (.aload_n 0, 1) := by decide +kernel
theorem dX5_comesYear_3 : decode cX5_comesYear 3 = .ok (.getfield 40, 3) := by decide +kernel
theorem dX5_comesYear_6 : decode cX5_comesYear 6 = .ok (.iload_n 1, 1) := by decide +kernel
theorem dX5_comesYear_7 : decode cX5_comesYear 7 = .ok (.iaload, 1) := by decide +kernel
theorem dX5_comesYear_8 : decode cX5_comesYear 8 = .ok (.istore_n 3, 1) := by decide +kernel
theorem dX5_comesYear_9 : decode cX5_comesYear 9 = .ok (.iload_n 3, 1) := by decide +kernel
theorem dX5_comesYear_10 : decode cX5_comesYear 10 = .ok (.aload_n 0, 1) := by decide +kernel
theorem dX5_comesYear_11 : decode cX5_comesYear 11 = .ok (.getfield 43, 3) := by decide +kernel
theorem dX5_comesYear_14 : decode cX5_comesYear 14 = .ok (.iload_n 1, 1) := by decide +kernel
theorem dX5_comesYear_15 : decode cX5_comesYear 15 = .ok (.iaload, 1) := by decide +kernel
theorem dX5_comesYear_16 : decode cX5_comesYear 16 = .ok (.if_icmp .ge 48, 3) := by decide +kernel
theorem dX5_comesYear_19 : decode cX5_comesYear 19 = .ok (.aload_n 0, 1) := by decide +kernel
theorem dX5_comesYear_20 : decode cX5_comesYear 20 = .ok (.getfield 28, 3) := by decide +kernel
theorem dX5_comesYear_23 : decode cX5_comesYear 23 = .ok (.iload_n 3, 1) := by decide +kernel
theorem dX5_comesYear_24 : decode cX5_comesYear 24 = .ok (.iaload, 1) := by decide +kernel
theorem dX5_comesYear_25 : decode cX5_comesYear 25 = .ok (.bipush 48, 2) := by decide +kernel
theorem dX5_comesYear_27 : decode cX5_comesYear 27 = .ok (.isub, 1) := by decide +kernel
theorem dX5_comesYear_28 : decode cX5_comesYear 28 = .ok (.istore 4, 2) := by decide +kernel
theorem dX5_comesYear_30 : decode cX5_comesYear 30 = .ok (.aload_n 0, 1) := by decide +kernel
theorem dX5_comesYear_31 : decode cX5_comesYear 31 = .ok (.iload 4, 2) := by decide +kernel
theorem dX5_comesYear_33 : decode cX5_comesYear 33 = .ok (.invokevirtual 104, 3) := by decide +kernel
theorem dX5_comesYear_36 : decode cX5_comesYear 36 = .ok (.ifCond .eq 13, 3) := by decide +kernel
theorem dX5_comesYear_39 : decode cX5_comesYear 39 = .ok (.iload_n 2, 1) := by decide +kernel
theorem dX5_comesYear_40 : decode cX5_comesYear 40 = .ok (.iload 4, 2) := by decide +kernel
theorem dX5_comesYear_42 : decode cX5_comesYear 42 = .ok (.ishr, 1) := by decide +kernel
theorem dX5_comesYear_43 : decode cX5_comesYear 43 = .ok (.iconst 1, 1) := by decide +kernel
theorem dX5_comesYear_44 : decode cX5_comesYear 44 = .ok (.iand, 1) := by decide +kernel
theorem dX5_comesYear_45 : decode cX5_comesYear 45 = .ok (.iconst 1, 1) := by decide +kernel
theorem dX5_comesYear_46 : decode cX5_comesYear 46 = .ok (.if_icmp .ne 5, 3) := by decide +kernel
theorem dX5_comesYear_49 : decode cX5_comesYear 49 = .ok (.iconst 0, 1) := by decide +kernel
theorem dX5_comesYear_50 : decode cX5_comesYear 50 = .ok (.ireturn, 1) := by decide +kernel
theorem dX5_comesYear_51 : decode cX5_comesYear 51 = .ok (.iload_n 2, 1) := by decide +kernel
theorem dX5_comesYear_52 : decode cX5_comesYear 52 = .ok (.iconst 1, 1) := by decide +kernel
theorem dX5_comesYear_53 : decode cX5_comesYear 53 = .ok (.iload 4, 2) := by decide +kernel
theorem dX5_comesYear_55 : decode cX5_comesYear 55 = .ok (.ishl, 1) := by decide +kernel
theorem dX5_comesYear_56 : decode cX5_comesYear 56 = .ok (.ior, 1) := by decide +kernel
theorem dX5_comesYear_57 : decode cX5_comesYear 57 = .ok (.istore_n 2, 1) := by decide +kernel
theorem dX5_comesYear_58 : decode cX5_comesYear 58 = .ok (.iinc 3 1, 3) := by decide +kernel
theorem dX5_comesYear_61 : decode cX5_comesYear 61 = .ok (.goto (-52), 3) := by decide +kernel
theorem dX5_comesYear_64 : decode cX5_comesYear 64 = .ok (.aload_n 0, 1) := by decide +kernel
theorem dX5_comesYear_65 : decode cX5_comesYear 65 = .ok (.getfield 107, 3) := by decide +kernel
theorem dX5_comesYear_68 : decode cX5_comesYear 68 = .ok (.bipush 99, 2) := by decide +kernel
theorem dX5_comesYear_70 : decode cX5_comesYear 70 = .ok (.if_icmp .ne 5, 3) := by decide +kernel
theorem dX5_comesYear_73 : decode cX5_comesYear 73 = .ok (.iconst 0, 1) := by decide +kernel
theorem dX5_comesYear_74 : decode cX5_comesYear 74 = .ok (.ireturn, 1) := by decide +kernel
theorem dX5_comesYear_75 : decode cX5_comesYear 75 = .ok (.aload_n 0, 1) := by decide +kernel
theorem dX5_comesYear_76 : decode cX5_comesYear 76 = .ok (.iload_n 2, 1) := by decide +kernel
theorem dX5_comesYear_77 : decode cX5_comesYear 77 = .ok (.invokevirtual 110, 3) := by decide +kernel
theorem dX5_comesYear_80 : decode cX5_comesYear 80 = .ok (.pop, 1) := by decide +kernel
theorem dX5_comesYear_81 : decode cX5_comesYear 81 = .ok (.iconst 1, 1) := by decide +kernel
theorem dX5_comesYear_82 : decode cX5_comesYear 82 = .ok (.ireturn, 1) := by decide +kernel
set_option maxRecDepth 20000 in
theorem ggX5_comesIn_X5_entryOf : GoodIn wsX5_comesIn wsX5_entryOf := goodIn_r _ [10] (by decide +kernel) (by decide +kernel)
set_option maxRecDepth 20000 in
theorem gX5_comesIn_X5_entryOf : GoodIn wsX5_comesIn (va_wsS RX5 113 yX5_entryOf wsX5_entryOf) := goodIn_app (goodIn_of _ (by decide +kernel)) ggX5_comesIn_X5_entryOf
set_option maxRecDepth 20000 in
theorem ggX5_comesIn_X5_whoOn : GoodIn wsX5_comesIn wsX5_whoOn := goodIn_r _ [14, 1, 4, 15, 16, 17, 18, 19, 20, 21, 22, 23, 24, 25, 26, 27, 28, 29, 30, 31, 32, 33, 34, 35, 36, 37, 38] (by decide +kernel) (by decide +kernel)
set_option maxRecDepth 20000 in
theorem gX5_comesIn_X5_whoOn : GoodIn wsX5_comesIn (wsV RX5 117 RX5 yX5_whoOn wsX5_whoOn) := goodIn_app (goodIn_of _ (by decide +kernel)) ggX5_comesIn_X5_whoOn
theorem dX5_comesIn_0 : decode cX5_comesIn 0 = .ok (.iload_n 1, 1) := by decide +kernel
theorem dX5_comesIn_1 : decode cX5_comesIn 1 = .ok (.iload_n 2, 1) := by decide +kernel
theorem dX5_comesIn_2 : decode cX5_comesIn 2 = .ok (.invokestatic 113, 3) := by decide +kernel
theorem dX5_comesIn_5 : decode cX5_comesIn 5 = .ok (.istore 4, 2) := by decide +kernel
theorem dX5_comesIn_7 : decode cX5_comesIn 7 = .ok (.aload_n 0, 1) := by decide +kernel
theorem dX5_comesIn_8 : decode cX5_comesIn 8 = .ok (.getfield 57, 3) := by decide +kernel
theorem dX5_comesIn_11 : decode cX5_comesIn 11 = .ok (.bipush 8, 2) := by decide +kernel
theorem dX5_comesIn_13 : decode cX5_comesIn 13 = .ok (.if_icmp .eq 12, 3) := by decide +kernel
theorem dX5_comesIn_16 : decode cX5_comesIn 16 = .ok (.aload_n 0, 1) := by decide +kernel
theorem dX5_comesIn_17 : decode cX5_comesIn 17 = .ok (.iload 4, 2) := by decide +kernel
theorem dX5_comesIn_19 : decode cX5_comesIn 19 = .ok (.invokevirtual 117, 3) := by decide +kernel
theorem dX5_comesIn_22 : decode cX5_comesIn 22 = .ok (.ifCond .lt 5, 3) := by decide +kernel
theorem dX5_comesIn_25 : decode cX5_comesIn 25 = .ok (.iconst 0, 1) := by decide +kernel
theorem dX5_comesIn_26 : decode cX5_comesIn 26 = .ok (.ireturn, 1) := by decide +kernel
theorem dX5_comesIn_27 : decode cX5_comesIn 27 = .ok (.aload_n 0, 1) := by decide +kernel
theorem dX5_comesIn_28 : decode cX5_comesIn 28 = .ok (.getfield 13, 3) := by decide +kernel
theorem dX5_comesIn_31 : decode cX5_comesIn 31 = .ok (.aload_n 0, 1) := by decide +kernel
theorem dX5_comesIn_32 : decode cX5_comesIn 32 = .ok (.getfield 57, 3) := by decide +kernel
theorem dX5_comesIn_35 : decode cX5_comesIn 35 = .ok (.iload_n 1, 1) := by decide +kernel
theorem dX5_comesIn_36 : decode cX5_comesIn 36 = .ok (.iastore, 1) := by decide +kernel
theorem dX5_comesIn_37 : decode cX5_comesIn 37 = .ok (.aload_n 0, 1) := by decide +kernel
theorem dX5_comesIn_38 : decode cX5_comesIn 38 = .ok (.getfield 16, 3) := by decide +kernel
theorem dX5_comesIn_41 : decode cX5_comesIn 41 = .ok (.aload_n 0, 1) := by decide +kernel
theorem dX5_comesIn_42 : decode cX5_comesIn 42 = .ok (.getfield 57, 3) := by decide +kernel
theorem dX5_comesIn_45 : decode cX5_comesIn 45 = .ok (.iload_n 2, 1) := by decide +kernel
theorem dX5_comesIn_46 : decode cX5_comesIn 46 = .ok (.iastore, 1) := by decide +kernel
theorem dX5_comesIn_47 : decode cX5_comesIn 47 = .ok (.aload_n 0, 1) := by decide +kernel
theorem dX5_comesIn_48 : decode cX5_comesIn 48 = .ok (.getfield 19, 3) := by decide +kernel
theorem dX5_comesIn_51 : decode cX5_comesIn 51 = .ok (.aload_n 0, 1) := by decide +kernel
theorem dX5_comesIn_52 : decode cX5_comesIn 52 = .ok (.getfield 57, 3) := by decide +kernel
theorem dX5_comesIn_55 : decode cX5_comesIn 55 = .ok (.iload 4, 2) := by decide +kernel
theorem dX5_comesIn_57 : decode cX5_comesIn 57 = .ok (.iastore, 1) := by decide +kernel
theorem dX5_comesIn_58 : decode cX5_comesIn 58 = .ok (.aload_n 0, 1) := by decide +kernel
theorem dX5_comesIn_59 : decode cX5_comesIn 59 = .ok (.getfield 22, 3) := by decide +kernel
theorem dX5_comesIn_62 : decode cX5_comesIn 62 = .ok (.aload_n 0, 1) := by decide +kernel
theorem dX5_comesIn_63 : decode cX5_comesIn 63 = .ok (.getfield 57, 3) := by decide +kernel
theorem dX5_comesIn_66 : decode cX5_comesIn 66 = .ok (.iload_n 3, 1) := by decide +kernel
theorem dX5_comesIn_67 : decode cX5_comesIn 67 = .ok (.iastore, 1) := by decide +kernel
theorem dX5_comesIn_68 : decode cX5_comesIn 68 = .ok (.aload_n 0, 1) := by decide +kernel
theorem dX5_comesIn_69 : decode cX5_comesIn 69 = .ok (.getfield 25, 3) := by decide +kernel
theorem dX5_comesIn_72 : decode cX5_comesIn 72 = .ok (.aload_n 0, 1) := by decide +kernel
theorem dX5_comesIn_73 : decode cX5_comesIn 73 = .ok (.getfield 57, 3) := by decide +kernel
theorem dX5_comesIn_76 : decode cX5_comesIn 76 = .ok (.bipush (-9), 2) := by decide +kernel
theorem dX5_comesIn_78 : decode cX5_comesIn 78 = .ok (.iastore, 1) := by decide +kernel
theorem dX5_comesIn_79 : decode cX5_comesIn 79 = .ok (.aload_n 0, 1) := by decide +kernel
theorem dX5_comesIn_80 : decode cX5_comesIn 80 = .ok (.dup, 1) := by decide +kernel
theorem dX5_comesIn_81 : decode cX5_comesIn 81 = .ok (.getfield 57, 3) := by decide +kernel
theorem dX5_comesIn_84 : decode cX5_comesIn 84 = .ok (.iconst 1, 1) := by decide +kernel
theorem dX5_comesIn_85 : decode cX5_comesIn 85 = .ok (.iadd, 1) := by decide +kernel
theorem dX5_comesIn_86 : decode cX5_comesIn 86 = .ok (.putfield 57, 3) := by decide +kernel
theorem dX5_comesIn_89 : decode cX5_comesIn 89 = .ok (.iconst 1, 1) := by decide +kernel
theorem dX5_comesIn_90 : decode cX5_comesIn 90 = .ok (.ireturn, 1) := by decide +kernel
set_option maxRecDepth 20000 in
theorem ggX5_comes_X5_comesIn : GoodIn wsX5_comes wsX5_comesIn := goodIn_r _ [8, 9, 10, 11, 12, 13, 3, 14, 15, 7, 16, 17, 18, 19, 20, 45, 46, 47, 48, 49, 50, 51, 52, 53, 54, 55, 56, 57, 58, 59, 60, 61, 62, 63, 64, 65, 66, 67, 68] (by decide +kernel) (by decide +kernel)
set_option maxRecDepth 20000 in
theorem gX5_comes_X5_comesIn : GoodIn wsX5_comes (wsV RX5 120 RX5 yX5_comesIn wsX5_comesIn) := goodIn_app (goodIn_of _ (by decide +kernel)) ggX5_comes_X5_comesIn
set_option maxRecDepth 20000 in
theorem ggX5_comes_X5_comesYear : GoodIn wsX5_comes wsX5_comesYear := goodIn_r _ [24, 25, 26, 27, 28, 29, 30, 31, 7, 32, 9, 12, 33, 34, 35, 36, 37, 11, 38, 39, 40, 41, 10, 42, 43, 44, 45, 46, 47, 48, 49, 50, 51, 52, 53, 54, 55, 56, 57, 58, 59, 60, 61, 62, 63, 64, 65, 66, 67, 68] (by decide +kernel) (by decide +kernel)
set_option maxRecDepth 20000 in
theorem gX5_comes_X5_comesYear : GoodIn wsX5_comes (wsV RX5 123 RX5 yX5_comesYear wsX5_comesYear) := goodIn_app (goodIn_of _ (by decide +kernel)) ggX5_comes_X5_comesYear
set_option maxRecDepth 20000 in
theorem ggX5_comes_X5_isAlive : GoodIn wsX5_comes wsX5_isAlive := goodIn_r _ [32, 9, 12, 45, 46, 47, 48, 49, 50, 51, 52, 53, 54, 55, 56, 57, 58, 59, 60, 61, 62, 63, 64, 65, 66, 67, 68] (by decide +kernel) (by decide +kernel)
set_option maxRecDepth 20000 in
theorem gX5_comes_X5_isAlive : GoodIn wsX5_comes (wsV RX5 104 RX5 yX5_isAlive wsX5_isAlive) := goodIn_app (goodIn_of _ (by decide +kernel)) ggX5_comes_X5_isAlive
theorem dX5_comes_0 : decode cX5_comes 0 = .ok (.iconst 3, 1) := by decide +kernel
theorem dX5_comes_1 : decode cX5_comes 1 = .ok (.iload_n 1, 1) := by decide +kernel
theorem dX5_comes_2 : decode cX5_comes 2 = .ok (.imul, 1) := by decide +kernel
theorem dX5_comes_3 : decode cX5_comes 3 = .ok (.istore_n 2, 1) := by decide +kernel
theorem dX5_comes_4 : decode cX5_comes 4 = .ok (.aload_n 0, 1) := by decide +kernel
theorem dX5_comes_5 : decode cX5_comes 5 = .ok (.getfield 31, 3) := by decide +kernel
theorem dX5_comes_8 : decode cX5_comes 8 = .ok (.iload_n 1, 1) := by decide +kernel
theorem dX5_comes_9 : decode cX5_comes 9 = .ok (.iaload, 1) := by decide +kernel
theorem dX5_comes_10 : decode cX5_comes 10 = .ok (.bipush 108, 2) := by decide +kernel
theorem dX5_comes_12 : decode cX5_comes 12 = .ok (.if_icmp .ne 30, 3) := by decide +kernel
theorem dX5_comes_15 : decode cX5_comes 15 = .ok (.aload_n 0, 1) := by decide +kernel
theorem dX5_comes_16 : decode cX5_comes 16 = .ok (.aload_n 0, 1) := by decide +kernel
theorem dX5_comes_17 : decode cX5_comes 17 = .ok (.getfield 37, 3) := by decide +kernel
theorem dX5_comes_20 : decode cX5_comes 20 = .ok (.iload_n 2, 1) := by decide +kernel
theorem dX5_comes_21 : decode cX5_comes 21 = .ok (.iaload, 1) := by decide +kernel
theorem dX5_comes_22 : decode cX5_comes 22 = .ok (.aload_n 0, 1) := by decide +kernel
theorem dX5_comes_23 : decode cX5_comes 23 = .ok (.getfield 37, 3) := by decide +kernel
theorem dX5_comes_26 : decode cX5_comes 26 = .ok (.iload_n 2, 1) := by decide +kernel
theorem dX5_comes_27 : decode cX5_comes 27 = .ok (.iconst 1, 1) := by decide +kernel
theorem dX5_comes_28 : decode cX5_comes 28 = .ok (.iadd, 1) := by decide +kernel
theorem dX5_comes_29 : decode cX5_comes 29 = .ok (.iaload, 1) := by decide +kernel
theorem dX5_comes_30 : decode cX5_comes 30 = .ok (.aload_n 0, 1) := by decide +kernel
theorem dX5_comes_31 : decode cX5_comes 31 = .ok (.getfield 37, 3) := by decide +kernel
theorem dX5_comes_34 : decode cX5_comes 34 = .ok (.iload_n 2, 1) := by decide +kernel
theorem dX5_comes_35 : decode cX5_comes 35 = .ok (.iconst 2, 1) := by decide +kernel
theorem dX5_comes_36 : decode cX5_comes 36 = .ok (.iadd, 1) := by decide +kernel
theorem dX5_comes_37 : decode cX5_comes 37 = .ok (.iaload, 1) := by decide +kernel
theorem dX5_comes_38 : decode cX5_comes 38 = .ok (.invokevirtual 120, 3) := by decide +kernel
theorem dX5_comes_41 : decode cX5_comes 41 = .ok (.ireturn, 1) := by decide +kernel
theorem dX5_comes_42 : decode cX5_comes 42 = .ok (.aload_n 0, 1) := by decide +kernel
theorem dX5_comes_43 : decode cX5_comes 43 = .ok (.getfield 31, 3) := by decide +kernel
theorem dX5_comes_46 : decode cX5_comes 46 = .ok (.iload_n 1, 1) := by decide +kernel
theorem dX5_comes_47 : decode cX5_comes 47 = .ok (.iaload, 1) := by decide +kernel
theorem dX5_comes_48 : decode cX5_comes 48 = .ok (.bipush 121, 2) := by decide +kernel
theorem dX5_comes_50 : decode cX5_comes 50 = .ok (.if_icmp .ne 9, 3) := by decide +kernel
theorem dX5_comes_53 : decode cX5_comes 53 = .ok (.aload_n 0, 1) := by decide +kernel
theorem dX5_comes_54 : decode cX5_comes 54 = .ok (.iload_n 1, 1) := by decide +kernel
theorem dX5_comes_55 : decode cX5_comes 55 = .ok (.invokevirtual 123, 3) := by decide +kernel
theorem dX5_comes_58 : decode cX5_comes 58 = .ok (.ireturn, 1) := by decide +kernel
theorem dX5_comes_59 : decode cX5_comes 59 = .ok (.aload_n 0, 1) := by decide +kernel
theorem dX5_comes_60 : decode cX5_comes 60 = .ok (.aload_n 0, 1) := by decide +kernel
theorem dX5_comes_61 : decode cX5_comes 61 = .ok (.getfield 37, 3) := by decide +kernel
theorem dX5_comes_64 : decode cX5_comes 64 = .ok (.iload_n 2, 1) := by decide +kernel
theorem dX5_comes_65 : decode cX5_comes 65 = .ok (.iaload, 1) := by decide +kernel
theorem dX5_comes_66 : decode cX5_comes 66 = .ok (.invokevirtual 104, 3) := by decide +kernel
theorem dX5_comes_69 : decode cX5_comes 69 = .ok (.ifCond .ne 5, 3) := by decide +kernel
theorem dX5_comes_72 : decode cX5_comes 72 = .ok (.iconst 0, 1) := by decide +kernel
theorem dX5_comes_73 : decode cX5_comes 73 = .ok (.ireturn, 1) := by decide +kernel
theorem dX5_comes_74 : decode cX5_comes 74 = .ok (.aload_n 0, 1) := by decide +kernel
theorem dX5_comes_75 : decode cX5_comes 75 = .ok (.getfield 25, 3) := by decide +kernel
theorem dX5_comes_78 : decode cX5_comes 78 = .ok (.aload_n 0, 1) := by decide +kernel
theorem dX5_comes_79 : decode cX5_comes 79 = .ok (.getfield 37, 3) := by decide +kernel
theorem dX5_comes_82 : decode cX5_comes 82 = .ok (.iload_n 2, 1) := by decide +kernel
theorem dX5_comes_83 : decode cX5_comes 83 = .ok (.iaload, 1) := by decide +kernel
theorem dX5_comes_84 : decode cX5_comes 84 = .ok (.aload_n 0, 1) := by decide +kernel
theorem dX5_comes_85 : decode cX5_comes 85 = .ok (.getfield 37, 3) := by decide +kernel
theorem dX5_comes_88 : decode cX5_comes 88 = .ok (.iload_n 2, 1) := by decide +kernel
theorem dX5_comes_89 : decode cX5_comes 89 = .ok (.iconst 1, 1) := by decide +kernel
theorem dX5_comes_90 : decode cX5_comes 90 = .ok (.iadd, 1) := by decide +kernel
theorem dX5_comes_91 : decode cX5_comes 91 = .ok (.iaload, 1) := by decide +kernel
theorem dX5_comes_92 : decode cX5_comes 92 = .ok (.iastore, 1) := by decide +kernel
theorem dX5_comes_93 : decode cX5_comes 93 = .ok (.iconst 1, 1) := by decide +kernel
theorem dX5_comes_94 : decode cX5_comes 94 = .ok (.ireturn, 1) := by decide +kernel
set_option maxRecDepth 20000 in
theorem ggX5_house_X5_statement : GoodIn wsX5_house wsX5_statement := goodIn_r _ [9, 10, 2, 4, 1, 11, 12, 13, 8, 14, 3, 15, 16, 17, 18, 19, 20, 21, 22, 23, 24, 25, 26, 27, 28, 29, 30, 31, 32, 33, 34, 35, 36, 37, 38, 39, 40, 98, 99, 100, 101, 102, 103, 104, 105, 106, 107, 108, 109, 110, 111, 112, 113, 114, 115, 116, 117, 118, 119, 120, 121] (by decide +kernel) (by decide +kernel)
set_option maxRecDepth 20000 in
theorem gX5_house_X5_statement : GoodIn wsX5_house (wsV RX5 126 RX5 yX5_statement wsX5_statement) := goodIn_app (goodIn_of _ (by decide +kernel)) ggX5_house_X5_statement
set_option maxRecDepth 20000 in
theorem ggX5_house_X5_passesAll : GoodIn wsX5_house wsX5_passesAll := goodIn_r _ [44, 45, 46, 47, 48, 49, 50, 51, 52, 53, 54, 55, 56, 8, 57, 58, 59, 60, 61, 62, 98, 99, 100, 101, 102, 103, 104, 105, 106, 107, 108, 109, 110, 111, 112, 113, 114, 115, 116, 117, 118, 119, 120, 121] (by decide +kernel) (by decide +kernel)
set_option maxRecDepth 20000 in
theorem gX5_house_X5_passesAll : GoodIn wsX5_house (wsV RX5 129 RX5 yX5_passesAll wsX5_passesAll) := goodIn_app (goodIn_of _ (by decide +kernel)) ggX5_house_X5_passesAll
set_option maxRecDepth 20000 in
theorem ggX5_house_X5_comes : GoodIn wsX5_house wsX5_comes := goodIn_r _ [66, 10, 20, 51, 67, 68, 69, 8, 70, 52, 47, 48, 49, 50, 71, 72, 73, 74, 75, 76, 77, 78, 79, 80, 81, 39, 40, 15, 53, 82, 83, 84, 85, 86, 87, 88, 89, 90, 91, 92, 93, 94, 95, 96, 97, 98, 99, 100, 101, 102, 103, 104, 105, 106, 107, 108, 109, 110, 111, 112, 113, 114, 115, 116, 117, 118, 119, 120, 121] (by decide +kernel) (by decide +kernel)
set_option maxRecDepth 20000 in
theorem gX5_house_X5_comes : GoodIn wsX5_house (wsV RX5 133 RX5 yX5_comes wsX5_comes) := goodIn_app (goodIn_of _ (by decide +kernel)) ggX5_house_X5_comes
theorem dX5_house_0 : decode cX5_house 0 = .ok (.aload_n 0, 1) := by decide +kernel
theorem dX5_house_1 : decode cX5_house 1 = .ok (.iconst 0, 1) := by decide +kernel
theorem dX5_house_2 : decode cX5_house 2 = .ok (.putfield 72, 3) := by decide +kernel
theorem dX5_house_5 : decode cX5_house 5 = .ok (.aload_n 0, 1) := by decide +kernel
theorem dX5_house_6 : decode cX5_house 6 = .ok (.iconst 0, 1) := by decide +kernel
theorem dX5_house_7 : decode cX5_house 7 = .ok (.putfield 94, 3) := by decide +kernel
theorem dX5_house_10 : decode cX5_house 10 = .ok (.iconst 1, 1) := by decide +kernel
theorem dX5_house_11 : decode cX5_house 11 = .ok (.istore_n 1, 1) := by decide +kernel
theorem dX5_house_12 : decode cX5_house 12 = .ok (.iload_n 1, 1) := by decide +kernel
theorem dX5_house_13 : decode cX5_house 13 = .ok (.ifCond .eq 47, 3) := by decide +kernel
theorem dX5_house_16 : decode cX5_house 16 = .ok (.aload_n 0, 1) := by decide +kernel
theorem dX5_house_17 : decode cX5_house 17 = .ok (.getfield 72, 3) := by decide +kernel
theorem dX5_house_20 : decode cX5_house 20 = .ok (.aload_n 0, 1) := by decide +kernel
theorem dX5_house_21 : decode cX5_house 21 = .ok (.getfield 65, 3) := by decide +kernel
theorem dX5_house_24 : decode cX5_house 24 = .ok (.if_icmp .lt 10, 3) := by decide +kernel
theorem dX5_house_27 : decode cX5_house 27 = .ok (.aload_n 0, 1) := by decide +kernel
theorem dX5_house_28 : decode cX5_house 28 = .ok (.getfield 94, 3) := by decide +kernel
theorem dX5_house_31 : decode cX5_house 31 = .ok (.ifCond .ne 29, 3) := by decide +kernel
theorem dX5_house_34 : decode cX5_house 34 = .ok (.aload_n 0, 1) := by decide +kernel
theorem dX5_house_35 : decode cX5_house 35 = .ok (.invokevirtual 126, 3) := by decide +kernel
theorem dX5_house_38 : decode cX5_house 38 = .ok (.istore_n 1, 1) := by decide +kernel
theorem dX5_house_39 : decode cX5_house 39 = .ok (.aload_n 0, 1) := by decide +kernel
theorem dX5_house_40 : decode cX5_house 40 = .ok (.dup, 1) := by decide +kernel
theorem dX5_house_41 : decode cX5_house 41 = .ok (.getfield 94, 3) := by decide +kernel
theorem dX5_house_44 : decode cX5_house 44 = .ok (.iload_n 1, 1) := by decide +kernel
theorem dX5_house_45 : decode cX5_house 45 = .ok (.ifCond .eq 7, 3) := by decide +kernel
theorem dX5_house_48 : decode cX5_house 48 = .ok (.iconst 1, 1) := by decide +kernel
theorem dX5_house_49 : decode cX5_house 49 = .ok (.goto 4, 3) := by decide +kernel
theorem dX5_house_52 : decode cX5_house 52 = .ok (.iconst 0, 1) := by decide +kernel
theorem dX5_house_53 : decode cX5_house 53 = .ok (.iadd, 1) := by decide +kernel
theorem dX5_house_54 : decode cX5_house 54 = .ok (.putfield 94, 3) := by decide +kernel
theorem dX5_house_57 : decode cX5_house 57 = .ok (.goto (-45), 3) := by decide +kernel
theorem dX5_house_60 : decode cX5_house 60 = .ok (.aload_n 0, 1) := by decide +kernel
theorem dX5_house_61 : decode cX5_house 61 = .ok (.iconst 0, 1) := by decide +kernel
theorem dX5_house_62 : decode cX5_house 62 = .ok (.putfield 65, 3) := by decide +kernel
theorem dX5_house_65 : decode cX5_house 65 = .ok (.iload_n 1, 1) := by decide +kernel
theorem dX5_house_66 : decode cX5_house 66 = .ok (.ifCond .ne 12, 3) := by decide +kernel
theorem dX5_house_69 : decode cX5_house 69 = .ok (.sipush (-1000), 3) := by decide +kernel
theorem dX5_house_72 : decode cX5_house 72 = .ok (.aload_n 0, 1) := by decide +kernel
theorem dX5_house_73 : decode cX5_house 73 = .ok (.getfield 72, 3) := by decide +kernel
theorem dX5_house_76 : decode cX5_house 76 = .ok (.isub, 1) := by decide +kernel
theorem dX5_house_77 : decode cX5_house 77 = .ok (.ireturn, 1) := by decide +kernel
theorem dX5_house_78 : decode cX5_house 78 = .ok (.aload_n 0, 1) := by decide +kernel
theorem dX5_house_79 : decode cX5_house 79 = .ok (.iconst 1, 1) := by decide +kernel
theorem dX5_house_80 : decode cX5_house 80 = .ok (.iconst 1, 1) := by decide +kernel
theorem dX5_house_81 : decode cX5_house 81 = .ok (.invokevirtual 129, 3) := by decide +kernel
theorem dX5_house_84 : decode cX5_house 84 = .ok (.iconst 0, 1) := by decide +kernel
theorem dX5_house_85 : decode cX5_house 85 = .ok (.istore_n 2, 1) := by decide +kernel
theorem dX5_house_86 : decode cX5_house 86 = .ok (.iload_n 2, 1) := by decide +kernel
theorem dX5_house_87 : decode cX5_house 87 = .ok (.aload_n 0, 1) := by decide +kernel
theorem dX5_house_88 : decode cX5_house 88 = .ok (.getfield 94, 3) := by decide +kernel
theorem dX5_house_91 : decode cX5_house 91 = .ok (.if_icmp .ge 37, 3) := by decide +kernel
theorem dX5_house_94 : decode cX5_house 94 = .ok (.aload_n 0, 1) := by decide +kernel
theorem dX5_house_95 : decode cX5_house 95 = .ok (.iload_n 2, 1) := by decide +kernel
theorem dX5_house_96 : decode cX5_house 96 = .ok (.invokevirtual 133, 3) := by decide +kernel
theorem dX5_house_99 : decode cX5_house 99 = .ok (.ifCond .eq 6, 3) := by decide +kernel
theorem dX5_house_102 : decode cX5_house 102 = .ok (.goto 20, 3) := by decide +kernel
theorem dX5_house_105 : decode cX5_house 105 = .ok (.aload_n 0, 1) := by decide +kernel
theorem dX5_house_106 : decode cX5_house 106 = .ok (.iconst 1, 1) := by decide +kernel
theorem dX5_house_107 : decode cX5_house 107 = .ok (.iconst 0, 1) := by decide +kernel
theorem dX5_house_108 : decode cX5_house 108 = .ok (.invokevirtual 129, 3) := by decide +kernel
theorem dX5_house_111 : decode cX5_house 111 = .ok (.sipush (-2000), 3) := by decide +kernel
theorem dX5_house_114 : decode cX5_house 114 = .ok (.aload_n 0, 1) := by decide +kernel
theorem dX5_house_115 : decode cX5_house 115 = .ok (.getfield 34, 3) := by decide +kernel
theorem dX5_house_118 : decode cX5_house 118 = .ok (.iload_n 2, 1) := by decide +kernel
theorem dX5_house_119 : decode cX5_house 119 = .ok (.iaload, 1) := by decide +kernel
theorem dX5_house_120 : decode cX5_house 120 = .ok (.isub, 1) := by decide +kernel
theorem dX5_house_121 : decode cX5_house 121 = .ok (.ireturn, 1) := by decide +kernel
theorem dX5_house_122 : decode cX5_house 122 = .ok (.iinc 2 1, 3) := by decide +kernel
theorem dX5_house_125 : decode cX5_house 125 = .ok (.goto (-39), 3) := by decide +kernel
theorem dX5_house_128 : decode cX5_house 128 = .ok (.aload_n 0, 1) := by decide +kernel
theorem dX5_house_129 : decode cX5_house 129 = .ok (.getfield 94, 3) := by decide +kernel
theorem dX5_house_132 : decode cX5_house 132 = .ok (.ireturn, 1) := by decide +kernel
theorem dX5_passes_0 : decode cX5_passes 0 = .ok (.iconst 0, 1) := by decide +kernel
theorem dX5_passes_1 : decode cX5_passes 1 = .ok (.istore_n 2, 1) := by decide +kernel
theorem dX5_passes_2 : decode cX5_passes 2 = .ok (.iload_n 2, 1) := by decide +kernel
theorem dX5_passes_3 : decode cX5_passes 3 = .ok (.aload_n 1, 1) := by decide +kernel
theorem dX5_passes_4 : decode cX5_passes 4 = .ok (.arraylength, 1) := by decide +kernel
theorem dX5_passes_5 : decode cX5_passes 5 = .ok (.if_icmp .ge 53, 3) := by decide +kernel
theorem dX5_passes_8 : decode cX5_passes 8 = .ok (.aload_n 0, 1) := by decide +kernel
theorem dX5_passes_9 : decode cX5_passes 9 = .ok (.getfield 136, 3) := by decide +kernel
theorem dX5_passes_12 : decode cX5_passes 12 = .ok (.ifCond .eq 18, 3) := by decide +kernel
theorem dX5_passes_15 : decode cX5_passes 15 = .ok (.aload_n 0, 1) := by decide +kernel
theorem dX5_passes_16 : decode cX5_passes 16 = .ok (.getfield 46, 3) := by decide +kernel
theorem dX5_passes_19 : decode cX5_passes 19 = .ok (.aload_n 0, 1) := by decide +kernel
theorem dX5_passes_20 : decode cX5_passes 20 = .ok (.getfield 140, 3) := by decide +kernel
theorem dX5_passes_23 : decode cX5_passes 23 = .ok (.aload_n 1, 1) := by decide +kernel
theorem dX5_passes_24 : decode cX5_passes 24 = .ok (.iload_n 2, 1) := by decide +kernel
theorem dX5_passes_25 : decode cX5_passes 25 = .ok (.iaload, 1) := by decide +kernel
theorem dX5_passes_26 : decode cX5_passes 26 = .ok (.iastore, 1) := by decide +kernel
theorem dX5_passes_27 : decode cX5_passes 27 = .ok (.goto 15, 3) := by decide +kernel
theorem dX5_passes_30 : decode cX5_passes 30 = .ok (.aload_n 1, 1) := by decide +kernel
theorem dX5_passes_31 : decode cX5_passes 31 = .ok (.iload_n 2, 1) := by decide +kernel
theorem dX5_passes_32 : decode cX5_passes 32 = .ok (.aload_n 0, 1) := by decide +kernel
theorem dX5_passes_33 : decode cX5_passes 33 = .ok (.getfield 46, 3) := by decide +kernel
theorem dX5_passes_36 : decode cX5_passes 36 = .ok (.aload_n 0, 1) := by decide +kernel
theorem dX5_passes_37 : decode cX5_passes 37 = .ok (.getfield 140, 3) := by decide +kernel
theorem dX5_passes_40 : decode cX5_passes 40 = .ok (.iaload, 1) := by decide +kernel
theorem dX5_passes_41 : decode cX5_passes 41 = .ok (.iastore, 1) := by decide +kernel
theorem dX5_passes_42 : decode cX5_passes 42 = .ok (.aload_n 0, 1) := by decide +kernel
theorem dX5_passes_43 : decode cX5_passes 43 = .ok (.dup, 1) := by decide +kernel
theorem dX5_passes_44 : decode cX5_passes 44 = .ok (.getfield 140, 3) := by decide +kernel
theorem dX5_passes_47 : decode cX5_passes 47 = .ok (.iconst 1, 1) := by decide +kernel
theorem dX5_passes_48 : decode cX5_passes 48 = .ok (.iadd, 1) := by decide +kernel
theorem dX5_passes_49 : decode cX5_passes 49 = .ok (.putfield 140, 3) := by decide +kernel
theorem dX5_passes_52 : decode cX5_passes 52 = .ok (.iinc 2 1, 3) := by decide +kernel
theorem dX5_passes_55 : decode cX5_passes 55 = .ok (.goto (-53), 3) := by decide +kernel
theorem dX5_passes_58 : decode cX5_passes 58 = .ok (.return_, 1) := by decide +kernel
theorem dX5_passOne_0 : decode cX5_passOne 0 = .ok (.aload_n 0, 1) := by decide +kernel
theorem dX5_passOne_1 : decode cX5_passOne 1 = .ok (.getfield 136, 3) := by decide +kernel
theorem dX5_passOne_4 : decode cX5_passOne 4 = .ok (.ifCond .eq 7, 3) := by decide +kernel
theorem dX5_passOne_7 : decode cX5_passOne 7 = .ok (.iload_n 1, 1) := by decide +kernel
theorem dX5_passOne_8 : decode cX5_passOne 8 = .ok (.goto 12, 3) := by decide +kernel
theorem dX5_passOne_11 : decode cX5_passOne 11 = .ok (.aload_n 0, 1) := by decide +kernel
theorem dX5_passOne_12 : decode cX5_passOne 12 = .ok (.getfield 46, 3) := by decide +kernel
theorem dX5_passOne_15 : decode cX5_passOne 15 = .ok (.aload_n 0, 1) := by decide +kernel
theorem dX5_passOne_16 : decode cX5_passOne 16 = .ok (.getfield 140, 3) := by decide +kernel
theorem dX5_passOne_19 : decode cX5_passOne 19 = .ok (.iaload, 1) := by decide +kernel
theorem dX5_passOne_20 : decode cX5_passOne 20 = .ok (.istore_n 2, 1) := by decide +kernel
theorem dX5_passOne_21 : decode cX5_passOne 21 = .ok (.aload_n 0, 1) := by decide +kernel
theorem dX5_passOne_22 : decode cX5_passOne 22 = .ok (.getfield 136, 3) := by decide +kernel
theorem dX5_passOne_25 : decode cX5_passOne 25 = .ok (.ifCond .eq 13, 3) := by decide +kernel
theorem dX5_passOne_28 : decode cX5_passOne 28 = .ok (.aload_n 0, 1) := by decide +kernel
theorem dX5_passOne_29 : decode cX5_passOne 29 = .ok (.getfield 46, 3) := by decide +kernel
theorem dX5_passOne_32 : decode cX5_passOne 32 = .ok (.aload_n 0, 1) := by decide +kernel
theorem dX5_passOne_33 : decode cX5_passOne 33 = .ok (.getfield 140, 3) := by decide +kernel
theorem dX5_passOne_36 : decode cX5_passOne 36 = .ok (.iload_n 1, 1) := by decide +kernel
theorem dX5_passOne_37 : decode cX5_passOne 37 = .ok (.iastore, 1) := by decide +kernel
theorem dX5_passOne_38 : decode cX5_passOne 38 = .ok (.aload_n 0, 1) := by decide +kernel
theorem dX5_passOne_39 : decode cX5_passOne 39 = .ok (.dup, 1) := by decide +kernel
theorem dX5_passOne_40 : decode cX5_passOne 40 = .ok (.getfield 140, 3) := by decide +kernel
theorem dX5_passOne_43 : decode cX5_passOne 43 = .ok (.iconst 1, 1) := by decide +kernel
theorem dX5_passOne_44 : decode cX5_passOne 44 = .ok (.iadd, 1) := by decide +kernel
theorem dX5_passOne_45 : decode cX5_passOne 45 = .ok (.putfield 140, 3) := by decide +kernel
theorem dX5_passOne_48 : decode cX5_passOne 48 = .ok (.iload_n 2, 1) := by decide +kernel
theorem dX5_passOne_49 : decode cX5_passOne 49 = .ok (.ireturn, 1) := by decide +kernel
set_option maxRecDepth 20000 in
theorem ggX5_passesAll_X5_passes : GoodIn wsX5_passesAll wsX5_passes := goodIn_r _ [14, 2, 15, 1, 20, 21, 22, 23, 24, 25, 26, 27, 28, 29, 30, 31, 32, 33, 34, 35, 36, 37, 38, 39, 40, 41, 42, 43] (by decide +kernel) (by decide +kernel)
set_option maxRecDepth 20000 in
theorem gX5_passesAll_X5_passes : GoodIn wsX5_passesAll (wsV RX5 143 RX5 yX5_passes wsX5_passes) := goodIn_app (goodIn_of _ (by decide +kernel)) ggX5_passesAll_X5_passes
set_option maxRecDepth 20000 in
theorem ggX5_passesAll_X5_passOne : GoodIn wsX5_passesAll wsX5_passOne := goodIn_r _ [19, 2, 15, 1, 20, 21, 22, 23, 24, 25, 26, 27, 28, 29, 30, 31, 32, 33, 34, 35, 36, 37, 38, 39, 40, 41, 42, 43] (by decide +kernel) (by decide +kernel)
set_option maxRecDepth 20000 in
theorem gX5_passesAll_X5_passOne : GoodIn wsX5_passesAll (wsV RX5 147 RX5 yX5_passOne wsX5_passOne) := goodIn_app (goodIn_of _ (by decide +kernel)) ggX5_passesAll_X5_passOne
theorem dX5_passesAll_0 : decode cX5_passesAll 0 = .ok (.aload_n 0, 1) := by decide +kernel
theorem dX5_passesAll_1 : decode cX5_passesAll 1 = .ok (.bipush 43, 2) := by decide +kernel
theorem dX5_passesAll_3 : decode cX5_passesAll 3 = .ok (.iload_n 1, 1) := by decide +kernel
theorem dX5_passesAll_4 : decode cX5_passesAll 4 = .ok (.imul, 1) := by decide +kernel
theorem dX5_passesAll_5 : decode cX5_passesAll 5 = .ok (.putfield 140, 3) := by decide +kernel
theorem dX5_passesAll_8 : decode cX5_passesAll 8 = .ok (.aload_n 0, 1) := by decide +kernel
theorem dX5_passesAll_9 : decode cX5_passesAll 9 = .ok (.iload_n 2, 1) := by decide +kernel
theorem dX5_passesAll_10 : decode cX5_passesAll 10 = .ok (.putfield 136, 3) := by decide +kernel
theorem dX5_passesAll_13 : decode cX5_passesAll 13 = .ok (.aload_n 0, 1) := by decide +kernel
theorem dX5_passesAll_14 : decode cX5_passesAll 14 = .ok (.aload_n 0, 1) := by decide +kernel
theorem dX5_passesAll_15 : decode cX5_passesAll 15 = .ok (.getfield 13, 3) := by decide +kernel
theorem dX5_passesAll_18 : decode cX5_passesAll 18 = .ok (.invokevirtual 143, 3) := by decide +kernel
theorem dX5_passesAll_21 : decode cX5_passesAll 21 = .ok (.aload_n 0, 1) := by decide +kernel
theorem dX5_passesAll_22 : decode cX5_passesAll 22 = .ok (.aload_n 0, 1) := by decide +kernel
theorem dX5_passesAll_23 : decode cX5_passesAll 23 = .ok (.getfield 16, 3) := by decide +kernel
theorem dX5_passesAll_26 : decode cX5_passesAll 26 = .ok (.invokevirtual 143, 3) := by decide +kernel
theorem dX5_passesAll_29 : decode cX5_passesAll 29 = .ok (.aload_n 0, 1) := by decide +kernel
theorem dX5_passesAll_30 : decode cX5_passesAll 30 = .ok (.aload_n 0, 1) := by decide +kernel
theorem dX5_passesAll_31 : decode cX5_passesAll 31 = .ok (.getfield 19, 3) := by decide +kernel
theorem dX5_passesAll_34 : decode cX5_passesAll 34 = .ok (.invokevirtual 143, 3) := by decide +kernel
theorem dX5_passesAll_37 : decode cX5_passesAll 37 = .ok (.aload_n 0, 1) := by decide +kernel
theorem dX5_passesAll_38 : decode cX5_passesAll 38 = .ok (.aload_n 0, 1) := by decide +kernel
theorem dX5_passesAll_39 : decode cX5_passesAll 39 = .ok (.getfield 22, 3) := by decide +kernel
theorem dX5_passesAll_42 : decode cX5_passesAll 42 = .ok (.invokevirtual 143, 3) := by decide +kernel
theorem dX5_passesAll_45 : decode cX5_passesAll 45 = .ok (.aload_n 0, 1) := by decide +kernel
theorem dX5_passesAll_46 : decode cX5_passesAll 46 = .ok (.aload_n 0, 1) := by decide +kernel
theorem dX5_passesAll_47 : decode cX5_passesAll 47 = .ok (.getfield 25, 3) := by decide +kernel
theorem dX5_passesAll_50 : decode cX5_passesAll 50 = .ok (.invokevirtual 143, 3) := by decide +kernel
theorem dX5_passesAll_53 : decode cX5_passesAll 53 = .ok (.aload_n 0, 1) := by decide +kernel
theorem dX5_passesAll_54 : decode cX5_passesAll 54 = .ok (.aload_n 0, 1) := by decide +kernel
theorem dX5_passesAll_55 : decode cX5_passesAll 55 = .ok (.aload_n 0, 1) := by decide +kernel
theorem dX5_passesAll_56 : decode cX5_passesAll 56 = .ok (.getfield 57, 3) := by decide +kernel
theorem dX5_passesAll_59 : decode cX5_passesAll 59 = .ok (.invokevirtual 147, 3) := by decide +kernel
theorem dX5_passesAll_62 : decode cX5_passesAll 62 = .ok (.putfield 57, 3) := by decide +kernel
theorem dX5_passesAll_65 : decode cX5_passesAll 65 = .ok (.aload_n 0, 1) := by decide +kernel
theorem dX5_passesAll_66 : decode cX5_passesAll 66 = .ok (.aload_n 0, 1) := by decide +kernel
theorem dX5_passesAll_67 : decode cX5_passesAll 67 = .ok (.aload_n 0, 1) := by decide +kernel
theorem dX5_passesAll_68 : decode cX5_passesAll 68 = .ok (.getfield 107, 3) := by decide +kernel
theorem dX5_passesAll_71 : decode cX5_passesAll 71 = .ok (.invokevirtual 147, 3) := by decide +kernel
theorem dX5_passesAll_74 : decode cX5_passesAll 74 = .ok (.putfield 107, 3) := by decide +kernel
theorem dX5_passesAll_77 : decode cX5_passesAll 77 = .ok (.return_, 1) := by decide +kernel
set_option maxRecDepth 20000 in
theorem ggX5_image_X5_passesAll : GoodIn wsX5_image wsX5_passesAll := goodIn_r _ [7, 8, 9, 10, 11, 12, 13, 14, 15, 2, 16, 17, 18, 6, 19, 20, 21, 22, 23, 24, 25, 26, 27, 28, 29, 30, 31, 32, 33, 34, 35, 36, 37, 38, 39, 40, 41, 42, 43, 44, 45, 46, 47, 48] (by decide +kernel) (by decide +kernel)
set_option maxRecDepth 20000 in
theorem gX5_image_X5_passesAll : GoodIn wsX5_image (wsV RX5 129 RX5 yX5_passesAll wsX5_passesAll) := goodIn_app (goodIn_of _ (by decide +kernel)) ggX5_image_X5_passesAll
theorem dX5_image_0 : decode cX5_image 0 = .ok (.aload_n 0, 1) := by decide +kernel
theorem dX5_image_1 : decode cX5_image 1 = .ok (.iconst 1, 1) := by decide +kernel
theorem dX5_image_2 : decode cX5_image 2 = .ok (.putfield 150, 3) := by decide +kernel
theorem dX5_image_5 : decode cX5_image 5 = .ok (.aload_n 0, 1) := by decide +kernel
theorem dX5_image_6 : decode cX5_image 6 = .ok (.iconst 0, 1) := by decide +kernel
theorem dX5_image_7 : decode cX5_image 7 = .ok (.iconst 1, 1) := by decide +kernel
theorem dX5_image_8 : decode cX5_image 8 = .ok (.invokevirtual 129, 3) := by decide +kernel
theorem dX5_image_11 : decode cX5_image 11 = .ok (.aload_n 0, 1) := by decide +kernel
theorem dX5_image_12 : decode cX5_image 12 = .ok (.getfield 107, 3) := by decide +kernel
theorem dX5_image_15 : decode cX5_image 15 = .ok (.ireturn, 1) := by decide +kernel
set_option maxRecDepth 20000 in
theorem ggX5_back_X5_no : GoodIn wsX5_back wsX5_no := goodIn_r _ [7, 8, 30, 31, 32, 33, 34, 35, 36, 37, 38, 39, 40, 41, 42, 43, 44, 45, 46, 47, 48, 49, 50, 51, 52, 53] (by decide +kernel) (by decide +kernel)
set_option maxRecDepth 20000 in
theorem gX5_back_X5_no : GoodIn wsX5_back (wsV RX5 68 RX5 yX5_no wsX5_no) := goodIn_app (goodIn_of _ (by decide +kernel)) ggX5_back_X5_no
set_option maxRecDepth 20000 in
theorem ggX5_back_X5_passesAll : GoodIn wsX5_back wsX5_passesAll := goodIn_r _ [12, 13, 14, 15, 16, 17, 18, 19, 20, 2, 21, 22, 23, 6, 24, 25, 26, 27, 28, 29, 30, 31, 32, 33, 34, 35, 36, 37, 38, 39, 40, 41, 42, 43, 44, 45, 46, 47, 48, 49, 50, 51, 52, 53] (by decide +kernel) (by decide +kernel)
set_option maxRecDepth 20000 in
theorem gX5_back_X5_passesAll : GoodIn wsX5_back (wsV RX5 129 RX5 yX5_passesAll wsX5_passesAll) := goodIn_app (goodIn_of _ (by decide +kernel)) ggX5_back_X5_passesAll
theorem dX5_back_0 : decode cX5_back 0 = .ok (.aload_n 0, 1) := by decide +kernel
theorem dX5_back_1 : decode cX5_back 1 = .ok (.getfield 150, 3) := by decide +kernel
theorem dX5_back_4 : decode cX5_back 4 = .ok (.ifCond .ne 10, 3) := by decide +kernel
theorem dX5_back_7 : decode cX5_back 7 = .ok (.aload_n 0, 1) := by decide +kernel
theorem dX5_back_8 : decode cX5_back 8 = .ok (.bipush (-3), 2) := by decide +kernel
theorem dX5_back_10 : decode cX5_back 10 = .ok (.invokevirtual 68, 3) := by decide +kernel
theorem dX5_back_13 : decode cX5_back 13 = .ok (.ireturn, 1) := by decide +kernel
theorem dX5_back_14 : decode cX5_back 14 = .ok (.aload_n 0, 1) := by decide +kernel
theorem dX5_back_15 : decode cX5_back 15 = .ok (.iconst 0, 1) := by decide +kernel
theorem dX5_back_16 : decode cX5_back 16 = .ok (.iconst 0, 1) := by decide +kernel
theorem dX5_back_17 : decode cX5_back 17 = .ok (.invokevirtual 129, 3) := by decide +kernel
theorem dX5_back_20 : decode cX5_back 20 = .ok (.aload_n 0, 1) := by decide +kernel
theorem dX5_back_21 : decode cX5_back 21 = .ok (.getfield 107, 3) := by decide +kernel
theorem dX5_back_24 : decode cX5_back 24 = .ok (.ireturn, 1) := by decide +kernel
theorem dX5_entryOf_0 : decode cX5_entryOf 0 = .ok (.iload_n 1, 1) := by decide +kernel
theorem dX5_entryOf_1 : decode cX5_entryOf 1 = .ok (.bipush 10, 2) := by decide +kernel
theorem dX5_entryOf_3 : decode cX5_entryOf 3 = .ok (.idiv, 1) := by decide +kernel
theorem dX5_entryOf_4 : decode cX5_entryOf 4 = .ok (.istore_n 2, 1) := by decide +kernel
theorem dX5_entryOf_5 : decode cX5_entryOf 5 = .ok (.iload_n 0, 1) := by decide +kernel
theorem dX5_entryOf_6 : decode cX5_entryOf 6 = .ok (.iconst 3, 1) := by decide +kernel
theorem dX5_entryOf_7 : decode cX5_entryOf 7 = .ok (.if_icmp .ne 7, 3) := by decide +kernel
theorem dX5_entryOf_10 : decode cX5_entryOf 10 = .ok (.iconst 0, 1) := by decide +kernel
theorem dX5_entryOf_11 : decode cX5_entryOf 11 = .ok (.goto 23, 3) := by decide +kernel
theorem dX5_entryOf_14 : decode cX5_entryOf 14 = .ok (.iload_n 0, 1) := by decide +kernel
theorem dX5_entryOf_15 : decode cX5_entryOf 15 = .ok (.iconst 5, 1) := by decide +kernel
theorem dX5_entryOf_16 : decode cX5_entryOf 16 = .ok (.if_icmp .ne 17, 3) := by decide +kernel
theorem dX5_entryOf_19 : decode cX5_entryOf 19 = .ok (.iload_n 2, 1) := by decide +kernel
theorem dX5_entryOf_20 : decode cX5_entryOf 20 = .ok (.ifCond .le 9, 3) := by decide +kernel
theorem dX5_entryOf_23 : decode cX5_entryOf 23 = .ok (.iload_n 2, 1) := by decide +kernel
theorem dX5_entryOf_24 : decode cX5_entryOf 24 = .ok (.iconst 1, 1) := by decide +kernel
theorem dX5_entryOf_25 : decode cX5_entryOf 25 = .ok (.isub, 1) := by decide +kernel
theorem dX5_entryOf_26 : decode cX5_entryOf 26 = .ok (.goto 8, 3) := by decide +kernel
theorem dX5_entryOf_29 : decode cX5_entryOf 29 = .ok (.iconst 0, 1) := by decide +kernel
theorem dX5_entryOf_30 : decode cX5_entryOf 30 = .ok (.goto 4, 3) := by decide +kernel
theorem dX5_entryOf_33 : decode cX5_entryOf 33 = .ok (.iload_n 2, 1) := by decide +kernel
theorem dX5_entryOf_34 : decode cX5_entryOf 34 = .ok (.ireturn, 1) := by decide +kernel
set_option maxRecDepth 20000 in
theorem ggX5_chanceOf_X5_least : GoodIn wsX5_chanceOf wsX5_least := goodIn_r _ [6] (by decide +kernel) (by decide +kernel)
set_option maxRecDepth 20000 in
theorem gX5_chanceOf_X5_least : GoodIn wsX5_chanceOf (va_wsS RX5 153 yX5_least wsX5_least) := goodIn_app (goodIn_of _ (by decide +kernel)) ggX5_chanceOf_X5_least
theorem dX5_chanceOf_0 : decode cX5_chanceOf 0 = .ok (.aload_n 0, 1) := by decide +kernel
theorem dX5_chanceOf_1 : decode cX5_chanceOf 1 = .ok (.getfield 16, 3) := by decide +kernel
theorem dX5_chanceOf_4 : decode cX5_chanceOf 4 = .ok (.iload_n 1, 1) := by decide +kernel
theorem dX5_chanceOf_5 : decode cX5_chanceOf 5 = .ok (.iaload, 1) := by decide +kernel
theorem dX5_chanceOf_6 : decode cX5_chanceOf 6 = .ok (.bipush 10, 2) := by decide +kernel
theorem dX5_chanceOf_8 : decode cX5_chanceOf 8 = .ok (.idiv, 1) := by decide +kernel
theorem dX5_chanceOf_9 : decode cX5_chanceOf 9 = .ok (.istore_n 2, 1) := by decide +kernel
theorem dX5_chanceOf_10 : decode cX5_chanceOf 10 = .ok (.aload_n 0, 1) := by decide +kernel
theorem dX5_chanceOf_11 : decode cX5_chanceOf 11 = .ok (.getfield 13, 3) := by decide +kernel
theorem dX5_chanceOf_14 : decode cX5_chanceOf 14 = .ok (.iload_n 1, 1) := by decide +kernel
theorem dX5_chanceOf_15 : decode cX5_chanceOf 15 = .ok (.iaload, 1) := by decide +kernel
theorem dX5_chanceOf_16 : decode cX5_chanceOf 16 = .ok (.tableswitch 79 1 5 #[36, 40, 79, 49, 60], 36) := by decide +kernel
theorem dX5_chanceOf_52 : decode cX5_chanceOf 52 = .ok (.iload_n 2, 1) := by decide +kernel
theorem dX5_chanceOf_53 : decode cX5_chanceOf 53 = .ok (.iconst 2, 1) := by decide +kernel
theorem dX5_chanceOf_54 : decode cX5_chanceOf 54 = .ok (.idiv, 1) := by decide +kernel
theorem dX5_chanceOf_55 : decode cX5_chanceOf 55 = .ok (.ireturn, 1) := by decide +kernel
theorem dX5_chanceOf_56 : decode cX5_chanceOf 56 = .ok (.bipush 10, 2) := by decide +kernel
theorem dX5_chanceOf_58 : decode cX5_chanceOf 58 = .ok (.iload_n 2, 1) := by decide +kernel
theorem dX5_chanceOf_59 : decode cX5_chanceOf 59 = .ok (.iconst 3, 1) := by decide +kernel
theorem dX5_chanceOf_60 : decode cX5_chanceOf 60 = .ok (.iadd, 1) := by decide +kernel
theorem dX5_chanceOf_61 : decode cX5_chanceOf 61 = .ok (.invokestatic 153, 3) := by decide +kernel
theorem dX5_chanceOf_64 : decode cX5_chanceOf 64 = .ok (.ireturn, 1) := by decide +kernel
theorem dX5_chanceOf_65 : decode cX5_chanceOf 65 = .ok (.bipush 10, 2) := by decide +kernel
theorem dX5_chanceOf_67 : decode cX5_chanceOf 67 = .ok (.iload_n 2, 1) := by decide +kernel
theorem dX5_chanceOf_68 : decode cX5_chanceOf 68 = .ok (.iconst 3, 1) := by decide +kernel
theorem dX5_chanceOf_69 : decode cX5_chanceOf 69 = .ok (.iadd, 1) := by decide +kernel
theorem dX5_chanceOf_70 : decode cX5_chanceOf 70 = .ok (.invokestatic 153, 3) := by decide +kernel
theorem dX5_chanceOf_73 : decode cX5_chanceOf 73 = .ok (.iconst 2, 1) := by decide +kernel
theorem dX5_chanceOf_74 : decode cX5_chanceOf 74 = .ok (.isub, 1) := by decide +kernel
theorem dX5_chanceOf_75 : decode cX5_chanceOf 75 = .ok (.ireturn, 1) := by decide +kernel
theorem dX5_chanceOf_76 : decode cX5_chanceOf 76 = .ok (.aload_n 0, 1) := by decide +kernel
theorem dX5_chanceOf_77 : decode cX5_chanceOf 77 = .ok (.getfield 16, 3) := by decide +kernel
theorem dX5_chanceOf_80 : decode cX5_chanceOf 80 = .ok (.iload_n 1, 1) := by decide +kernel
theorem dX5_chanceOf_81 : decode cX5_chanceOf 81 = .ok (.iaload, 1) := by decide +kernel
theorem dX5_chanceOf_82 : decode cX5_chanceOf 82 = .ok (.bipush 50, 2) := by decide +kernel
theorem dX5_chanceOf_84 : decode cX5_chanceOf 84 = .ok (.if_icmp .ge 7, 3) := by decide +kernel
theorem dX5_chanceOf_87 : decode cX5_chanceOf 87 = .ok (.iconst 0, 1) := by decide +kernel
theorem dX5_chanceOf_88 : decode cX5_chanceOf 88 = .ok (.goto 6, 3) := by decide +kernel
theorem dX5_chanceOf_91 : decode cX5_chanceOf 91 = .ok (.iload_n 2, 1) := by decide +kernel
theorem dX5_chanceOf_92 : decode cX5_chanceOf 92 = .ok (.iconst 2, 1) := by decide +kernel
theorem dX5_chanceOf_93 : decode cX5_chanceOf 93 = .ok (.idiv, 1) := by decide +kernel
theorem dX5_chanceOf_94 : decode cX5_chanceOf 94 = .ok (.ireturn, 1) := by decide +kernel
theorem dX5_chanceOf_95 : decode cX5_chanceOf 95 = .ok (.iload_n 2, 1) := by decide +kernel
theorem dX5_chanceOf_96 : decode cX5_chanceOf 96 = .ok (.ireturn, 1) := by decide +kernel
set_option maxRecDepth 20000 in
theorem ggX5_climbs_X5_least : GoodIn wsX5_climbs wsX5_least := goodIn_r _ [4] (by decide +kernel) (by decide +kernel)
set_option maxRecDepth 20000 in
theorem gX5_climbs_X5_least : GoodIn wsX5_climbs (va_wsS RX5 153 yX5_least wsX5_least) := goodIn_app (goodIn_of _ (by decide +kernel)) ggX5_climbs_X5_least
theorem dX5_climbs_0 : decode cX5_climbs 0 = .ok (.bipush 9, 2) := by decide +kernel
theorem dX5_climbs_2 : decode cX5_climbs 2 = .ok (.iload_n 1, 1) := by decide +kernel
theorem dX5_climbs_3 : decode cX5_climbs 3 = .ok (.bipush 12, 2) := by decide +kernel
theorem dX5_climbs_5 : decode cX5_climbs 5 = .ok (.idiv, 1) := by decide +kernel
theorem dX5_climbs_6 : decode cX5_climbs 6 = .ok (.isub, 1) := by decide +kernel
theorem dX5_climbs_7 : decode cX5_climbs 7 = .ok (.istore_n 2, 1) := by decide +kernel
theorem dX5_climbs_8 : decode cX5_climbs 8 = .ok (.iload_n 0, 1) := by decide +kernel
theorem dX5_climbs_9 : decode cX5_climbs 9 = .ok (.iconst 1, 1) := by decide +kernel
theorem dX5_climbs_10 : decode cX5_climbs 10 = .ok (.if_icmp .eq 8, 3) := by decide +kernel
theorem dX5_climbs_13 : decode cX5_climbs 13 = .ok (.iload_n 0, 1) := by decide +kernel
theorem dX5_climbs_14 : decode cX5_climbs 14 = .ok (.iconst 5, 1) := by decide +kernel
theorem dX5_climbs_15 : decode cX5_climbs 15 = .ok (.if_icmp .ne 14, 3) := by decide +kernel
theorem dX5_climbs_18 : decode cX5_climbs 18 = .ok (.bipush 9, 2) := by decide +kernel
theorem dX5_climbs_20 : decode cX5_climbs 20 = .ok (.iload_n 2, 1) := by decide +kernel
theorem dX5_climbs_21 : decode cX5_climbs 21 = .ok (.iconst 2, 1) := by decide +kernel
theorem dX5_climbs_22 : decode cX5_climbs 22 = .ok (.iadd, 1) := by decide +kernel
theorem dX5_climbs_23 : decode cX5_climbs 23 = .ok (.invokestatic 153, 3) := by decide +kernel
theorem dX5_climbs_26 : decode cX5_climbs 26 = .ok (.goto 4, 3) := by decide +kernel
theorem dX5_climbs_29 : decode cX5_climbs 29 = .ok (.iload_n 2, 1) := by decide +kernel
theorem dX5_climbs_30 : decode cX5_climbs 30 = .ok (.ireturn, 1) := by decide +kernel
theorem dX5_movesOf_0 : decode cX5_movesOf 0 = .ok (.aload_n 0, 1) := by decide +kernel
theorem dX5_movesOf_1 : decode cX5_movesOf 1 = .ok (.getfield 19, 3) := by decide +kernel
theorem dX5_movesOf_4 : decode cX5_movesOf 4 = .ok (.iload_n 1, 1) := by decide +kernel
theorem dX5_movesOf_5 : decode cX5_movesOf 5 = .ok (.iaload, 1) := by decide +kernel
theorem dX5_movesOf_6 : decode cX5_movesOf 6 = .ok (.ifCond .lt 31, 3) := by decide +kernel
theorem dX5_movesOf_9 : decode cX5_movesOf 9 = .ok (.iload_n 2, 1) := by decide +kernel
theorem dX5_movesOf_10 : decode cX5_movesOf 10 = .ok (.iload_n 1, 1) := by decide +kernel
theorem dX5_movesOf_11 : decode cX5_movesOf 11 = .ok (.ishr, 1) := by decide +kernel
theorem dX5_movesOf_12 : decode cX5_movesOf 12 = .ok (.iconst 1, 1) := by decide +kernel
theorem dX5_movesOf_13 : decode cX5_movesOf 13 = .ok (.iand, 1) := by decide +kernel
theorem dX5_movesOf_14 : decode cX5_movesOf 14 = .ok (.iconst 1, 1) := by decide +kernel
theorem dX5_movesOf_15 : decode cX5_movesOf 15 = .ok (.if_icmp .eq 22, 3) := by decide +kernel
theorem dX5_movesOf_18 : decode cX5_movesOf 18 = .ok (.aload_n 0, 1) := by decide +kernel
theorem dX5_movesOf_19 : decode cX5_movesOf 19 = .ok (.getfield 13, 3) := by decide +kernel
theorem dX5_movesOf_22 : decode cX5_movesOf 22 = .ok (.iload_n 1, 1) := by decide +kernel
theorem dX5_movesOf_23 : decode cX5_movesOf 23 = .ok (.iaload, 1) := by decide +kernel
theorem dX5_movesOf_24 : decode cX5_movesOf 24 = .ok (.iconst 3, 1) := by decide +kernel
theorem dX5_movesOf_25 : decode cX5_movesOf 25 = .ok (.if_icmp .ne 14, 3) := by decide +kernel
theorem dX5_movesOf_28 : decode cX5_movesOf 28 = .ok (.aload_n 0, 1) := by decide +kernel
theorem dX5_movesOf_29 : decode cX5_movesOf 29 = .ok (.getfield 19, 3) := by decide +kernel
theorem dX5_movesOf_32 : decode cX5_movesOf 32 = .ok (.iload_n 1, 1) := by decide +kernel
theorem dX5_movesOf_33 : decode cX5_movesOf 33 = .ok (.iaload, 1) := by decide +kernel
theorem dX5_movesOf_34 : decode cX5_movesOf 34 = .ok (.ifCond .ne 5, 3) := by decide +kernel
theorem dX5_movesOf_37 : decode cX5_movesOf 37 = .ok (.iconst 0, 1) := by decide +kernel
theorem dX5_movesOf_38 : decode cX5_movesOf 38 = .ok (.ireturn, 1) := by decide +kernel
theorem dX5_movesOf_39 : decode cX5_movesOf 39 = .ok (.iconst 0, 1) := by decide +kernel
theorem dX5_movesOf_40 : decode cX5_movesOf 40 = .ok (.istore_n 3, 1) := by decide +kernel
theorem dX5_movesOf_41 : decode cX5_movesOf 41 = .ok (.iconst 0, 1) := by decide +kernel
