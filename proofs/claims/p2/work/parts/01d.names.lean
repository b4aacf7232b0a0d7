theorem dX4_fitting_27 : decode cX4_fitting 27 = .ok (.invokestatic 163, 3) := by decide +kernel
theorem dX4_fitting_30 : decode cX4_fitting 30 = .ok (.if_icmp .eq 10, 3) := by decide +kernel
theorem dX4_fitting_33 : decode cX4_fitting 33 = .ok (.aload_n 0, 1) := by decide +kernel
theorem dX4_fitting_34 : decode cX4_fitting 34 = .ok (.bipush (-3), 2) := by decide +kernel
theorem dX4_fitting_36 : decode cX4_fitting 36 = .ok (.invokevirtual 43, 3) := by decide +kernel
theorem dX4_fitting_39 : decode cX4_fitting 39 = .ok (.ireturn, 1) := by decide +kernel
theorem dX4_fitting_40 : decode cX4_fitting 40 = .ok (.iconst 0, 1) := by decide +kernel
theorem dX4_fitting_41 : decode cX4_fitting 41 = .ok (.istore_n 2, 1) := by decide +kernel
theorem dX4_fitting_42 : decode cX4_fitting 42 = .ok (.bipush (-9), 2) := by decide +kernel
theorem dX4_fitting_44 : decode cX4_fitting 44 = .ok (.istore_n 3, 1) := by decide +kernel
theorem dX4_fitting_45 : decode cX4_fitting 45 = .ok (.iconst 0, 1) := by decide +kernel
theorem dX4_fitting_46 : decode cX4_fitting 46 = .ok (.istore 4, 2) := by decide +kernel
theorem dX4_fitting_48 : decode cX4_fitting 48 = .ok (.iload 4, 2) := by decide +kernel
theorem dX4_fitting_50 : decode cX4_fitting 50 = .ok (.sipush 256, 3) := by decide +kernel
theorem dX4_fitting_53 : decode cX4_fitting 53 = .ok (.if_icmp .ge 43, 3) := by decide +kernel
theorem dX4_fitting_56 : decode cX4_fitting 56 = .ok (.aload_n 0, 1) := by decide +kernel
theorem dX4_fitting_57 : decode cX4_fitting 57 = .ok (.getfield 10, 3) := by decide +kernel
theorem dX4_fitting_60 : decode cX4_fitting 60 = .ok (.iload 4, 2) := by decide +kernel
theorem dX4_fitting_62 : decode cX4_fitting 62 = .ok (.invokevirtual 105, 3) := by decide +kernel
theorem dX4_fitting_65 : decode cX4_fitting 65 = .ok (.ifCond .eq 25, 3) := by decide +kernel
theorem dX4_fitting_68 : decode cX4_fitting 68 = .ok (.aload_n 0, 1) := by decide +kernel
theorem dX4_fitting_69 : decode cX4_fitting 69 = .ok (.iload 4, 2) := by decide +kernel
theorem dX4_fitting_71 : decode cX4_fitting 71 = .ok (.invokevirtual 168, 3) := by decide +kernel
theorem dX4_fitting_74 : decode cX4_fitting 74 = .ok (.ifCond .ne 6, 3) := by decide +kernel
theorem dX4_fitting_77 : decode cX4_fitting 77 = .ok (.goto 13, 3) := by decide +kernel
theorem dX4_fitting_80 : decode cX4_fitting 80 = .ok (.iload_n 2, 1) := by decide +kernel
theorem dX4_fitting_81 : decode cX4_fitting 81 = .ok (.ifCond .ne 6, 3) := by decide +kernel
theorem dX4_fitting_84 : decode cX4_fitting 84 = .ok (.iload 4, 2) := by decide +kernel
theorem dX4_fitting_86 : decode cX4_fitting 86 = .ok (.istore_n 3, 1) := by decide +kernel
theorem dX4_fitting_87 : decode cX4_fitting 87 = .ok (.iinc 2 1, 3) := by decide +kernel
theorem dX4_fitting_90 : decode cX4_fitting 90 = .ok (.iinc 4 1, 3) := by decide +kernel
theorem dX4_fitting_93 : decode cX4_fitting 93 = .ok (.goto (-45), 3) := by decide +kernel
theorem dX4_fitting_96 : decode cX4_fitting 96 = .ok (.iload_n 1, 1) := by decide +kernel
theorem dX4_fitting_97 : decode cX4_fitting 97 = .ok (.ifCond .ne 7, 3) := by decide +kernel
theorem dX4_fitting_100 : decode cX4_fitting 100 = .ok (.iload_n 2, 1) := by decide +kernel
theorem dX4_fitting_101 : decode cX4_fitting 101 = .ok (.goto 4, 3) := by decide +kernel
theorem dX4_fitting_104 : decode cX4_fitting 104 = .ok (.iload_n 3, 1) := by decide +kernel
theorem dX4_fitting_105 : decode cX4_fitting 105 = .ok (.ireturn, 1) := by decide +kernel
set_option maxRecDepth 20000 in
theorem ggX4_judge_X4_firstNotSo : GoodIn wsX4_judge wsX4_firstNotSo := goodIn_r _ [6, 7, 1, 8, 9, 10, 11, 12, 13, 14, 15, 16, 17, 18, 19, 20, 21, 22, 23, 24, 25, 26, 27, 28, 29, 30, 31, 32] (by decide +kernel) (by decide +kernel)
set_option maxRecDepth 20000 in
theorem gX4_judge_X4_firstNotSo : GoodIn wsX4_judge (wsV RX4 171 RX4 yX4_firstNotSo wsX4_firstNotSo) := goodIn_app (goodIn_of _ (by decide +kernel)) ggX4_judge_X4_firstNotSo
theorem dX4_judge_0 : decode cX4_judge 0 = .ok (.aload_n 0, 1) := by decide +kernel
theorem dX4_judge_1 : decode cX4_judge 1 = .ok (.invokevirtual 171, 3) := by decide +kernel
theorem dX4_judge_4 : decode cX4_judge 4 = .ok (.istore_n 1, 1) := by decide +kernel
theorem dX4_judge_5 : decode cX4_judge 5 = .ok (.aload_n 0, 1) := by decide +kernel
theorem dX4_judge_6 : decode cX4_judge 6 = .ok (.iconst 0, 1) := by decide +kernel
theorem dX4_judge_7 : decode cX4_judge 7 = .ok (.putfield 160, 3) := by decide +kernel
theorem dX4_judge_10 : decode cX4_judge 10 = .ok (.iload_n 1, 1) := by decide +kernel
theorem dX4_judge_11 : decode cX4_judge 11 = .ok (.ireturn, 1) := by decide +kernel
set_option maxRecDepth 20000 in
theorem ggX4_lots_X4_refuse : GoodIn wsX4_lots wsX4_refuse := goodIn_r _ [6, 7, 57, 58, 59, 60, 61, 62, 63, 64, 65] (by decide +kernel) (by decide +kernel)
set_option maxRecDepth 20000 in
theorem gX4_lots_X4_refuse : GoodIn wsX4_lots (wsV RX4 43 RX4 yX4_refuse wsX4_refuse) := goodIn_app (goodIn_of _ (by decide +kernel)) ggX4_lots_X4_refuse
set_option maxRecDepth 20000 in
theorem ggX4_lots_X3_livingByLot : GoodIn wsX4_lots wsX3_livingByLot := goodIn_r _ [12, 13, 14, 15, 16, 17, 18, 11, 19, 20, 21, 22, 23, 24, 25, 26, 27, 28, 29, 30, 31, 32, 33, 34, 35, 36, 37, 38, 39, 40, 41, 42, 43, 44, 45, 46, 47, 48, 49, 50, 51, 52, 53, 54, 55, 56, 66, 67, 68, 69, 70, 71, 72] (by decide +kernel) (by decide +kernel)
set_option maxRecDepth 20000 in
theorem gX4_lots_X3_livingByLot : GoodIn wsX4_lots (wsV RX4 174 RX3 yX3_livingByLot wsX3_livingByLot) := goodIn_app (goodIn_of _ (by decide +kernel)) ggX4_lots_X3_livingByLot
theorem dX4_lots_0 : decode cX4_lots 0 = .ok (.iload_n 1, 1) := by decide +kernel
theorem dX4_lots_1 : decode cX4_lots 1 = .ok (.iconst 1, 1) := by decide +kernel
theorem dX4_lots_2 : decode cX4_lots 2 = .ok (.if_icmp .ge 10, 3) := by decide +kernel
theorem dX4_lots_5 : decode cX4_lots 5 = .ok (.aload_n 0, 1) := by decide +kernel
theorem dX4_lots_6 : decode cX4_lots 6 = .ok (.bipush (-4), 2) := by decide +kernel
theorem dX4_lots_8 : decode cX4_lots 8 = .ok (.invokevirtual 43, 3) := by decide +kernel
theorem dX4_lots_11 : decode cX4_lots 11 = .ok (.ireturn, 1) := by decide +kernel
theorem dX4_lots_12 : decode cX4_lots 12 = .ok (.iload_n 1, 1) := by decide +kernel
theorem dX4_lots_13 : decode cX4_lots 13 = .ok (.bipush 40, 2) := by decide +kernel
theorem dX4_lots_15 : decode cX4_lots 15 = .ok (.if_icmp .le 10, 3) := by decide +kernel
theorem dX4_lots_18 : decode cX4_lots 18 = .ok (.aload_n 0, 1) := by decide +kernel
theorem dX4_lots_19 : decode cX4_lots 19 = .ok (.bipush (-6), 2) := by decide +kernel
theorem dX4_lots_21 : decode cX4_lots 21 = .ok (.invokevirtual 43, 3) := by decide +kernel
theorem dX4_lots_24 : decode cX4_lots 24 = .ok (.ireturn, 1) := by decide +kernel
theorem dX4_lots_25 : decode cX4_lots 25 = .ok (.aload_n 0, 1) := by decide +kernel
theorem dX4_lots_26 : decode cX4_lots 26 = .ok (.getfield 10, 3) := by decide +kernel
theorem dX4_lots_29 : decode cX4_lots 29 = .ok (.iload_n 1, 1) := by decide +kernel
theorem dX4_lots_30 : decode cX4_lots 30 = .ok (.iload_n 2, 1) := by decide +kernel
theorem dX4_lots_31 : decode cX4_lots 31 = .ok (.invokevirtual 174, 3) := by decide +kernel
theorem dX4_lots_34 : decode cX4_lots 34 = .ok (.ireturn, 1) := by decide +kernel
set_option maxRecDepth 20000 in
theorem ggX4_image_X3_becomeLike : GoodIn wsX4_image wsX3_becomeLike := goodIn_r _ [9, 10, 11, 12, 13, 14, 15, 16, 26, 27, 28, 29, 30, 31, 32] (by decide +kernel) (by decide +kernel)
set_option maxRecDepth 20000 in
theorem gX4_image_X3_becomeLike : GoodIn wsX4_image (wsV RX4 177 RX3 yX3_becomeLike wsX3_becomeLike) := goodIn_app (goodIn_of _ (by decide +kernel)) ggX4_image_X3_becomeLike
theorem dX4_image_0 : decode cX4_image 0 = .ok (.aload_n 0, 1) := by decide +kernel
theorem dX4_image_1 : decode cX4_image 1 = .ok (.getfield 19, 3) := by decide +kernel
theorem dX4_image_4 : decode cX4_image 4 = .ok (.aload_n 0, 1) := by decide +kernel
theorem dX4_image_5 : decode cX4_image 5 = .ok (.getfield 10, 3) := by decide +kernel
theorem dX4_image_8 : decode cX4_image 8 = .ok (.invokevirtual 177, 3) := by decide +kernel
theorem dX4_image_11 : decode cX4_image 11 = .ok (.aload_n 0, 1) := by decide +kernel
theorem dX4_image_12 : decode cX4_image 12 = .ok (.iconst 1, 1) := by decide +kernel
theorem dX4_image_13 : decode cX4_image 13 = .ok (.putfield 181, 3) := by decide +kernel
theorem dX4_image_16 : decode cX4_image 16 = .ok (.aload_n 0, 1) := by decide +kernel
theorem dX4_image_17 : decode cX4_image 17 = .ok (.getfield 19, 3) := by decide +kernel
theorem dX4_image_20 : decode cX4_image 20 = .ok (.getfield 108, 3) := by decide +kernel
theorem dX4_image_23 : decode cX4_image 23 = .ok (.ireturn, 1) := by decide +kernel
set_option maxRecDepth 20000 in
theorem ggX4_back_X4_refuse : GoodIn wsX4_back wsX4_refuse := goodIn_r _ [9, 10, 23, 24, 25, 26, 27, 28, 29, 30, 31] (by decide +kernel) (by decide +kernel)
set_option maxRecDepth 20000 in
theorem gX4_back_X4_refuse : GoodIn wsX4_back (wsV RX4 43 RX4 yX4_refuse wsX4_refuse) := goodIn_app (goodIn_of _ (by decide +kernel)) ggX4_back_X4_refuse
set_option maxRecDepth 20000 in
theorem ggX4_back_X3_becomeLike : GoodIn wsX4_back wsX3_becomeLike := goodIn_r _ [15, 16, 17, 18, 19, 20, 21, 22, 32, 33, 34, 35, 36, 37, 38] (by decide +kernel) (by decide +kernel)
set_option maxRecDepth 20000 in
theorem gX4_back_X3_becomeLike : GoodIn wsX4_back (wsV RX4 177 RX3 yX3_becomeLike wsX3_becomeLike) := goodIn_app (goodIn_of _ (by decide +kernel)) ggX4_back_X3_becomeLike
theorem dX4_back_0 : decode cX4_back 0 = .ok (.aload_n 0, 1) := by decide +kernel
theorem dX4_back_1 : decode cX4_back 1 = .ok (.getfield 181, 3) := by decide +kernel
theorem dX4_back_4 : decode cX4_back 4 = .ok (.ifCond .ne 10, 3) := by decide +kernel
theorem dX4_back_7 : decode cX4_back 7 = .ok (.aload_n 0, 1) := by decide +kernel
theorem dX4_back_8 : decode cX4_back 8 = .ok (.bipush (-3), 2) := by decide +kernel
theorem dX4_back_10 : decode cX4_back 10 = .ok (.invokevirtual 43, 3) := by decide +kernel
theorem dX4_back_13 : decode cX4_back 13 = .ok (.ireturn, 1) := by decide +kernel
theorem dX4_back_14 : decode cX4_back 14 = .ok (.aload_n 0, 1) := by decide +kernel
theorem dX4_back_15 : decode cX4_back 15 = .ok (.getfield 10, 3) := by decide +kernel
theorem dX4_back_18 : decode cX4_back 18 = .ok (.aload_n 0, 1) := by decide +kernel
theorem dX4_back_19 : decode cX4_back 19 = .ok (.getfield 19, 3) := by decide +kernel
theorem dX4_back_22 : decode cX4_back 22 = .ok (.invokevirtual 177, 3) := by decide +kernel
theorem dX4_back_25 : decode cX4_back 25 = .ok (.aload_n 0, 1) := by decide +kernel
theorem dX4_back_26 : decode cX4_back 26 = .ok (.getfield 10, 3) := by decide +kernel
theorem dX4_back_29 : decode cX4_back 29 = .ok (.getfield 108, 3) := by decide +kernel
theorem dX4_back_32 : decode cX4_back 32 = .ok (.ireturn, 1) := by decide +kernel
set_option maxRecDepth 20000 in
theorem ggX4_count_X3_living : GoodIn wsX4_count wsX3_living := goodIn_r _ [14, 15, 16, 17, 13, 18, 19, 20, 41, 42, 43, 44, 45, 46, 47] (by decide +kernel) (by decide +kernel)
set_option maxRecDepth 20000 in
theorem gX4_count_X3_living : GoodIn wsX4_count (wsV RX4 136 RX3 yX3_living wsX3_living) := goodIn_app (goodIn_of _ (by decide +kernel)) ggX4_count_X3_living
set_option maxRecDepth 20000 in
theorem ggX4_count_J6_bitCount_0f7a4 : GoodIn wsX4_count wsJ6_bitCount_0f7a4 := goodIn_r _ [24, 25, 26, 27] (by decide +kernel) (by decide +kernel)
set_option maxRecDepth 20000 in
theorem gX4_count_J6_bitCount_0f7a4 : GoodIn wsX4_count (va_wsS RX4 163 yJ6_bitCount_0f7a4 wsJ6_bitCount_0f7a4) := goodIn_app (goodIn_of _ (by decide +kernel)) ggX4_count_J6_bitCount_0f7a4
set_option maxRecDepth 20000 in
theorem ggX4_count_X3_sumOfLiving : GoodIn wsX4_count wsX3_sumOfLiving := goodIn_r _ [31, 15, 16, 17, 13, 18, 19, 20, 41, 42, 43, 44, 45, 46, 47] (by decide +kernel) (by decide +kernel)
set_option maxRecDepth 20000 in
theorem gX4_count_X3_sumOfLiving : GoodIn wsX4_count (wsV RX4 188 RX3 yX3_sumOfLiving wsX3_sumOfLiving) := goodIn_app (goodIn_of _ (by decide +kernel)) ggX4_count_X3_sumOfLiving
theorem dX4_count_0 : decode cX4_count 0 = .ok (.iload_n 1, 1) := by decide +kernel
theorem dX4_count_1 : decode cX4_count 1 = .ok (.tableswitch 113 0 6 #[43, 54, 62, 70, 85, 100, 105], 43) := by decide +kernel
theorem dX4_count_44 : decode cX4_count 44 = .ok (.aload_n 0, 1) := by decide +kernel
theorem dX4_count_45 : decode cX4_count 45 = .ok (.getfield 10, 3) := by decide +kernel
theorem dX4_count_48 : decode cX4_count 48 = .ok (.invokevirtual 136, 3) := by decide +kernel
theorem dX4_count_51 : decode cX4_count 51 = .ok (.invokestatic 163, 3) := by decide +kernel
theorem dX4_count_54 : decode cX4_count 54 = .ok (.ireturn, 1) := by decide +kernel
theorem dX4_count_55 : decode cX4_count 55 = .ok (.aload_n 0, 1) := by decide +kernel
theorem dX4_count_56 : decode cX4_count 56 = .ok (.getfield 10, 3) := by decide +kernel
theorem dX4_count_59 : decode cX4_count 59 = .ok (.getfield 185, 3) := by decide +kernel
theorem dX4_count_62 : decode cX4_count 62 = .ok (.ireturn, 1) := by decide +kernel
theorem dX4_count_63 : decode cX4_count 63 = .ok (.aload_n 0, 1) := by decide +kernel
theorem dX4_count_64 : decode cX4_count 64 = .ok (.getfield 10, 3) := by decide +kernel
theorem dX4_count_67 : decode cX4_count 67 = .ok (.getfield 108, 3) := by decide +kernel
theorem dX4_count_70 : decode cX4_count 70 = .ok (.ireturn, 1) := by decide +kernel
theorem dX4_count_71 : decode cX4_count 71 = .ok (.aload_n 0, 1) := by decide +kernel
theorem dX4_count_72 : decode cX4_count 72 = .ok (.getfield 10, 3) := by decide +kernel
theorem dX4_count_75 : decode cX4_count 75 = .ok (.aload_n 0, 1) := by decide +kernel
theorem dX4_count_76 : decode cX4_count 76 = .ok (.getfield 10, 3) := by decide +kernel
theorem dX4_count_79 : decode cX4_count 79 = .ok (.getfield 86, 3) := by decide +kernel
theorem dX4_count_82 : decode cX4_count 82 = .ok (.invokevirtual 188, 3) := by decide +kernel
theorem dX4_count_85 : decode cX4_count 85 = .ok (.ireturn, 1) := by decide +kernel
theorem dX4_count_86 : decode cX4_count 86 = .ok (.aload_n 0, 1) := by decide +kernel
theorem dX4_count_87 : decode cX4_count 87 = .ok (.getfield 10, 3) := by decide +kernel
theorem dX4_count_90 : decode cX4_count 90 = .ok (.aload_n 0, 1) := by decide +kernel
theorem dX4_count_91 : decode cX4_count 91 = .ok (.getfield 10, 3) := by decide +kernel
theorem dX4_count_94 : decode cX4_count 94 = .ok (.getfield 80, 3) := by decide +kernel
theorem dX4_count_97 : decode cX4_count 97 = .ok (.invokevirtual 188, 3) := by decide +kernel
theorem dX4_count_100 : decode cX4_count 100 = .ok (.ireturn, 1) := by decide +kernel
theorem dX4_count_101 : decode cX4_count 101 = .ok (.aload_n 0, 1) := by decide +kernel
theorem dX4_count_102 : decode cX4_count 102 = .ok (.getfield 160, 3) := by decide +kernel
theorem dX4_count_105 : decode cX4_count 105 = .ok (.ireturn, 1) := by decide +kernel
theorem dX4_count_106 : decode cX4_count 106 = .ok (.aload_n 0, 1) := by decide +kernel
theorem dX4_count_107 : decode cX4_count 107 = .ok (.getfield 25, 3) := by decide +kernel
theorem dX4_count_110 : decode cX4_count 110 = .ok (.getfield 192, 3) := by decide +kernel
theorem dX4_count_113 : decode cX4_count 113 = .ok (.ireturn, 1) := by decide +kernel
theorem dX4_count_114 : decode cX4_count 114 = .ok (.iload_n 1, 1) := by decide +kernel
theorem dX4_count_115 : decode cX4_count 115 = .ok (.bipush 10, 2) := by decide +kernel
theorem dX4_count_117 : decode cX4_count 117 = .ok (.if_icmp .le 21, 3) := by decide +kernel
theorem dX4_count_120 : decode cX4_count 120 = .ok (.iload_n 1, 1) := by decide +kernel
theorem dX4_count_121 : decode cX4_count 121 = .ok (.bipush 16, 2) := by decide +kernel
theorem dX4_count_123 : decode cX4_count 123 = .ok (.if_icmp .gt 15, 3) := by decide +kernel
theorem dX4_count_126 : decode cX4_count 126 = .ok (.aload_n 0, 1) := by decide +kernel
theorem dX4_count_127 : decode cX4_count 127 = .ok (.getfield 40, 3) := by decide +kernel
theorem dX4_count_130 : decode cX4_count 130 = .ok (.iload_n 1, 1) := by decide +kernel
theorem dX4_count_131 : decode cX4_count 131 = .ok (.bipush 10, 2) := by decide +kernel
theorem dX4_count_133 : decode cX4_count 133 = .ok (.isub, 1) := by decide +kernel
theorem dX4_count_134 : decode cX4_count 134 = .ok (.iaload, 1) := by decide +kernel
theorem dX4_count_135 : decode cX4_count 135 = .ok (.goto 5, 3) := by decide +kernel
theorem dX4_count_138 : decode cX4_count 138 = .ok (.bipush (-9), 2) := by decide +kernel
theorem dX4_count_140 : decode cX4_count 140 = .ok (.ireturn, 1) := by decide +kernel
theorem dX4_refuse_0 : decode cX4_refuse 0 = .ok (.iload_n 1, 1) := by decide +kernel
theorem dX4_refuse_1 : decode cX4_refuse 1 = .ok (.ineg, 1) := by decide +kernel
theorem dX4_refuse_2 : decode cX4_refuse 2 = .ok (.istore_n 2, 1) := by decide +kernel
theorem dX4_refuse_3 : decode cX4_refuse 3 = .ok (.iload_n 2, 1) := by decide +kernel
theorem dX4_refuse_4 : decode cX4_refuse 4 = .ok (.iconst 1, 1) := by decide +kernel
theorem dX4_refuse_5 : decode cX4_refuse 5 = .ok (.if_icmp .lt 19, 3) := by decide +kernel
theorem dX4_refuse_8 : decode cX4_refuse 8 = .ok (.iload_n 2, 1) := by decide +kernel
theorem dX4_refuse_9 : decode cX4_refuse 9 = .ok (.bipush 6, 2) := by decide +kernel
theorem dX4_refuse_11 : decode cX4_refuse 11 = .ok (.if_icmp .gt 13, 3) := by decide +kernel
theorem dX4_refuse_14 : decode cX4_refuse 14 = .ok (.aload_n 0, 1) := by decide +kernel
theorem dX4_refuse_15 : decode cX4_refuse 15 = .ok (.getfield 40, 3) := by decide +kernel
theorem dX4_refuse_18 : decode cX4_refuse 18 = .ok (.iload_n 2, 1) := by decide +kernel
theorem dX4_refuse_19 : decode cX4_refuse 19 = .ok (.dup2, 1) := by decide +kernel
theorem dX4_refuse_20 : decode cX4_refuse 20 = .ok (.iaload, 1) := by decide +kernel
theorem dX4_refuse_21 : decode cX4_refuse 21 = .ok (.iconst 1, 1) := by decide +kernel
theorem dX4_refuse_22 : decode cX4_refuse 22 = .ok (.iadd, 1) := by decide +kernel
theorem dX4_refuse_23 : decode cX4_refuse 23 = .ok (.iastore, 1) := by decide +kernel
theorem dX4_refuse_24 : decode cX4_refuse 24 = .ok (.iload_n 1, 1) := by decide +kernel
theorem dX4_refuse_25 : decode cX4_refuse 25 = .ok (.ireturn, 1) := by decide +kernel
set_option maxRecDepth 20000 in
theorem ggX4_refuseLong_X4_refuse : GoodIn wsX4_refuseLong wsX4_refuse := goodIn_r _ [6, 7, 8, 9, 10, 11, 12, 13, 14, 15, 16] (by decide +kernel) (by decide +kernel)
set_option maxRecDepth 20000 in
theorem gX4_refuseLong_X4_refuse : GoodIn wsX4_refuseLong (wsV RX4 43 RX4 yX4_refuse wsX4_refuse) := goodIn_app (goodIn_of _ (by decide +kernel)) ggX4_refuseLong_X4_refuse
theorem dX4_refuseLong_0 : decode cX4_refuseLong 0 = .ok (.ldc2_w 195, 3) := by decide +kernel
theorem dX4_refuseLong_3 : decode cX4_refuseLong 3 = .ok (.aload_n 0, 1) := by decide +kernel
theorem dX4_refuseLong_4 : decode cX4_refuseLong 4 = .ok (.iload_n 1, 1) := by decide +kernel
theorem dX4_refuseLong_5 : decode cX4_refuseLong 5 = .ok (.invokevirtual 43, 3) := by decide +kernel
theorem dX4_refuseLong_8 : decode cX4_refuseLong 8 = .ok (.i2l, 1) := by decide +kernel
theorem dX4_refuseLong_9 : decode cX4_refuseLong 9 = .ok (.lsub, 1) := by decide +kernel
theorem dX4_refuseLong_10 : decode cX4_refuseLong 10 = .ok (.lreturn, 1) := by decide +kernel
theorem dX4_isFloor_0 : decode cX4_isFloor 0 = .ok (.iload_n 0, 1) := by decide +kernel
theorem dX4_isFloor_1 : decode cX4_isFloor 1 = .ok (.ifCond .lt 13, 3) := by decide +kernel
theorem dX4_isFloor_4 : decode cX4_isFloor 4 = .ok (.iload_n 0, 1) := by decide +kernel
theorem dX4_isFloor_5 : decode cX4_isFloor 5 = .ok (.bipush 9, 2) := by decide +kernel
theorem dX4_isFloor_7 : decode cX4_isFloor 7 = .ok (.if_icmp .gt 7, 3) := by decide +kernel
theorem dX4_isFloor_10 : decode cX4_isFloor 10 = .ok (.iconst 1, 1) := by decide +kernel
theorem dX4_isFloor_11 : decode cX4_isFloor 11 = .ok (.goto 4, 3) := by decide +kernel
theorem dX4_isFloor_14 : decode cX4_isFloor 14 = .ok (.iconst 0, 1) := by decide +kernel
theorem dX4_isFloor_15 : decode cX4_isFloor 15 = .ok (.ireturn, 1) := by decide +kernel
theorem dX4_isKind_0 : decode cX4_isKind 0 = .ok (.iload_n 0, 1) := by decide +kernel
theorem dX4_isKind_1 : decode cX4_isKind 1 = .ok (.ifCond .lt 13, 3) := by decide +kernel
theorem dX4_isKind_4 : decode cX4_isKind 4 = .ok (.iload_n 0, 1) := by decide +kernel
theorem dX4_isKind_5 : decode cX4_isKind 5 = .ok (.bipush 6, 2) := by decide +kernel
theorem dX4_isKind_7 : decode cX4_isKind 7 = .ok (.if_icmp .ge 7, 3) := by decide +kernel
theorem dX4_isKind_10 : decode cX4_isKind 10 = .ok (.iconst 1, 1) := by decide +kernel
theorem dX4_isKind_11 : decode cX4_isKind 11 = .ok (.goto 4, 3) := by decide +kernel
theorem dX4_isKind_14 : decode cX4_isKind 14 = .ok (.iconst 0, 1) := by decide +kernel
theorem dX4_isKind_15 : decode cX4_isKind 15 = .ok (.ireturn, 1) := by decide +kernel
set_option maxRecDepth 20000 in
theorem ggX4_takeHouse_X2_firstMisfit : GoodIn wsX4_takeHouse wsX2_firstMisfit := goodIn_r _ [8, 9, 10, 11, 12, 7, 13, 14, 15, 16, 17, 18, 19, 20, 21, 22, 23, 24, 25, 26, 27, 28, 29, 30, 31, 32, 33, 147, 148] (by decide +kernel) (by decide +kernel)
set_option maxRecDepth 20000 in
theorem gX4_takeHouse_X2_firstMisfit : GoodIn wsX4_takeHouse (wsV RX4 197 RX2 yX2_firstMisfit wsX2_firstMisfit) := goodIn_app (goodIn_of _ (by decide +kernel)) ggX4_takeHouse_X2_firstMisfit
set_option maxRecDepth 20000 in
theorem ggX4_takeHouse_X3_becomeLike : GoodIn wsX4_takeHouse wsX3_becomeLike := goodIn_r _ [38, 39, 40, 41, 42, 43, 44, 45, 149, 150, 151, 152, 153, 154, 155] (by decide +kernel) (by decide +kernel)
set_option maxRecDepth 20000 in
theorem gX4_takeHouse_X3_becomeLike : GoodIn wsX4_takeHouse (wsV RX4 177 RX3 yX3_becomeLike wsX3_becomeLike) := goodIn_app (goodIn_of _ (by decide +kernel)) ggX4_takeHouse_X3_becomeLike
set_option maxRecDepth 20000 in
theorem ggX4_takeHouse_X2_playOn : GoodIn wsX4_takeHouse wsX2_playOn := goodIn_r _ [49, 9, 10, 11, 12, 7, 13, 14, 50, 51, 52, 53, 21, 22, 23, 24, 54, 55, 56, 57, 58, 59, 60, 37, 61, 62, 63, 64, 65, 44, 66, 67, 68, 69, 70, 71, 72, 73, 74, 75, 76, 41, 77, 78, 79, 80, 81, 82, 83, 84, 39, 40, 42, 43, 85, 86, 87, 88, 89, 90, 91, 92, 93, 94, 95, 96, 97, 98, 99, 100, 101, 102, 45, 103, 104, 105, 106, 107, 108, 109, 110, 111, 112, 113, 114, 115, 116, 117, 118, 119, 120, 121, 122, 123, 124, 125, 126, 127, 128, 129, 130, 131, 132, 133, 147, 148, 149, 150, 151, 152, 153, 154, 155] (by decide +kernel) (by decide +kernel)
set_option maxRecDepth 20000 in
theorem gX4_takeHouse_X2_playOn : GoodIn wsX4_takeHouse (wsV RX4 200 RX2 yX2_playOn wsX2_playOn) := goodIn_app (goodIn_of _ (by decide +kernel)) ggX4_takeHouse_X2_playOn
set_option maxRecDepth 20000 in
theorem ggX4_takeHouse_X2_statements : GoodIn wsX4_takeHouse wsX2_statements := goodIn_r _ [137, 9, 10, 11, 12, 7, 13, 14, 147, 148] (by decide +kernel) (by decide +kernel)
set_option maxRecDepth 20000 in
theorem gX4_takeHouse_X2_statements : GoodIn wsX4_takeHouse (wsV RX4 204 RX2 yX2_statements wsX2_statements) := goodIn_app (goodIn_of _ (by decide +kernel)) ggX4_takeHouse_X2_statements
theorem dX4_takeHouse_0 : decode cX4_takeHouse 0 = .ok (.aload_n 0, 1) := by decide +kernel
theorem dX4_takeHouse_1 : decode cX4_takeHouse 1 = .ok (.getfield 25, 3) := by decide +kernel
theorem dX4_takeHouse_4 : decode cX4_takeHouse 4 = .ok (.invokevirtual 197, 3) := by decide +kernel
theorem dX4_takeHouse_7 : decode cX4_takeHouse 7 = .ok (.istore_n 1, 1) := by decide +kernel
theorem dX4_takeHouse_8 : decode cX4_takeHouse 8 = .ok (.iload_n 1, 1) := by decide +kernel
theorem dX4_takeHouse_9 : decode cX4_takeHouse 9 = .ok (.ifCond .lt 9, 3) := by decide +kernel
theorem dX4_takeHouse_12 : decode cX4_takeHouse 12 = .ok (.sipush (-1000), 3) := by decide +kernel
theorem dX4_takeHouse_15 : decode cX4_takeHouse 15 = .ok (.iload_n 1, 1) := by decide +kernel
theorem dX4_takeHouse_16 : decode cX4_takeHouse 16 = .ok (.isub, 1) := by decide +kernel
theorem dX4_takeHouse_17 : decode cX4_takeHouse 17 = .ok (.ireturn, 1) := by decide +kernel
theorem dX4_takeHouse_18 : decode cX4_takeHouse 18 = .ok (.aload_n 0, 1) := by decide +kernel
theorem dX4_takeHouse_19 : decode cX4_takeHouse 19 = .ok (.getfield 16, 3) := by decide +kernel
theorem dX4_takeHouse_22 : decode cX4_takeHouse 22 = .ok (.aload_n 0, 1) := by decide +kernel
theorem dX4_takeHouse_23 : decode cX4_takeHouse 23 = .ok (.getfield 10, 3) := by decide +kernel
theorem dX4_takeHouse_26 : decode cX4_takeHouse 26 = .ok (.invokevirtual 177, 3) := by decide +kernel
theorem dX4_takeHouse_29 : decode cX4_takeHouse 29 = .ok (.aload_n 0, 1) := by decide +kernel
theorem dX4_takeHouse_30 : decode cX4_takeHouse 30 = .ok (.getfield 25, 3) := by decide +kernel
theorem dX4_takeHouse_33 : decode cX4_takeHouse 33 = .ok (.aload_n 0, 1) := by decide +kernel
theorem dX4_takeHouse_34 : decode cX4_takeHouse 34 = .ok (.getfield 16, 3) := by decide +kernel
theorem dX4_takeHouse_37 : decode cX4_takeHouse 37 = .ok (.invokevirtual 200, 3) := by decide +kernel
theorem dX4_takeHouse_40 : decode cX4_takeHouse 40 = .ok (.istore_n 1, 1) := by decide +kernel
theorem dX4_takeHouse_41 : decode cX4_takeHouse 41 = .ok (.iload_n 1, 1) := by decide +kernel
theorem dX4_takeHouse_42 : decode cX4_takeHouse 42 = .ok (.ifCond .lt 9, 3) := by decide +kernel
theorem dX4_takeHouse_45 : decode cX4_takeHouse 45 = .ok (.sipush (-2000), 3) := by decide +kernel
theorem dX4_takeHouse_48 : decode cX4_takeHouse 48 = .ok (.iload_n 1, 1) := by decide +kernel
theorem dX4_takeHouse_49 : decode cX4_takeHouse 49 = .ok (.isub, 1) := by decide +kernel
theorem dX4_takeHouse_50 : decode cX4_takeHouse 50 = .ok (.ireturn, 1) := by decide +kernel
theorem dX4_takeHouse_51 : decode cX4_takeHouse 51 = .ok (.aload_n 0, 1) := by decide +kernel
theorem dX4_takeHouse_52 : decode cX4_takeHouse 52 = .ok (.getfield 10, 3) := by decide +kernel
theorem dX4_takeHouse_55 : decode cX4_takeHouse 55 = .ok (.aload_n 0, 1) := by decide +kernel
theorem dX4_takeHouse_56 : decode cX4_takeHouse 56 = .ok (.getfield 16, 3) := by decide +kernel
theorem dX4_takeHouse_59 : decode cX4_takeHouse 59 = .ok (.invokevirtual 177, 3) := by decide +kernel
theorem dX4_takeHouse_62 : decode cX4_takeHouse 62 = .ok (.aload_n 0, 1) := by decide +kernel
theorem dX4_takeHouse_63 : decode cX4_takeHouse 63 = .ok (.getfield 25, 3) := by decide +kernel
theorem dX4_takeHouse_66 : decode cX4_takeHouse 66 = .ok (.invokevirtual 204, 3) := by decide +kernel
theorem dX4_takeHouse_69 : decode cX4_takeHouse 69 = .ok (.ireturn, 1) := by decide +kernel
set_option maxRecDepth 20000 in
theorem ggX4_fitsTheRow_X3_floorsOf : GoodIn wsX4_fitsTheRow wsX3_floorsOf := goodIn_r _ [9, 10, 11, 12, 8, 13, 45, 46, 47, 48, 49, 50, 51] (by decide +kernel) (by decide +kernel)
set_option maxRecDepth 20000 in
theorem gX4_fitsTheRow_X3_floorsOf : GoodIn wsX4_fitsTheRow (wsV RX4 139 RX3 yX3_floorsOf wsX3_floorsOf) := goodIn_app (goodIn_of _ (by decide +kernel)) ggX4_fitsTheRow_X3_floorsOf
set_option maxRecDepth 20000 in
theorem ggX4_fitsTheRow_X3_isAlive : GoodIn wsX4_fitsTheRow wsX3_isAlive := goodIn_r _ [17, 18, 10, 45, 46, 47, 48, 49, 50, 51] (by decide +kernel) (by decide +kernel)
set_option maxRecDepth 20000 in
theorem gX4_fitsTheRow_X3_isAlive : GoodIn wsX4_fitsTheRow (wsV RX4 74 RX3 yX3_isAlive wsX3_isAlive) := goodIn_app (goodIn_of _ (by decide +kernel)) ggX4_fitsTheRow_X3_isAlive
set_option maxRecDepth 20000 in
theorem ggX4_fitsTheRow_X3_holds : GoodIn wsX4_fitsTheRow wsX3_holds := goodIn_r _ [13] (by decide +kernel) (by decide +kernel)
set_option maxRecDepth 20000 in
theorem gX4_fitsTheRow_X3_holds : GoodIn wsX4_fitsTheRow (va_wsS RX4 207 yX3_holds wsX3_holds) := goodIn_app (goodIn_of _ (by decide +kernel)) ggX4_fitsTheRow_X3_holds
set_option maxRecDepth 20000 in
theorem ggX4_fitsTheRow_X3_floorsUp : GoodIn wsX4_fitsTheRow wsX3_floorsUp := goodIn_r _ [23, 10, 24, 25, 26, 8, 27, 28, 29, 30, 31, 32, 33, 34, 35, 45, 46, 47, 48, 49, 50, 51] (by decide +kernel) (by decide +kernel)
set_option maxRecDepth 20000 in
theorem gX4_fitsTheRow_X3_floorsUp : GoodIn wsX4_fitsTheRow (wsV RX4 142 RX3 yX3_floorsUp wsX3_floorsUp) := goodIn_app (goodIn_of _ (by decide +kernel)) ggX4_fitsTheRow_X3_floorsUp
theorem dX4_fitsTheRow_0 : decode cX4_fitsTheRow 0 = .ok (.aload_n 0, 1) := by decide +kernel
theorem dX4_fitsTheRow_1 : decode cX4_fitsTheRow 1 = .ok (.getfield 10, 3) := by decide +kernel
theorem dX4_fitsTheRow_4 : decode cX4_fitsTheRow 4 = .ok (.iload_n 1, 1) := by decide +kernel
theorem dX4_fitsTheRow_5 : decode cX4_fitsTheRow 5 = .ok (.invokevirtual 139, 3) := by decide +kernel
theorem dX4_fitsTheRow_8 : decode cX4_fitsTheRow 8 = .ok (.istore_n 2, 1) := by decide +kernel
theorem dX4_fitsTheRow_9 : decode cX4_fitsTheRow 9 = .ok (.iconst 0, 1) := by decide +kernel
theorem dX4_fitsTheRow_10 : decode cX4_fitsTheRow 10 = .ok (.istore_n 3, 1) := by decide +kernel
theorem dX4_fitsTheRow_11 : decode cX4_fitsTheRow 11 = .ok (.iconst 0, 1) := by decide +kernel
theorem dX4_fitsTheRow_12 : decode cX4_fitsTheRow 12 = .ok (.istore 4, 2) := by decide +kernel
theorem dX4_fitsTheRow_14 : decode cX4_fitsTheRow 14 = .ok (.iload 4, 2) := by decide +kernel
theorem dX4_fitsTheRow_16 : decode cX4_fitsTheRow 16 = .ok (.bipush 8, 2) := by decide +kernel
theorem dX4_fitsTheRow_18 : decode cX4_fitsTheRow 18 = .ok (.if_icmp .ge 95, 3) := by decide +kernel
theorem dX4_fitsTheRow_21 : decode cX4_fitsTheRow 21 = .ok (.iload_n 3, 1) := by decide +kernel
theorem dX4_fitsTheRow_22 : decode cX4_fitsTheRow 22 = .ok (.aload_n 0, 1) := by decide +kernel
theorem dX4_fitsTheRow_23 : decode cX4_fitsTheRow 23 = .ok (.getfield 160, 3) := by decide +kernel
theorem dX4_fitsTheRow_26 : decode cX4_fitsTheRow 26 = .ok (.if_icmp .ge 87, 3) := by decide +kernel
theorem dX4_fitsTheRow_29 : decode cX4_fitsTheRow 29 = .ok (.aload_n 0, 1) := by decide +kernel
theorem dX4_fitsTheRow_30 : decode cX4_fitsTheRow 30 = .ok (.getfield 10, 3) := by decide +kernel
theorem dX4_fitsTheRow_33 : decode cX4_fitsTheRow 33 = .ok (.iload 4, 2) := by decide +kernel
theorem dX4_fitsTheRow_35 : decode cX4_fitsTheRow 35 = .ok (.invokevirtual 74, 3) := by decide +kernel
theorem dX4_fitsTheRow_38 : decode cX4_fitsTheRow 38 = .ok (.ifCond .ne 6, 3) := by decide +kernel
theorem dX4_fitsTheRow_41 : decode cX4_fitsTheRow 41 = .ok (.goto 66, 3) := by decide +kernel
theorem dX4_fitsTheRow_44 : decode cX4_fitsTheRow 44 = .ok (.iload_n 1, 1) := by decide +kernel
theorem dX4_fitsTheRow_45 : decode cX4_fitsTheRow 45 = .ok (.iload 4, 2) := by decide +kernel
theorem dX4_fitsTheRow_47 : decode cX4_fitsTheRow 47 = .ok (.invokestatic 207, 3) := by decide +kernel
theorem dX4_fitsTheRow_50 : decode cX4_fitsTheRow 50 = .ok (.ifCond .eq 7, 3) := by decide +kernel
theorem dX4_fitsTheRow_53 : decode cX4_fitsTheRow 53 = .ok (.iconst (-1), 1) := by decide +kernel
theorem dX4_fitsTheRow_54 : decode cX4_fitsTheRow 54 = .ok (.goto 24, 3) := by decide +kernel
theorem dX4_fitsTheRow_57 : decode cX4_fitsTheRow 57 = .ok (.aload_n 0, 1) := by decide +kernel
theorem dX4_fitsTheRow_58 : decode cX4_fitsTheRow 58 = .ok (.getfield 10, 3) := by decide +kernel
theorem dX4_fitsTheRow_61 : decode cX4_fitsTheRow 61 = .ok (.getfield 83, 3) := by decide +kernel
theorem dX4_fitsTheRow_64 : decode cX4_fitsTheRow 64 = .ok (.iload 4, 2) := by decide +kernel
theorem dX4_fitsTheRow_66 : decode cX4_fitsTheRow 66 = .ok (.iaload, 1) := by decide +kernel
theorem dX4_fitsTheRow_67 : decode cX4_fitsTheRow 67 = .ok (.aload_n 0, 1) := by decide +kernel
theorem dX4_fitsTheRow_68 : decode cX4_fitsTheRow 68 = .ok (.getfield 10, 3) := by decide +kernel
theorem dX4_fitsTheRow_71 : decode cX4_fitsTheRow 71 = .ok (.iload 4, 2) := by decide +kernel
theorem dX4_fitsTheRow_73 : decode cX4_fitsTheRow 73 = .ok (.iload_n 2, 1) := by decide +kernel
theorem dX4_fitsTheRow_74 : decode cX4_fitsTheRow 74 = .ok (.invokevirtual 142, 3) := by decide +kernel
theorem dX4_fitsTheRow_77 : decode cX4_fitsTheRow 77 = .ok (.iadd, 1) := by decide +kernel
theorem dX4_fitsTheRow_78 : decode cX4_fitsTheRow 78 = .ok (.istore 5, 2) := by decide +kernel
theorem dX4_fitsTheRow_80 : decode cX4_fitsTheRow 80 = .ok (.aload_n 0, 1) := by decide +kernel
theorem dX4_fitsTheRow_81 : decode cX4_fitsTheRow 81 = .ok (.getfield 36, 3) := by decide +kernel
theorem dX4_fitsTheRow_84 : decode cX4_fitsTheRow 84 = .ok (.iload_n 3, 1) := by decide +kernel
theorem dX4_fitsTheRow_85 : decode cX4_fitsTheRow 85 = .ok (.iaload, 1) := by decide +kernel
theorem dX4_fitsTheRow_86 : decode cX4_fitsTheRow 86 = .ok (.bipush 10, 2) := by decide +kernel
theorem dX4_fitsTheRow_88 : decode cX4_fitsTheRow 88 = .ok (.if_icmp .eq 16, 3) := by decide +kernel
theorem dX4_fitsTheRow_91 : decode cX4_fitsTheRow 91 = .ok (.aload_n 0, 1) := by decide +kernel
theorem dX4_fitsTheRow_92 : decode cX4_fitsTheRow 92 = .ok (.getfield 36, 3) := by decide +kernel
theorem dX4_fitsTheRow_95 : decode cX4_fitsTheRow 95 = .ok (.iload_n 3, 1) := by decide +kernel
theorem dX4_fitsTheRow_96 : decode cX4_fitsTheRow 96 = .ok (.iaload, 1) := by decide +kernel
theorem dX4_fitsTheRow_97 : decode cX4_fitsTheRow 97 = .ok (.iload 5, 2) := by decide +kernel
theorem dX4_fitsTheRow_99 : decode cX4_fitsTheRow 99 = .ok (.if_icmp .eq 5, 3) := by decide +kernel
theorem dX4_fitsTheRow_102 : decode cX4_fitsTheRow 102 = .ok (.iconst 0, 1) := by decide +kernel
theorem dX4_fitsTheRow_103 : decode cX4_fitsTheRow 103 = .ok (.ireturn, 1) := by decide +kernel
theorem dX4_fitsTheRow_104 : decode cX4_fitsTheRow 104 = .ok (.iinc 3 1, 3) := by decide +kernel
theorem dX4_fitsTheRow_107 : decode cX4_fitsTheRow 107 = .ok (.iinc 4 1, 3) := by decide +kernel
theorem dX4_fitsTheRow_110 : decode cX4_fitsTheRow 110 = .ok (.goto (-96), 3) := by decide +kernel
theorem dX4_fitsTheRow_113 : decode cX4_fitsTheRow 113 = .ok (.iconst 1, 1) := by decide +kernel
theorem dX4_fitsTheRow_114 : decode cX4_fitsTheRow 114 = .ok (.ireturn, 1) := by decide +kernel
set_option maxRecDepth 20000 in
theorem ggX4_firstNotSo_X3_isAlive : GoodIn wsX4_firstNotSo wsX3_isAlive := goodIn_r _ [9, 10, 11, 21, 22, 23, 24, 25, 26, 27] (by decide +kernel) (by decide +kernel)
set_option maxRecDepth 20000 in
theorem gX4_firstNotSo_X3_isAlive : GoodIn wsX4_firstNotSo (wsV RX4 74 RX3 yX3_isAlive wsX3_isAlive) := goodIn_app (goodIn_of _ (by decide +kernel)) ggX4_firstNotSo_X3_isAlive
theorem dX4_firstNotSo_0 : decode cX4_firstNotSo 0 = .ok (.iconst 0, 1) := by decide +kernel
theorem dX4_firstNotSo_1 : decode cX4_firstNotSo 1 = .ok (.istore_n 1, 1) := by decide +kernel
theorem dX4_firstNotSo_2 : decode cX4_firstNotSo 2 = .ok (.iconst 0, 1) := by decide +kernel
theorem dX4_firstNotSo_3 : decode cX4_firstNotSo 3 = .ok (.istore_n 2, 1) := by decide +kernel
theorem dX4_firstNotSo_4 : decode cX4_firstNotSo 4 = .ok (.iload_n 2, 1) := by decide +kernel
theorem dX4_firstNotSo_5 : decode cX4_firstNotSo 5 = .ok (.bipush 8, 2) := by decide +kernel
theorem dX4_firstNotSo_7 : decode cX4_firstNotSo 7 = .ok (.if_icmp .ge 54, 3) := by decide +kernel
theorem dX4_firstNotSo_10 : decode cX4_firstNotSo 10 = .ok (.aload_n 0, 1) := by decide +kernel
theorem dX4_firstNotSo_11 : decode cX4_firstNotSo 11 = .ok (.getfield 10, 3) := by decide +kernel
theorem dX4_firstNotSo_14 : decode cX4_firstNotSo 14 = .ok (.iload_n 2, 1) := by decide +kernel
theorem dX4_firstNotSo_15 : decode cX4_firstNotSo 15 = .ok (.invokevirtual 74, 3) := by decide +kernel
theorem dX4_firstNotSo_18 : decode cX4_firstNotSo 18 = .ok (.ifCond .ne 6, 3) := by decide +kernel
theorem dX4_firstNotSo_21 : decode cX4_firstNotSo 21 = .ok (.goto 34, 3) := by decide +kernel
theorem dX4_firstNotSo_24 : decode cX4_firstNotSo 24 = .ok (.iload_n 1, 1) := by decide +kernel
theorem dX4_firstNotSo_25 : decode cX4_firstNotSo 25 = .ok (.aload_n 0, 1) := by decide +kernel
theorem dX4_firstNotSo_26 : decode cX4_firstNotSo 26 = .ok (.getfield 160, 3) := by decide +kernel
theorem dX4_firstNotSo_29 : decode cX4_firstNotSo 29 = .ok (.if_icmp .ge 21, 3) := by decide +kernel
theorem dX4_firstNotSo_32 : decode cX4_firstNotSo 32 = .ok (.aload_n 0, 1) := by decide +kernel
theorem dX4_firstNotSo_33 : decode cX4_firstNotSo 33 = .ok (.getfield 36, 3) := by decide +kernel
theorem dX4_firstNotSo_36 : decode cX4_firstNotSo 36 = .ok (.iload_n 1, 1) := by decide +kernel
theorem dX4_firstNotSo_37 : decode cX4_firstNotSo 37 = .ok (.iaload, 1) := by decide +kernel
theorem dX4_firstNotSo_38 : decode cX4_firstNotSo 38 = .ok (.aload_n 0, 1) := by decide +kernel
theorem dX4_firstNotSo_39 : decode cX4_firstNotSo 39 = .ok (.getfield 10, 3) := by decide +kernel
theorem dX4_firstNotSo_42 : decode cX4_firstNotSo 42 = .ok (.getfield 83, 3) := by decide +kernel
theorem dX4_firstNotSo_45 : decode cX4_firstNotSo 45 = .ok (.iload_n 2, 1) := by decide +kernel
theorem dX4_firstNotSo_46 : decode cX4_firstNotSo 46 = .ok (.iaload, 1) := by decide +kernel
theorem dX4_firstNotSo_47 : decode cX4_firstNotSo 47 = .ok (.if_icmp .eq 5, 3) := by decide +kernel
theorem dX4_firstNotSo_50 : decode cX4_firstNotSo 50 = .ok (.iload_n 1, 1) := by decide +kernel
theorem dX4_firstNotSo_51 : decode cX4_firstNotSo 51 = .ok (.ireturn, 1) := by decide +kernel
theorem dX4_firstNotSo_52 : decode cX4_firstNotSo 52 = .ok (.iinc 1 1, 3) := by decide +kernel
theorem dX4_firstNotSo_55 : decode cX4_firstNotSo 55 = .ok (.iinc 2 1, 3) := by decide +kernel
theorem dX4_firstNotSo_58 : decode cX4_firstNotSo 58 = .ok (.goto (-54), 3) := by decide +kernel
theorem dX4_firstNotSo_61 : decode cX4_firstNotSo 61 = .ok (.iload_n 1, 1) := by decide +kernel
theorem dX4_firstNotSo_62 : decode cX4_firstNotSo 62 = .ok (.aload_n 0, 1) := by decide +kernel
theorem dX4_firstNotSo_63 : decode cX4_firstNotSo 63 = .ok (.getfield 160, 3) := by decide +kernel
theorem dX4_firstNotSo_66 : decode cX4_firstNotSo 66 = .ok (.if_icmp .ge 7, 3) := by decide +kernel
theorem dX4_firstNotSo_69 : decode cX4_firstNotSo 69 = .ok (.iload_n 1, 1) := by decide +kernel
theorem dX4_firstNotSo_70 : decode cX4_firstNotSo 70 = .ok (.goto 5, 3) := by decide +kernel
theorem dX4_firstNotSo_73 : decode cX4_firstNotSo 73 = .ok (.bipush (-9), 2) := by decide +kernel
theorem dX4_firstNotSo_75 : decode cX4_firstNotSo 75 = .ok (.ireturn, 1) := by decide +kernel
theorem dX5_init_0 : decode cX5_init 0 = .ok (.aload_n 0, 1) := by decide +kernel
theorem dX5_init_1 : decode cX5_init 1 = .ok (.invokespecial 1, 3) := by decide +kernel
theorem dX5_init_4 : decode cX5_init 4 = .ok (.aload_n 0, 1) := by decide +kernel
theorem dX5_init_5 : decode cX5_init 5 = .ok (.bipush 7, 2) := by decide +kernel
theorem dX5_init_7 : decode cX5_init 7 = .ok (.newarray .int, 2) := by decide +kernel
theorem dX5_init_9 : decode cX5_init 9 = .ok (.putfield 7, 3) := by decide +kernel
theorem dX5_init_12 : decode cX5_init 12 = .ok (.aload_n 0, 1) := by decide +kernel
theorem dX5_init_13 : decode cX5_init 13 = .ok (.bipush 8, 2) := by decide +kernel
theorem dX5_init_15 : decode cX5_init 15 = .ok (.newarray .int, 2) := by decide +kernel
theorem dX5_init_17 : decode cX5_init 17 = .ok (.putfield 13, 3) := by decide +kernel
theorem dX5_init_20 : decode cX5_init 20 = .ok (.aload_n 0, 1) := by decide +kernel
theorem dX5_init_21 : decode cX5_init 21 = .ok (.bipush 8, 2) := by decide +kernel
theorem dX5_init_23 : decode cX5_init 23 = .ok (.newarray .int, 2) := by decide +kernel
theorem dX5_init_25 : decode cX5_init 25 = .ok (.putfield 16, 3) := by decide +kernel
theorem dX5_init_28 : decode cX5_init 28 = .ok (.aload_n 0, 1) := by decide +kernel
theorem dX5_init_29 : decode cX5_init 29 = .ok (.bipush 8, 2) := by decide +kernel
theorem dX5_init_31 : decode cX5_init 31 = .ok (.newarray .int, 2) := by decide +kernel
theorem dX5_init_33 : decode cX5_init 33 = .ok (.putfield 19, 3) := by decide +kernel
theorem dX5_init_36 : decode cX5_init 36 = .ok (.aload_n 0, 1) := by decide +kernel
theorem dX5_init_37 : decode cX5_init 37 = .ok (.bipush 8, 2) := by decide +kernel
theorem dX5_init_39 : decode cX5_init 39 = .ok (.newarray .int, 2) := by decide +kernel
theorem dX5_init_41 : decode cX5_init 41 = .ok (.putfield 22, 3) := by decide +kernel
theorem dX5_init_44 : decode cX5_init 44 = .ok (.aload_n 0, 1) := by decide +kernel
theorem dX5_init_45 : decode cX5_init 45 = .ok (.bipush 8, 2) := by decide +kernel
theorem dX5_init_47 : decode cX5_init 47 = .ok (.newarray .int, 2) := by decide +kernel
theorem dX5_init_49 : decode cX5_init 49 = .ok (.putfield 25, 3) := by decide +kernel
theorem dX5_init_52 : decode cX5_init 52 = .ok (.aload_n 0, 1) := by decide +kernel
theorem dX5_init_53 : decode cX5_init 53 = .ok (.bipush 80, 2) := by decide +kernel
theorem dX5_init_55 : decode cX5_init 55 = .ok (.newarray .int, 2) := by decide +kernel
theorem dX5_init_57 : decode cX5_init 57 = .ok (.putfield 28, 3) := by decide +kernel
theorem dX5_init_60 : decode cX5_init 60 = .ok (.aload_n 0, 1) := by decide +kernel
theorem dX5_init_61 : decode cX5_init 61 = .ok (.bipush 40, 2) := by decide +kernel
theorem dX5_init_63 : decode cX5_init 63 = .ok (.newarray .int, 2) := by decide +kernel
theorem dX5_init_65 : decode cX5_init 65 = .ok (.putfield 31, 3) := by decide +kernel
theorem dX5_init_68 : decode cX5_init 68 = .ok (.aload_n 0, 1) := by decide +kernel
theorem dX5_init_69 : decode cX5_init 69 = .ok (.bipush 40, 2) := by decide +kernel
theorem dX5_init_71 : decode cX5_init 71 = .ok (.newarray .int, 2) := by decide +kernel
theorem dX5_init_73 : decode cX5_init 73 = .ok (.putfield 34, 3) := by decide +kernel
theorem dX5_init_76 : decode cX5_init 76 = .ok (.aload_n 0, 1) := by decide +kernel
theorem dX5_init_77 : decode cX5_init 77 = .ok (.bipush 120, 2) := by decide +kernel
theorem dX5_init_79 : decode cX5_init 79 = .ok (.newarray .int, 2) := by decide +kernel
theorem dX5_init_81 : decode cX5_init 81 = .ok (.putfield 37, 3) := by decide +kernel
theorem dX5_init_84 : decode cX5_init 84 = .ok (.aload_n 0, 1) := by decide +kernel
theorem dX5_init_85 : decode cX5_init 85 = .ok (.bipush 40, 2) := by decide +kernel
theorem dX5_init_87 : decode cX5_init 87 = .ok (.newarray .int, 2) := by decide +kernel
theorem dX5_init_89 : decode cX5_init 89 = .ok (.putfield 40, 3) := by decide +kernel
theorem dX5_init_92 : decode cX5_init 92 = .ok (.aload_n 0, 1) := by decide +kernel
theorem dX5_init_93 : decode cX5_init 93 = .ok (.bipush 40, 2) := by decide +kernel
theorem dX5_init_95 : decode cX5_init 95 = .ok (.newarray .int, 2) := by decide +kernel
theorem dX5_init_97 : decode cX5_init 97 = .ok (.putfield 43, 3) := by decide +kernel
theorem dX5_init_100 : decode cX5_init 100 = .ok (.aload_n 0, 1) := by decide +kernel
theorem dX5_init_101 : decode cX5_init 101 = .ok (.sipush 130, 3) := by decide +kernel
theorem dX5_init_104 : decode cX5_init 104 = .ok (.newarray .int, 2) := by decide +kernel
theorem dX5_init_106 : decode cX5_init 106 = .ok (.putfield 46, 3) := by decide +kernel
theorem dX5_init_109 : decode cX5_init 109 = .ok (.aload_n 0, 1) := by decide +kernel
theorem dX5_init_110 : decode cX5_init 110 = .ok (.bipush 8, 2) := by decide +kernel
theorem dX5_init_112 : decode cX5_init 112 = .ok (.newarray .int, 2) := by decide +kernel
theorem dX5_init_114 : decode cX5_init 114 = .ok (.putfield 49, 3) := by decide +kernel
theorem dX5_init_117 : decode cX5_init 117 = .ok (.aload_n 0, 1) := by decide +kernel
theorem dX5_init_118 : decode cX5_init 118 = .ok (.bipush 8, 2) := by decide +kernel
theorem dX5_init_120 : decode cX5_init 120 = .ok (.newarray .int, 2) := by decide +kernel
theorem dX5_init_122 : decode cX5_init 122 = .ok (.putfield 52, 3) := by decide +kernel
theorem dX5_init_125 : decode cX5_init 125 = .ok (.return_, 1) := by decide +kernel
theorem dX5_no_0 : decode cX5_no 0 = .ok (.aload_n 0, 1) := by decide +kernel
theorem dX5_no_1 : decode cX5_no 1 = .ok (.getfield 7, 3) := by decide +kernel
theorem dX5_no_4 : decode cX5_no 4 = .ok (.iload_n 1, 1) := by decide +kernel
theorem dX5_no_5 : decode cX5_no 5 = .ok (.ineg, 1) := by decide +kernel
theorem dX5_no_6 : decode cX5_no 6 = .ok (.dup2, 1) := by decide +kernel
theorem dX5_no_7 : decode cX5_no 7 = .ok (.iaload, 1) := by decide +kernel
theorem dX5_no_8 : decode cX5_no 8 = .ok (.iconst 1, 1) := by decide +kernel
theorem dX5_no_9 : decode cX5_no 9 = .ok (.iadd, 1) := by decide +kernel
theorem dX5_no_10 : decode cX5_no 10 = .ok (.iastore, 1) := by decide +kernel
theorem dX5_no_11 : decode cX5_no 11 = .ok (.iload_n 1, 1) := by decide +kernel
theorem dX5_no_12 : decode cX5_no 12 = .ok (.ireturn, 1) := by decide +kernel
theorem dX5_lowest_0 : decode cX5_lowest 0 = .ok (.aload_n 0, 1) := by decide +kernel
theorem dX5_lowest_1 : decode cX5_lowest 1 = .ok (.getfield 7, 3) := by decide +kernel
theorem dX5_lowest_4 : decode cX5_lowest 4 = .ok (.iload_n 1, 1) := by decide +kernel
theorem dX5_lowest_5 : decode cX5_lowest 5 = .ok (.ineg, 1) := by decide +kernel
theorem dX5_lowest_6 : decode cX5_lowest 6 = .ok (.dup2, 1) := by decide +kernel
theorem dX5_lowest_7 : decode cX5_lowest 7 = .ok (.iaload, 1) := by decide +kernel
theorem dX5_lowest_8 : decode cX5_lowest 8 = .ok (.iconst 1, 1) := by decide +kernel
theorem dX5_lowest_9 : decode cX5_lowest 9 = .ok (.iadd, 1) := by decide +kernel
theorem dX5_lowest_10 : decode cX5_lowest 10 = .ok (.iastore, 1) := by decide +kernel
theorem dX5_lowest_11 : decode cX5_lowest 11 = .ok (.ldc2_w 55, 3) := by decide +kernel
theorem dX5_lowest_14 : decode cX5_lowest 14 = .ok (.iload_n 1, 1) := by decide +kernel
theorem dX5_lowest_15 : decode cX5_lowest 15 = .ok (.i2l, 1) := by decide +kernel
theorem dX5_lowest_16 : decode cX5_lowest 16 = .ok (.lsub, 1) := by decide +kernel
theorem dX5_lowest_17 : decode cX5_lowest 17 = .ok (.lreturn, 1) := by decide +kernel
theorem dX5_isIn_0 : decode cX5_isIn 0 = .ok (.iload_n 0, 1) := by decide +kernel
theorem dX5_isIn_1 : decode cX5_isIn 1 = .ok (.iload_n 1, 1) := by decide +kernel
theorem dX5_isIn_2 : decode cX5_isIn 2 = .ok (.if_icmp .lt 12, 3) := by decide +kernel
theorem dX5_isIn_5 : decode cX5_isIn 5 = .ok (.iload_n 0, 1) := by decide +kernel
theorem dX5_isIn_6 : decode cX5_isIn 6 = .ok (.iload_n 2, 1) := by decide +kernel
theorem dX5_isIn_7 : decode cX5_isIn 7 = .ok (.if_icmp .gt 7, 3) := by decide +kernel
theorem dX5_isIn_10 : decode cX5_isIn 10 = .ok (.iconst 1, 1) := by decide +kernel
theorem dX5_isIn_11 : decode cX5_isIn 11 = .ok (.goto 4, 3) := by decide +kernel
theorem dX5_isIn_14 : decode cX5_isIn 14 = .ok (.iconst 0, 1) := by decide +kernel
theorem dX5_isIn_15 : decode cX5_isIn 15 = .ok (.ireturn, 1) := by decide +kernel
theorem dX5_bound_0 : decode cX5_bound 0 = .ok (.iload_n 0, 1) := by decide +kernel
theorem dX5_bound_1 : decode cX5_bound 1 = .ok (.iload_n 1, 1) := by decide +kernel
theorem dX5_bound_2 : decode cX5_bound 2 = .ok (.if_icmp .ge 8, 3) := by decide +kernel
theorem dX5_bound_5 : decode cX5_bound 5 = .ok (.bipush (-4), 2) := by decide +kernel
theorem dX5_bound_7 : decode cX5_bound 7 = .ok (.goto 14, 3) := by decide +kernel
theorem dX5_bound_10 : decode cX5_bound 10 = .ok (.iload_n 0, 1) := by decide +kernel
theorem dX5_bound_11 : decode cX5_bound 11 = .ok (.iload_n 2, 1) := by decide +kernel
theorem dX5_bound_12 : decode cX5_bound 12 = .ok (.if_icmp .le 8, 3) := by decide +kernel
theorem dX5_bound_15 : decode cX5_bound 15 = .ok (.bipush (-6), 2) := by decide +kernel
theorem dX5_bound_17 : decode cX5_bound 17 = .ok (.goto 4, 3) := by decide +kernel
theorem dX5_bound_20 : decode cX5_bound 20 = .ok (.iconst 0, 1) := by decide +kernel
theorem dX5_bound_21 : decode cX5_bound 21 = .ok (.ireturn, 1) := by decide +kernel
theorem dX5_least_0 : decode cX5_least 0 = .ok (.iload_n 0, 1) := by decide +kernel
theorem dX5_least_1 : decode cX5_least 1 = .ok (.iload_n 1, 1) := by decide +kernel
theorem dX5_least_2 : decode cX5_least 2 = .ok (.if_icmp .ge 7, 3) := by decide +kernel
theorem dX5_least_5 : decode cX5_least 5 = .ok (.iload_n 0, 1) := by decide +kernel
theorem dX5_least_6 : decode cX5_least 6 = .ok (.goto 4, 3) := by decide +kernel
theorem dX5_least_9 : decode cX5_least 9 = .ok (.iload_n 1, 1) := by decide +kernel
theorem dX5_least_10 : decode cX5_least 10 = .ok (.ireturn, 1) := by decide +kernel
theorem dX5_isAlive_0 : decode cX5_isAlive 0 = .ok (.iload_n 1, 1) := by decide +kernel
theorem dX5_isAlive_1 : decode cX5_isAlive 1 = .ok (.ifCond .lt 24, 3) := by decide +kernel
theorem dX5_isAlive_4 : decode cX5_isAlive 4 = .ok (.iload_n 1, 1) := by decide +kernel
theorem dX5_isAlive_5 : decode cX5_isAlive 5 = .ok (.aload_n 0, 1) := by decide +kernel
theorem dX5_isAlive_6 : decode cX5_isAlive 6 = .ok (.getfield 57, 3) := by decide +kernel
theorem dX5_isAlive_9 : decode cX5_isAlive 9 = .ok (.if_icmp .ge 16, 3) := by decide +kernel
theorem dX5_isAlive_12 : decode cX5_isAlive 12 = .ok (.aload_n 0, 1) := by decide +kernel
theorem dX5_isAlive_13 : decode cX5_isAlive 13 = .ok (.getfield 19, 3) := by decide +kernel
theorem dX5_isAlive_16 : decode cX5_isAlive 16 = .ok (.iload_n 1, 1) := by decide +kernel
theorem dX5_isAlive_17 : decode cX5_isAlive 17 = .ok (.iaload, 1) := by decide +kernel
theorem dX5_isAlive_18 : decode cX5_isAlive 18 = .ok (.ifCond .lt 7, 3) := by decide +kernel
theorem dX5_isAlive_21 : decode cX5_isAlive 21 = .ok (.iconst 1, 1) := by decide +kernel
theorem dX5_isAlive_22 : decode cX5_isAlive 22 = .ok (.goto 4, 3) := by decide +kernel
theorem dX5_isAlive_25 : decode cX5_isAlive 25 = .ok (.iconst 0, 1) := by decide +kernel
theorem dX5_isAlive_26 : decode cX5_isAlive 26 = .ok (.ireturn, 1) := by decide +kernel
theorem dX5_isFloor_0 : decode cX5_isFloor 0 = .ok (.iload_n 0, 1) := by decide +kernel
theorem dX5_isFloor_1 : decode cX5_isFloor 1 = .ok (.ifCond .lt 13, 3) := by decide +kernel
theorem dX5_isFloor_4 : decode cX5_isFloor 4 = .ok (.iload_n 0, 1) := by decide +kernel
theorem dX5_isFloor_5 : decode cX5_isFloor 5 = .ok (.bipush 10, 2) := by decide +kernel
theorem dX5_isFloor_7 : decode cX5_isFloor 7 = .ok (.if_icmp .ge 7, 3) := by decide +kernel
theorem dX5_isFloor_10 : decode cX5_isFloor 10 = .ok (.iconst 1, 1) := by decide +kernel
theorem dX5_isFloor_11 : decode cX5_isFloor 11 = .ok (.goto 4, 3) := by decide +kernel
theorem dX5_isFloor_14 : decode cX5_isFloor 14 = .ok (.iconst 0, 1) := by decide +kernel
theorem dX5_isFloor_15 : decode cX5_isFloor 15 = .ok (.ireturn, 1) := by decide +kernel
theorem dX5_whoOn_0 : decode cX5_whoOn 0 = .ok (.iconst 0, 1) := by decide +kernel
theorem dX5_whoOn_1 : decode cX5_whoOn 1 = .ok (.istore_n 2, 1) := by decide +kernel
theorem dX5_whoOn_2 : decode cX5_whoOn 2 = .ok (.iload_n 2, 1) := by decide +kernel
theorem dX5_whoOn_3 : decode cX5_whoOn 3 = .ok (.aload_n 0, 1) := by decide +kernel
theorem dX5_whoOn_4 : decode cX5_whoOn 4 = .ok (.getfield 57, 3) := by decide +kernel
theorem dX5_whoOn_7 : decode cX5_whoOn 7 = .ok (.if_icmp .ge 21, 3) := by decide +kernel
theorem dX5_whoOn_10 : decode cX5_whoOn 10 = .ok (.aload_n 0, 1) := by decide +kernel
theorem dX5_whoOn_11 : decode cX5_whoOn 11 = .ok (.getfield 19, 3) := by decide +kernel
theorem dX5_whoOn_14 : decode cX5_whoOn 14 = .ok (.iload_n 2, 1) := by decide +kernel
theorem dX5_whoOn_15 : decode cX5_whoOn 15 = .ok (.iaload, 1) := by decide +kernel
theorem dX5_whoOn_16 : decode cX5_whoOn 16 = .ok (.iload_n 1, 1) := by decide +kernel
theorem dX5_whoOn_17 : decode cX5_whoOn 17 = .ok (.if_icmp .ne 5, 3) := by decide +kernel
theorem dX5_whoOn_20 : decode cX5_whoOn 20 = .ok (.iload_n 2, 1) := by decide +kernel
theorem dX5_whoOn_21 : decode cX5_whoOn 21 = .ok (.ireturn, 1) := by decide +kernel
theorem dX5_whoOn_22 : decode cX5_whoOn 22 = .ok (.iinc 2 1, 3) := by decide +kernel
theorem dX5_whoOn_25 : decode cX5_whoOn 25 = .ok (.goto (-23), 3) := by decide +kernel
theorem dX5_whoOn_28 : decode cX5_whoOn 28 = .ok (.bipush (-9), 2) := by decide +kernel
theorem dX5_whoOn_30 : decode cX5_whoOn 30 = .ok (.ireturn, 1) := by decide +kernel
theorem dX5_aliveBits_0 : decode cX5_aliveBits 0 = .ok (.iconst 0, 1) := by decide +kernel
theorem dX5_aliveBits_1 : decode cX5_aliveBits 1 = .ok (.istore_n 1, 1) := by decide +kernel
theorem dX5_aliveBits_2 : decode cX5_aliveBits 2 = .ok (.iconst 0, 1) := by decide +kernel
theorem dX5_aliveBits_3 : decode cX5_aliveBits 3 = .ok (.istore_n 2, 1) := by decide +kernel
theorem dX5_aliveBits_4 : decode cX5_aliveBits 4 = .ok (.iload_n 2, 1) := by decide +kernel
theorem dX5_aliveBits_5 : decode cX5_aliveBits 5 = .ok (.aload_n 0, 1) := by decide +kernel
theorem dX5_aliveBits_6 : decode cX5_aliveBits 6 = .ok (.getfield 57, 3) := by decide +kernel
theorem dX5_aliveBits_9 : decode cX5_aliveBits 9 = .ok (.if_icmp .ge 28, 3) := by decide +kernel
theorem dX5_aliveBits_12 : decode cX5_aliveBits 12 = .ok (.iload_n 1, 1) := by decide +kernel
theorem dX5_aliveBits_13 : decode cX5_aliveBits 13 = .ok (.aload_n 0, 1) := by decide +kernel
theorem dX5_aliveBits_14 : decode cX5_aliveBits 14 = .ok (.getfield 19, 3) := by decide +kernel
theorem dX5_aliveBits_17 : decode cX5_aliveBits 17 = .ok (.iload_n 2, 1) := by decide +kernel
theorem dX5_aliveBits_18 : decode cX5_aliveBits 18 = .ok (.iaload, 1) := by decide +kernel
theorem dX5_aliveBits_19 : decode cX5_aliveBits 19 = .ok (.ifCond .lt 9, 3) := by decide +kernel
theorem dX5_aliveBits_22 : decode cX5_aliveBits 22 = .ok (.iconst 1, 1) := by decide +kernel
theorem dX5_aliveBits_23 : decode cX5_aliveBits 23 = .ok (.iload_n 2, 1) := by decide +kernel
theorem dX5_aliveBits_24 : decode cX5_aliveBits 24 = .ok (.ishl, 1) := by decide +kernel
theorem dX5_aliveBits_25 : decode cX5_aliveBits 25 = .ok (.goto 4, 3) := by decide +kernel
theorem dX5_aliveBits_28 : decode cX5_aliveBits 28 = .ok (.iconst 0, 1) := by decide +kernel
theorem dX5_aliveBits_29 : decode cX5_aliveBits 29 = .ok (.ior, 1) := by decide +kernel
theorem dX5_aliveBits_30 : decode cX5_aliveBits 30 = .ok (.istore_n 1, 1) := by decide +kernel
theorem dX5_aliveBits_31 : decode cX5_aliveBits 31 = .ok (.iinc 2 1, 3) := by decide +kernel
theorem dX5_aliveBits_34 : decode cX5_aliveBits 34 = .ok (.goto (-30), 3) := by decide +kernel
theorem dX5_aliveBits_37 : decode cX5_aliveBits 37 = .ok (.iload_n 1, 1) := by decide +kernel
theorem dX5_aliveBits_38 : decode cX5_aliveBits 38 = .ok (.ireturn, 1) := by decide +kernel
theorem dX5_bits_0 : decode cX5_bits 0 = .ok (.iconst 0, 1) := by decide +kernel
theorem dX5_bits_1 : decode cX5_bits 1 = .ok (.istore_n 1, 1) := by decide +kernel
theorem dX5_bits_2 : decode cX5_bits 2 = .ok (.iconst 0, 1) := by decide +kernel
theorem dX5_bits_3 : decode cX5_bits 3 = .ok (.istore_n 2, 1) := by decide +kernel
theorem dX5_bits_4 : decode cX5_bits 4 = .ok (.iload_n 2, 1) := by decide +kernel
theorem dX5_bits_5 : decode cX5_bits 5 = .ok (.bipush 31, 2) := by decide +kernel
theorem dX5_bits_7 : decode cX5_bits 7 = .ok (.if_icmp .ge 17, 3) := by decide +kernel
theorem dX5_bits_10 : decode cX5_bits 10 = .ok (.iload_n 1, 1) := by decide +kernel
theorem dX5_bits_11 : decode cX5_bits 11 = .ok (.iload_n 0, 1) := by decide +kernel
theorem dX5_bits_12 : decode cX5_bits 12 = .ok (.iload_n 2, 1) := by decide +kernel
theorem dX5_bits_13 : decode cX5_bits 13 = .ok (.ishr, 1) := by decide +kernel
theorem dX5_bits_14 : decode cX5_bits 14 = .ok (.iconst 1, 1) := by decide +kernel
theorem dX5_bits_15 : decode cX5_bits 15 = .ok (.iand, 1) := by decide +kernel
theorem dX5_bits_16 : decode cX5_bits 16 = .ok (.iadd, 1) := by decide +kernel
theorem dX5_bits_17 : decode cX5_bits 17 = .ok (.istore_n 1, 1) := by decide +kernel
theorem dX5_bits_18 : decode cX5_bits 18 = .ok (.iinc 2 1, 3) := by decide +kernel
theorem dX5_bits_21 : decode cX5_bits 21 = .ok (.goto (-17), 3) := by decide +kernel
theorem dX5_bits_24 : decode cX5_bits 24 = .ok (.iload_n 1, 1) := by decide +kernel
theorem dX5_bits_25 : decode cX5_bits 25 = .ok (.ireturn, 1) := by decide +kernel
set_option maxRecDepth 20000 in
theorem ggX5_letter_X5_bound : GoodIn wsX5_letter wsX5_bound := goodIn_r _ [6] (by decide +kernel) (by decide +kernel)
set_option maxRecDepth 20000 in
theorem gX5_letter_X5_bound : GoodIn wsX5_letter (va_wsS RX5 61 yX5_bound wsX5_bound) := goodIn_app (goodIn_of _ (by decide +kernel)) ggX5_letter_X5_bound
set_option maxRecDepth 20000 in
theorem ggX5_letter_X5_no : GoodIn wsX5_letter wsX5_no := goodIn_r _ [10, 11, 12, 13, 14, 15, 16, 17, 18, 19, 20, 21, 22, 23, 24, 25, 26, 27, 28, 29, 30, 31, 32, 33, 34, 35] (by decide +kernel) (by decide +kernel)
set_option maxRecDepth 20000 in
theorem gX5_letter_X5_no : GoodIn wsX5_letter (wsV RX5 68 RX5 yX5_no wsX5_no) := goodIn_app (goodIn_of _ (by decide +kernel)) ggX5_letter_X5_no
theorem dX5_letter_0 : decode cX5_letter 0 = .ok (.iload_n 1, 1) := by decide +kernel
theorem dX5_letter_1 : decode cX5_letter 1 = .ok (.iconst 0, 1) := by decide +kernel
theorem dX5_letter_2 : decode cX5_letter 2 = .ok (.sipush 255, 3) := by decide +kernel
theorem dX5_letter_5 : decode cX5_letter 5 = .ok (.invokestatic 61, 3) := by decide +kernel
theorem dX5_letter_8 : decode cX5_letter 8 = .ok (.istore_n 2, 1) := by decide +kernel
theorem dX5_letter_9 : decode cX5_letter 9 = .ok (.iload_n 2, 1) := by decide +kernel
theorem dX5_letter_10 : decode cX5_letter 10 = .ok (.ifCond .ne 15, 3) := by decide +kernel
theorem dX5_letter_13 : decode cX5_letter 13 = .ok (.aload_n 0, 1) := by decide +kernel
theorem dX5_letter_14 : decode cX5_letter 14 = .ok (.getfield 65, 3) := by decide +kernel
theorem dX5_letter_17 : decode cX5_letter 17 = .ok (.bipush 80, 2) := by decide +kernel
theorem dX5_letter_19 : decode cX5_letter 19 = .ok (.if_icmp .ne 6, 3) := by decide +kernel
theorem dX5_letter_22 : decode cX5_letter 22 = .ok (.bipush (-6), 2) := by decide +kernel
theorem dX5_letter_24 : decode cX5_letter 24 = .ok (.istore_n 2, 1) := by decide +kernel
theorem dX5_letter_25 : decode cX5_letter 25 = .ok (.iload_n 2, 1) := by decide +kernel
theorem dX5_letter_26 : decode cX5_letter 26 = .ok (.ifCond .eq 9, 3) := by decide +kernel
theorem dX5_letter_29 : decode cX5_letter 29 = .ok (.aload_n 0, 1) := by decide +kernel
theorem dX5_letter_30 : decode cX5_letter 30 = .ok (.iload_n 2, 1) := by decide +kernel
theorem dX5_letter_31 : decode cX5_letter 31 = .ok (.invokevirtual 68, 3) := by decide +kernel
theorem dX5_letter_34 : decode cX5_letter 34 = .ok (.ireturn, 1) := by decide +kernel
theorem dX5_letter_35 : decode cX5_letter 35 = .ok (.aload_n 0, 1) := by decide +kernel
theorem dX5_letter_36 : decode cX5_letter 36 = .ok (.getfield 28, 3) := by decide +kernel
theorem dX5_letter_39 : decode cX5_letter 39 = .ok (.aload_n 0, 1) := by decide +kernel
theorem dX5_letter_40 : decode cX5_letter 40 = .ok (.getfield 65, 3) := by decide +kernel
theorem dX5_letter_43 : decode cX5_letter 43 = .ok (.iload_n 1, 1) := by decide +kernel
theorem dX5_letter_44 : decode cX5_letter 44 = .ok (.iastore, 1) := by decide +kernel
theorem dX5_letter_45 : decode cX5_letter 45 = .ok (.aload_n 0, 1) := by decide +kernel
theorem dX5_letter_46 : decode cX5_letter 46 = .ok (.dup, 1) := by decide +kernel
theorem dX5_letter_47 : decode cX5_letter 47 = .ok (.getfield 65, 3) := by decide +kernel
theorem dX5_letter_50 : decode cX5_letter 50 = .ok (.iconst 1, 1) := by decide +kernel
theorem dX5_letter_51 : decode cX5_letter 51 = .ok (.iadd, 1) := by decide +kernel
theorem dX5_letter_52 : decode cX5_letter 52 = .ok (.putfield 65, 3) := by decide +kernel
theorem dX5_letter_55 : decode cX5_letter 55 = .ok (.aload_n 0, 1) := by decide +kernel
theorem dX5_letter_56 : decode cX5_letter 56 = .ok (.getfield 65, 3) := by decide +kernel
theorem dX5_letter_59 : decode cX5_letter 59 = .ok (.ireturn, 1) := by decide +kernel
theorem dX5_next_0 : decode cX5_next 0 = .ok (.aload_n 0, 1) := by decide +kernel
theorem dX5_next_1 : decode cX5_next 1 = .ok (.getfield 72, 3) := by decide +kernel
theorem dX5_next_4 : decode cX5_next 4 = .ok (.aload_n 0, 1) := by decide +kernel
theorem dX5_next_5 : decode cX5_next 5 = .ok (.getfield 65, 3) := by decide +kernel
theorem dX5_next_8 : decode cX5_next 8 = .ok (.if_icmp .ge 15, 3) := by decide +kernel
theorem dX5_next_11 : decode cX5_next 11 = .ok (.aload_n 0, 1) := by decide +kernel
theorem dX5_next_12 : decode cX5_next 12 = .ok (.getfield 28, 3) := by decide +kernel
theorem dX5_next_15 : decode cX5_next 15 = .ok (.aload_n 0, 1) := by decide +kernel
theorem dX5_next_16 : decode cX5_next 16 = .ok (.getfield 72, 3) := by decide +kernel
theorem dX5_next_19 : decode cX5_next 19 = .ok (.iaload, 1) := by decide +kernel
theorem dX5_next_20 : decode cX5_next 20 = .ok (.goto 4, 3) := by decide +kernel
theorem dX5_next_23 : decode cX5_next 23 = .ok (.iconst (-1), 1) := by decide +kernel
theorem dX5_next_24 : decode cX5_next 24 = .ok (.ireturn, 1) := by decide +kernel
set_option maxRecDepth 20000 in
theorem ggX5_isDigit_X5_next : GoodIn wsX5_isDigit wsX5_next := goodIn_r _ [5, 6, 7, 8, 12, 13, 14, 15, 16, 17, 18, 19, 20, 21, 22, 23, 24, 25, 26, 27, 28, 29, 30, 31, 32, 33, 34, 35] (by decide +kernel) (by decide +kernel)
set_option maxRecDepth 20000 in
theorem gX5_isDigit_X5_next : GoodIn wsX5_isDigit (wsV RX5 75 RX5 yX5_next wsX5_next) := goodIn_app (goodIn_of _ (by decide +kernel)) ggX5_isDigit_X5_next
set_option maxRecDepth 20000 in
theorem ggX5_isDigit_X5_isIn : GoodIn wsX5_isDigit wsX5_isIn := goodIn_r _ [11] (by decide +kernel) (by decide +kernel)
set_option maxRecDepth 20000 in
theorem gX5_isDigit_X5_isIn : GoodIn wsX5_isDigit (va_wsS RX5 79 yX5_isIn wsX5_isIn) := goodIn_app (goodIn_of _ (by decide +kernel)) ggX5_isDigit_X5_isIn
theorem dX5_isDigit_0 : decode cX5_isDigit 0 = .ok (.aload_n 0, 1) := by decide +kernel
theorem dX5_isDigit_1 : decode cX5_isDigit 1 = .ok (.invokevirtual 75, 3) := by decide +kernel
theorem dX5_isDigit_4 : decode cX5_isDigit 4 = .ok (.bipush 48, 2) := by decide +kernel
theorem dX5_isDigit_6 : decode cX5_isDigit 6 = .ok (.bipush 57, 2) := by decide +kernel
theorem dX5_isDigit_8 : decode cX5_isDigit 8 = .ok (.invokestatic 79, 3) := by decide +kernel
theorem dX5_isDigit_11 : decode cX5_isDigit 11 = .ok (.ireturn, 1) := by decide +kernel
set_option maxRecDepth 20000 in
theorem ggX5_readsNumber_X5_isDigit : GoodIn wsX5_readsNumber wsX5_isDigit := goodIn_r _ [7, 8, 9, 10, 6, 11, 1, 12, 13, 14, 15, 16, 17, 18, 19, 20, 21, 22, 23, 24, 25, 26, 27, 28, 29, 30, 31, 32, 33, 34, 35, 36, 37, 38, 39, 40] (by decide +kernel) (by decide +kernel)
set_option maxRecDepth 20000 in
theorem gX5_readsNumber_X5_isDigit : GoodIn wsX5_readsNumber (wsV RX5 83 RX5 yX5_isDigit wsX5_isDigit) := goodIn_app (goodIn_of _ (by decide +kernel)) ggX5_readsNumber_X5_isDigit
set_option maxRecDepth 20000 in
theorem ggX5_readsNumber_X5_next : GoodIn wsX5_readsNumber wsX5_next := goodIn_r _ [11, 1, 12, 13, 17, 18, 19, 20, 21, 22, 23, 24, 25, 26, 27, 28, 29, 30, 31, 32, 33, 34, 35, 36, 37, 38, 39, 40] (by decide +kernel) (by decide +kernel)
set_option maxRecDepth 20000 in
theorem gX5_readsNumber_X5_next : GoodIn wsX5_readsNumber (wsV RX5 75 RX5 yX5_next wsX5_next) := goodIn_app (goodIn_of _ (by decide +kernel)) ggX5_readsNumber_X5_next
theorem dX5_readsNumber_0 : decode cX5_readsNumber 0 = .ok (.aload_n 0, 1) := by decide +kernel
theorem dX5_readsNumber_1 : decode cX5_readsNumber 1 = .ok (.invokevirtual 83, 3) := by decide +kernel
theorem dX5_readsNumber_4 : decode cX5_readsNumber 4 = .ok (.ifCond .ne 5, 3) := by decide +kernel
theorem dX5_readsNumber_7 : decode cX5_readsNumber 7 = .ok (.iconst 0, 1) := by decide +kernel
theorem dX5_readsNumber_8 : decode cX5_readsNumber 8 = .ok (.ireturn, 1) := by decide +kernel
theorem dX5_readsNumber_9 : decode cX5_readsNumber 9 = .ok (.iconst 0, 1) := by decide +kernel
theorem dX5_readsNumber_10 : decode cX5_readsNumber 10 = .ok (.istore_n 3, 1) := by decide +kernel
theorem dX5_readsNumber_11 : decode cX5_readsNumber 11 = .ok (.iconst 0, 1) := by decide +kernel
theorem dX5_readsNumber_12 : decode cX5_readsNumber 12 = .ok (.istore 4, 2) := by decide +kernel
theorem dX5_readsNumber_14 : decode cX5_readsNumber 14 = .ok (.iload 4, 2) := by decide +kernel
theorem dX5_readsNumber_16 : decode cX5_readsNumber 16 = .ok (.iload_n 2, 1) := by decide +kernel
theorem dX5_readsNumber_17 : decode cX5_readsNumber 17 = .ok (.if_icmp .ge 39, 3) := by decide +kernel
theorem dX5_readsNumber_20 : decode cX5_readsNumber 20 = .ok (.aload_n 0, 1) := by decide +kernel
theorem dX5_readsNumber_21 : decode cX5_readsNumber 21 = .ok (.invokevirtual 83, 3) := by decide +kernel
theorem dX5_readsNumber_24 : decode cX5_readsNumber 24 = .ok (.ifCond .eq 32, 3) := by decide +kernel
theorem dX5_readsNumber_27 : decode cX5_readsNumber 27 = .ok (.bipush 10, 2) := by decide +kernel
theorem dX5_readsNumber_29 : decode cX5_readsNumber 29 = .ok (.iload_n 3, 1) := by decide +kernel
theorem dX5_readsNumber_30 : decode cX5_readsNumber 30 = .ok (.imul, 1) := by decide +kernel
theorem dX5_readsNumber_31 : decode cX5_readsNumber 31 = .ok (.aload_n 0, 1) := by decide +kernel
theorem dX5_readsNumber_32 : decode cX5_readsNumber 32 = .ok (.invokevirtual 75, 3) := by decide +kernel
theorem dX5_readsNumber_35 : decode cX5_readsNumber 35 = .ok (.iadd, 1) := by decide +kernel
theorem dX5_readsNumber_36 : decode cX5_readsNumber 36 = .ok (.bipush 48, 2) := by decide +kernel
theorem dX5_readsNumber_38 : decode cX5_readsNumber 38 = .ok (.isub, 1) := by decide +kernel
theorem dX5_readsNumber_39 : decode cX5_readsNumber 39 = .ok (.istore_n 3, 1) := by decide +kernel
theorem dX5_readsNumber_40 : decode cX5_readsNumber 40 = .ok (.aload_n 0, 1) := by decide +kernel
theorem dX5_readsNumber_41 : decode cX5_readsNumber 41 = .ok (.dup, 1) := by decide +kernel
theorem dX5_readsNumber_42 : decode cX5_readsNumber 42 = .ok (.getfield 72, 3) := by decide +kernel
theorem dX5_readsNumber_45 : decode cX5_readsNumber 45 = .ok (.iconst 1, 1) := by decide +kernel
theorem dX5_readsNumber_46 : decode cX5_readsNumber 46 = .ok (.iadd, 1) := by decide +kernel
theorem dX5_readsNumber_47 : decode cX5_readsNumber 47 = .ok (.putfield 72, 3) := by decide +kernel
theorem dX5_readsNumber_50 : decode cX5_readsNumber 50 = .ok (.iinc 4 1, 3) := by decide +kernel
theorem dX5_readsNumber_53 : decode cX5_readsNumber 53 = .ok (.goto (-39), 3) := by decide +kernel
theorem dX5_readsNumber_56 : decode cX5_readsNumber 56 = .ok (.aload_n 0, 1) := by decide +kernel
theorem dX5_readsNumber_57 : decode cX5_readsNumber 57 = .ok (.getfield 37, 3) := by decide +kernel
theorem dX5_readsNumber_60 : decode cX5_readsNumber 60 = .ok (.iload_n 1, 1) := by decide +kernel
theorem dX5_readsNumber_61 : decode cX5_readsNumber 61 = .ok (.iload_n 3, 1) := by decide +kernel
theorem dX5_readsNumber_62 : decode cX5_readsNumber 62 = .ok (.iastore, 1) := by decide +kernel
theorem dX5_readsNumber_63 : decode cX5_readsNumber 63 = .ok (.iconst 1, 1) := by decide +kernel
theorem dX5_readsNumber_64 : decode cX5_readsNumber 64 = .ok (.ireturn, 1) := by decide +kernel
theorem dX5_kindOf_0 : decode cX5_kindOf 0 = .ok (.iload_n 0, 1) := by decide +kernel
theorem dX5_kindOf_1 : decode cX5_kindOf 1 = .ok (.lookupswitch 71 #[(99, 65), (100, 67), (105, 63), (108, 59), (115, 61), (121, 69)], 59) := by decide +kernel
theorem dX5_kindOf_60 : decode cX5_kindOf 60 = .ok (.iconst 0, 1) := by decide +kernel
theorem dX5_kindOf_61 : decode cX5_kindOf 61 = .ok (.ireturn, 1) := by decide +kernel
theorem dX5_kindOf_62 : decode cX5_kindOf 62 = .ok (.iconst 1, 1) := by decide +kernel
theorem dX5_kindOf_63 : decode cX5_kindOf 63 = .ok (.ireturn, 1) := by decide +kernel
theorem dX5_kindOf_64 : decode cX5_kindOf 64 = .ok (.iconst 2, 1) := by decide +kernel
theorem dX5_kindOf_65 : decode cX5_kindOf 65 = .ok (.ireturn, 1) := by decide +kernel
theorem dX5_kindOf_66 : decode cX5_kindOf 66 = .ok (.iconst 3, 1) := by decide +kernel
theorem dX5_kindOf_67 : decode cX5_kindOf 67 = .ok (.ireturn, 1) := by decide +kernel
theorem dX5_kindOf_68 : decode cX5_kindOf 68 = .ok (.iconst 4, 1) := by decide +kernel
theorem dX5_kindOf_69 : decode cX5_kindOf 69 = .ok (.ireturn, 1) := by decide +kernel
theorem dX5_kindOf_70 : decode cX5_kindOf 70 = .ok (.iconst 5, 1) := by decide +kernel
theorem dX5_kindOf_71 : decode cX5_kindOf 71 = .ok (.ireturn, 1) := by decide +kernel
theorem dX5_kindOf_72 : decode cX5_kindOf 72 = .ok (.iconst (-1), 1) := by decide +kernel
theorem dX5_kindOf_73 : decode cX5_kindOf 73 = .ok (.ireturn, 1) := by decide +kernel
set_option maxRecDepth 20000 in
theorem ggX5_readsLodger_X5_next : GoodIn wsX5_readsLodger wsX5_next := goodIn_r _ [7, 2, 8, 9, 24, 25, 26, 27, 28, 29, 30, 31, 32, 33, 34, 35, 36, 37, 38, 39, 40, 41, 42, 43, 44, 45, 46, 47] (by decide +kernel) (by decide +kernel)
set_option maxRecDepth 20000 in
theorem gX5_readsLodger_X5_next : GoodIn wsX5_readsLodger (wsV RX5 75 RX5 yX5_next wsX5_next) := goodIn_app (goodIn_of _ (by decide +kernel)) ggX5_readsLodger_X5_next
set_option maxRecDepth 20000 in
theorem ggX5_readsLodger_X5_kindOf : GoodIn wsX5_readsLodger wsX5_kindOf := goodIn_r _ [12] (by decide +kernel) (by decide +kernel)
set_option maxRecDepth 20000 in
theorem gX5_readsLodger_X5_kindOf : GoodIn wsX5_readsLodger (va_wsS RX5 87 yX5_kindOf wsX5_kindOf) := goodIn_app (goodIn_of _ (by decide +kernel)) ggX5_readsLodger_X5_kindOf
set_option maxRecDepth 20000 in
theorem ggX5_readsLodger_X5_readsNumber : GoodIn wsX5_readsLodger wsX5_readsNumber := goodIn_r _ [16, 2, 1, 17, 18, 19, 6, 20, 3, 4, 5, 7, 8, 9, 21, 22, 23, 24, 25, 26, 27, 28, 29, 30, 31, 32, 33, 34, 35, 36, 37, 38, 39, 40, 41, 42, 43, 44, 45, 46, 47] (by decide +kernel) (by decide +kernel)
set_option maxRecDepth 20000 in
theorem gX5_readsLodger_X5_readsNumber : GoodIn wsX5_readsLodger (wsV RX5 90 RX5 yX5_readsNumber wsX5_readsNumber) := goodIn_app (goodIn_of _ (by decide +kernel)) ggX5_readsLodger_X5_readsNumber
theorem dX5_readsLodger_0 : decode cX5_readsLodger 0 = .ok (.aload_n 0, 1) := by decide +kernel
theorem dX5_readsLodger_1 : decode cX5_readsLodger 1 = .ok (.getfield 37, 3) := by decide +kernel
theorem dX5_readsLodger_4 : decode cX5_readsLodger 4 = .ok (.iload_n 1, 1) := by decide +kernel
theorem dX5_readsLodger_5 : decode cX5_readsLodger 5 = .ok (.aload_n 0, 1) := by decide +kernel
theorem dX5_readsLodger_6 : decode cX5_readsLodger 6 = .ok (.invokevirtual 75, 3) := by decide +kernel
theorem dX5_readsLodger_9 : decode cX5_readsLodger 9 = .ok (.invokestatic 87, 3) := by decide +kernel
theorem dX5_readsLodger_12 : decode cX5_readsLodger 12 = .ok (.iastore, 1) := by decide +kernel
theorem dX5_readsLodger_13 : decode cX5_readsLodger 13 = .ok (.aload_n 0, 1) := by decide +kernel
theorem dX5_readsLodger_14 : decode cX5_readsLodger 14 = .ok (.getfield 37, 3) := by decide +kernel
theorem dX5_readsLodger_17 : decode cX5_readsLodger 17 = .ok (.iload_n 1, 1) := by decide +kernel
theorem dX5_readsLodger_18 : decode cX5_readsLodger 18 = .ok (.iaload, 1) := by decide +kernel
theorem dX5_readsLodger_19 : decode cX5_readsLodger 19 = .ok (.ifCond .ge 5, 3) := by decide +kernel
theorem dX5_readsLodger_22 : decode cX5_readsLodger 22 = .ok (.iconst 0, 1) := by decide +kernel
theorem dX5_readsLodger_23 : decode cX5_readsLodger 23 = .ok (.ireturn, 1) := by decide +kernel
theorem dX5_readsLodger_24 : decode cX5_readsLodger 24 = .ok (.aload_n 0, 1) := by decide +kernel
theorem dX5_readsLodger_25 : decode cX5_readsLodger 25 = .ok (.dup, 1) := by decide +kernel
theorem dX5_readsLodger_26 : decode cX5_readsLodger 26 = .ok (.getfield 72, 3) := by decide +kernel
theorem dX5_readsLodger_29 : decode cX5_readsLodger 29 = .ok (.iconst 1, 1) := by decide +kernel
theorem dX5_readsLodger_30 : decode cX5_readsLodger 30 = .ok (.iadd, 1) := by decide +kernel
theorem dX5_readsLodger_31 : decode cX5_readsLodger 31 = .ok (.putfield 72, 3) := by decide +kernel
theorem dX5_readsLodger_34 : decode cX5_readsLodger 34 = .ok (.aload_n 0, 1) := by decide +kernel
theorem dX5_readsLodger_35 : decode cX5_readsLodger 35 = .ok (.iload_n 1, 1) := by decide +kernel
theorem dX5_readsLodger_36 : decode cX5_readsLodger 36 = .ok (.iconst 1, 1) := by decide +kernel
theorem dX5_readsLodger_37 : decode cX5_readsLodger 37 = .ok (.iadd, 1) := by decide +kernel
theorem dX5_readsLodger_38 : decode cX5_readsLodger 38 = .ok (.iconst 2, 1) := by decide +kernel
theorem dX5_readsLodger_39 : decode cX5_readsLodger 39 = .ok (.invokevirtual 90, 3) := by decide +kernel
theorem dX5_readsLodger_42 : decode cX5_readsLodger 42 = .ok (.ifCond .eq 12, 3) := by decide +kernel
theorem dX5_readsLodger_45 : decode cX5_readsLodger 45 = .ok (.aload_n 0, 1) := by decide +kernel
theorem dX5_readsLodger_46 : decode cX5_readsLodger 46 = .ok (.invokevirtual 75, 3) := by decide +kernel
theorem dX5_readsLodger_49 : decode cX5_readsLodger 49 = .ok (.bipush 44, 2) := by decide +kernel
theorem dX5_readsLodger_51 : decode cX5_readsLodger 51 = .ok (.if_icmp .eq 5, 3) := by decide +kernel
theorem dX5_readsLodger_54 : decode cX5_readsLodger 54 = .ok (.iconst 0, 1) := by decide +kernel
theorem dX5_readsLodger_55 : decode cX5_readsLodger 55 = .ok (.ireturn, 1) := by decide +kernel
theorem dX5_readsLodger_56 : decode cX5_readsLodger 56 = .ok (.aload_n 0, 1) := by decide +kernel
theorem dX5_readsLodger_57 : decode cX5_readsLodger 57 = .ok (.dup, 1) := by decide +kernel
theorem dX5_readsLodger_58 : decode cX5_readsLodger 58 = .ok (.getfield 72, 3) := by decide +kernel
theorem dX5_readsLodger_61 : decode cX5_readsLodger 61 = .ok (.iconst 1, 1) := by decide +kernel
theorem dX5_readsLodger_62 : decode cX5_readsLodger 62 = .ok (.iadd, 1) := by decide +kernel
theorem dX5_readsLodger_63 : decode cX5_readsLodger 63 = .ok (.putfield 72, 3) := by decide +kernel
theorem dX5_readsLodger_66 : decode cX5_readsLodger 66 = .ok (.aload_n 0, 1) := by decide +kernel
theorem dX5_readsLodger_67 : decode cX5_readsLodger 67 = .ok (.iload_n 1, 1) := by decide +kernel
theorem dX5_readsLodger_68 : decode cX5_readsLodger 68 = .ok (.iconst 2, 1) := by decide +kernel
theorem dX5_readsLodger_69 : decode cX5_readsLodger 69 = .ok (.iadd, 1) := by decide +kernel
theorem dX5_readsLodger_70 : decode cX5_readsLodger 70 = .ok (.iconst 1, 1) := by decide +kernel
theorem dX5_readsLodger_71 : decode cX5_readsLodger 71 = .ok (.invokevirtual 90, 3) := by decide +kernel
theorem dX5_readsLodger_74 : decode cX5_readsLodger 74 = .ok (.ireturn, 1) := by decide +kernel
set_option maxRecDepth 20000 in
theorem ggX5_readsDeaths_X5_isDigit : GoodIn wsX5_readsDeaths wsX5_isDigit := goodIn_r _ [9, 10, 11, 12, 8, 13, 3, 14, 15, 16, 17, 18, 19, 20, 21, 22, 23, 24, 25, 26, 27, 28, 29, 30, 31, 32, 33, 34, 35, 36, 37, 38, 39, 40, 41, 42] (by decide +kernel) (by decide +kernel)
set_option maxRecDepth 20000 in
theorem gX5_readsDeaths_X5_isDigit : GoodIn wsX5_readsDeaths (wsV RX5 83 RX5 yX5_isDigit wsX5_isDigit) := goodIn_app (goodIn_of _ (by decide +kernel)) ggX5_readsDeaths_X5_isDigit
theorem dX5_readsDeaths_0 : decode cX5_readsDeaths 0 = .ok (.aload_n 0, 1) := by decide +kernel
theorem dX5_readsDeaths_1 : decode cX5_readsDeaths 1 = .ok (.getfield 40, 3) := by decide +kernel
theorem dX5_readsDeaths_4 : decode cX5_readsDeaths 4 = .ok (.aload_n 0, 1) := by decide +kernel
theorem dX5_readsDeaths_5 : decode cX5_readsDeaths 5 = .ok (.getfield 94, 3) := by decide +kernel
theorem dX5_readsDeaths_8 : decode cX5_readsDeaths 8 = .ok (.aload_n 0, 1) := by decide +kernel
theorem dX5_readsDeaths_9 : decode cX5_readsDeaths 9 = .ok (.getfield 72, 3) := by decide +kernel
theorem dX5_readsDeaths_12 : decode cX5_readsDeaths 12 = .ok (.iastore, 1) := by decide +kernel
theorem dX5_readsDeaths_13 : decode cX5_readsDeaths 13 = .ok (.aload_n 0, 1) := by decide +kernel
theorem dX5_readsDeaths_14 : decode cX5_readsDeaths 14 = .ok (.getfield 72, 3) := by decide +kernel
theorem dX5_readsDeaths_17 : decode cX5_readsDeaths 17 = .ok (.aload_n 0, 1) := by decide +kernel
theorem dX5_readsDeaths_18 : decode cX5_readsDeaths 18 = .ok (.getfield 40, 3) := by decide +kernel
theorem dX5_readsDeaths_21 : decode cX5_readsDeaths 21 = .ok (.aload_n 0, 1) := by decide +kernel
theorem dX5_readsDeaths_22 : decode cX5_readsDeaths 22 = .ok (.getfield 94, 3) := by decide +kernel
theorem dX5_readsDeaths_25 : decode cX5_readsDeaths 25 = .ok (.iaload, 1) := by decide +kernel
theorem dX5_readsDeaths_26 : decode cX5_readsDeaths 26 = .ok (.isub, 1) := by decide +kernel
theorem dX5_readsDeaths_27 : decode cX5_readsDeaths 27 = .ok (.bipush 8, 2) := by decide +kernel
theorem dX5_readsDeaths_29 : decode cX5_readsDeaths 29 = .ok (.if_icmp .ge 23, 3) := by decide +kernel
theorem dX5_readsDeaths_32 : decode cX5_readsDeaths 32 = .ok (.aload_n 0, 1) := by decide +kernel
theorem dX5_readsDeaths_33 : decode cX5_readsDeaths 33 = .ok (.invokevirtual 83, 3) := by decide +kernel
theorem dX5_readsDeaths_36 : decode cX5_readsDeaths 36 = .ok (.ifCond .eq 16, 3) := by decide +kernel
theorem dX5_readsDeaths_39 : decode cX5_readsDeaths 39 = .ok (.aload_n 0, 1) := by decide +kernel
theorem dX5_readsDeaths_40 : decode cX5_readsDeaths 40 = .ok (.dup, 1) := by decide +kernel
theorem dX5_readsDeaths_41 : decode cX5_readsDeaths 41 = .ok (.getfield 72, 3) := by decide +kernel
theorem dX5_readsDeaths_44 : decode cX5_readsDeaths 44 = .ok (.iconst 1, 1) := by decide +kernel
theorem dX5_readsDeaths_45 : decode cX5_readsDeaths 45 = .ok (.iadd, 1) := by decide +kernel
theorem dX5_readsDeaths_46 : decode cX5_readsDeaths 46 = .ok (.putfield 72, 3) := by decide +kernel
theorem dX5_readsDeaths_49 : decode cX5_readsDeaths 49 = .ok (.goto (-36), 3) := by decide +kernel
theorem dX5_readsDeaths_52 : decode cX5_readsDeaths 52 = .ok (.aload_n 0, 1) := by decide +kernel
theorem dX5_readsDeaths_53 : decode cX5_readsDeaths 53 = .ok (.getfield 43, 3) := by decide +kernel
theorem dX5_readsDeaths_56 : decode cX5_readsDeaths 56 = .ok (.aload_n 0, 1) := by decide +kernel
theorem dX5_readsDeaths_57 : decode cX5_readsDeaths 57 = .ok (.getfield 94, 3) := by decide +kernel
theorem dX5_readsDeaths_60 : decode cX5_readsDeaths 60 = .ok (.aload_n 0, 1) := by decide +kernel
theorem dX5_readsDeaths_61 : decode cX5_readsDeaths 61 = .ok (.getfield 72, 3) := by decide +kernel
theorem dX5_readsDeaths_64 : decode cX5_readsDeaths 64 = .ok (.iastore, 1) := by decide +kernel
theorem dX5_readsDeaths_65 : decode cX5_readsDeaths 65 = .ok (.iconst 1, 1) := by decide +kernel
theorem dX5_readsDeaths_66 : decode cX5_readsDeaths 66 = .ok (.ireturn, 1) := by decide +kernel
set_option maxRecDepth 20000 in
theorem ggX5_statement_X5_next : GoodIn wsX5_statement wsX5_next := goodIn_r _ [9, 4, 10, 11, 37, 38, 39, 40, 41, 42, 43, 44, 45, 46, 47, 48, 49, 50, 51, 52, 53, 54, 55, 56, 57, 58, 59, 60] (by decide +kernel) (by decide +kernel)
set_option maxRecDepth 20000 in
theorem gX5_statement_X5_next : GoodIn wsX5_statement (wsV RX5 75 RX5 yX5_next wsX5_next) := goodIn_app (goodIn_of _ (by decide +kernel)) ggX5_statement_X5_next
set_option maxRecDepth 20000 in
theorem ggX5_statement_X5_readsLodger : GoodIn wsX5_statement wsX5_readsLodger := goodIn_r _ [15, 16, 4, 5, 6, 7, 8, 9, 10, 11, 17, 18, 19, 20, 21, 22, 23, 24, 25, 26, 27, 28, 29, 30, 37, 38, 39, 40, 41, 42, 43, 44, 45, 46, 47, 48, 49, 50, 51, 52, 53, 54, 55, 56, 57, 58, 59, 60] (by decide +kernel) (by decide +kernel)
set_option maxRecDepth 20000 in
theorem gX5_statement_X5_readsLodger : GoodIn wsX5_statement (wsV RX5 97 RX5 yX5_readsLodger wsX5_readsLodger) := goodIn_app (goodIn_of _ (by decide +kernel)) ggX5_statement_X5_readsLodger
set_option maxRecDepth 20000 in
theorem ggX5_statement_X5_readsNumber : GoodIn wsX5_statement wsX5_readsNumber := goodIn_r _ [23, 4, 16, 24, 25, 26, 8, 27, 5, 6, 7, 9, 10, 11, 28, 29, 30, 37, 38, 39, 40, 41, 42, 43, 44, 45, 46, 47, 48, 49, 50, 51, 52, 53, 54, 55, 56, 57, 58, 59, 60] (by decide +kernel) (by decide +kernel)
set_option maxRecDepth 20000 in
theorem gX5_statement_X5_readsNumber : GoodIn wsX5_statement (wsV RX5 90 RX5 yX5_readsNumber wsX5_readsNumber) := goodIn_app (goodIn_of _ (by decide +kernel)) ggX5_statement_X5_readsNumber
set_option maxRecDepth 20000 in
theorem ggX5_statement_X5_readsDeaths : GoodIn wsX5_statement wsX5_readsDeaths := goodIn_r _ [34, 35, 2, 4, 36, 24, 25, 26, 8, 27, 5, 6, 7, 9, 10, 11, 28, 29, 30, 37, 38, 39, 40, 41, 42, 43, 44, 45, 46, 47, 48, 49, 50, 51, 52, 53, 54, 55, 56, 57, 58, 59, 60] (by decide +kernel) (by decide +kernel)
set_option maxRecDepth 20000 in
theorem gX5_statement_X5_readsDeaths : GoodIn wsX5_statement (wsV RX5 101 RX5 yX5_readsDeaths wsX5_readsDeaths) := goodIn_app (goodIn_of _ (by decide +kernel)) ggX5_statement_X5_readsDeaths
theorem dX5_statement_0 : decode cX5_statement 0 = .ok (.aload_n 0, 1) := by decide +kernel
theorem dX5_statement_1 : decode cX5_statement 1 = .ok (.invokevirtual 75, 3) := by decide +kernel
theorem dX5_statement_4 : decode cX5_statement 4 = .ok (.istore_n 1, 1) := by decide +kernel
theorem dX5_statement_5 : decode cX5_statement 5 = .ok (.iload_n 1, 1) := by decide +kernel
theorem dX5_statement_6 : decode cX5_statement 6 = .ok (.bipush 108, 2) := by decide +kernel
theorem dX5_statement_8 : decode cX5_statement 8 = .ok (.if_icmp .eq 17, 3) := by decide +kernel
theorem dX5_statement_11 : decode cX5_statement 11 = .ok (.iload_n 1, 1) := by decide +kernel
theorem dX5_statement_12 : decode cX5_statement 12 = .ok (.bipush 119, 2) := by decide +kernel
theorem dX5_statement_14 : decode cX5_statement 14 = .ok (.if_icmp .eq 11, 3) := by decide +kernel
theorem dX5_statement_17 : decode cX5_statement 17 = .ok (.iload_n 1, 1) := by decide +kernel
theorem dX5_statement_18 : decode cX5_statement 18 = .ok (.bipush 121, 2) := by decide +kernel
theorem dX5_statement_20 : decode cX5_statement 20 = .ok (.if_icmp .eq 5, 3) := by decide +kernel
theorem dX5_statement_23 : decode cX5_statement 23 = .ok (.iconst 0, 1) := by decide +kernel
theorem dX5_statement_24 : decode cX5_statement 24 = .ok (.ireturn, 1) := by decide +kernel
theorem dX5_statement_25 : decode cX5_statement 25 = .ok (.aload_n 0, 1) := by decide +kernel
theorem dX5_statement_26 : decode cX5_statement 26 = .ok (.getfield 31, 3) := by decide +kernel
theorem dX5_statement_29 : decode cX5_statement 29 = .ok (.aload_n 0, 1) := by decide +kernel
theorem dX5_statement_30 : decode cX5_statement 30 = .ok (.getfield 94, 3) := by decide +kernel
theorem dX5_statement_33 : decode cX5_statement 33 = .ok (.iload_n 1, 1) := by decide +kernel
theorem dX5_statement_34 : decode cX5_statement 34 = .ok (.iastore, 1) := by decide +kernel
theorem dX5_statement_35 : decode cX5_statement 35 = .ok (.aload_n 0, 1) := by decide +kernel
theorem dX5_statement_36 : decode cX5_statement 36 = .ok (.getfield 34, 3) := by decide +kernel
theorem dX5_statement_39 : decode cX5_statement 39 = .ok (.aload_n 0, 1) := by decide +kernel
theorem dX5_statement_40 : decode cX5_statement 40 = .ok (.getfield 94, 3) := by decide +kernel
theorem dX5_statement_43 : decode cX5_statement 43 = .ok (.aload_n 0, 1) := by decide +kernel
theorem dX5_statement_44 : decode cX5_statement 44 = .ok (.getfield 72, 3) := by decide +kernel
theorem dX5_statement_47 : decode cX5_statement 47 = .ok (.iastore, 1) := by decide +kernel
theorem dX5_statement_48 : decode cX5_statement 48 = .ok (.aload_n 0, 1) := by decide +kernel
theorem dX5_statement_49 : decode cX5_statement 49 = .ok (.dup, 1) := by decide +kernel
theorem dX5_statement_50 : decode cX5_statement 50 = .ok (.getfield 72, 3) := by decide +kernel
theorem dX5_statement_53 : decode cX5_statement 53 = .ok (.iconst 1, 1) := by decide +kernel
theorem dX5_statement_54 : decode cX5_statement 54 = .ok (.iadd, 1) := by decide +kernel
theorem dX5_statement_55 : decode cX5_statement 55 = .ok (.putfield 72, 3) := by decide +kernel
theorem dX5_statement_58 : decode cX5_statement 58 = .ok (.iconst 3, 1) := by decide +kernel
theorem dX5_statement_59 : decode cX5_statement 59 = .ok (.aload_n 0, 1) := by decide +kernel
theorem dX5_statement_60 : decode cX5_statement 60 = .ok (.getfield 94, 3) := by decide +kernel
theorem dX5_statement_63 : decode cX5_statement 63 = .ok (.imul, 1) := by decide +kernel
theorem dX5_statement_64 : decode cX5_statement 64 = .ok (.istore_n 2, 1) := by decide +kernel
theorem dX5_statement_65 : decode cX5_statement 65 = .ok (.iload_n 1, 1) := by decide +kernel
theorem dX5_statement_66 : decode cX5_statement 66 = .ok (.bipush 108, 2) := by decide +kernel
theorem dX5_statement_68 : decode cX5_statement 68 = .ok (.if_icmp .ne 11, 3) := by decide +kernel
theorem dX5_statement_71 : decode cX5_statement 71 = .ok (.aload_n 0, 1) := by decide +kernel
theorem dX5_statement_72 : decode cX5_statement 72 = .ok (.iload_n 2, 1) := by decide +kernel
theorem dX5_statement_73 : decode cX5_statement 73 = .ok (.invokevirtual 97, 3) := by decide +kernel
theorem dX5_statement_76 : decode cX5_statement 76 = .ok (.goto 41, 3) := by decide +kernel
theorem dX5_statement_79 : decode cX5_statement 79 = .ok (.iload_n 1, 1) := by decide +kernel
theorem dX5_statement_80 : decode cX5_statement 80 = .ok (.bipush 119, 2) := by decide +kernel
theorem dX5_statement_82 : decode cX5_statement 82 = .ok (.if_icmp .ne 31, 3) := by decide +kernel
theorem dX5_statement_85 : decode cX5_statement 85 = .ok (.aload_n 0, 1) := by decide +kernel
theorem dX5_statement_86 : decode cX5_statement 86 = .ok (.iload_n 2, 1) := by decide +kernel
theorem dX5_statement_87 : decode cX5_statement 87 = .ok (.iconst 1, 1) := by decide +kernel
theorem dX5_statement_88 : decode cX5_statement 88 = .ok (.invokevirtual 90, 3) := by decide +kernel
theorem dX5_statement_91 : decode cX5_statement 91 = .ok (.ifCond .eq 18, 3) := by decide +kernel
theorem dX5_statement_94 : decode cX5_statement 94 = .ok (.aload_n 0, 1) := by decide +kernel
theorem dX5_statement_95 : decode cX5_statement 95 = .ok (.iload_n 2, 1) := by decide +kernel
theorem dX5_statement_96 : decode cX5_statement 96 = .ok (.iconst 1, 1) := by decide +kernel
theorem dX5_statement_97 : decode cX5_statement 97 = .ok (.iadd, 1) := by decide +kernel
theorem dX5_statement_98 : decode cX5_statement 98 = .ok (.iconst 1, 1) := by decide +kernel
theorem dX5_statement_99 : decode cX5_statement 99 = .ok (.invokevirtual 90, 3) := by decide +kernel
theorem dX5_statement_102 : decode cX5_statement 102 = .ok (.ifCond .eq 7, 3) := by decide +kernel
theorem dX5_statement_105 : decode cX5_statement 105 = .ok (.iconst 1, 1) := by decide +kernel
theorem dX5_statement_106 : decode cX5_statement 106 = .ok (.goto 11, 3) := by decide +kernel
theorem dX5_statement_109 : decode cX5_statement 109 = .ok (.iconst 0, 1) := by decide +kernel
theorem dX5_statement_110 : decode cX5_statement 110 = .ok (.goto 7, 3) := by decide +kernel
theorem dX5_statement_113 : decode cX5_statement 113 = .ok (.aload_n 0, 1) := by decide +kernel
theorem dX5_statement_114 : decode cX5_statement 114 = .ok (.invokevirtual 101, 3) := by decide +kernel
theorem dX5_statement_117 : decode cX5_statement 117 = .ok (.istore_n 3, 1) := by decide +kernel
theorem dX5_statement_118 : decode cX5_statement 118 = .ok (.iload_n 3, 1) := by decide +kernel
theorem dX5_statement_119 : decode cX5_statement 119 = .ok (.ifCond .eq 12, 3) := by decide +kernel
theorem dX5_statement_122 : decode cX5_statement 122 = .ok (.aload_n 0, 1) := by decide +kernel
theorem dX5_statement_123 : decode cX5_statement 123 = .ok (.invokevirtual 75, 3) := by decide +kernel
theorem dX5_statement_126 : decode cX5_statement 126 = .ok (.bipush 59, 2) := by decide +kernel
theorem dX5_statement_128 : decode cX5_statement 128 = .ok (.if_icmp .eq 5, 3) := by decide +kernel
theorem dX5_statement_131 : decode cX5_statement 131 = .ok (.iconst 0, 1) := by decide +kernel
theorem dX5_statement_132 : decode cX5_statement 132 = .ok (.ireturn, 1) := by decide +kernel
theorem dX5_statement_133 : decode cX5_statement 133 = .ok (.aload_n 0, 1) := by decide +kernel
theorem dX5_statement_134 : decode cX5_statement 134 = .ok (.dup, 1) := by decide +kernel
theorem dX5_statement_135 : decode cX5_statement 135 = .ok (.getfield 72, 3) := by decide +kernel
theorem dX5_statement_138 : decode cX5_statement 138 = .ok (.iconst 1, 1) := by decide +kernel
theorem dX5_statement_139 : decode cX5_statement 139 = .ok (.iadd, 1) := by decide +kernel
theorem dX5_statement_140 : decode cX5_statement 140 = .ok (.putfield 72, 3) := by decide +kernel
theorem dX5_statement_143 : decode cX5_statement 143 = .ok (.iconst 1, 1) := by decide +kernel
theorem dX5_statement_144 : decode cX5_statement 144 = .ok (.ireturn, 1) := by decide +kernel
set_option maxRecDepth 20000 in
theorem ggX5_comesYear_X5_isAlive : GoodIn wsX5_comesYear wsX5_isAlive := goodIn_r _ [9, 10, 11, 26, 27, 28, 29, 30, 31, 32, 33, 34, 35, 36, 37, 38, 39, 40, 41, 42, 43, 44, 45, 46, 47, 48, 49] (by decide +kernel) (by decide +kernel)
set_option maxRecDepth 20000 in
theorem gX5_comesYear_X5_isAlive : GoodIn wsX5_comesYear (wsV RX5 104 RX5 yX5_isAlive wsX5_isAlive) := goodIn_app (goodIn_of _ (by decide +kernel)) ggX5_comesYear_X5_isAlive
set_option maxRecDepth 20000 in
theorem ggX5_comesYear_X5_goesYear : GoodIn wsX5_comesYear wsX5_goesYear := goodIn_r _ [15, 10, 16, 11, 17, 4, 18, 19, 20, 8, 21, 22, 23, 24, 25, 26, 27, 28, 29, 30, 31, 32, 33, 34, 35, 36, 37, 38, 39, 40, 41, 42, 43, 44, 45, 46, 47, 48, 49] (by decide +kernel) (by decide +kernel)
set_option maxRecDepth 20000 in
theorem gX5_comesYear_X5_goesYear : GoodIn wsX5_comesYear (wsV RX5 110 RX5 yX5_goesYear wsX5_goesYear) := goodIn_app (goodIn_of _ (by decide +kernel)) ggX5_comesYear_X5_goesYear
theorem dX5_comesYear_0 : decode cX5_comesYear 0 = .ok (.iconst 0, 1) := by decide +kernel
theorem dX5_comesYear_1 : decode cX5_comesYear 1 = .ok (.istore_n 2, 1) := by decide +kernel
theorem dX5_comesYear_2 : decode cX5_comesYear 2 = .ok (.aload_n 0, 1) := by decide +kernel
theorem dX5_comesYear_3 : decode cX5_comesYear 3 = .ok (.getfield 40, 3) := by decide +kernel
theorem dX5_comesYear_6 : decode cX5_comesYear 6 = .ok (.iload_n 1, 1) := by decide +kernel
theorem dX5_comesYear_7 : decode cX5_comesYear 7 = .ok (.iaload, 1) := by decide +kernel
theorem dX5_comesYear_8 : decode cX5_comesYear 8 = .ok (.istore_n 3, 1) := by decide +kernel
theorem dX5_comesYear_9 : decode cX5_comesYear 9 = .ok (.iload_n 3, 1) := by decide +kernel
theorem dX5_comesYear_10 : decode cX5_comesYear 10 = .ok (.aload_n 0, 1) := by decide +kernel
theorem dX5_comesYear_11 : decode cX5_comesYear 11 = .ok (.getfield 43, 3) := by decide +kernel
theorem dX5_comesYear_14 : decode cX5_comesYear 14 = .ok (.iload_n 1, 1) := by decide +kernel
theorem dX5_comesYear_15 : decode cX5_comesYear 15 = .ok (.iaload, 1) := by decide +kernel
theorem dX5_comesYear_16 : decode cX5_comesYear 16 = .ok (.if_icmp .ge 48, 3) := by decide +kernel
theorem dX5_comesYear_19 : decode cX5_comesYear 19 = .ok (.aload_n 0, 1) := by decide +kernel
theorem dX5_comesYear_20 : decode cX5_comesYear 20 = .ok (.getfield 28, 3) := by decide +kernel
theorem dX5_comesYear_23 : decode cX5_comesYear 23 = .ok (.iload_n 3, 1) := by decide +kernel
theorem dX5_comesYear_24 : decode cX5_comesYear 24 = .ok (.iaload, 1) := by decide +kernel
theorem dX5_comesYear_25 : decode cX5_comesYear 25 = .ok (.bipush 48, 2) := by decide +kernel
theorem dX5_comesYear_27 : decode cX5_comesYear 27 = .ok (.isub, 1) := by decide +kernel
theorem dX5_comesYear_28 : decode cX5_comesYear 28 = .ok (.istore 4, 2) := by decide +kernel
theorem dX5_comesYear_30 : decode cX5_comesYear 30 = .ok (.aload_n 0, 1) := by decide +kernel
theorem dX5_comesYear_31 : decode cX5_comesYear 31 = .ok (.iload 4, 2) := by decide +kernel
theorem dX5_comesYear_33 : decode cX5_comesYear 33 = .ok (.invokevirtual 104, 3) := by decide +kernel
theorem dX5_comesYear_36 : decode cX5_comesYear 36 = .ok (.ifCond .eq 13, 3) := by decide +kernel
theorem dX5_comesYear_39 : decode cX5_comesYear 39 = .ok (.iload_n 2, 1) := by decide +kernel
theorem dX5_comesYear_40 : decode cX5_comesYear 40 = .ok (.iload 4, 2) := by decide +kernel
theorem dX5_comesYear_42 : decode cX5_comesYear 42 = .ok (.ishr, 1) := by decide +kernel
theorem dX5_comesYear_43 : decode cX5_comesYear 43 = .ok (.iconst 1, 1) := by decide +kernel
theorem dX5_comesYear_44 : decode cX5_comesYear 44 = .ok (.iand, 1) := by decide +kernel
theorem dX5_comesYear_45 : decode cX5_comesYear 45 = .ok (.iconst 1, 1) := by decide +kernel
theorem dX5_comesYear_46 : decode cX5_comesYear 46 = .ok (.if_icmp .ne 5, 3) := by decide +kernel
theorem dX5_comesYear_49 : decode cX5_comesYear 49 = .ok (.iconst 0, 1) := by decide +kernel
theorem dX5_comesYear_50 : decode cX5_comesYear 50 = .ok (.ireturn, 1) := by decide +kernel
theorem dX5_comesYear_51 : decode cX5_comesYear 51 = .ok (.iload_n 2, 1) := by decide +kernel
theorem dX5_comesYear_52 : decode cX5_comesYear 52 = .ok (.iconst 1, 1) := by decide +kernel
theorem dX5_comesYear_53 : decode cX5_comesYear 53 = .ok (.iload 4, 2) := by decide +kernel
theorem dX5_comesYear_55 : decode cX5_comesYear 55 = .ok (.ishl, 1) := by decide +kernel
theorem dX5_comesYear_56 : decode cX5_comesYear 56 = .ok (.ior, 1) := by decide +kernel
theorem dX5_comesYear_57 : decode cX5_comesYear 57 = .ok (.istore_n 2, 1) := by decide +kernel
theorem dX5_comesYear_58 : decode cX5_comesYear 58 = .ok (.iinc 3 1, 3) := by decide +kernel
theorem dX5_comesYear_61 : decode cX5_comesYear 61 = .ok (.goto (-52), 3) := by decide +kernel
theorem dX5_comesYear_64 : decode cX5_comesYear 64 = .ok (.aload_n 0, 1) := by decide +kernel
theorem dX5_comesYear_65 : decode cX5_comesYear 65 = .ok (.getfield 107, 3) := by decide +kernel
theorem dX5_comesYear_68 : decode cX5_comesYear 68 = .ok (.bipush 99, 2) := by decide +kernel
theorem dX5_comesYear_70 : decode cX5_comesYear 70 = .ok (.if_icmp .ne 5, 3) := by decide +kernel
theorem dX5_comesYear_73 : decode cX5_comesYear 73 = .ok (.iconst 0, 1) := by decide +kernel
theorem dX5_comesYear_74 : decode cX5_comesYear 74 = .ok (.ireturn, 1) := by decide +kernel
theorem dX5_comesYear_75 : decode cX5_comesYear 75 = .ok (.aload_n 0, 1) := by decide +kernel
theorem dX5_comesYear_76 : decode cX5_comesYear 76 = .ok (.iload_n 2, 1) := by decide +kernel
theorem dX5_comesYear_77 : decode cX5_comesYear 77 = .ok (.invokevirtual 110, 3) := by decide +kernel
theorem dX5_comesYear_80 : decode cX5_comesYear 80 = .ok (.pop, 1) := by decide +kernel
theorem dX5_comesYear_81 : decode cX5_comesYear 81 = .ok (.iconst 1, 1) := by decide +kernel
theorem dX5_comesYear_82 : decode cX5_comesYear 82 = .ok (.ireturn, 1) := by decide +kernel
set_option maxRecDepth 20000 in
theorem ggX5_comesIn_X5_entryOf : GoodIn wsX5_comesIn wsX5_entryOf := goodIn_r _ [10] (by decide +kernel) (by decide +kernel)
set_option maxRecDepth 20000 in
theorem gX5_comesIn_X5_entryOf : GoodIn wsX5_comesIn (va_wsS RX5 113 yX5_entryOf wsX5_entryOf) := goodIn_app (goodIn_of _ (by decide +kernel)) ggX5_comesIn_X5_entryOf
set_option maxRecDepth 20000 in
theorem ggX5_comesIn_X5_whoOn : GoodIn wsX5_comesIn wsX5_whoOn := goodIn_r _ [14, 1, 4, 15, 16, 17, 18, 19, 20, 21, 22, 23, 24, 25, 26, 27, 28, 29, 30, 31, 32, 33, 34, 35, 36, 37, 38] (by decide +kernel) (by decide +kernel)
set_option maxRecDepth 20000 in
theorem gX5_comesIn_X5_whoOn : GoodIn wsX5_comesIn (wsV RX5 117 RX5 yX5_whoOn wsX5_whoOn) := goodIn_app (goodIn_of _ (by decide +kernel)) ggX5_comesIn_X5_whoOn
theorem dX5_comesIn_0 : decode cX5_comesIn 0 = .ok (.iload_n 1, 1) := by decide +kernel
theorem dX5_comesIn_1 : decode cX5_comesIn 1 = .ok (.iload_n 2, 1) := by decide +kernel
theorem dX5_comesIn_2 : decode cX5_comesIn 2 = .ok (.invokestatic 113, 3) := by decide +kernel
theorem dX5_comesIn_5 : decode cX5_comesIn 5 = .ok (.istore 4, 2) := by decide +kernel
theorem dX5_comesIn_7 : decode cX5_comesIn 7 = .ok (.aload_n 0, 1) := by decide +kernel
theorem dX5_comesIn_8 : decode cX5_comesIn 8 = .ok (.getfield 57, 3) := by decide +kernel
theorem dX5_comesIn_11 : decode cX5_comesIn 11 = .ok (.bipush 8, 2) := by decide +kernel
theorem dX5_comesIn_13 : decode cX5_comesIn 13 = .ok (.if_icmp .eq 12, 3) := by decide +kernel
theorem dX5_comesIn_16 : decode cX5_comesIn 16 = .ok (.aload_n 0, 1) := by decide +kernel
theorem dX5_comesIn_17 : decode cX5_comesIn 17 = .ok (.iload 4, 2) := by decide +kernel
theorem dX5_comesIn_19 : decode cX5_comesIn 19 = .ok (.invokevirtual 117, 3) := by decide +kernel
theorem dX5_comesIn_22 : decode cX5_comesIn 22 = .ok (.ifCond .lt 5, 3) := by decide +kernel
theorem dX5_comesIn_25 : decode cX5_comesIn 25 = .ok (.iconst 0, 1) := by decide +kernel
theorem dX5_comesIn_26 : decode cX5_comesIn 26 = .ok (.ireturn, 1) := by decide +kernel
theorem dX5_comesIn_27 : decode cX5_comesIn 27 = .ok (.aload_n 0, 1) := by decide +kernel
theorem dX5_comesIn_28 : decode cX5_comesIn 28 = .ok (.getfield 13, 3) := by decide +kernel
theorem dX5_comesIn_31 : decode cX5_comesIn 31 = .ok (.aload_n 0, 1) := by decide +kernel
theorem dX5_comesIn_32 : decode cX5_comesIn 32 = .ok (.getfield 57, 3) := by decide +kernel
theorem dX5_comesIn_35 : decode cX5_comesIn 35 = .ok (.iload_n 1, 1) := by decide +kernel
theorem dX5_comesIn_36 : decode cX5_comesIn 36 = .ok (.iastore, 1) := by decide +kernel
theorem dX5_comesIn_37 : decode cX5_comesIn 37 = .ok (.aload_n 0, 1) := by decide +kernel
theorem dX5_comesIn_38 : decode cX5_comesIn 38 = .ok (.getfield 16, 3) := by decide +kernel
theorem dX5_comesIn_41 : decode cX5_comesIn 41 = .ok (.aload_n 0, 1) := by decide +kernel
theorem dX5_comesIn_42 : decode cX5_comesIn 42 = .ok (.getfield 57, 3) := by decide +kernel
theorem dX5_comesIn_45 : decode cX5_comesIn 45 = .ok (.iload_n 2, 1) := by decide +kernel
theorem dX5_comesIn_46 : decode cX5_comesIn 46 = .ok (.iastore, 1) := by decide +kernel
theorem dX5_comesIn_47 : decode cX5_comesIn 47 = .ok (.aload_n 0, 1) := by decide +kernel
theorem dX5_comesIn_48 : decode cX5_comesIn 48 = .ok (.getfield 19, 3) := by decide +kernel
theorem dX5_comesIn_51 : decode cX5_comesIn 51 = .ok (.aload_n 0, 1) := by decide +kernel
theorem dX5_comesIn_52 : decode cX5_comesIn 52 = .ok (.getfield 57, 3) := by decide +kernel
theorem dX5_comesIn_55 : decode cX5_comesIn 55 = .ok (.iload 4, 2) := by decide +kernel
theorem dX5_comesIn_57 : decode cX5_comesIn 57 = .ok (.iastore, 1) := by decide +kernel
theorem dX5_comesIn_58 : decode cX5_comesIn 58 = .ok (.aload_n 0, 1) := by decide +kernel
theorem dX5_comesIn_59 : decode cX5_comesIn 59 = .ok (.getfield 22, 3) := by decide +kernel
theorem dX5_comesIn_62 : decode cX5_comesIn 62 = .ok (.aload_n 0, 1) := by decide +kernel
theorem dX5_comesIn_63 : decode cX5_comesIn 63 = .ok (.getfield 57, 3) := by decide +kernel
theorem dX5_comesIn_66 : decode cX5_comesIn 66 = .ok (.iload_n 3, 1) := by decide +kernel
theorem dX5_comesIn_67 : decode cX5_comesIn 67 = .ok (.iastore, 1) := by decide +kernel
theorem dX5_comesIn_68 : decode cX5_comesIn 68 = .ok (.aload_n 0, 1) := by decide +kernel
theorem dX5_comesIn_69 : decode cX5_comesIn 69 = .ok (.getfield 25, 3) := by decide +kernel
theorem dX5_comesIn_72 : decode cX5_comesIn 72 = .ok (.aload_n 0, 1) := by decide +kernel
theorem dX5_comesIn_73 : decode cX5_comesIn 73 = .ok (.getfield 57, 3) := by decide +kernel
theorem dX5_comesIn_76 : decode cX5_comesIn 76 = .ok (.bipush (-9), 2) := by decide +kernel
theorem dX5_comesIn_78 : decode cX5_comesIn 78 = .ok (.iastore, 1) := by decide +kernel
theorem dX5_comesIn_79 : decode cX5_comesIn 79 = .ok (.aload_n 0, 1) := by decide +kernel
theorem dX5_comesIn_80 : decode cX5_comesIn 80 = .ok (.dup, 1) := by decide +kernel
theorem dX5_comesIn_81 : decode cX5_comesIn 81 = .ok (.getfield 57, 3) := by decide +kernel
theorem dX5_comesIn_84 : decode cX5_comesIn 84 = .ok (.iconst 1, 1) := by decide +kernel
theorem dX5_comesIn_85 : decode cX5_comesIn 85 = .ok (.iadd, 1) := by decide +kernel
theorem dX5_comesIn_86 : decode cX5_comesIn 86 = .ok (.putfield 57, 3) := by decide +kernel
theorem dX5_comesIn_89 : decode cX5_comesIn 89 = .ok (.iconst 1, 1) := by decide +kernel
theorem dX5_comesIn_90 : decode cX5_comesIn 90 = .ok (.ireturn, 1) := by decide +kernel
set_option maxRecDepth 20000 in
theorem ggX5_comes_X5_comesIn : GoodIn wsX5_comes wsX5_comesIn := goodIn_r _ [8, 9, 10, 11, 12, 13, 3, 14, 15, 7, 16, 17, 18, 19, 20, 45, 46, 47, 48, 49, 50, 51, 52, 53, 54, 55, 56, 57, 58, 59, 60, 61, 62, 63, 64, 65, 66, 67, 68] (by decide +kernel) (by decide +kernel)
set_option maxRecDepth 20000 in
theorem gX5_comes_X5_comesIn : GoodIn wsX5_comes (wsV RX5 120 RX5 yX5_comesIn wsX5_comesIn) := goodIn_app (goodIn_of _ (by decide +kernel)) ggX5_comes_X5_comesIn
set_option maxRecDepth 20000 in
theorem ggX5_comes_X5_comesYear : GoodIn wsX5_comes wsX5_comesYear := goodIn_r _ [24, 25, 26, 27, 28, 29, 30, 31, 7, 32, 9, 12, 33, 34, 35, 36, 37, 11, 38, 39, 40, 41, 10, 42, 43, 44, 45, 46, 47, 48, 49, 50, 51, 52, 53, 54, 55, 56, 57, 58, 59, 60, 61, 62, 63, 64, 65, 66, 67, 68] (by decide +kernel) (by decide +kernel)
set_option maxRecDepth 20000 in
theorem gX5_comes_X5_comesYear : GoodIn wsX5_comes (wsV RX5 123 RX5 yX5_comesYear wsX5_comesYear) := goodIn_app (goodIn_of _ (by decide +kernel)) ggX5_comes_X5_comesYear
set_option maxRecDepth 20000 in
theorem ggX5_comes_X5_isAlive : GoodIn wsX5_comes wsX5_isAlive := goodIn_r _ [32, 9, 12, 45, 46, 47, 48, 49, 50, 51, 52, 53, 54, 55, 56, 57, 58, 59, 60, 61, 62, 63, 64, 65, 66, 67, 68] (by decide +kernel) (by decide +kernel)
set_option maxRecDepth 20000 in
theorem gX5_comes_X5_isAlive : GoodIn wsX5_comes (wsV RX5 104 RX5 yX5_isAlive wsX5_isAlive) := goodIn_app (goodIn_of _ (by decide +kernel)) ggX5_comes_X5_isAlive
theorem dX5_comes_0 : decode cX5_comes 0 = .ok (.iconst 3, 1) := by decide +kernel
theorem dX5_comes_1 : decode cX5_comes 1 = .ok (.iload_n 1, 1) := by decide +kernel
theorem dX5_comes_2 : decode cX5_comes 2 = .ok (.imul, 1) := by decide +kernel
theorem dX5_comes_3 : decode cX5_comes 3 = .ok (.istore_n 2, 1) := by decide +kernel
theorem dX5_comes_4 : decode cX5_comes 4 = .ok (.aload_n 0, 1) := by decide +kernel
theorem dX5_comes_5 : decode cX5_comes 5 = .ok (.getfield 31, 3) := by decide +kernel
theorem dX5_comes_8 : decode cX5_comes 8 = .ok (.iload_n 1, 1) := by decide +kernel
theorem dX5_comes_9 : decode cX5_comes 9 = .ok (.iaload, 1) := by decide +kernel
theorem dX5_comes_10 : decode cX5_comes 10 = .ok (.bipush 108, 2) := by decide +kernel
theorem dX5_comes_12 : decode cX5_comes 12 = .ok (.if_icmp .ne 30, 3) := by decide +kernel
theorem dX5_comes_15 : decode cX5_comes 15 = .ok (.aload_n 0, 1) := by decide +kernel
theorem dX5_comes_16 : decode cX5_comes 16 = .ok (.aload_n 0, 1) := by decide +kernel
theorem dX5_comes_17 : decode cX5_comes 17 = .ok (.getfield 37, 3) := by decide +kernel
theorem dX5_comes_20 : decode cX5_comes 20 = .ok (.iload_n 2, 1) := by decide +kernel
theorem dX5_comes_21 : decode cX5_comes 21 = .ok (.iaload, 1) := by decide +kernel
theorem dX5_comes_22 : decode cX5_comes 22 = .ok (.aload_n 0, 1) := by decide +kernel
theorem dX5_comes_23 : decode cX5_comes 23 = .ok (.getfield 37, 3) := by decide +kernel
theorem dX5_comes_26 : decode cX5_comes 26 = .ok (.iload_n 2, 1) := by decide +kernel
theorem dX5_comes_27 : decode cX5_comes 27 = .ok (.iconst 1, 1) := by decide +kernel
theorem dX5_comes_28 : decode cX5_comes 28 = .ok (.iadd, 1) := by decide +kernel
theorem dX5_comes_29 : decode cX5_comes 29 = .ok (.iaload, 1) := by decide +kernel
theorem dX5_comes_30 : decode cX5_comes 30 = .ok (.aload_n 0, 1) := by decide +kernel
theorem dX5_comes_31 : decode cX5_comes 31 = .ok (.getfield 37, 3) := by decide +kernel
theorem dX5_comes_34 : decode cX5_comes 34 = .ok (.iload_n 2, 1) := by decide +kernel
theorem dX5_comes_35 : decode cX5_comes 35 = .ok (.iconst 2, 1) := by decide +kernel
theorem dX5_comes_36 : decode cX5_comes 36 = .ok (.iadd, 1) := by decide +kernel
theorem dX5_comes_37 : decode cX5_comes 37 = .ok (.iaload, 1) := by decide +kernel
theorem dX5_comes_38 : decode cX5_comes 38 = .ok (.invokevirtual 120, 3) := by decide +kernel
theorem dX5_comes_41 : decode cX5_comes 41 = .ok (.ireturn, 1) := by decide +kernel
theorem dX5_comes_42 : decode cX5_comes 42 = .ok (.aload_n 0, 1) := by decide +kernel
theorem dX5_comes_43 : decode cX5_comes 43 = .ok (.getfield 31, 3) := by decide +kernel
theorem dX5_comes_46 : decode cX5_comes 46 = .ok (.iload_n 1, 1) := by decide +kernel
theorem dX5_comes_47 : decode cX5_comes 47 = .ok (.iaload, 1) := by decide +kernel
theorem dX5_comes_48 : decode cX5_comes 48 = .ok (.bipush 121, 2) := by decide +kernel
theorem dX5_comes_50 : decode cX5_comes 50 = .ok (.if_icmp .ne 9, 3) := by decide +kernel
theorem dX5_comes_53 : decode cX5_comes 53 = .ok (.aload_n 0, 1) := by decide +kernel
theorem dX5_comes_54 : decode cX5_comes 54 = .ok (.iload_n 1, 1) := by decide +kernel
theorem dX5_comes_55 : decode cX5_comes 55 = .ok (.invokevirtual 123, 3) := by decide +kernel
theorem dX5_comes_58 : decode cX5_comes 58 = .ok (.ireturn, 1) := by decide +kernel
theorem dX5_comes_59 : decode cX5_comes 59 = .ok (.aload_n 0, 1) := by decide +kernel
theorem dX5_comes_60 : decode cX5_comes 60 = .ok (.aload_n 0, 1) := by decide +kernel
theorem dX5_comes_61 : decode cX5_comes 61 = .ok (.getfield 37, 3) := by decide +kernel
theorem dX5_comes_64 : decode cX5_comes 64 = .ok (.iload_n 2, 1) := by decide +kernel
theorem dX5_comes_65 : decode cX5_comes 65 = .ok (.iaload, 1) := by decide +kernel
theorem dX5_comes_66 : decode cX5_comes 66 = .ok (.invokevirtual 104, 3) := by decide +kernel
theorem dX5_comes_69 : decode cX5_comes 69 = .ok (.ifCond .ne 5, 3) := by decide +kernel
theorem dX5_comes_72 : decode cX5_comes 72 = .ok (.iconst 0, 1) := by decide +kernel
theorem dX5_comes_73 : decode cX5_comes 73 = .ok (.ireturn, 1) := by decide +kernel
theorem dX5_comes_74 : decode cX5_comes 74 = .ok (.aload_n 0, 1) := by decide +kernel
theorem dX5_comes_75 : decode cX5_comes 75 = .ok (.getfield 25, 3) := by decide +kernel
theorem dX5_comes_78 : decode cX5_comes 78 = .ok (.aload_n 0, 1) := by decide +kernel
theorem dX5_comes_79 : decode cX5_comes 79 = .ok (.getfield 37, 3) := by decide +kernel
theorem dX5_comes_82 : decode cX5_comes 82 = .ok (.iload_n 2, 1) := by decide +kernel
theorem dX5_comes_83 : decode cX5_comes 83 = .ok (.iaload, 1) := by decide +kernel
theorem dX5_comes_84 : decode cX5_comes 84 = .ok (.aload_n 0, 1) := by decide +kernel
theorem dX5_comes_85 : decode cX5_comes 85 = .ok (.getfield 37, 3) := by decide +kernel
theorem dX5_comes_88 : decode cX5_comes 88 = .ok (.iload_n 2, 1) := by decide +kernel
theorem dX5_comes_89 : decode cX5_comes 89 = .ok (.iconst 1, 1) := by decide +kernel
theorem dX5_comes_90 : decode cX5_comes 90 = .ok (.iadd, 1) := by decide +kernel
theorem dX5_comes_91 : decode cX5_comes 91 = .ok (.iaload, 1) := by decide +kernel
theorem dX5_comes_92 : decode cX5_comes 92 = .ok (.iastore, 1) := by decide +kernel
theorem dX5_comes_93 : decode cX5_comes 93 = .ok (.iconst 1, 1) := by decide +kernel
theorem dX5_comes_94 : decode cX5_comes 94 = .ok (.ireturn, 1) := by decide +kernel
set_option maxRecDepth 20000 in
theorem ggX5_house_X5_statement : GoodIn wsX5_house wsX5_statement := goodIn_r _ [9, 10, 2, 4, 1, 11, 12, 13, 8, 14, 3, 15, 16, 17, 18, 19, 20, 21, 22, 23, 24, 25, 26, 27, 28, 29, 30, 31, 32, 33, 34, 35, 36, 37, 38, 39, 40, 98, 99, 100, 101, 102, 103, 104, 105, 106, 107, 108, 109, 110, 111, 112, 113, 114, 115, 116, 117, 118, 119, 120, 121] (by decide +kernel) (by decide +kernel)
set_option maxRecDepth 20000 in
theorem gX5_house_X5_statement : GoodIn wsX5_house (wsV RX5 126 RX5 yX5_statement wsX5_statement) := goodIn_app (goodIn_of _ (by decide +kernel)) ggX5_house_X5_statement
set_option maxRecDepth 20000 in
theorem ggX5_house_X5_passesAll : GoodIn wsX5_house wsX5_passesAll := goodIn_r _ [44, 45, 46, 47, 48, 49, 50, 51, 52, 53, 54, 55, 56, 8, 57, 58, 59, 60, 61, 62, 98, 99, 100, 101, 102, 103, 104, 105, 106, 107, 108, 109, 110, 111, 112, 113, 114, 115, 116, 117, 118, 119, 120, 121] (by decide +kernel) (by decide +kernel)
set_option maxRecDepth 20000 in
theorem gX5_house_X5_passesAll : GoodIn wsX5_house (wsV RX5 129 RX5 yX5_passesAll wsX5_passesAll) := goodIn_app (goodIn_of _ (by decide +kernel)) ggX5_house_X5_passesAll
set_option maxRecDepth 20000 in
theorem ggX5_house_X5_comes : GoodIn wsX5_house wsX5_comes := goodIn_r _ [66, 10, 20, 51, 67, 68, 69, 8, 70, 52, 47, 48, 49, 50, 71, 72, 73, 74, 75, 76, 77, 78, 79, 80, 81, 39, 40, 15, 53, 82, 83, 84, 85, 86, 87, 88, 89, 90, 91, 92, 93, 94, 95, 96, 97, 98, 99, 100, 101, 102, 103, 104, 105, 106, 107, 108, 109, 110, 111, 112, 113, 114, 115, 116, 117, 118, 119, 120, 121] (by decide +kernel) (by decide +kernel)
set_option maxRecDepth 20000 in
theorem gX5_house_X5_comes : GoodIn wsX5_house (wsV RX5 133 RX5 yX5_comes wsX5_comes) := goodIn_app (goodIn_of _ (by decide +kernel)) ggX5_house_X5_comes
theorem dX5_house_0 : decode cX5_house 0 = .ok (.aload_n 0, 1) := by decide +kernel
theorem dX5_house_1 : decode cX5_house 1 = .ok (.iconst 0, 1) := by decide +kernel
theorem dX5_house_2 : decode cX5_house 2 = .ok (.putfield 72, 3) := by decide +kernel
theorem dX5_house_5 : decode cX5_house 5 = .ok (.aload_n 0, 1) := by decide +kernel
theorem dX5_house_6 : decode cX5_house 6 = .ok (.iconst 0, 1) := by decide +kernel
theorem dX5_house_7 : decode cX5_house 7 = .ok (.putfield 94, 3) := by decide +kernel
theorem dX5_house_10 : decode cX5_house 10 = .ok (.iconst 1, 1) := by decide +kernel
theorem dX5_house_11 : decode cX5_house 11 = .ok (.istore_n 1, 1) := by decide +kernel
theorem dX5_house_12 : decode cX5_house 12 = .ok (.iload_n 1, 1) := by decide +kernel
theorem dX5_house_13 : decode cX5_house 13 = .ok (.ifCond .eq 47, 3) := by decide +kernel
theorem dX5_house_16 : decode cX5_house 16 = .ok (.aload_n 0, 1) := by decide +kernel
theorem dX5_house_17 : decode cX5_house 17 = .ok (.getfield 72, 3) := by decide +kernel
theorem dX5_house_20 : decode cX5_house 20 = .ok (.aload_n 0, 1) := by decide +kernel
theorem dX5_house_21 : decode cX5_house 21 = .ok (.getfield 65, 3) := by decide +kernel
theorem dX5_house_24 : decode cX5_house 24 = .ok (.if_icmp .lt 10, 3) := by decide +kernel
theorem dX5_house_27 : decode cX5_house 27 = .ok (.aload_n 0, 1) := by decide +kernel
theorem dX5_house_28 : decode cX5_house 28 = .ok (.getfield 94, 3) := by decide +kernel
theorem dX5_house_31 : decode cX5_house 31 = .ok (.ifCond .ne 29, 3) := by decide +kernel
theorem dX5_house_34 : decode cX5_house 34 = .ok (.aload_n 0, 1) := by decide +kernel
theorem dX5_house_35 : decode cX5_house 35 = .ok (.invokevirtual 126, 3) := by decide +kernel
theorem dX5_house_38 : decode cX5_house 38 = .ok (.istore_n 1, 1) := by decide +kernel
theorem dX5_house_39 : decode cX5_house 39 = .ok (.aload_n 0, 1) := by decide +kernel
theorem dX5_house_40 : decode cX5_house 40 = .ok (.dup, 1) := by decide +kernel
theorem dX5_house_41 : decode cX5_house 41 = .ok (.getfield 94, 3) := by decide +kernel
theorem dX5_house_44 : decode cX5_house 44 = .ok (.iload_n 1, 1) := by decide +kernel
theorem dX5_house_45 : decode cX5_house 45 = .ok (.ifCond .eq 7, 3) := by decide +kernel
theorem dX5_house_48 : decode cX5_house 48 = .ok (.iconst 1, 1) := by decide +kernel
theorem dX5_house_49 : decode cX5_house 49 = .ok (.goto 4, 3) := by decide +kernel
theorem dX5_house_52 : decode cX5_house 52 = .ok (.iconst 0, 1) := by decide +kernel
theorem dX5_house_53 : decode cX5_house 53 = .ok (.iadd, 1) := by decide +kernel
theorem dX5_house_54 : decode cX5_house 54 = .ok (.putfield 94, 3) := by decide +kernel
theorem dX5_house_57 : decode cX5_house 57 = .ok (.goto (-45), 3) := by decide +kernel
theorem dX5_house_60 : decode cX5_house 60 = .ok (.aload_n 0, 1) := by decide +kernel
theorem dX5_house_61 : decode cX5_house 61 = .ok (.iconst 0, 1) := by decide +kernel
theorem dX5_house_62 : decode cX5_house 62 = .ok (.putfield 65, 3) := by decide +kernel
theorem dX5_house_65 : decode cX5_house 65 = .ok (.iload_n 1, 1) := by decide +kernel
theorem dX5_house_66 : decode cX5_house 66 = .ok (.ifCond .ne 12, 3) := by decide +kernel
theorem dX5_house_69 : decode cX5_house 69 = .ok (.sipush (-1000), 3) := by decide +kernel
theorem dX5_house_72 : decode cX5_house 72 = .ok (.aload_n 0, 1) := by decide +kernel
theorem dX5_house_73 : decode cX5_house 73 = .ok (.getfield 72, 3) := by decide +kernel
theorem dX5_house_76 : decode cX5_house 76 = .ok (.isub, 1) := by decide +kernel
theorem dX5_house_77 : decode cX5_house 77 = .ok (.ireturn, 1) := by decide +kernel
theorem dX5_house_78 : decode cX5_house 78 = .ok (.aload_n 0, 1) := by decide +kernel
theorem dX5_house_79 : decode cX5_house 79 = .ok (.iconst 1, 1) := by decide +kernel
theorem dX5_house_80 : decode cX5_house 80 = .ok (.iconst 1, 1) := by decide +kernel
theorem dX5_house_81 : decode cX5_house 81 = .ok (.invokevirtual 129, 3) := by decide +kernel
theorem dX5_house_84 : decode cX5_house 84 = .ok (.iconst 0, 1) := by decide +kernel
theorem dX5_house_85 : decode cX5_house 85 = .ok (.istore_n 2, 1) := by decide +kernel
theorem dX5_house_86 : decode cX5_house 86 = .ok (.iload_n 2, 1) := by decide +kernel
theorem dX5_house_87 : decode cX5_house 87 = .ok (.aload_n 0, 1) := by decide +kernel
theorem dX5_house_88 : decode cX5_house 88 = .ok (.getfield 94, 3) := by decide +kernel
theorem dX5_house_91 : decode cX5_house 91 = .ok (.if_icmp .ge 37, 3) := by decide +kernel
theorem dX5_house_94 : decode cX5_house 94 = .ok (.aload_n 0, 1) := by decide +kernel
theorem dX5_house_95 : decode cX5_house 95 = .ok (.iload_n 2, 1) := by decide +kernel
theorem dX5_house_96 : decode cX5_house 96 = .ok (.invokevirtual 133, 3) := by decide +kernel
theorem dX5_house_99 : decode cX5_house 99 = .ok (.ifCond .eq 6, 3) := by decide +kernel
theorem dX5_house_102 : decode cX5_house 102 = .ok (.goto 20, 3) := by decide +kernel
theorem dX5_house_105 : decode cX5_house 105 = .ok (.aload_n 0, 1) := by decide +kernel
theorem dX5_house_106 : decode cX5_house 106 = .ok (.iconst 1, 1) := by decide +kernel
theorem dX5_house_107 : decode cX5_house 107 = .ok (.iconst 0, 1) := by decide +kernel
theorem dX5_house_108 : decode cX5_house 108 = .ok (.invokevirtual 129, 3) := by decide +kernel
theorem dX5_house_111 : decode cX5_house 111 = .ok (.sipush (-2000), 3) := by decide +kernel
theorem dX5_house_114 : decode cX5_house 114 = .ok (.aload_n 0, 1) := by decide +kernel
theorem dX5_house_115 : decode cX5_house 115 = .ok (.getfield 34, 3) := by decide +kernel
theorem dX5_house_118 : decode cX5_house 118 = .ok (.iload_n 2, 1) := by decide +kernel
theorem dX5_house_119 : decode cX5_house 119 = .ok (.iaload, 1) := by decide +kernel
theorem dX5_house_120 : decode cX5_house 120 = .ok (.isub, 1) := by decide +kernel
theorem dX5_house_121 : decode cX5_house 121 = .ok (.ireturn, 1) := by decide +kernel
theorem dX5_house_122 : decode cX5_house 122 = .ok (.iinc 2 1, 3) := by decide +kernel
theorem dX5_house_125 : decode cX5_house 125 = .ok (.goto (-39), 3) := by decide +kernel
theorem dX5_house_128 : decode cX5_house 128 = .ok (.aload_n 0, 1) := by decide +kernel
theorem dX5_house_129 : decode cX5_house 129 = .ok (.getfield 94, 3) := by decide +kernel
theorem dX5_house_132 : decode cX5_house 132 = .ok (.ireturn, 1) := by decide +kernel
theorem dX5_passes_0 : decode cX5_passes 0 = .ok (.iconst 0, 1) := by decide +kernel
theorem dX5_passes_1 : decode cX5_passes 1 = .ok (.istore_n 2, 1) := by decide +kernel
theorem dX5_passes_2 : decode cX5_passes 2 = .ok (.iload_n 2, 1) := by decide +kernel
theorem dX5_passes_3 : decode cX5_passes 3 = .ok (.aload_n 1, 1) := by decide +kernel
theorem dX5_passes_4 : decode cX5_passes 4 = .ok (.arraylength, 1) := by decide +kernel
theorem dX5_passes_5 : decode cX5_passes 5 = .ok (.if_icmp .ge 53, 3) := by decide +kernel
theorem dX5_passes_8 : decode cX5_passes 8 = .ok (.aload_n 0, 1) := by decide +kernel
theorem dX5_passes_9 : decode cX5_passes 9 = .ok (.getfield 136, 3) := by decide +kernel
theorem dX5_passes_12 : decode cX5_passes 12 = .ok (.ifCond .eq 18, 3) := by decide +kernel
theorem dX5_passes_15 : decode cX5_passes 15 = .ok (.aload_n 0, 1) := by decide +kernel
theorem dX5_passes_16 : decode cX5_passes 16 = .ok (.getfield 46, 3) := by decide +kernel
theorem dX5_passes_19 : decode cX5_passes 19 = .ok (.aload_n 0, 1) := by decide +kernel
theorem dX5_passes_20 : decode cX5_passes 20 = .ok (.getfield 140, 3) := by decide +kernel
theorem dX5_passes_23 : decode cX5_passes 23 = .ok (.aload_n 1, 1) := by decide +kernel
theorem dX5_passes_24 : decode cX5_passes 24 = .ok (.iload_n 2, 1) := by decide +kernel
theorem dX5_passes_25 : decode cX5_passes 25 = .ok (.iaload, 1) := by decide +kernel
theorem dX5_passes_26 : decode cX5_passes 26 = .ok (.iastore, 1) := by decide +kernel
theorem dX5_passes_27 : decode cX5_passes 27 = .ok (.goto 15, 3) := by decide +kernel
theorem dX5_passes_30 : decode cX5_passes 30 = .ok (.aload_n 1, 1) := by decide +kernel
theorem dX5_passes_31 : decode cX5_passes 31 = .ok (.iload_n 2, 1) := by decide +kernel
theorem dX5_passes_32 : decode cX5_passes 32 = .ok (.aload_n 0, 1) := by decide +kernel
theorem dX5_passes_33 : decode cX5_passes 33 = .ok (.getfield 46, 3) := by decide +kernel
theorem dX5_passes_36 : decode cX5_passes 36 = .ok (.aload_n 0, 1) := by decide +kernel
theorem dX5_passes_37 : decode cX5_passes 37 = .ok (.getfield 140, 3) := by decide +kernel
theorem dX5_passes_40 : decode cX5_passes 40 = .ok (.iaload, 1) := by decide +kernel
theorem dX5_passes_41 : decode cX5_passes 41 = .ok (.iastore, 1) := by decide +kernel
theorem dX5_passes_42 : decode cX5_passes 42 = .ok (.aload_n 0, 1) := by decide +kernel
theorem dX5_passes_43 : decode cX5_passes 43 = .ok (.dup, 1) := by decide +kernel
theorem dX5_passes_44 : decode cX5_passes 44 = .ok (.getfield 140, 3) := by decide +kernel
theorem dX5_passes_47 : decode cX5_passes 47 = .ok (.iconst 1, 1) := by decide +kernel
theorem dX5_passes_48 : decode cX5_passes 48 = .ok (.iadd, 1) := by decide +kernel
theorem dX5_passes_49 : decode cX5_passes 49 = .ok (.putfield 140, 3) := by decide +kernel
theorem dX5_passes_52 : decode cX5_passes 52 = .ok (.iinc 2 1, 3) := by decide +kernel
theorem dX5_passes_55 : decode cX5_passes 55 = .ok (.goto (-53), 3) := by decide +kernel
theorem dX5_passes_58 : decode cX5_passes 58 = .ok (.return_, 1) := by decide +kernel
theorem dX5_passOne_0 : decode cX5_passOne 0 = .ok (.aload_n 0, 1) := by decide +kernel
theorem dX5_passOne_1 : decode cX5_passOne 1 = .ok (.getfield 136, 3) := by decide +kernel
