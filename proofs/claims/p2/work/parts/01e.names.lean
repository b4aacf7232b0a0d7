theorem dX5_passOne_4 : decode cX5_passOne 4 = .ok (.ifCond .eq 7, 3) := by decide +kernel
theorem dX5_passOne_7 : decode cX5_passOne 7 = .ok (.iload_n 1, 1) := by decide +kernel
theorem dX5_passOne_8 : decode cX5_passOne 8 = .ok (.goto 12, 3) := by decide +kernel
theorem dX5_passOne_11 : decode cX5_passOne 11 = .ok (.aload_n 0, 1) := by decide +kernel
theorem dX5_passOne_12 : decode cX5_passOne 12 = .ok (.getfield 46, 3) := by decide +kernel
theorem dX5_passOne_15 : decode cX5_passOne 15 = .ok (.aload_n 0, 1) := by decide +kernel
theorem dX5_passOne_16 : decode cX5_passOne 16 = .ok (.getfield 140, 3) := by decide +kernel
theorem dX5_passOne_19 : decode cX5_passOne 19 = .ok (.iaload, 1) := by decide +kernel
theorem dX5_passOne_20 : decode cX5_passOne 20 = .ok (.istore_n 2, 1) := by decide +kernel
theorem dX5_passOne_21 : decode cX5_passOne 21 = .ok (.aload_n 0, 1) := by decide +kernel
theorem dX5_passOne_22 : decode cX5_passOne 22 = .ok (.getfield 136, 3) := by decide +kernel
theorem dX5_passOne_25 : decode cX5_passOne 25 = .ok (.ifCond .eq 13, 3) := by decide +kernel
theorem dX5_passOne_28 : decode cX5_passOne 28 = .ok (.aload_n 0, 1) := by decide +kernel
theorem dX5_passOne_29 : decode cX5_passOne 29 = .ok (.getfield 46, 3) := by decide +kernel
theorem dX5_passOne_32 : decode cX5_passOne 32 = .ok (.aload_n 0, 1) := by decide +kernel
theorem dX5_passOne_33 : decode cX5_passOne 33 = .ok (.getfield 140, 3) := by decide +kernel
theorem dX5_passOne_36 : decode cX5_passOne 36 = .ok (.iload_n 1, 1) := by decide +kernel
theorem dX5_passOne_37 : decode cX5_passOne 37 = .ok (.iastore, 1) := by decide +kernel
theorem dX5_passOne_38 : decode cX5_passOne 38 = .ok (.aload_n 0, 1) := by decide +kernel
theorem dX5_passOne_39 : decode cX5_passOne 39 = .ok (.dup, 1) := by decide +kernel
theorem dX5_passOne_40 : decode cX5_passOne 40 = .ok (.getfield 140, 3) := by decide +kernel
theorem dX5_passOne_43 : decode cX5_passOne 43 = .ok (.iconst 1, 1) := by decide +kernel
theorem dX5_passOne_44 : decode cX5_passOne 44 = .ok (.iadd, 1) := by decide +kernel
theorem dX5_passOne_45 : decode cX5_passOne 45 = .ok (.putfield 140, 3) := by decide +kernel
theorem dX5_passOne_48 : decode cX5_passOne 48 = .ok (.iload_n 2, 1) := by decide +kernel
theorem dX5_passOne_49 : decode cX5_passOne 49 = .ok (.ireturn, 1) := by decide +kernel
set_option maxRecDepth 20000 in
theorem ggX5_passesAll_X5_passes : GoodIn wsX5_passesAll wsX5_passes := goodIn_r _ [14, 2, 15, 1, 20, 21, 22, 23, 24, 25, 26, 27, 28, 29, 30, 31, 32, 33, 34, 35, 36, 37, 38, 39, 40, 41, 42, 43] (by decide +kernel) (by decide +kernel)
set_option maxRecDepth 20000 in
theorem gX5_passesAll_X5_passes : GoodIn wsX5_passesAll (wsV RX5 143 RX5 yX5_passes wsX5_passes) := goodIn_app (goodIn_of _ (by decide +kernel)) ggX5_passesAll_X5_passes
set_option maxRecDepth 20000 in
theorem ggX5_passesAll_X5_passOne : GoodIn wsX5_passesAll wsX5_passOne := goodIn_r _ [19, 2, 15, 1, 20, 21, 22, 23, 24, 25, 26, 27, 28, 29, 30, 31, 32, 33, 34, 35, 36, 37, 38, 39, 40, 41, 42, 43] (by decide +kernel) (by decide +kernel)
set_option maxRecDepth 20000 in
theorem gX5_passesAll_X5_passOne : GoodIn wsX5_passesAll (wsV RX5 147 RX5 yX5_passOne wsX5_passOne) := goodIn_app (goodIn_of _ (by decide +kernel)) ggX5_passesAll_X5_passOne
theorem dX5_passesAll_0 : decode cX5_passesAll 0 = .ok (.aload_n 0, 1) := by decide +kernel
theorem dX5_passesAll_1 : decode cX5_passesAll 1 = .ok (.bipush 43, 2) := by decide +kernel
theorem dX5_passesAll_3 : decode cX5_passesAll 3 = .ok (.iload_n 1, 1) := by decide +kernel
theorem dX5_passesAll_4 : decode cX5_passesAll 4 = .ok (.imul, 1) := by decide +kernel
theorem dX5_passesAll_5 : decode cX5_passesAll 5 = .ok (.putfield 140, 3) := by decide +kernel
theorem dX5_passesAll_8 : decode cX5_passesAll 8 = .ok (.aload_n 0, 1) := by decide +kernel
theorem dX5_passesAll_9 : decode cX5_passesAll 9 = .ok (.iload_n 2, 1) := by decide +kernel
theorem dX5_passesAll_10 : decode cX5_passesAll 10 = .ok (.putfield 136, 3) := by decide +kernel
theorem dX5_passesAll_13 : decode cX5_passesAll 13 = .ok (.aload_n 0, 1) := by decide +kernel
theorem dX5_passesAll_14 : decode cX5_passesAll 14 = .ok (.aload_n 0, 1) := by decide +kernel
theorem dX5_passesAll_15 : decode cX5_passesAll 15 = .ok (.getfield 13, 3) := by decide +kernel
theorem dX5_passesAll_18 : decode cX5_passesAll 18 = .ok (.invokevirtual 143, 3) := by decide +kernel
theorem dX5_passesAll_21 : decode cX5_passesAll 21 = .ok (.aload_n 0, 1) := by decide +kernel
theorem dX5_passesAll_22 : decode cX5_passesAll 22 = .ok (.aload_n 0, 1) := by decide +kernel
theorem dX5_passesAll_23 : decode cX5_passesAll 23 = .ok (.getfield 16, 3) := by decide +kernel
theorem dX5_passesAll_26 : decode cX5_passesAll 26 = .ok (.invokevirtual 143, 3) := by decide +kernel
theorem dX5_passesAll_29 : decode cX5_passesAll 29 = .ok (.aload_n 0, 1) := by decide +kernel
theorem dX5_passesAll_30 : decode cX5_passesAll 30 = .ok (.aload_n 0, 1) := by decide +kernel
theorem dX5_passesAll_31 : decode cX5_passesAll 31 = .ok (.getfield 19, 3) := by decide +kernel
theorem dX5_passesAll_34 : decode cX5_passesAll 34 = .ok (.invokevirtual 143, 3) := by decide +kernel
theorem dX5_passesAll_37 : decode cX5_passesAll 37 = .ok (.aload_n 0, 1) := by decide +kernel
theorem dX5_passesAll_38 : decode cX5_passesAll 38 = .ok (.aload_n 0, 1) := by decide +kernel
theorem dX5_passesAll_39 : decode cX5_passesAll 39 = .ok (.getfield 22, 3) := by decide +kernel
theorem dX5_passesAll_42 : decode cX5_passesAll 42 = .ok (.invokevirtual 143, 3) := by decide +kernel
theorem dX5_passesAll_45 : decode cX5_passesAll 45 = .ok (.aload_n 0, 1) := by decide +kernel
theorem dX5_passesAll_46 : decode cX5_passesAll 46 = .ok (.aload_n 0, 1) := by decide +kernel
theorem dX5_passesAll_47 : decode cX5_passesAll 47 = .ok (.getfield 25, 3) := by decide +kernel
theorem dX5_passesAll_50 : decode cX5_passesAll 50 = .ok (.invokevirtual 143, 3) := by decide +kernel
theorem dX5_passesAll_53 : decode cX5_passesAll 53 = .ok (.aload_n 0, 1) := by decide +kernel
theorem dX5_passesAll_54 : decode cX5_passesAll 54 = .ok (.aload_n 0, 1) := by decide +kernel
theorem dX5_passesAll_55 : decode cX5_passesAll 55 = .ok (.aload_n 0, 1) := by decide +kernel
theorem dX5_passesAll_56 : decode cX5_passesAll 56 = .ok (.getfield 57, 3) := by decide +kernel
theorem dX5_passesAll_59 : decode cX5_passesAll 59 = .ok (.invokevirtual 147, 3) := by decide +kernel
theorem dX5_passesAll_62 : decode cX5_passesAll 62 = .ok (.putfield 57, 3) := by decide +kernel
theorem dX5_passesAll_65 : decode cX5_passesAll 65 = .ok (.aload_n 0, 1) := by decide +kernel
theorem dX5_passesAll_66 : decode cX5_passesAll 66 = .ok (.aload_n 0, 1) := by decide +kernel
theorem dX5_passesAll_67 : decode cX5_passesAll 67 = .ok (.aload_n 0, 1) := by decide +kernel
theorem dX5_passesAll_68 : decode cX5_passesAll 68 = .ok (.getfield 107, 3) := by decide +kernel
theorem dX5_passesAll_71 : decode cX5_passesAll 71 = .ok (.invokevirtual 147, 3) := by decide +kernel
theorem dX5_passesAll_74 : decode cX5_passesAll 74 = .ok (.putfield 107, 3) := by decide +kernel
theorem dX5_passesAll_77 : decode cX5_passesAll 77 = .ok (.return_, 1) := by decide +kernel
set_option maxRecDepth 20000 in
theorem ggX5_image_X5_passesAll : GoodIn wsX5_image wsX5_passesAll := goodIn_r _ [7, 8, 9, 10, 11, 12, 13, 14, 15, 2, 16, 17, 18, 6, 19, 20, 21, 22, 23, 24, 25, 26, 27, 28, 29, 30, 31, 32, 33, 34, 35, 36, 37, 38, 39, 40, 41, 42, 43, 44, 45, 46, 47, 48] (by decide +kernel) (by decide +kernel)
set_option maxRecDepth 20000 in
theorem gX5_image_X5_passesAll : GoodIn wsX5_image (wsV RX5 129 RX5 yX5_passesAll wsX5_passesAll) := goodIn_app (goodIn_of _ (by decide +kernel)) ggX5_image_X5_passesAll
theorem dX5_image_0 : decode cX5_image 0 = .ok (.aload_n 0, 1) := by decide +kernel
theorem dX5_image_1 : decode cX5_image 1 = .ok (.iconst 1, 1) := by decide +kernel
theorem dX5_image_2 : decode cX5_image 2 = .ok (.putfield 150, 3) := by decide +kernel
theorem dX5_image_5 : decode cX5_image 5 = .ok (.aload_n 0, 1) := by decide +kernel
theorem dX5_image_6 : decode cX5_image 6 = .ok (.iconst 0, 1) := by decide +kernel
theorem dX5_image_7 : decode cX5_image 7 = .ok (.iconst 1, 1) := by decide +kernel
theorem dX5_image_8 : decode cX5_image 8 = .ok (.invokevirtual 129, 3) := by decide +kernel
theorem dX5_image_11 : decode cX5_image 11 = .ok (.aload_n 0, 1) := by decide +kernel
theorem dX5_image_12 : decode cX5_image 12 = .ok (.getfield 107, 3) := by decide +kernel
theorem dX5_image_15 : decode cX5_image 15 = .ok (.ireturn, 1) := by decide +kernel
set_option maxRecDepth 20000 in
theorem ggX5_back_X5_no : GoodIn wsX5_back wsX5_no := goodIn_r _ [7, 8, 30, 31, 32, 33, 34, 35, 36, 37, 38, 39, 40, 41, 42, 43, 44, 45, 46, 47, 48, 49, 50, 51, 52, 53] (by decide +kernel) (by decide +kernel)
set_option maxRecDepth 20000 in
theorem gX5_back_X5_no : GoodIn wsX5_back (wsV RX5 68 RX5 yX5_no wsX5_no) := goodIn_app (goodIn_of _ (by decide +kernel)) ggX5_back_X5_no
set_option maxRecDepth 20000 in
theorem ggX5_back_X5_passesAll : GoodIn wsX5_back wsX5_passesAll := goodIn_r _ [12, 13, 14, 15, 16, 17, 18, 19, 20, 2, 21, 22, 23, 6, 24, 25, 26, 27, 28, 29, 30, 31, 32, 33, 34, 35, 36, 37, 38, 39, 40, 41, 42, 43, 44, 45, 46, 47, 48, 49, 50, 51, 52, 53] (by decide +kernel) (by decide +kernel)
set_option maxRecDepth 20000 in
theorem gX5_back_X5_passesAll : GoodIn wsX5_back (wsV RX5 129 RX5 yX5_passesAll wsX5_passesAll) := goodIn_app (goodIn_of _ (by decide +kernel)) ggX5_back_X5_passesAll
theorem dX5_back_0 : decode cX5_back 0 = .ok (.aload_n 0, 1) := by decide +kernel
theorem dX5_back_1 : decode cX5_back 1 = .ok (.getfield 150, 3) := by decide +kernel
theorem dX5_back_4 : decode cX5_back 4 = .ok (.ifCond .ne 10, 3) := by decide +kernel
theorem dX5_back_7 : decode cX5_back 7 = .ok (.aload_n 0, 1) := by decide +kernel
theorem dX5_back_8 : decode cX5_back 8 = .ok (.bipush (-3), 2) := by decide +kernel
theorem dX5_back_10 : decode cX5_back 10 = .ok (.invokevirtual 68, 3) := by decide +kernel
theorem dX5_back_13 : decode cX5_back 13 = .ok (.ireturn, 1) := by decide +kernel
theorem dX5_back_14 : decode cX5_back 14 = .ok (.aload_n 0, 1) := by decide +kernel
theorem dX5_back_15 : decode cX5_back 15 = .ok (.iconst 0, 1) := by decide +kernel
theorem dX5_back_16 : decode cX5_back 16 = .ok (.iconst 0, 1) := by decide +kernel
theorem dX5_back_17 : decode cX5_back 17 = .ok (.invokevirtual 129, 3) := by decide +kernel
theorem dX5_back_20 : decode cX5_back 20 = .ok (.aload_n 0, 1) := by decide +kernel
theorem dX5_back_21 : decode cX5_back 21 = .ok (.getfield 107, 3) := by decide +kernel
theorem dX5_back_24 : decode cX5_back 24 = .ok (.ireturn, 1) := by decide +kernel
theorem dX5_entryOf_0 : decode cX5_entryOf 0 = .ok (.iload_n 1, 1) := by decide +kernel
theorem dX5_entryOf_1 : decode cX5_entryOf 1 = .ok (.bipush 10, 2) := by decide +kernel
theorem dX5_entryOf_3 : decode cX5_entryOf 3 = .ok (.idiv, 1) := by decide +kernel
theorem dX5_entryOf_4 : decode cX5_entryOf 4 = .ok (.istore_n 2, 1) := by decide +kernel
theorem dX5_entryOf_5 : decode cX5_entryOf 5 = .ok (.iload_n 0, 1) := by decide +kernel
theorem dX5_entryOf_6 : decode cX5_entryOf 6 = .ok (.iconst 3, 1) := by decide +kernel
theorem dX5_entryOf_7 : decode cX5_entryOf 7 = .ok (.if_icmp .ne 7, 3) := by decide +kernel
theorem dX5_entryOf_10 : decode cX5_entryOf 10 = .ok (.iconst 0, 1) := by decide +kernel
theorem dX5_entryOf_11 : decode cX5_entryOf 11 = .ok (.goto 23, 3) := by decide +kernel
theorem dX5_entryOf_14 : decode cX5_entryOf 14 = .ok (.iload_n 0, 1) := by decide +kernel
theorem dX5_entryOf_15 : decode cX5_entryOf 15 = .ok (.iconst 5, 1) := by decide +kernel
theorem dX5_entryOf_16 : decode cX5_entryOf 16 = .ok (.if_icmp .ne 17, 3) := by decide +kernel
theorem dX5_entryOf_19 : decode cX5_entryOf 19 = .ok (.iload_n 2, 1) := by decide +kernel
theorem dX5_entryOf_20 : decode cX5_entryOf 20 = .ok (.ifCond .le 9, 3) := by decide +kernel
theorem dX5_entryOf_23 : decode cX5_entryOf 23 = .ok (.iload_n 2, 1) := by decide +kernel
theorem dX5_entryOf_24 : decode cX5_entryOf 24 = .ok (.iconst 1, 1) := by decide +kernel
theorem dX5_entryOf_25 : decode cX5_entryOf 25 = .ok (.isub, 1) := by decide +kernel
theorem dX5_entryOf_26 : decode cX5_entryOf 26 = .ok (.goto 8, 3) := by decide +kernel
theorem dX5_entryOf_29 : decode cX5_entryOf 29 = .ok (.iconst 0, 1) := by decide +kernel
theorem dX5_entryOf_30 : decode cX5_entryOf 30 = .ok (.goto 4, 3) := by decide +kernel
theorem dX5_entryOf_33 : decode cX5_entryOf 33 = .ok (.iload_n 2, 1) := by decide +kernel
theorem dX5_entryOf_34 : decode cX5_entryOf 34 = .ok (.ireturn, 1) := by decide +kernel
set_option maxRecDepth 20000 in
theorem ggX5_chanceOf_X5_least : GoodIn wsX5_chanceOf wsX5_least := goodIn_r _ [6] (by decide +kernel) (by decide +kernel)
set_option maxRecDepth 20000 in
theorem gX5_chanceOf_X5_least : GoodIn wsX5_chanceOf (va_wsS RX5 153 yX5_least wsX5_least) := goodIn_app (goodIn_of _ (by decide +kernel)) ggX5_chanceOf_X5_least
theorem dX5_chanceOf_0 : decode cX5_chanceOf 0 = .ok (.aload_n 0, 1) := by decide +kernel
theorem dX5_chanceOf_1 : decode cX5_chanceOf 1 = .ok (.getfield 16, 3) := by decide +kernel
theorem dX5_chanceOf_4 : decode cX5_chanceOf 4 = .ok (.iload_n 1, 1) := by decide +kernel
theorem dX5_chanceOf_5 : decode cX5_chanceOf 5 = .ok (.iaload, 1) := by decide +kernel
theorem dX5_chanceOf_6 : decode cX5_chanceOf 6 = .ok (.bipush 10, 2) := by decide +kernel
theorem dX5_chanceOf_8 : decode cX5_chanceOf 8 = .ok (.idiv, 1) := by decide +kernel
theorem dX5_chanceOf_9 : decode cX5_chanceOf 9 = .ok (.istore_n 2, 1) := by decide +kernel
theorem dX5_chanceOf_10 : decode cX5_chanceOf 10 = .ok (.aload_n 0, 1) := by decide +kernel
theorem dX5_chanceOf_11 : decode cX5_chanceOf 11 = .ok (.getfield 13, 3) := by decide +kernel
theorem dX5_chanceOf_14 : decode cX5_chanceOf 14 = .ok (.iload_n 1, 1) := by decide +kernel
theorem dX5_chanceOf_15 : decode cX5_chanceOf 15 = .ok (.iaload, 1) := by decide +kernel
theorem dX5_chanceOf_16 : decode cX5_chanceOf 16 = .ok (.tableswitch 79 1 5 #[36, 40, 79, 49, 60], 36) := by decide +kernel
theorem dX5_chanceOf_52 : decode cX5_chanceOf 52 = .ok (.iload_n 2, 1) := by decide +kernel
theorem dX5_chanceOf_53 : decode cX5_chanceOf 53 = .ok (.iconst 2, 1) := by decide +kernel
theorem dX5_chanceOf_54 : decode cX5_chanceOf 54 = .ok (.idiv, 1) := by decide +kernel
theorem dX5_chanceOf_55 : decode cX5_chanceOf 55 = .ok (.ireturn, 1) := by decide +kernel
theorem dX5_chanceOf_56 : decode cX5_chanceOf 56 = .ok (.bipush 10, 2) := by decide +kernel
theorem dX5_chanceOf_58 : decode cX5_chanceOf 58 = .ok (.iload_n 2, 1) := by decide +kernel
theorem dX5_chanceOf_59 : decode cX5_chanceOf 59 = .ok (.iconst 3, 1) := by decide +kernel
theorem dX5_chanceOf_60 : decode cX5_chanceOf 60 = .ok (.iadd, 1) := by decide +kernel
theorem dX5_chanceOf_61 : decode cX5_chanceOf 61 = .ok (.invokestatic 153, 3) := by decide +kernel
theorem dX5_chanceOf_64 : decode cX5_chanceOf 64 = .ok (.ireturn, 1) := by decide +kernel
theorem dX5_chanceOf_65 : decode cX5_chanceOf 65 = .ok (.bipush 10, 2) := by decide +kernel
theorem dX5_chanceOf_67 : decode cX5_chanceOf 67 = .ok (.iload_n 2, 1) := by decide +kernel
theorem dX5_chanceOf_68 : decode cX5_chanceOf 68 = .ok (.iconst 3, 1) := by decide +kernel
theorem dX5_chanceOf_69 : decode cX5_chanceOf 69 = .ok (.iadd, 1) := by decide +kernel
theorem dX5_chanceOf_70 : decode cX5_chanceOf 70 = .ok (.invokestatic 153, 3) := by decide +kernel
theorem dX5_chanceOf_73 : decode cX5_chanceOf 73 = .ok (.iconst 2, 1) := by decide +kernel
theorem dX5_chanceOf_74 : decode cX5_chanceOf 74 = .ok (.isub, 1) := by decide +kernel
theorem dX5_chanceOf_75 : decode cX5_chanceOf 75 = .ok (.ireturn, 1) := by decide +kernel
theorem dX5_chanceOf_76 : decode cX5_chanceOf 76 = .ok (.aload_n 0, 1) := by decide +kernel
theorem dX5_chanceOf_77 : decode cX5_chanceOf 77 = .ok (.getfield 16, 3) := by decide +kernel
theorem dX5_chanceOf_80 : decode cX5_chanceOf 80 = .ok (.iload_n 1, 1) := by decide +kernel
theorem dX5_chanceOf_81 : decode cX5_chanceOf 81 = .ok (.iaload, 1) := by decide +kernel
theorem dX5_chanceOf_82 : decode cX5_chanceOf 82 = .ok (.bipush 50, 2) := by decide +kernel
theorem dX5_chanceOf_84 : decode cX5_chanceOf 84 = .ok (.if_icmp .ge 7, 3) := by decide +kernel
theorem dX5_chanceOf_87 : decode cX5_chanceOf 87 = .ok (.iconst 0, 1) := by decide +kernel
theorem dX5_chanceOf_88 : decode cX5_chanceOf 88 = .ok (.goto 6, 3) := by decide +kernel
theorem dX5_chanceOf_91 : decode cX5_chanceOf 91 = .ok (.iload_n 2, 1) := by decide +kernel
theorem dX5_chanceOf_92 : decode cX5_chanceOf 92 = .ok (.iconst 2, 1) := by decide +kernel
theorem dX5_chanceOf_93 : decode cX5_chanceOf 93 = .ok (.idiv, 1) := by decide +kernel
theorem dX5_chanceOf_94 : decode cX5_chanceOf 94 = .ok (.ireturn, 1) := by decide +kernel
theorem dX5_chanceOf_95 : decode cX5_chanceOf 95 = .ok (.iload_n 2, 1) := by decide +kernel
theorem dX5_chanceOf_96 : decode cX5_chanceOf 96 = .ok (.ireturn, 1) := by decide +kernel
set_option maxRecDepth 20000 in
theorem ggX5_climbs_X5_least : GoodIn wsX5_climbs wsX5_least := goodIn_r _ [4] (by decide +kernel) (by decide +kernel)
set_option maxRecDepth 20000 in
theorem gX5_climbs_X5_least : GoodIn wsX5_climbs (va_wsS RX5 153 yX5_least wsX5_least) := goodIn_app (goodIn_of _ (by decide +kernel)) ggX5_climbs_X5_least
theorem dX5_climbs_0 : decode cX5_climbs 0 = .ok (.bipush 9, 2) := by decide +kernel
theorem dX5_climbs_2 : decode cX5_climbs 2 = .ok (.iload_n 1, 1) := by decide +kernel
theorem dX5_climbs_3 : decode cX5_climbs 3 = .ok (.bipush 12, 2) := by decide +kernel
theorem dX5_climbs_5 : decode cX5_climbs 5 = .ok (.idiv, 1) := by decide +kernel
theorem dX5_climbs_6 : decode cX5_climbs 6 = .ok (.isub, 1) := by decide +kernel
theorem dX5_climbs_7 : decode cX5_climbs 7 = .ok (.istore_n 2, 1) := by decide +kernel
theorem dX5_climbs_8 : decode cX5_climbs 8 = .ok (.iload_n 0, 1) := by decide +kernel
theorem dX5_climbs_9 : decode cX5_climbs 9 = .ok (.iconst 1, 1) := by decide +kernel
theorem dX5_climbs_10 : decode cX5_climbs 10 = .ok (.if_icmp .eq 8, 3) := by decide +kernel
theorem dX5_climbs_13 : decode cX5_climbs 13 = .ok (.iload_n 0, 1) := by decide +kernel
theorem dX5_climbs_14 : decode cX5_climbs 14 = .ok (.iconst 5, 1) := by decide +kernel
theorem dX5_climbs_15 : decode cX5_climbs 15 = .ok (.if_icmp .ne 14, 3) := by decide +kernel
theorem dX5_climbs_18 : decode cX5_climbs 18 = .ok (.bipush 9, 2) := by decide +kernel
theorem dX5_climbs_20 : decode cX5_climbs 20 = .ok (.iload_n 2, 1) := by decide +kernel
theorem dX5_climbs_21 : decode cX5_climbs 21 = .ok (.iconst 2, 1) := by decide +kernel
theorem dX5_climbs_22 : decode cX5_climbs 22 = .ok (.iadd, 1) := by decide +kernel
theorem dX5_climbs_23 : decode cX5_climbs 23 = .ok (.invokestatic 153, 3) := by decide +kernel
theorem dX5_climbs_26 : decode cX5_climbs 26 = .ok (.goto 4, 3) := by decide +kernel
theorem dX5_climbs_29 : decode cX5_climbs 29 = .ok (.iload_n 2, 1) := by decide +kernel
theorem dX5_climbs_30 : decode cX5_climbs 30 = .ok (.ireturn, 1) := by decide +kernel
theorem dX5_movesOf_0 : decode cX5_movesOf 0 = .ok (.aload_n 0, 1) := by decide +kernel
theorem dX5_movesOf_1 : decode cX5_movesOf 1 = .ok (.getfield 19, 3) := by decide +kernel
theorem dX5_movesOf_4 : decode cX5_movesOf 4 = .ok (.iload_n 1, 1) := by decide +kernel
theorem dX5_movesOf_5 : decode cX5_movesOf 5 = .ok (.iaload, 1) := by decide +kernel
theorem dX5_movesOf_6 : decode cX5_movesOf 6 = .ok (.ifCond .lt 31, 3) := by decide +kernel
theorem dX5_movesOf_9 : decode cX5_movesOf 9 = .ok (.iload_n 2, 1) := by decide +kernel
theorem dX5_movesOf_10 : decode cX5_movesOf 10 = .ok (.iload_n 1, 1) := by decide +kernel
theorem dX5_movesOf_11 : decode cX5_movesOf 11 = .ok (.ishr, 1) := by decide +kernel
theorem dX5_movesOf_12 : decode cX5_movesOf 12 = .ok (.iconst 1, 1) := by decide +kernel
theorem dX5_movesOf_13 : decode cX5_movesOf 13 = .ok (.iand, 1) := by decide +kernel
theorem dX5_movesOf_14 : decode cX5_movesOf 14 = .ok (.iconst 1, 1) := by decide +kernel
theorem dX5_movesOf_15 : decode cX5_movesOf 15 = .ok (.if_icmp .eq 22, 3) := by decide +kernel
theorem dX5_movesOf_18 : decode cX5_movesOf 18 = .ok (.aload_n 0, 1) := by decide +kernel
theorem dX5_movesOf_19 : decode cX5_movesOf 19 = .ok (.getfield 13, 3) := by decide +kernel
theorem dX5_movesOf_22 : decode cX5_movesOf 22 = .ok (.iload_n 1, 1) := by decide +kernel
theorem dX5_movesOf_23 : decode cX5_movesOf 23 = .ok (.iaload, 1) := by decide +kernel
theorem dX5_movesOf_24 : decode cX5_movesOf 24 = .ok (.iconst 3, 1) := by decide +kernel
theorem dX5_movesOf_25 : decode cX5_movesOf 25 = .ok (.if_icmp .ne 14, 3) := by decide +kernel
theorem dX5_movesOf_28 : decode cX5_movesOf 28 = .ok (.aload_n 0, 1) := by decide +kernel
theorem dX5_movesOf_29 : decode cX5_movesOf 29 = .ok (.getfield 19, 3) := by decide +kernel
theorem dX5_movesOf_32 : decode cX5_movesOf 32 = .ok (.iload_n 1, 1) := by decide +kernel
theorem dX5_movesOf_33 : decode cX5_movesOf 33 = .ok (.iaload, 1) := by decide +kernel
theorem dX5_movesOf_34 : decode cX5_movesOf 34 = .ok (.ifCond .ne 5, 3) := by decide +kernel
theorem dX5_movesOf_37 : decode cX5_movesOf 37 = .ok (.iconst 0, 1) := by decide +kernel
theorem dX5_movesOf_38 : decode cX5_movesOf 38 = .ok (.ireturn, 1) := by decide +kernel
theorem dX5_movesOf_39 : decode cX5_movesOf 39 = .ok (.iconst 0, 1) := by decide +kernel
theorem dX5_movesOf_40 : decode cX5_movesOf 40 = .ok (.istore_n 3, 1) := by decide +kernel
theorem dX5_movesOf_41 : decode cX5_movesOf 41 = .ok (.iconst 0, 1) := by decide +kernel
theorem dX5_movesOf_42 : decode cX5_movesOf 42 = .ok (.istore 4, 2) := by decide +kernel
theorem dX5_movesOf_44 : decode cX5_movesOf 44 = .ok (.iload 4, 2) := by decide +kernel
theorem dX5_movesOf_46 : decode cX5_movesOf 46 = .ok (.aload_n 0, 1) := by decide +kernel
theorem dX5_movesOf_47 : decode cX5_movesOf 47 = .ok (.getfield 57, 3) := by decide +kernel
theorem dX5_movesOf_50 : decode cX5_movesOf 50 = .ok (.if_icmp .ge 43, 3) := by decide +kernel
theorem dX5_movesOf_53 : decode cX5_movesOf 53 = .ok (.iload_n 3, 1) := by decide +kernel
theorem dX5_movesOf_54 : decode cX5_movesOf 54 = .ok (.iload_n 2, 1) := by decide +kernel
theorem dX5_movesOf_55 : decode cX5_movesOf 55 = .ok (.iload 4, 2) := by decide +kernel
theorem dX5_movesOf_57 : decode cX5_movesOf 57 = .ok (.ishr, 1) := by decide +kernel
theorem dX5_movesOf_58 : decode cX5_movesOf 58 = .ok (.iconst 1, 1) := by decide +kernel
theorem dX5_movesOf_59 : decode cX5_movesOf 59 = .ok (.iand, 1) := by decide +kernel
theorem dX5_movesOf_60 : decode cX5_movesOf 60 = .ok (.iconst 1, 1) := by decide +kernel
theorem dX5_movesOf_61 : decode cX5_movesOf 61 = .ok (.if_icmp .ne 23, 3) := by decide +kernel
theorem dX5_movesOf_64 : decode cX5_movesOf 64 = .ok (.aload_n 0, 1) := by decide +kernel
theorem dX5_movesOf_65 : decode cX5_movesOf 65 = .ok (.getfield 19, 3) := by decide +kernel
theorem dX5_movesOf_68 : decode cX5_movesOf 68 = .ok (.iload 4, 2) := by decide +kernel
theorem dX5_movesOf_70 : decode cX5_movesOf 70 = .ok (.iaload, 1) := by decide +kernel
theorem dX5_movesOf_71 : decode cX5_movesOf 71 = .ok (.aload_n 0, 1) := by decide +kernel
theorem dX5_movesOf_72 : decode cX5_movesOf 72 = .ok (.getfield 19, 3) := by decide +kernel
theorem dX5_movesOf_75 : decode cX5_movesOf 75 = .ok (.iload_n 1, 1) := by decide +kernel
theorem dX5_movesOf_76 : decode cX5_movesOf 76 = .ok (.iaload, 1) := by decide +kernel
theorem dX5_movesOf_77 : decode cX5_movesOf 77 = .ok (.if_icmp .le 7, 3) := by decide +kernel
theorem dX5_movesOf_80 : decode cX5_movesOf 80 = .ok (.iconst 1, 1) := by decide +kernel
theorem dX5_movesOf_81 : decode cX5_movesOf 81 = .ok (.goto 4, 3) := by decide +kernel
theorem dX5_movesOf_84 : decode cX5_movesOf 84 = .ok (.iconst 0, 1) := by decide +kernel
theorem dX5_movesOf_85 : decode cX5_movesOf 85 = .ok (.iadd, 1) := by decide +kernel
theorem dX5_movesOf_86 : decode cX5_movesOf 86 = .ok (.istore_n 3, 1) := by decide +kernel
theorem dX5_movesOf_87 : decode cX5_movesOf 87 = .ok (.iinc 4 1, 3) := by decide +kernel
theorem dX5_movesOf_90 : decode cX5_movesOf 90 = .ok (.goto (-46), 3) := by decide +kernel
theorem dX5_movesOf_93 : decode cX5_movesOf 93 = .ok (.iload_n 3, 1) := by decide +kernel
theorem dX5_movesOf_94 : decode cX5_movesOf 94 = .ok (.ireturn, 1) := by decide +kernel
set_option maxRecDepth 20000 in
theorem ggX5_goesYear_X5_movesOf : GoodIn wsX5_goesYear wsX5_movesOf := goodIn_r _ [10, 3, 11, 1, 15, 16, 17, 18, 19, 20, 21, 22, 23, 24, 25, 26, 27, 28, 29, 30, 31, 32, 33, 34, 35, 36, 37, 38] (by decide +kernel) (by decide +kernel)
set_option maxRecDepth 20000 in
theorem gX5_goesYear_X5_movesOf : GoodIn wsX5_goesYear (wsV RX5 156 RX5 yX5_movesOf wsX5_movesOf) := goodIn_app (goodIn_of _ (by decide +kernel)) ggX5_goesYear_X5_movesOf
set_option maxRecDepth 20000 in
theorem ggX5_goesYear_X5_least : GoodIn wsX5_goesYear wsX5_least := goodIn_r _ [14] (by decide +kernel) (by decide +kernel)
set_option maxRecDepth 20000 in
theorem gX5_goesYear_X5_least : GoodIn wsX5_goesYear (va_wsS RX5 153 yX5_least wsX5_least) := goodIn_app (goodIn_of _ (by decide +kernel)) ggX5_goesYear_X5_least
theorem dX5_goesYear_0 : decode cX5_goesYear 0 = .ok (.iconst 0, 1) := by decide +kernel
theorem dX5_goesYear_1 : decode cX5_goesYear 1 = .ok (.istore_n 2, 1) := by decide +kernel
theorem dX5_goesYear_2 : decode cX5_goesYear 2 = .ok (.iconst 0, 1) := by decide +kernel
theorem dX5_goesYear_3 : decode cX5_goesYear 3 = .ok (.istore_n 3, 1) := by decide +kernel
theorem dX5_goesYear_4 : decode cX5_goesYear 4 = .ok (.iload_n 3, 1) := by decide +kernel
theorem dX5_goesYear_5 : decode cX5_goesYear 5 = .ok (.aload_n 0, 1) := by decide +kernel
theorem dX5_goesYear_6 : decode cX5_goesYear 6 = .ok (.getfield 57, 3) := by decide +kernel
theorem dX5_goesYear_9 : decode cX5_goesYear 9 = .ok (.if_icmp .ge 21, 3) := by decide +kernel
theorem dX5_goesYear_12 : decode cX5_goesYear 12 = .ok (.aload_n 0, 1) := by decide +kernel
theorem dX5_goesYear_13 : decode cX5_goesYear 13 = .ok (.getfield 49, 3) := by decide +kernel
theorem dX5_goesYear_16 : decode cX5_goesYear 16 = .ok (.iload_n 3, 1) := by decide +kernel
theorem dX5_goesYear_17 : decode cX5_goesYear 17 = .ok (.aload_n 0, 1) := by decide +kernel
theorem dX5_goesYear_18 : decode cX5_goesYear 18 = .ok (.iload_n 3, 1) := by decide +kernel
theorem dX5_goesYear_19 : decode cX5_goesYear 19 = .ok (.iload_n 1, 1) := by decide +kernel
theorem dX5_goesYear_20 : decode cX5_goesYear 20 = .ok (.invokevirtual 156, 3) := by decide +kernel
theorem dX5_goesYear_23 : decode cX5_goesYear 23 = .ok (.iastore, 1) := by decide +kernel
theorem dX5_goesYear_24 : decode cX5_goesYear 24 = .ok (.iinc 3 1, 3) := by decide +kernel
theorem dX5_goesYear_27 : decode cX5_goesYear 27 = .ok (.goto (-23), 3) := by decide +kernel
theorem dX5_goesYear_30 : decode cX5_goesYear 30 = .ok (.iconst 0, 1) := by decide +kernel
theorem dX5_goesYear_31 : decode cX5_goesYear 31 = .ok (.istore_n 3, 1) := by decide +kernel
theorem dX5_goesYear_32 : decode cX5_goesYear 32 = .ok (.iload_n 3, 1) := by decide +kernel
theorem dX5_goesYear_33 : decode cX5_goesYear 33 = .ok (.aload_n 0, 1) := by decide +kernel
theorem dX5_goesYear_34 : decode cX5_goesYear 34 = .ok (.getfield 57, 3) := by decide +kernel
theorem dX5_goesYear_37 : decode cX5_goesYear 37 = .ok (.if_icmp .ge 88, 3) := by decide +kernel
theorem dX5_goesYear_40 : decode cX5_goesYear 40 = .ok (.iload_n 1, 1) := by decide +kernel
theorem dX5_goesYear_41 : decode cX5_goesYear 41 = .ok (.iload_n 3, 1) := by decide +kernel
theorem dX5_goesYear_42 : decode cX5_goesYear 42 = .ok (.ishr, 1) := by decide +kernel
theorem dX5_goesYear_43 : decode cX5_goesYear 43 = .ok (.iconst 1, 1) := by decide +kernel
theorem dX5_goesYear_44 : decode cX5_goesYear 44 = .ok (.iand, 1) := by decide +kernel
theorem dX5_goesYear_45 : decode cX5_goesYear 45 = .ok (.iconst 1, 1) := by decide +kernel
theorem dX5_goesYear_46 : decode cX5_goesYear 46 = .ok (.if_icmp .ne 10, 3) := by decide +kernel
theorem dX5_goesYear_49 : decode cX5_goesYear 49 = .ok (.aload_n 0, 1) := by decide +kernel
theorem dX5_goesYear_50 : decode cX5_goesYear 50 = .ok (.getfield 19, 3) := by decide +kernel
theorem dX5_goesYear_53 : decode cX5_goesYear 53 = .ok (.iload_n 3, 1) := by decide +kernel
theorem dX5_goesYear_54 : decode cX5_goesYear 54 = .ok (.iconst (-1), 1) := by decide +kernel
theorem dX5_goesYear_55 : decode cX5_goesYear 55 = .ok (.iastore, 1) := by decide +kernel
theorem dX5_goesYear_56 : decode cX5_goesYear 56 = .ok (.aload_n 0, 1) := by decide +kernel
theorem dX5_goesYear_57 : decode cX5_goesYear 57 = .ok (.getfield 19, 3) := by decide +kernel
theorem dX5_goesYear_60 : decode cX5_goesYear 60 = .ok (.iload_n 3, 1) := by decide +kernel
theorem dX5_goesYear_61 : decode cX5_goesYear 61 = .ok (.iaload, 1) := by decide +kernel
theorem dX5_goesYear_62 : decode cX5_goesYear 62 = .ok (.ifCond .ge 6, 3) := by decide +kernel
theorem dX5_goesYear_65 : decode cX5_goesYear 65 = .ok (.goto 54, 3) := by decide +kernel
theorem dX5_goesYear_68 : decode cX5_goesYear 68 = .ok (.aload_n 0, 1) := by decide +kernel
theorem dX5_goesYear_69 : decode cX5_goesYear 69 = .ok (.getfield 19, 3) := by decide +kernel
theorem dX5_goesYear_72 : decode cX5_goesYear 72 = .ok (.iload_n 3, 1) := by decide +kernel
theorem dX5_goesYear_73 : decode cX5_goesYear 73 = .ok (.dup2, 1) := by decide +kernel
theorem dX5_goesYear_74 : decode cX5_goesYear 74 = .ok (.iaload, 1) := by decide +kernel
theorem dX5_goesYear_75 : decode cX5_goesYear 75 = .ok (.aload_n 0, 1) := by decide +kernel
theorem dX5_goesYear_76 : decode cX5_goesYear 76 = .ok (.getfield 49, 3) := by decide +kernel
theorem dX5_goesYear_79 : decode cX5_goesYear 79 = .ok (.iload_n 3, 1) := by decide +kernel
theorem dX5_goesYear_80 : decode cX5_goesYear 80 = .ok (.iaload, 1) := by decide +kernel
theorem dX5_goesYear_81 : decode cX5_goesYear 81 = .ok (.iadd, 1) := by decide +kernel
theorem dX5_goesYear_82 : decode cX5_goesYear 82 = .ok (.iastore, 1) := by decide +kernel
theorem dX5_goesYear_83 : decode cX5_goesYear 83 = .ok (.aload_n 0, 1) := by decide +kernel
theorem dX5_goesYear_84 : decode cX5_goesYear 84 = .ok (.getfield 16, 3) := by decide +kernel
theorem dX5_goesYear_87 : decode cX5_goesYear 87 = .ok (.iload_n 3, 1) := by decide +kernel
theorem dX5_goesYear_88 : decode cX5_goesYear 88 = .ok (.bipush 99, 2) := by decide +kernel
theorem dX5_goesYear_90 : decode cX5_goesYear 90 = .ok (.aload_n 0, 1) := by decide +kernel
theorem dX5_goesYear_91 : decode cX5_goesYear 91 = .ok (.getfield 16, 3) := by decide +kernel
theorem dX5_goesYear_94 : decode cX5_goesYear 94 = .ok (.iload_n 3, 1) := by decide +kernel
theorem dX5_goesYear_95 : decode cX5_goesYear 95 = .ok (.iaload, 1) := by decide +kernel
theorem dX5_goesYear_96 : decode cX5_goesYear 96 = .ok (.iconst 1, 1) := by decide +kernel
theorem dX5_goesYear_97 : decode cX5_goesYear 97 = .ok (.iadd, 1) := by decide +kernel
theorem dX5_goesYear_98 : decode cX5_goesYear 98 = .ok (.invokestatic 153, 3) := by decide +kernel
theorem dX5_goesYear_101 : decode cX5_goesYear 101 = .ok (.iastore, 1) := by decide +kernel
theorem dX5_goesYear_102 : decode cX5_goesYear 102 = .ok (.iload_n 2, 1) := by decide +kernel
theorem dX5_goesYear_103 : decode cX5_goesYear 103 = .ok (.aload_n 0, 1) := by decide +kernel
theorem dX5_goesYear_104 : decode cX5_goesYear 104 = .ok (.getfield 49, 3) := by decide +kernel
theorem dX5_goesYear_107 : decode cX5_goesYear 107 = .ok (.iload_n 3, 1) := by decide +kernel
theorem dX5_goesYear_108 : decode cX5_goesYear 108 = .ok (.iaload, 1) := by decide +kernel
theorem dX5_goesYear_109 : decode cX5_goesYear 109 = .ok (.ifCond .le 7, 3) := by decide +kernel
theorem dX5_goesYear_112 : decode cX5_goesYear 112 = .ok (.iconst 1, 1) := by decide +kernel
theorem dX5_goesYear_113 : decode cX5_goesYear 113 = .ok (.goto 4, 3) := by decide +kernel
theorem dX5_goesYear_116 : decode cX5_goesYear 116 = .ok (.iconst 0, 1) := by decide +kernel
theorem dX5_goesYear_117 : decode cX5_goesYear 117 = .ok (.iadd, 1) := by decide +kernel
theorem dX5_goesYear_118 : decode cX5_goesYear 118 = .ok (.istore_n 2, 1) := by decide +kernel
theorem dX5_goesYear_119 : decode cX5_goesYear 119 = .ok (.iinc 3 1, 3) := by decide +kernel
theorem dX5_goesYear_122 : decode cX5_goesYear 122 = .ok (.goto (-90), 3) := by decide +kernel
theorem dX5_goesYear_125 : decode cX5_goesYear 125 = .ok (.aload_n 0, 1) := by decide +kernel
theorem dX5_goesYear_126 : decode cX5_goesYear 126 = .ok (.dup, 1) := by decide +kernel
theorem dX5_goesYear_127 : decode cX5_goesYear 127 = .ok (.getfield 107, 3) := by decide +kernel
theorem dX5_goesYear_130 : decode cX5_goesYear 130 = .ok (.iconst 1, 1) := by decide +kernel
theorem dX5_goesYear_131 : decode cX5_goesYear 131 = .ok (.iadd, 1) := by decide +kernel
theorem dX5_goesYear_132 : decode cX5_goesYear 132 = .ok (.putfield 107, 3) := by decide +kernel
theorem dX5_goesYear_135 : decode cX5_goesYear 135 = .ok (.iload_n 2, 1) := by decide +kernel
theorem dX5_goesYear_136 : decode cX5_goesYear 136 = .ok (.ireturn, 1) := by decide +kernel
set_option maxRecDepth 20000 in
theorem ggX5_areAlive_X5_aliveBits : GoodIn wsX5_areAlive wsX5_aliveBits := goodIn_r _ [5, 6, 7, 8, 9, 10, 11, 12, 13, 14, 15, 16, 17, 18, 19, 20, 21, 22, 23, 24, 25, 26, 27, 28, 29, 30, 31] (by decide +kernel) (by decide +kernel)
set_option maxRecDepth 20000 in
theorem gX5_areAlive_X5_aliveBits : GoodIn wsX5_areAlive (wsV RX5 159 RX5 yX5_aliveBits wsX5_aliveBits) := goodIn_app (goodIn_of _ (by decide +kernel)) ggX5_areAlive_X5_aliveBits
theorem dX5_areAlive_0 : decode cX5_areAlive 0 = .ok (.iload_n 1, 1) := by decide +kernel
theorem dX5_areAlive_1 : decode cX5_areAlive 1 = .ok (.ifCond .lt 18, 3) := by decide +kernel
theorem dX5_areAlive_4 : decode cX5_areAlive 4 = .ok (.iload_n 1, 1) := by decide +kernel
theorem dX5_areAlive_5 : decode cX5_areAlive 5 = .ok (.aload_n 0, 1) := by decide +kernel
theorem dX5_areAlive_6 : decode cX5_areAlive 6 = .ok (.invokevirtual 159, 3) := by decide +kernel
theorem dX5_areAlive_9 : decode cX5_areAlive 9 = .ok (.iconst (-1), 1) := by decide +kernel
theorem dX5_areAlive_10 : decode cX5_areAlive 10 = .ok (.ixor, 1) := by decide +kernel
theorem dX5_areAlive_11 : decode cX5_areAlive 11 = .ok (.iand, 1) := by decide +kernel
theorem dX5_areAlive_12 : decode cX5_areAlive 12 = .ok (.ifCond .ne 7, 3) := by decide +kernel
theorem dX5_areAlive_15 : decode cX5_areAlive 15 = .ok (.iconst 1, 1) := by decide +kernel
theorem dX5_areAlive_16 : decode cX5_areAlive 16 = .ok (.goto 4, 3) := by decide +kernel
theorem dX5_areAlive_19 : decode cX5_areAlive 19 = .ok (.iconst 0, 1) := by decide +kernel
theorem dX5_areAlive_20 : decode cX5_areAlive 20 = .ok (.ireturn, 1) := by decide +kernel
set_option maxRecDepth 20000 in
theorem ggX5_enter_X5_isIn : GoodIn wsX5_enter wsX5_isIn := goodIn_r _ [5] (by decide +kernel) (by decide +kernel)
set_option maxRecDepth 20000 in
theorem gX5_enter_X5_isIn : GoodIn wsX5_enter (va_wsS RX5 79 yX5_isIn wsX5_isIn) := goodIn_app (goodIn_of _ (by decide +kernel)) ggX5_enter_X5_isIn
set_option maxRecDepth 20000 in
theorem ggX5_enter_X5_entryOf : GoodIn wsX5_enter wsX5_entryOf := goodIn_r _ [8] (by decide +kernel) (by decide +kernel)
set_option maxRecDepth 20000 in
theorem gX5_enter_X5_entryOf : GoodIn wsX5_enter (va_wsS RX5 113 yX5_entryOf wsX5_entryOf) := goodIn_app (goodIn_of _ (by decide +kernel)) ggX5_enter_X5_entryOf
set_option maxRecDepth 20000 in
theorem ggX5_enter_X5_whoOn : GoodIn wsX5_enter wsX5_whoOn := goodIn_r _ [12, 1, 13, 27, 28, 29, 30, 31, 32, 33, 34, 35, 36, 37, 38, 39, 40, 41, 42, 43, 44, 45, 46, 47, 48, 49, 50] (by decide +kernel) (by decide +kernel)
set_option maxRecDepth 20000 in
theorem gX5_enter_X5_whoOn : GoodIn wsX5_enter (wsV RX5 117 RX5 yX5_whoOn wsX5_whoOn) := goodIn_app (goodIn_of _ (by decide +kernel)) ggX5_enter_X5_whoOn
set_option maxRecDepth 20000 in
theorem ggX5_enter_X5_no : GoodIn wsX5_enter wsX5_no := goodIn_r _ [17, 18, 27, 28, 29, 30, 31, 32, 33, 34, 35, 36, 37, 38, 39, 40, 41, 42, 43, 44, 45, 46, 47, 48, 49, 50] (by decide +kernel) (by decide +kernel)
set_option maxRecDepth 20000 in
theorem gX5_enter_X5_no : GoodIn wsX5_enter (wsV RX5 68 RX5 yX5_no wsX5_no) := goodIn_app (goodIn_of _ (by decide +kernel)) ggX5_enter_X5_no
set_option maxRecDepth 20000 in
theorem ggX5_enter_X5_comesIn : GoodIn wsX5_enter wsX5_comesIn := goodIn_r _ [22, 1, 23, 24, 13, 25, 26, 6, 7, 4, 8, 9, 10, 11, 12, 27, 28, 29, 30, 31, 32, 33, 34, 35, 36, 37, 38, 39, 40, 41, 42, 43, 44, 45, 46, 47, 48, 49, 50] (by decide +kernel) (by decide +kernel)
set_option maxRecDepth 20000 in
theorem gX5_enter_X5_comesIn : GoodIn wsX5_enter (wsV RX5 120 RX5 yX5_comesIn wsX5_comesIn) := goodIn_app (goodIn_of _ (by decide +kernel)) ggX5_enter_X5_comesIn
theorem dX5_enter_0 : decode cX5_enter 0 = .ok (.iload_n 1, 1) := by decide +kernel
theorem dX5_enter_1 : decode cX5_enter 1 = .ok (.iconst 0, 1) := by decide +kernel
theorem dX5_enter_2 : decode cX5_enter 2 = .ok (.iconst 5, 1) := by decide +kernel
theorem dX5_enter_3 : decode cX5_enter 3 = .ok (.invokestatic 79, 3) := by decide +kernel
theorem dX5_enter_6 : decode cX5_enter 6 = .ok (.ifCond .ne 8, 3) := by decide +kernel
theorem dX5_enter_9 : decode cX5_enter 9 = .ok (.bipush (-2), 2) := by decide +kernel
theorem dX5_enter_11 : decode cX5_enter 11 = .ok (.goto 60, 3) := by decide +kernel
theorem dX5_enter_14 : decode cX5_enter 14 = .ok (.iload_n 2, 1) := by decide +kernel
theorem dX5_enter_15 : decode cX5_enter 15 = .ok (.ifCond .lt 7, 3) := by decide +kernel
theorem dX5_enter_18 : decode cX5_enter 18 = .ok (.iload_n 3, 1) := by decide +kernel
theorem dX5_enter_19 : decode cX5_enter 19 = .ok (.ifCond .ge 8, 3) := by decide +kernel
theorem dX5_enter_22 : decode cX5_enter 22 = .ok (.bipush (-4), 2) := by decide +kernel
theorem dX5_enter_24 : decode cX5_enter 24 = .ok (.goto 47, 3) := by decide +kernel
theorem dX5_enter_27 : decode cX5_enter 27 = .ok (.iload_n 2, 1) := by decide +kernel
theorem dX5_enter_28 : decode cX5_enter 28 = .ok (.bipush 99, 2) := by decide +kernel
theorem dX5_enter_30 : decode cX5_enter 30 = .ok (.if_icmp .gt 18, 3) := by decide +kernel
theorem dX5_enter_33 : decode cX5_enter 33 = .ok (.iload_n 3, 1) := by decide +kernel
theorem dX5_enter_34 : decode cX5_enter 34 = .ok (.bipush 9, 2) := by decide +kernel
theorem dX5_enter_36 : decode cX5_enter 36 = .ok (.if_icmp .gt 12, 3) := by decide +kernel
theorem dX5_enter_39 : decode cX5_enter 39 = .ok (.aload_n 0, 1) := by decide +kernel
theorem dX5_enter_40 : decode cX5_enter 40 = .ok (.getfield 57, 3) := by decide +kernel
theorem dX5_enter_43 : decode cX5_enter 43 = .ok (.bipush 8, 2) := by decide +kernel
theorem dX5_enter_45 : decode cX5_enter 45 = .ok (.if_icmp .ne 8, 3) := by decide +kernel
theorem dX5_enter_48 : decode cX5_enter 48 = .ok (.bipush (-6), 2) := by decide +kernel
theorem dX5_enter_50 : decode cX5_enter 50 = .ok (.goto 21, 3) := by decide +kernel
theorem dX5_enter_53 : decode cX5_enter 53 = .ok (.aload_n 0, 1) := by decide +kernel
theorem dX5_enter_54 : decode cX5_enter 54 = .ok (.iload_n 1, 1) := by decide +kernel
theorem dX5_enter_55 : decode cX5_enter 55 = .ok (.iload_n 2, 1) := by decide +kernel
theorem dX5_enter_56 : decode cX5_enter 56 = .ok (.invokestatic 113, 3) := by decide +kernel
theorem dX5_enter_59 : decode cX5_enter 59 = .ok (.invokevirtual 117, 3) := by decide +kernel
theorem dX5_enter_62 : decode cX5_enter 62 = .ok (.ifCond .lt 8, 3) := by decide +kernel
theorem dX5_enter_65 : decode cX5_enter 65 = .ok (.bipush (-3), 2) := by decide +kernel
theorem dX5_enter_67 : decode cX5_enter 67 = .ok (.goto 4, 3) := by decide +kernel
theorem dX5_enter_70 : decode cX5_enter 70 = .ok (.iconst 0, 1) := by decide +kernel
theorem dX5_enter_71 : decode cX5_enter 71 = .ok (.istore 4, 2) := by decide +kernel
theorem dX5_enter_73 : decode cX5_enter 73 = .ok (.iload 4, 2) := by decide +kernel
theorem dX5_enter_75 : decode cX5_enter 75 = .ok (.ifCond .eq 10, 3) := by decide +kernel
theorem dX5_enter_78 : decode cX5_enter 78 = .ok (.aload_n 0, 1) := by decide +kernel
theorem dX5_enter_79 : decode cX5_enter 79 = .ok (.iload 4, 2) := by decide +kernel
theorem dX5_enter_81 : decode cX5_enter 81 = .ok (.invokevirtual 68, 3) := by decide +kernel
theorem dX5_enter_84 : decode cX5_enter 84 = .ok (.ireturn, 1) := by decide +kernel
theorem dX5_enter_85 : decode cX5_enter 85 = .ok (.aload_n 0, 1) := by decide +kernel
theorem dX5_enter_86 : decode cX5_enter 86 = .ok (.iload_n 1, 1) := by decide +kernel
theorem dX5_enter_87 : decode cX5_enter 87 = .ok (.iload_n 2, 1) := by decide +kernel
theorem dX5_enter_88 : decode cX5_enter 88 = .ok (.iload_n 3, 1) := by decide +kernel
theorem dX5_enter_89 : decode cX5_enter 89 = .ok (.invokevirtual 120, 3) := by decide +kernel
theorem dX5_enter_92 : decode cX5_enter 92 = .ok (.pop, 1) := by decide +kernel
theorem dX5_enter_93 : decode cX5_enter 93 = .ok (.aload_n 0, 1) := by decide +kernel
theorem dX5_enter_94 : decode cX5_enter 94 = .ok (.getfield 57, 3) := by decide +kernel
theorem dX5_enter_97 : decode cX5_enter 97 = .ok (.iconst 1, 1) := by decide +kernel
theorem dX5_enter_98 : decode cX5_enter 98 = .ok (.isub, 1) := by decide +kernel
theorem dX5_enter_99 : decode cX5_enter 99 = .ok (.ireturn, 1) := by decide +kernel
set_option maxRecDepth 20000 in
theorem ggX5_lodger_X5_isAlive : GoodIn wsX5_lodger wsX5_isAlive := goodIn_r _ [10, 11, 3, 27, 28, 29, 30, 31, 32, 33, 34, 35, 36, 37, 38, 39, 40, 41, 42, 43, 44, 45, 46, 47, 48, 49, 50] (by decide +kernel) (by decide +kernel)
set_option maxRecDepth 20000 in
theorem gX5_lodger_X5_isAlive : GoodIn wsX5_lodger (wsV RX5 104 RX5 yX5_isAlive wsX5_isAlive) := goodIn_app (goodIn_of _ (by decide +kernel)) ggX5_lodger_X5_isAlive
set_option maxRecDepth 20000 in
theorem ggX5_lodger_X5_no : GoodIn wsX5_lodger wsX5_no := goodIn_r _ [15, 16, 27, 28, 29, 30, 31, 32, 33, 34, 35, 36, 37, 38, 39, 40, 41, 42, 43, 44, 45, 46, 47, 48, 49, 50] (by decide +kernel) (by decide +kernel)
set_option maxRecDepth 20000 in
theorem gX5_lodger_X5_no : GoodIn wsX5_lodger (wsV RX5 68 RX5 yX5_no wsX5_no) := goodIn_app (goodIn_of _ (by decide +kernel)) ggX5_lodger_X5_no
set_option maxRecDepth 20000 in
theorem ggX5_lodger_X5_chanceOf : GoodIn wsX5_lodger wsX5_chanceOf := goodIn_r _ [20, 2, 1, 21, 22, 9, 23, 27, 28, 29, 30, 31, 32, 33, 34, 35, 36, 37, 38, 39, 40, 41, 42, 43, 44, 45, 46, 47, 48, 49, 50] (by decide +kernel) (by decide +kernel)
set_option maxRecDepth 20000 in
theorem gX5_lodger_X5_chanceOf : GoodIn wsX5_lodger (wsV RX5 162 RX5 yX5_chanceOf wsX5_chanceOf) := goodIn_app (goodIn_of _ (by decide +kernel)) ggX5_lodger_X5_chanceOf
set_option maxRecDepth 20000 in
theorem ggX5_lodger_X5_climbs : GoodIn wsX5_lodger wsX5_climbs := goodIn_r _ [26, 21, 22, 9, 23] (by decide +kernel) (by decide +kernel)
set_option maxRecDepth 20000 in
theorem gX5_lodger_X5_climbs : GoodIn wsX5_lodger (va_wsS RX5 165 yX5_climbs wsX5_climbs) := goodIn_app (goodIn_of _ (by decide +kernel)) ggX5_lodger_X5_climbs
theorem dX5_lodger_0 : decode cX5_lodger 0 = .ok (.aload_n 0, 1) := by decide +kernel
theorem dX5_lodger_1 : decode cX5_lodger 1 = .ok (.iload_n 1, 1) := by decide +kernel
theorem dX5_lodger_2 : decode cX5_lodger 2 = .ok (.invokevirtual 104, 3) := by decide +kernel
theorem dX5_lodger_5 : decode cX5_lodger 5 = .ok (.ifCond .ne 9, 3) := by decide +kernel
theorem dX5_lodger_8 : decode cX5_lodger 8 = .ok (.aload_n 0, 1) := by decide +kernel
theorem dX5_lodger_9 : decode cX5_lodger 9 = .ok (.iconst (-1), 1) := by decide +kernel
theorem dX5_lodger_10 : decode cX5_lodger 10 = .ok (.invokevirtual 68, 3) := by decide +kernel
theorem dX5_lodger_13 : decode cX5_lodger 13 = .ok (.ireturn, 1) := by decide +kernel
theorem dX5_lodger_14 : decode cX5_lodger 14 = .ok (.iload_n 2, 1) := by decide +kernel
theorem dX5_lodger_15 : decode cX5_lodger 15 = .ok (.tableswitch 98 0 6 #[41, 48, 55, 62, 69, 75, 91], 41) := by decide +kernel
theorem dX5_lodger_56 : decode cX5_lodger 56 = .ok (.aload_n 0, 1) := by decide +kernel
theorem dX5_lodger_57 : decode cX5_lodger 57 = .ok (.getfield 13, 3) := by decide +kernel
theorem dX5_lodger_60 : decode cX5_lodger 60 = .ok (.iload_n 1, 1) := by decide +kernel
theorem dX5_lodger_61 : decode cX5_lodger 61 = .ok (.iaload, 1) := by decide +kernel
theorem dX5_lodger_62 : decode cX5_lodger 62 = .ok (.ireturn, 1) := by decide +kernel
theorem dX5_lodger_63 : decode cX5_lodger 63 = .ok (.aload_n 0, 1) := by decide +kernel
theorem dX5_lodger_64 : decode cX5_lodger 64 = .ok (.getfield 16, 3) := by decide +kernel
theorem dX5_lodger_67 : decode cX5_lodger 67 = .ok (.iload_n 1, 1) := by decide +kernel
theorem dX5_lodger_68 : decode cX5_lodger 68 = .ok (.iaload, 1) := by decide +kernel
theorem dX5_lodger_69 : decode cX5_lodger 69 = .ok (.ireturn, 1) := by decide +kernel
theorem dX5_lodger_70 : decode cX5_lodger 70 = .ok (.aload_n 0, 1) := by decide +kernel
theorem dX5_lodger_71 : decode cX5_lodger 71 = .ok (.getfield 19, 3) := by decide +kernel
theorem dX5_lodger_74 : decode cX5_lodger 74 = .ok (.iload_n 1, 1) := by decide +kernel
theorem dX5_lodger_75 : decode cX5_lodger 75 = .ok (.iaload, 1) := by decide +kernel
theorem dX5_lodger_76 : decode cX5_lodger 76 = .ok (.ireturn, 1) := by decide +kernel
theorem dX5_lodger_77 : decode cX5_lodger 77 = .ok (.aload_n 0, 1) := by decide +kernel
theorem dX5_lodger_78 : decode cX5_lodger 78 = .ok (.getfield 22, 3) := by decide +kernel
theorem dX5_lodger_81 : decode cX5_lodger 81 = .ok (.iload_n 1, 1) := by decide +kernel
theorem dX5_lodger_82 : decode cX5_lodger 82 = .ok (.iaload, 1) := by decide +kernel
theorem dX5_lodger_83 : decode cX5_lodger 83 = .ok (.ireturn, 1) := by decide +kernel
theorem dX5_lodger_84 : decode cX5_lodger 84 = .ok (.aload_n 0, 1) := by decide +kernel
theorem dX5_lodger_85 : decode cX5_lodger 85 = .ok (.iload_n 1, 1) := by decide +kernel
theorem dX5_lodger_86 : decode cX5_lodger 86 = .ok (.invokevirtual 162, 3) := by decide +kernel
theorem dX5_lodger_89 : decode cX5_lodger 89 = .ok (.ireturn, 1) := by decide +kernel
theorem dX5_lodger_90 : decode cX5_lodger 90 = .ok (.aload_n 0, 1) := by decide +kernel
theorem dX5_lodger_91 : decode cX5_lodger 91 = .ok (.getfield 13, 3) := by decide +kernel
theorem dX5_lodger_94 : decode cX5_lodger 94 = .ok (.iload_n 1, 1) := by decide +kernel
theorem dX5_lodger_95 : decode cX5_lodger 95 = .ok (.iaload, 1) := by decide +kernel
theorem dX5_lodger_96 : decode cX5_lodger 96 = .ok (.aload_n 0, 1) := by decide +kernel
theorem dX5_lodger_97 : decode cX5_lodger 97 = .ok (.getfield 16, 3) := by decide +kernel
theorem dX5_lodger_100 : decode cX5_lodger 100 = .ok (.iload_n 1, 1) := by decide +kernel
theorem dX5_lodger_101 : decode cX5_lodger 101 = .ok (.iaload, 1) := by decide +kernel
theorem dX5_lodger_102 : decode cX5_lodger 102 = .ok (.invokestatic 165, 3) := by decide +kernel
theorem dX5_lodger_105 : decode cX5_lodger 105 = .ok (.ireturn, 1) := by decide +kernel
theorem dX5_lodger_106 : decode cX5_lodger 106 = .ok (.aload_n 0, 1) := by decide +kernel
theorem dX5_lodger_107 : decode cX5_lodger 107 = .ok (.getfield 25, 3) := by decide +kernel
theorem dX5_lodger_110 : decode cX5_lodger 110 = .ok (.iload_n 1, 1) := by decide +kernel
theorem dX5_lodger_111 : decode cX5_lodger 111 = .ok (.iaload, 1) := by decide +kernel
theorem dX5_lodger_112 : decode cX5_lodger 112 = .ok (.ireturn, 1) := by decide +kernel
theorem dX5_lodger_113 : decode cX5_lodger 113 = .ok (.aload_n 0, 1) := by decide +kernel
theorem dX5_lodger_114 : decode cX5_lodger 114 = .ok (.bipush (-2), 2) := by decide +kernel
theorem dX5_lodger_116 : decode cX5_lodger 116 = .ok (.invokevirtual 68, 3) := by decide +kernel
theorem dX5_lodger_119 : decode cX5_lodger 119 = .ok (.ireturn, 1) := by decide +kernel
set_option maxRecDepth 20000 in
theorem ggX5_wish_X5_isAlive : GoodIn wsX5_wish wsX5_isAlive := goodIn_r _ [6, 7, 8, 17, 18, 19, 20, 21, 22, 23, 24, 25, 26, 27, 28, 29, 30, 31, 32, 33, 34, 35, 36, 37, 38, 39, 40] (by decide +kernel) (by decide +kernel)
set_option maxRecDepth 20000 in
theorem gX5_wish_X5_isAlive : GoodIn wsX5_wish (wsV RX5 104 RX5 yX5_isAlive wsX5_isAlive) := goodIn_app (goodIn_of _ (by decide +kernel)) ggX5_wish_X5_isAlive
set_option maxRecDepth 20000 in
theorem ggX5_wish_X5_isFloor : GoodIn wsX5_wish wsX5_isFloor := goodIn_r _ [11] (by decide +kernel) (by decide +kernel)
set_option maxRecDepth 20000 in
theorem gX5_wish_X5_isFloor : GoodIn wsX5_wish (va_wsS RX5 168 yX5_isFloor wsX5_isFloor) := goodIn_app (goodIn_of _ (by decide +kernel)) ggX5_wish_X5_isFloor
set_option maxRecDepth 20000 in
theorem ggX5_wish_X5_no : GoodIn wsX5_wish wsX5_no := goodIn_r _ [15, 16, 17, 18, 19, 20, 21, 22, 23, 24, 25, 26, 27, 28, 29, 30, 31, 32, 33, 34, 35, 36, 37, 38, 39, 40] (by decide +kernel) (by decide +kernel)
set_option maxRecDepth 20000 in
theorem gX5_wish_X5_no : GoodIn wsX5_wish (wsV RX5 68 RX5 yX5_no wsX5_no) := goodIn_app (goodIn_of _ (by decide +kernel)) ggX5_wish_X5_no
theorem dX5_wish_0 : decode cX5_wish 0 = .ok (.aload_n 0, 1) := by decide +kernel
theorem dX5_wish_1 : decode cX5_wish 1 = .ok (.iload_n 1, 1) := by decide +kernel
theorem dX5_wish_2 : decode cX5_wish 2 = .ok (.invokevirtual 104, 3) := by decide +kernel
theorem dX5_wish_5 : decode cX5_wish 5 = .ok (.ifCond .eq 15, 3) := by decide +kernel
theorem dX5_wish_8 : decode cX5_wish 8 = .ok (.iload_n 2, 1) := by decide +kernel
theorem dX5_wish_9 : decode cX5_wish 9 = .ok (.iconst (-1), 1) := by decide +kernel
theorem dX5_wish_10 : decode cX5_wish 10 = .ok (.if_icmp .eq 16, 3) := by decide +kernel
theorem dX5_wish_13 : decode cX5_wish 13 = .ok (.iload_n 2, 1) := by decide +kernel
theorem dX5_wish_14 : decode cX5_wish 14 = .ok (.invokestatic 168, 3) := by decide +kernel
theorem dX5_wish_17 : decode cX5_wish 17 = .ok (.ifCond .ne 9, 3) := by decide +kernel
theorem dX5_wish_20 : decode cX5_wish 20 = .ok (.aload_n 0, 1) := by decide +kernel
theorem dX5_wish_21 : decode cX5_wish 21 = .ok (.iconst (-1), 1) := by decide +kernel
theorem dX5_wish_22 : decode cX5_wish 22 = .ok (.invokevirtual 68, 3) := by decide +kernel
theorem dX5_wish_25 : decode cX5_wish 25 = .ok (.ireturn, 1) := by decide +kernel
theorem dX5_wish_26 : decode cX5_wish 26 = .ok (.aload_n 0, 1) := by decide +kernel
theorem dX5_wish_27 : decode cX5_wish 27 = .ok (.getfield 25, 3) := by decide +kernel
theorem dX5_wish_30 : decode cX5_wish 30 = .ok (.iload_n 1, 1) := by decide +kernel
theorem dX5_wish_31 : decode cX5_wish 31 = .ok (.iaload, 1) := by decide +kernel
theorem dX5_wish_32 : decode cX5_wish 32 = .ok (.istore_n 3, 1) := by decide +kernel
theorem dX5_wish_33 : decode cX5_wish 33 = .ok (.aload_n 0, 1) := by decide +kernel
theorem dX5_wish_34 : decode cX5_wish 34 = .ok (.getfield 25, 3) := by decide +kernel
theorem dX5_wish_37 : decode cX5_wish 37 = .ok (.iload_n 1, 1) := by decide +kernel
theorem dX5_wish_38 : decode cX5_wish 38 = .ok (.iload_n 2, 1) := by decide +kernel
theorem dX5_wish_39 : decode cX5_wish 39 = .ok (.ifCond .ge 8, 3) := by decide +kernel
theorem dX5_wish_42 : decode cX5_wish 42 = .ok (.bipush (-9), 2) := by decide +kernel
theorem dX5_wish_44 : decode cX5_wish 44 = .ok (.goto 4, 3) := by decide +kernel
theorem dX5_wish_47 : decode cX5_wish 47 = .ok (.iload_n 2, 1) := by decide +kernel
theorem dX5_wish_48 : decode cX5_wish 48 = .ok (.iastore, 1) := by decide +kernel
theorem dX5_wish_49 : decode cX5_wish 49 = .ok (.iload_n 3, 1) := by decide +kernel
theorem dX5_wish_50 : decode cX5_wish 50 = .ok (.ireturn, 1) := by decide +kernel
set_option maxRecDepth 20000 in
theorem ggX5_year_X5_areAlive : GoodIn wsX5_year wsX5_areAlive := goodIn_r _ [6, 7, 8, 9, 5, 10, 11, 12, 32, 33, 34, 35, 36, 37, 38, 39, 40, 41, 42, 43, 44, 45, 46, 47, 48, 49, 50, 51, 52, 53, 54, 55] (by decide +kernel) (by decide +kernel)
set_option maxRecDepth 20000 in
theorem gX5_year_X5_areAlive : GoodIn wsX5_year (wsV RX5 171 RX5 yX5_areAlive wsX5_areAlive) := goodIn_app (goodIn_of _ (by decide +kernel)) ggX5_year_X5_areAlive
set_option maxRecDepth 20000 in
theorem ggX5_year_X5_no : GoodIn wsX5_year wsX5_no := goodIn_r _ [16, 17, 32, 33, 34, 35, 36, 37, 38, 39, 40, 41, 42, 43, 44, 45, 46, 47, 48, 49, 50, 51, 52, 53, 54, 55] (by decide +kernel) (by decide +kernel)
set_option maxRecDepth 20000 in
theorem gX5_year_X5_no : GoodIn wsX5_year (wsV RX5 68 RX5 yX5_no wsX5_no) := goodIn_app (goodIn_of _ (by decide +kernel)) ggX5_year_X5_no
set_option maxRecDepth 20000 in
theorem ggX5_year_X5_goesYear : GoodIn wsX5_year wsX5_goesYear := goodIn_r _ [21, 11, 22, 12, 23, 1, 24, 25, 26, 5, 27, 28, 29, 30, 31, 32, 33, 34, 35, 36, 37, 38, 39, 40, 41, 42, 43, 44, 45, 46, 47, 48, 49, 50, 51, 52, 53, 54, 55] (by decide +kernel) (by decide +kernel)
set_option maxRecDepth 20000 in
theorem gX5_year_X5_goesYear : GoodIn wsX5_year (wsV RX5 110 RX5 yX5_goesYear wsX5_goesYear) := goodIn_app (goodIn_of _ (by decide +kernel)) ggX5_year_X5_goesYear
theorem dX5_year_0 : decode cX5_year 0 = .ok (.aload_n 0, 1) := by decide +kernel
theorem dX5_year_1 : decode cX5_year 1 = .ok (.iload_n 1, 1) := by decide +kernel
theorem dX5_year_2 : decode cX5_year 2 = .ok (.invokevirtual 171, 3) := by decide +kernel
theorem dX5_year_5 : decode cX5_year 5 = .ok (.ifCond .ne 9, 3) := by decide +kernel
theorem dX5_year_8 : decode cX5_year 8 = .ok (.aload_n 0, 1) := by decide +kernel
theorem dX5_year_9 : decode cX5_year 9 = .ok (.iconst (-1), 1) := by decide +kernel
theorem dX5_year_10 : decode cX5_year 10 = .ok (.invokevirtual 68, 3) := by decide +kernel
theorem dX5_year_13 : decode cX5_year 13 = .ok (.ireturn, 1) := by decide +kernel
theorem dX5_year_14 : decode cX5_year 14 = .ok (.aload_n 0, 1) := by decide +kernel
theorem dX5_year_15 : decode cX5_year 15 = .ok (.getfield 107, 3) := by decide +kernel
theorem dX5_year_18 : decode cX5_year 18 = .ok (.bipush 99, 2) := by decide +kernel
theorem dX5_year_20 : decode cX5_year 20 = .ok (.if_icmp .ne 12, 3) := by decide +kernel
theorem dX5_year_23 : decode cX5_year 23 = .ok (.aload_n 0, 1) := by decide +kernel
theorem dX5_year_24 : decode cX5_year 24 = .ok (.bipush (-6), 2) := by decide +kernel
theorem dX5_year_26 : decode cX5_year 26 = .ok (.invokevirtual 68, 3) := by decide +kernel
theorem dX5_year_29 : decode cX5_year 29 = .ok (.goto 8, 3) := by decide +kernel
theorem dX5_year_32 : decode cX5_year 32 = .ok (.aload_n 0, 1) := by decide +kernel
theorem dX5_year_33 : decode cX5_year 33 = .ok (.iload_n 1, 1) := by decide +kernel
theorem dX5_year_34 : decode cX5_year 34 = .ok (.invokevirtual 110, 3) := by decide +kernel
theorem dX5_year_37 : decode cX5_year 37 = .ok (.ireturn, 1) := by decide +kernel
set_option maxRecDepth 20000 in
theorem ggX5_on_X5_isFloor : GoodIn wsX5_on wsX5_isFloor := goodIn_r _ [4] (by decide +kernel) (by decide +kernel)
set_option maxRecDepth 20000 in
theorem gX5_on_X5_isFloor : GoodIn wsX5_on (va_wsS RX5 168 yX5_isFloor wsX5_isFloor) := goodIn_app (goodIn_of _ (by decide +kernel)) ggX5_on_X5_isFloor
set_option maxRecDepth 20000 in
theorem ggX5_on_X5_whoOn : GoodIn wsX5_on wsX5_whoOn := goodIn_r _ [8, 9, 10, 16, 17, 18, 19, 20, 21, 22, 23, 24, 25, 26, 27, 28, 29, 30, 31, 32, 33, 34, 35, 36, 37, 38, 39] (by decide +kernel) (by decide +kernel)
set_option maxRecDepth 20000 in
theorem gX5_on_X5_whoOn : GoodIn wsX5_on (wsV RX5 117 RX5 yX5_whoOn wsX5_whoOn) := goodIn_app (goodIn_of _ (by decide +kernel)) ggX5_on_X5_whoOn
set_option maxRecDepth 20000 in
theorem ggX5_on_X5_no : GoodIn wsX5_on wsX5_no := goodIn_r _ [14, 15, 16, 17, 18, 19, 20, 21, 22, 23, 24, 25, 26, 27, 28, 29, 30, 31, 32, 33, 34, 35, 36, 37, 38, 39] (by decide +kernel) (by decide +kernel)
set_option maxRecDepth 20000 in
theorem gX5_on_X5_no : GoodIn wsX5_on (wsV RX5 68 RX5 yX5_no wsX5_no) := goodIn_app (goodIn_of _ (by decide +kernel)) ggX5_on_X5_no
theorem dX5_on_0 : decode cX5_on 0 = .ok (.iload_n 1, 1) := by decide +kernel
theorem dX5_on_1 : decode cX5_on 1 = .ok (.invokestatic 168, 3) := by decide +kernel
theorem dX5_on_4 : decode cX5_on 4 = .ok (.ifCond .eq 11, 3) := by decide +kernel
theorem dX5_on_7 : decode cX5_on 7 = .ok (.aload_n 0, 1) := by decide +kernel
theorem dX5_on_8 : decode cX5_on 8 = .ok (.iload_n 1, 1) := by decide +kernel
theorem dX5_on_9 : decode cX5_on 9 = .ok (.invokevirtual 117, 3) := by decide +kernel
theorem dX5_on_12 : decode cX5_on 12 = .ok (.goto 8, 3) := by decide +kernel
theorem dX5_on_15 : decode cX5_on 15 = .ok (.aload_n 0, 1) := by decide +kernel
theorem dX5_on_16 : decode cX5_on 16 = .ok (.iconst (-1), 1) := by decide +kernel
theorem dX5_on_17 : decode cX5_on 17 = .ok (.invokevirtual 68, 3) := by decide +kernel
theorem dX5_on_20 : decode cX5_on 20 = .ok (.ireturn, 1) := by decide +kernel
set_option maxRecDepth 20000 in
theorem ggX5_partsOf_X5_chanceOf : GoodIn wsX5_partsOf wsX5_chanceOf := goodIn_r _ [8, 9, 10, 11, 12, 7, 13, 14, 15, 16, 17, 18, 19, 20, 21, 22, 23, 24, 25, 26, 27, 28, 29, 30, 31, 32, 33, 34, 35, 36, 37] (by decide +kernel) (by decide +kernel)
set_option maxRecDepth 20000 in
theorem gX5_partsOf_X5_chanceOf : GoodIn wsX5_partsOf (wsV RX5 162 RX5 yX5_chanceOf wsX5_chanceOf) := goodIn_app (goodIn_of _ (by decide +kernel)) ggX5_partsOf_X5_chanceOf
theorem dX5_partsOf_0 : decode cX5_partsOf 0 = .ok (.lconst 1, 1) := by decide +kernel
theorem dX5_partsOf_1 : decode cX5_partsOf 1 = .ok (.lstore_n 2, 1) := by decide +kernel
theorem dX5_partsOf_2 : decode cX5_partsOf 2 = .ok (.iconst 0, 1) := by decide +kernel
theorem dX5_partsOf_3 : decode cX5_partsOf 3 = .ok (.istore 4, 2) := by decide +kernel
theorem dX5_partsOf_5 : decode cX5_partsOf 5 = .ok (.iload 4, 2) := by decide +kernel
theorem dX5_partsOf_7 : decode cX5_partsOf 7 = .ok (.aload_n 0, 1) := by decide +kernel
theorem dX5_partsOf_8 : decode cX5_partsOf 8 = .ok (.getfield 57, 3) := by decide +kernel
theorem dX5_partsOf_11 : decode cX5_partsOf 11 = .ok (.if_icmp .ge 58, 3) := by decide +kernel
theorem dX5_partsOf_14 : decode cX5_partsOf 14 = .ok (.lload_n 2, 1) := by decide +kernel
theorem dX5_partsOf_15 : decode cX5_partsOf 15 = .ok (.aload_n 0, 1) := by decide +kernel
theorem dX5_partsOf_16 : decode cX5_partsOf 16 = .ok (.getfield 19, 3) := by decide +kernel
theorem dX5_partsOf_19 : decode cX5_partsOf 19 = .ok (.iload 4, 2) := by decide +kernel
theorem dX5_partsOf_21 : decode cX5_partsOf 21 = .ok (.iaload, 1) := by decide +kernel
theorem dX5_partsOf_22 : decode cX5_partsOf 22 = .ok (.ifCond .ge 9, 3) := by decide +kernel
theorem dX5_partsOf_25 : decode cX5_partsOf 25 = .ok (.ldc2_w 174, 3) := by decide +kernel
theorem dX5_partsOf_28 : decode cX5_partsOf 28 = .ok (.goto 33, 3) := by decide +kernel
theorem dX5_partsOf_31 : decode cX5_partsOf 31 = .ok (.iload_n 1, 1) := by decide +kernel
theorem dX5_partsOf_32 : decode cX5_partsOf 32 = .ok (.iload 4, 2) := by decide +kernel
theorem dX5_partsOf_34 : decode cX5_partsOf 34 = .ok (.ishr, 1) := by decide +kernel
theorem dX5_partsOf_35 : decode cX5_partsOf 35 = .ok (.iconst 1, 1) := by decide +kernel
theorem dX5_partsOf_36 : decode cX5_partsOf 36 = .ok (.iand, 1) := by decide +kernel
theorem dX5_partsOf_37 : decode cX5_partsOf 37 = .ok (.iconst 1, 1) := by decide +kernel
theorem dX5_partsOf_38 : decode cX5_partsOf 38 = .ok (.if_icmp .ne 13, 3) := by decide +kernel
theorem dX5_partsOf_41 : decode cX5_partsOf 41 = .ok (.aload_n 0, 1) := by decide +kernel
theorem dX5_partsOf_42 : decode cX5_partsOf 42 = .ok (.iload 4, 2) := by decide +kernel
theorem dX5_partsOf_44 : decode cX5_partsOf 44 = .ok (.invokevirtual 162, 3) := by decide +kernel
theorem dX5_partsOf_47 : decode cX5_partsOf 47 = .ok (.i2l, 1) := by decide +kernel
theorem dX5_partsOf_48 : decode cX5_partsOf 48 = .ok (.goto 13, 3) := by decide +kernel
theorem dX5_partsOf_51 : decode cX5_partsOf 51 = .ok (.bipush 10, 2) := by decide +kernel
theorem dX5_partsOf_53 : decode cX5_partsOf 53 = .ok (.aload_n 0, 1) := by decide +kernel
theorem dX5_partsOf_54 : decode cX5_partsOf 54 = .ok (.iload 4, 2) := by decide +kernel
theorem dX5_partsOf_56 : decode cX5_partsOf 56 = .ok (.invokevirtual 162, 3) := by decide +kernel
theorem dX5_partsOf_59 : decode cX5_partsOf 59 = .ok (.isub, 1) := by decide +kernel
theorem dX5_partsOf_60 : decode cX5_partsOf 60 = .ok (.i2l, 1) := by decide +kernel
theorem dX5_partsOf_61 : decode cX5_partsOf 61 = .ok (.lmul, 1) := by decide +kernel
theorem dX5_partsOf_62 : decode cX5_partsOf 62 = .ok (.lstore_n 2, 1) := by decide +kernel
theorem dX5_partsOf_63 : decode cX5_partsOf 63 = .ok (.iinc 4 1, 3) := by decide +kernel
theorem dX5_partsOf_66 : decode cX5_partsOf 66 = .ok (.goto (-61), 3) := by decide +kernel
theorem dX5_partsOf_69 : decode cX5_partsOf 69 = .ok (.lload_n 2, 1) := by decide +kernel
theorem dX5_partsOf_70 : decode cX5_partsOf 70 = .ok (.lreturn, 1) := by decide +kernel
theorem dX5_divisor_0 : decode cX5_divisor 0 = .ok (.lload_n 0, 1) := by decide +kernel
theorem dX5_divisor_1 : decode cX5_divisor 1 = .ok (.lstore 4, 2) := by decide +kernel
theorem dX5_divisor_3 : decode cX5_divisor 3 = .ok (.lload_n 2, 1) := by decide +kernel
theorem dX5_divisor_4 : decode cX5_divisor 4 = .ok (.lstore 6, 2) := by decide +kernel
theorem dX5_divisor_6 : decode cX5_divisor 6 = .ok (.lload 6, 2) := by decide +kernel
theorem dX5_divisor_8 : decode cX5_divisor 8 = .ok (.lconst 0, 1) := by decide +kernel
theorem dX5_divisor_9 : decode cX5_divisor 9 = .ok (.lcmp, 1) := by decide +kernel
theorem dX5_divisor_10 : decode cX5_divisor 10 = .ok (.ifCond .eq 21, 3) := by decide +kernel
theorem dX5_divisor_13 : decode cX5_divisor 13 = .ok (.lload 4, 2) := by decide +kernel
theorem dX5_divisor_15 : decode cX5_divisor 15 = .ok (.lload 6, 2) := by decide +kernel
theorem dX5_divisor_17 : decode cX5_divisor 17 = .ok (.lrem, 1) := by decide +kernel
theorem dX5_divisor_18 : decode cX5_divisor 18 = .ok (.lstore 8, 2) := by decide +kernel
theorem dX5_divisor_20 : decode cX5_divisor 20 = .ok (.lload 6, 2) := by decide +kernel
theorem dX5_divisor_22 : decode cX5_divisor 22 = .ok (.lstore 4, 2) := by decide +kernel
theorem dX5_divisor_24 : decode cX5_divisor 24 = .ok (.lload 8, 2) := by decide +kernel
theorem dX5_divisor_26 : decode cX5_divisor 26 = .ok (.lstore 6, 2) := by decide +kernel
theorem dX5_divisor_28 : decode cX5_divisor 28 = .ok (.goto (-22), 3) := by decide +kernel
theorem dX5_divisor_31 : decode cX5_divisor 31 = .ok (.lload 4, 2) := by decide +kernel
theorem dX5_divisor_33 : decode cX5_divisor 33 = .ok (.lreturn, 1) := by decide +kernel
set_option maxRecDepth 20000 in
theorem ggX5_partsTo_X5_areAlive : GoodIn wsX5_partsTo wsX5_areAlive := goodIn_r _ [7, 8, 9, 10, 6, 11, 1, 2, 53, 54, 55, 56, 57, 58, 59, 60, 61, 62, 63, 64, 65, 66, 67, 68, 69, 70, 71, 72, 73, 74, 75, 76] (by decide +kernel) (by decide +kernel)
set_option maxRecDepth 20000 in
theorem gX5_partsTo_X5_areAlive : GoodIn wsX5_partsTo (wsV RX5 171 RX5 yX5_areAlive wsX5_areAlive) := goodIn_app (goodIn_of _ (by decide +kernel)) ggX5_partsTo_X5_areAlive
set_option maxRecDepth 20000 in
theorem ggX5_partsTo_X5_partsOf : GoodIn wsX5_partsTo wsX5_partsOf := goodIn_r _ [15, 1, 2, 16, 17, 18, 19, 6, 20, 21, 22, 23, 24, 25, 53, 54, 55, 56, 57, 58, 59, 60, 61, 62, 63, 64, 65, 66, 67, 68, 69, 70, 71, 72, 73, 74, 75, 76] (by decide +kernel) (by decide +kernel)
set_option maxRecDepth 20000 in
theorem gX5_partsTo_X5_partsOf : GoodIn wsX5_partsTo (wsV RX5 176 RX5 yX5_partsOf wsX5_partsOf) := goodIn_app (goodIn_of _ (by decide +kernel)) ggX5_partsTo_X5_partsOf
set_option maxRecDepth 20000 in
theorem ggX5_partsTo_X5_passesAll : GoodIn wsX5_partsTo wsX5_passesAll := goodIn_r _ [29, 30, 31, 22, 21, 2, 32, 33, 1, 34, 35, 36, 37, 6, 38, 39, 40, 41, 42, 43, 53, 54, 55, 56, 57, 58, 59, 60, 61, 62, 63, 64, 65, 66, 67, 68, 69, 70, 71, 72, 73, 74, 75, 76] (by decide +kernel) (by decide +kernel)
set_option maxRecDepth 20000 in
theorem gX5_partsTo_X5_passesAll : GoodIn wsX5_partsTo (wsV RX5 129 RX5 yX5_passesAll wsX5_passesAll) := goodIn_app (goodIn_of _ (by decide +kernel)) ggX5_partsTo_X5_passesAll
set_option maxRecDepth 20000 in
theorem ggX5_partsTo_X5_goesYear : GoodIn wsX5_partsTo wsX5_goesYear := goodIn_r _ [47, 1, 48, 2, 21, 34, 49, 50, 51, 6, 52, 22, 23, 24, 25, 53, 54, 55, 56, 57, 58, 59, 60, 61, 62, 63, 64, 65, 66, 67, 68, 69, 70, 71, 72, 73, 74, 75, 76] (by decide +kernel) (by decide +kernel)
set_option maxRecDepth 20000 in
theorem gX5_partsTo_X5_goesYear : GoodIn wsX5_partsTo (wsV RX5 110 RX5 yX5_goesYear wsX5_goesYear) := goodIn_app (goodIn_of _ (by decide +kernel)) ggX5_partsTo_X5_goesYear
theorem dX5_partsTo_0 : decode cX5_partsTo 0 = .ok (.lconst 0, 1) := by decide +kernel
theorem dX5_partsTo_1 : decode cX5_partsTo 1 = .ok (.lstore 4, 2) := by decide +kernel
theorem dX5_partsTo_3 : decode cX5_partsTo 3 = .ok (.iconst 0, 1) := by decide +kernel
theorem dX5_partsTo_4 : decode cX5_partsTo 4 = .ok (.istore 6, 2) := by decide +kernel
theorem dX5_partsTo_6 : decode cX5_partsTo 6 = .ok (.iload 6, 2) := by decide +kernel
theorem dX5_partsTo_8 : decode cX5_partsTo 8 = .ok (.iconst 1, 1) := by decide +kernel
theorem dX5_partsTo_9 : decode cX5_partsTo 9 = .ok (.aload_n 0, 1) := by decide +kernel
theorem dX5_partsTo_10 : decode cX5_partsTo 10 = .ok (.getfield 57, 3) := by decide +kernel
theorem dX5_partsTo_13 : decode cX5_partsTo 13 = .ok (.ishl, 1) := by decide +kernel
theorem dX5_partsTo_14 : decode cX5_partsTo 14 = .ok (.if_icmp .ge 75, 3) := by decide +kernel
theorem dX5_partsTo_17 : decode cX5_partsTo 17 = .ok (.aload_n 0, 1) := by decide +kernel
theorem dX5_partsTo_18 : decode cX5_partsTo 18 = .ok (.iload 6, 2) := by decide +kernel
theorem dX5_partsTo_20 : decode cX5_partsTo 20 = .ok (.invokevirtual 171, 3) := by decide +kernel
theorem dX5_partsTo_23 : decode cX5_partsTo 23 = .ok (.ifCond .ne 6, 3) := by decide +kernel
theorem dX5_partsTo_26 : decode cX5_partsTo 26 = .ok (.goto 57, 3) := by decide +kernel
theorem dX5_partsTo_29 : decode cX5_partsTo 29 = .ok (.aload_n 0, 1) := by decide +kernel
theorem dX5_partsTo_30 : decode cX5_partsTo 30 = .ok (.iload 6, 2) := by decide +kernel
theorem dX5_partsTo_32 : decode cX5_partsTo 32 = .ok (.invokevirtual 176, 3) := by decide +kernel
theorem dX5_partsTo_35 : decode cX5_partsTo 35 = .ok (.lstore 7, 2) := by decide +kernel
theorem dX5_partsTo_37 : decode cX5_partsTo 37 = .ok (.lload 7, 2) := by decide +kernel
theorem dX5_partsTo_39 : decode cX5_partsTo 39 = .ok (.lconst 0, 1) := by decide +kernel
theorem dX5_partsTo_40 : decode cX5_partsTo 40 = .ok (.lcmp, 1) := by decide +kernel
theorem dX5_partsTo_41 : decode cX5_partsTo 41 = .ok (.ifCond .ne 6, 3) := by decide +kernel
theorem dX5_partsTo_44 : decode cX5_partsTo 44 = .ok (.goto 39, 3) := by decide +kernel
theorem dX5_partsTo_47 : decode cX5_partsTo 47 = .ok (.aload_n 0, 1) := by decide +kernel
theorem dX5_partsTo_48 : decode cX5_partsTo 48 = .ok (.iload_n 3, 1) := by decide +kernel
theorem dX5_partsTo_49 : decode cX5_partsTo 49 = .ok (.iconst 1, 1) := by decide +kernel
theorem dX5_partsTo_50 : decode cX5_partsTo 50 = .ok (.invokevirtual 129, 3) := by decide +kernel
theorem dX5_partsTo_53 : decode cX5_partsTo 53 = .ok (.aload_n 0, 1) := by decide +kernel
theorem dX5_partsTo_54 : decode cX5_partsTo 54 = .ok (.iload 6, 2) := by decide +kernel
theorem dX5_partsTo_56 : decode cX5_partsTo 56 = .ok (.invokevirtual 110, 3) := by decide +kernel
theorem dX5_partsTo_59 : decode cX5_partsTo 59 = .ok (.pop, 1) := by decide +kernel
theorem dX5_partsTo_60 : decode cX5_partsTo 60 = .ok (.aload_n 0, 1) := by decide +kernel
theorem dX5_partsTo_61 : decode cX5_partsTo 61 = .ok (.getfield 19, 3) := by decide +kernel
theorem dX5_partsTo_64 : decode cX5_partsTo 64 = .ok (.iload_n 1, 1) := by decide +kernel
theorem dX5_partsTo_65 : decode cX5_partsTo 65 = .ok (.iaload, 1) := by decide +kernel
theorem dX5_partsTo_66 : decode cX5_partsTo 66 = .ok (.iload_n 2, 1) := by decide +kernel
theorem dX5_partsTo_67 : decode cX5_partsTo 67 = .ok (.if_icmp .lt 10, 3) := by decide +kernel
theorem dX5_partsTo_70 : decode cX5_partsTo 70 = .ok (.lload 4, 2) := by decide +kernel
theorem dX5_partsTo_72 : decode cX5_partsTo 72 = .ok (.lload 7, 2) := by decide +kernel
theorem dX5_partsTo_74 : decode cX5_partsTo 74 = .ok (.ladd, 1) := by decide +kernel
theorem dX5_partsTo_75 : decode cX5_partsTo 75 = .ok (.lstore 4, 2) := by decide +kernel
theorem dX5_partsTo_77 : decode cX5_partsTo 77 = .ok (.aload_n 0, 1) := by decide +kernel
theorem dX5_partsTo_78 : decode cX5_partsTo 78 = .ok (.iload_n 3, 1) := by decide +kernel
theorem dX5_partsTo_79 : decode cX5_partsTo 79 = .ok (.iconst 0, 1) := by decide +kernel
theorem dX5_partsTo_80 : decode cX5_partsTo 80 = .ok (.invokevirtual 129, 3) := by decide +kernel
theorem dX5_partsTo_83 : decode cX5_partsTo 83 = .ok (.iinc 6 1, 3) := by decide +kernel
theorem dX5_partsTo_86 : decode cX5_partsTo 86 = .ok (.goto (-80), 3) := by decide +kernel
theorem dX5_partsTo_89 : decode cX5_partsTo 89 = .ok (.lload 4, 2) := by decide +kernel
theorem dX5_partsTo_91 : decode cX5_partsTo 91 = .ok (.lreturn, 1) := by decide +kernel
set_option maxRecDepth 20000 in
theorem ggX5_partsInTwo_X5_areAlive : GoodIn wsX5_partsInTwo wsX5_areAlive := goodIn_r _ [6, 7, 8, 9, 5, 10, 1, 11, 57, 58, 59, 60, 61, 62, 63, 64, 65, 66, 67, 68, 69, 70, 71, 72, 73, 74, 75, 76, 77, 78, 79, 80] (by decide +kernel) (by decide +kernel)
set_option maxRecDepth 20000 in
theorem gX5_partsInTwo_X5_areAlive : GoodIn wsX5_partsInTwo (wsV RX5 171 RX5 yX5_areAlive wsX5_areAlive) := goodIn_app (goodIn_of _ (by decide +kernel)) ggX5_partsInTwo_X5_areAlive
set_option maxRecDepth 20000 in
theorem ggX5_partsInTwo_X5_partsOf : GoodIn wsX5_partsInTwo wsX5_partsOf := goodIn_r _ [15, 1, 11, 16, 17, 18, 19, 5, 20, 21, 22, 23, 24, 25, 57, 58, 59, 60, 61, 62, 63, 64, 65, 66, 67, 68, 69, 70, 71, 72, 73, 74, 75, 76, 77, 78, 79, 80] (by decide +kernel) (by decide +kernel)
set_option maxRecDepth 20000 in
theorem gX5_partsInTwo_X5_partsOf : GoodIn wsX5_partsInTwo (wsV RX5 176 RX5 yX5_partsOf wsX5_partsOf) := goodIn_app (goodIn_of _ (by decide +kernel)) ggX5_partsInTwo_X5_partsOf
set_option maxRecDepth 20000 in
theorem ggX5_partsInTwo_X5_passesAll : GoodIn wsX5_partsInTwo wsX5_passesAll := goodIn_r _ [29, 30, 31, 22, 21, 11, 32, 33, 1, 34, 35, 36, 37, 5, 38, 39, 40, 41, 42, 43, 57, 58, 59, 60, 61, 62, 63, 64, 65, 66, 67, 68, 69, 70, 71, 72, 73, 74, 75, 76, 77, 78, 79, 80] (by decide +kernel) (by decide +kernel)
set_option maxRecDepth 20000 in
theorem gX5_partsInTwo_X5_passesAll : GoodIn wsX5_partsInTwo (wsV RX5 129 RX5 yX5_passesAll wsX5_passesAll) := goodIn_app (goodIn_of _ (by decide +kernel)) ggX5_partsInTwo_X5_passesAll
set_option maxRecDepth 20000 in
theorem ggX5_partsInTwo_X5_goesYear : GoodIn wsX5_partsInTwo wsX5_goesYear := goodIn_r _ [47, 1, 48, 11, 21, 34, 49, 50, 51, 5, 52, 22, 23, 24, 25, 57, 58, 59, 60, 61, 62, 63, 64, 65, 66, 67, 68, 69, 70, 71, 72, 73, 74, 75, 76, 77, 78, 79, 80] (by decide +kernel) (by decide +kernel)
set_option maxRecDepth 20000 in
theorem gX5_partsInTwo_X5_goesYear : GoodIn wsX5_partsInTwo (wsV RX5 110 RX5 yX5_goesYear wsX5_goesYear) := goodIn_app (goodIn_of _ (by decide +kernel)) ggX5_partsInTwo_X5_goesYear
set_option maxRecDepth 20000 in
theorem ggX5_partsInTwo_X5_partsTo : GoodIn wsX5_partsInTwo wsX5_partsTo := goodIn_r _ [56, 1, 11, 2, 3, 4, 5, 6, 7, 8, 9, 10, 12, 13, 14, 15, 16, 17, 18, 19, 20, 21, 22, 23, 24, 25, 26, 27, 28, 29, 30, 31, 32, 33, 34, 35, 36, 37, 38, 39, 40, 41, 42, 43, 44, 45, 46, 47, 48, 49, 50, 51, 52, 57, 58, 59, 60, 61, 62, 63, 64, 65, 66, 67, 68, 69, 70, 71, 72, 73, 74, 75, 76, 77, 78, 79, 80] (by decide +kernel) (by decide +kernel)
set_option maxRecDepth 20000 in
theorem gX5_partsInTwo_X5_partsTo : GoodIn wsX5_partsInTwo (wsV RX5 180 RX5 yX5_partsTo wsX5_partsTo) := goodIn_app (goodIn_of _ (by decide +kernel)) ggX5_partsInTwo_X5_partsTo
theorem dX5_partsInTwo_0 : decode cX5_partsInTwo 0 = .ok (.lconst 0, 1) := by decide +kernel
theorem dX5_partsInTwo_1 : decode cX5_partsInTwo 1 = .ok (.lstore_n 3, 1) := by decide +kernel
theorem dX5_partsInTwo_2 : decode cX5_partsInTwo 2 = .ok (.iconst 0, 1) := by decide +kernel
theorem dX5_partsInTwo_3 : decode cX5_partsInTwo 3 = .ok (.istore 5, 2) := by decide +kernel
theorem dX5_partsInTwo_5 : decode cX5_partsInTwo 5 = .ok (.iload 5, 2) := by decide +kernel
theorem dX5_partsInTwo_7 : decode cX5_partsInTwo 7 = .ok (.iconst 1, 1) := by decide +kernel
theorem dX5_partsInTwo_8 : decode cX5_partsInTwo 8 = .ok (.aload_n 0, 1) := by decide +kernel
theorem dX5_partsInTwo_9 : decode cX5_partsInTwo 9 = .ok (.getfield 57, 3) := by decide +kernel
theorem dX5_partsInTwo_12 : decode cX5_partsInTwo 12 = .ok (.ishl, 1) := by decide +kernel
theorem dX5_partsInTwo_13 : decode cX5_partsInTwo 13 = .ok (.if_icmp .ge 71, 3) := by decide +kernel
theorem dX5_partsInTwo_16 : decode cX5_partsInTwo 16 = .ok (.aload_n 0, 1) := by decide +kernel
theorem dX5_partsInTwo_17 : decode cX5_partsInTwo 17 = .ok (.iload 5, 2) := by decide +kernel
theorem dX5_partsInTwo_19 : decode cX5_partsInTwo 19 = .ok (.invokevirtual 171, 3) := by decide +kernel
theorem dX5_partsInTwo_22 : decode cX5_partsInTwo 22 = .ok (.ifCond .ne 6, 3) := by decide +kernel
theorem dX5_partsInTwo_25 : decode cX5_partsInTwo 25 = .ok (.goto 53, 3) := by decide +kernel
theorem dX5_partsInTwo_28 : decode cX5_partsInTwo 28 = .ok (.aload_n 0, 1) := by decide +kernel
theorem dX5_partsInTwo_29 : decode cX5_partsInTwo 29 = .ok (.iload 5, 2) := by decide +kernel
theorem dX5_partsInTwo_31 : decode cX5_partsInTwo 31 = .ok (.invokevirtual 176, 3) := by decide +kernel
theorem dX5_partsInTwo_34 : decode cX5_partsInTwo 34 = .ok (.lstore 6, 2) := by decide +kernel
theorem dX5_partsInTwo_36 : decode cX5_partsInTwo 36 = .ok (.lload 6, 2) := by decide +kernel
theorem dX5_partsInTwo_38 : decode cX5_partsInTwo 38 = .ok (.lconst 0, 1) := by decide +kernel
theorem dX5_partsInTwo_39 : decode cX5_partsInTwo 39 = .ok (.lcmp, 1) := by decide +kernel
theorem dX5_partsInTwo_40 : decode cX5_partsInTwo 40 = .ok (.ifCond .ne 6, 3) := by decide +kernel
theorem dX5_partsInTwo_43 : decode cX5_partsInTwo 43 = .ok (.goto 35, 3) := by decide +kernel
theorem dX5_partsInTwo_46 : decode cX5_partsInTwo 46 = .ok (.aload_n 0, 1) := by decide +kernel
theorem dX5_partsInTwo_47 : decode cX5_partsInTwo 47 = .ok (.iconst 1, 1) := by decide +kernel
theorem dX5_partsInTwo_48 : decode cX5_partsInTwo 48 = .ok (.iconst 1, 1) := by decide +kernel
theorem dX5_partsInTwo_49 : decode cX5_partsInTwo 49 = .ok (.invokevirtual 129, 3) := by decide +kernel
theorem dX5_partsInTwo_52 : decode cX5_partsInTwo 52 = .ok (.aload_n 0, 1) := by decide +kernel
theorem dX5_partsInTwo_53 : decode cX5_partsInTwo 53 = .ok (.iload 5, 2) := by decide +kernel
theorem dX5_partsInTwo_55 : decode cX5_partsInTwo 55 = .ok (.invokevirtual 110, 3) := by decide +kernel
theorem dX5_partsInTwo_58 : decode cX5_partsInTwo 58 = .ok (.pop, 1) := by decide +kernel
theorem dX5_partsInTwo_59 : decode cX5_partsInTwo 59 = .ok (.lload_n 3, 1) := by decide +kernel
theorem dX5_partsInTwo_60 : decode cX5_partsInTwo 60 = .ok (.lload 6, 2) := by decide +kernel
theorem dX5_partsInTwo_62 : decode cX5_partsInTwo 62 = .ok (.aload_n 0, 1) := by decide +kernel
theorem dX5_partsInTwo_63 : decode cX5_partsInTwo 63 = .ok (.iload_n 1, 1) := by decide +kernel
theorem dX5_partsInTwo_64 : decode cX5_partsInTwo 64 = .ok (.iload_n 2, 1) := by decide +kernel
theorem dX5_partsInTwo_65 : decode cX5_partsInTwo 65 = .ok (.iconst 2, 1) := by decide +kernel
theorem dX5_partsInTwo_66 : decode cX5_partsInTwo 66 = .ok (.invokevirtual 180, 3) := by decide +kernel
theorem dX5_partsInTwo_69 : decode cX5_partsInTwo 69 = .ok (.lmul, 1) := by decide +kernel
theorem dX5_partsInTwo_70 : decode cX5_partsInTwo 70 = .ok (.ladd, 1) := by decide +kernel
theorem dX5_partsInTwo_71 : decode cX5_partsInTwo 71 = .ok (.lstore_n 3, 1) := by decide +kernel
theorem dX5_partsInTwo_72 : decode cX5_partsInTwo 72 = .ok (.aload_n 0, 1) := by decide +kernel
theorem dX5_partsInTwo_73 : decode cX5_partsInTwo 73 = .ok (.iconst 1, 1) := by decide +kernel
theorem dX5_partsInTwo_74 : decode cX5_partsInTwo 74 = .ok (.iconst 0, 1) := by decide +kernel
theorem dX5_partsInTwo_75 : decode cX5_partsInTwo 75 = .ok (.invokevirtual 129, 3) := by decide +kernel
theorem dX5_partsInTwo_78 : decode cX5_partsInTwo 78 = .ok (.iinc 5 1, 3) := by decide +kernel
theorem dX5_partsInTwo_81 : decode cX5_partsInTwo 81 = .ok (.goto (-76), 3) := by decide +kernel
theorem dX5_partsInTwo_84 : decode cX5_partsInTwo 84 = .ok (.lload_n 3, 1) := by decide +kernel
theorem dX5_partsInTwo_85 : decode cX5_partsInTwo 85 = .ok (.lreturn, 1) := by decide +kernel
set_option maxRecDepth 20000 in
theorem ggX5_likely_X5_isAlive : GoodIn wsX5_likely wsX5_isAlive := goodIn_r _ [7, 1, 8, 83, 84, 85, 86, 87, 88, 89, 90, 91, 92, 93, 94, 95, 96, 97, 98, 99, 100, 101, 102, 103, 104, 105, 106] (by decide +kernel) (by decide +kernel)
set_option maxRecDepth 20000 in
theorem gX5_likely_X5_isAlive : GoodIn wsX5_likely (wsV RX5 104 RX5 yX5_isAlive wsX5_isAlive) := goodIn_app (goodIn_of _ (by decide +kernel)) ggX5_likely_X5_isAlive
set_option maxRecDepth 20000 in
theorem ggX5_likely_X5_isFloor : GoodIn wsX5_likely wsX5_isFloor := goodIn_r _ [11] (by decide +kernel) (by decide +kernel)
set_option maxRecDepth 20000 in
theorem gX5_likely_X5_isFloor : GoodIn wsX5_likely (va_wsS RX5 168 yX5_isFloor wsX5_isFloor) := goodIn_app (goodIn_of _ (by decide +kernel)) ggX5_likely_X5_isFloor
set_option maxRecDepth 20000 in
theorem ggX5_likely_X5_lowest : GoodIn wsX5_likely wsX5_lowest := goodIn_r _ [15, 16, 17, 83, 84, 85, 86, 87, 88, 89, 90, 91, 92, 93, 94, 95, 96, 97, 98, 99, 100, 101, 102, 103, 104, 105, 106] (by decide +kernel) (by decide +kernel)
set_option maxRecDepth 20000 in
theorem gX5_likely_X5_lowest : GoodIn wsX5_likely (wsV RX5 184 RX5 yX5_lowest wsX5_lowest) := goodIn_app (goodIn_of _ (by decide +kernel)) ggX5_likely_X5_lowest
set_option maxRecDepth 20000 in
theorem ggX5_likely_X5_bound : GoodIn wsX5_likely wsX5_bound := goodIn_r _ [20] (by decide +kernel) (by decide +kernel)
set_option maxRecDepth 20000 in
theorem gX5_likely_X5_bound : GoodIn wsX5_likely (va_wsS RX5 61 yX5_bound wsX5_bound) := goodIn_app (goodIn_of _ (by decide +kernel)) ggX5_likely_X5_bound
set_option maxRecDepth 20000 in
theorem ggX5_likely_X5_isIn : GoodIn wsX5_likely wsX5_isIn := goodIn_r _ [23] (by decide +kernel) (by decide +kernel)
set_option maxRecDepth 20000 in
theorem gX5_likely_X5_isIn : GoodIn wsX5_likely (va_wsS RX5 79 yX5_isIn wsX5_isIn) := goodIn_app (goodIn_of _ (by decide +kernel)) ggX5_likely_X5_isIn
set_option maxRecDepth 20000 in
theorem ggX5_likely_X5_partsTo : GoodIn wsX5_likely wsX5_partsTo := goodIn_r _ [27, 1, 8, 28, 29, 30, 6, 31, 32, 33, 34, 35, 36, 37, 38, 39, 2, 40, 41, 42, 43, 44, 45, 46, 47, 48, 49, 50, 51, 52, 53, 54, 55, 56, 57, 58, 59, 60, 61, 62, 63, 64, 65, 66, 67, 68, 69, 70, 71, 72, 73, 74, 75, 83, 84, 85, 86, 87, 88, 89, 90, 91, 92, 93, 94, 95, 96, 97, 98, 99, 100, 101, 102, 103, 104, 105, 106] (by decide +kernel) (by decide +kernel)
set_option maxRecDepth 20000 in
theorem gX5_likely_X5_partsTo : GoodIn wsX5_likely (wsV RX5 180 RX5 yX5_partsTo wsX5_partsTo) := goodIn_app (goodIn_of _ (by decide +kernel)) ggX5_likely_X5_partsTo
set_option maxRecDepth 20000 in
theorem ggX5_likely_X5_partsInTwo : GoodIn wsX5_likely wsX5_partsInTwo := goodIn_r _ [79, 1, 28, 29, 30, 6, 31, 32, 33, 34, 35, 8, 36, 37, 38, 39, 2, 40, 41, 42, 43, 44, 45, 46, 47, 48, 49, 50, 51, 52, 53, 54, 55, 56, 57, 58, 59, 60, 61, 62, 63, 64, 65, 66, 67, 68, 69, 70, 71, 72, 73, 74, 75, 24, 25, 26, 27, 83, 84, 85, 86, 87, 88, 89, 90, 91, 92, 93, 94, 95, 96, 97, 98, 99, 100, 101, 102, 103, 104, 105, 106] (by decide +kernel) (by decide +kernel)
set_option maxRecDepth 20000 in
theorem gX5_likely_X5_partsInTwo : GoodIn wsX5_likely (wsV RX5 187 RX5 yX5_partsInTwo wsX5_partsInTwo) := goodIn_app (goodIn_of _ (by decide +kernel)) ggX5_likely_X5_partsInTwo
set_option maxRecDepth 20000 in
theorem ggX5_likely_X5_divisor : GoodIn wsX5_likely wsX5_divisor := goodIn_r _ [82] (by decide +kernel) (by decide +kernel)
set_option maxRecDepth 20000 in
theorem gX5_likely_X5_divisor : GoodIn wsX5_likely (va_wsS RX5 191 yX5_divisor wsX5_divisor) := goodIn_app (goodIn_of _ (by decide +kernel)) ggX5_likely_X5_divisor
theorem dX5_likely_0 : decode cX5_likely 0 = .ok (.aload_n 0, 1) := by decide +kernel
theorem dX5_likely_1 : decode cX5_likely 1 = .ok (.iload_n 1, 1) := by decide +kernel
theorem dX5_likely_2 : decode cX5_likely 2 = .ok (.invokevirtual 104, 3) := by decide +kernel
theorem dX5_likely_5 : decode cX5_likely 5 = .ok (.ifCond .eq 10, 3) := by decide +kernel
theorem dX5_likely_8 : decode cX5_likely 8 = .ok (.iload_n 2, 1) := by decide +kernel
theorem dX5_likely_9 : decode cX5_likely 9 = .ok (.invokestatic 168, 3) := by decide +kernel
theorem dX5_likely_12 : decode cX5_likely 12 = .ok (.ifCond .ne 9, 3) := by decide +kernel
theorem dX5_likely_15 : decode cX5_likely 15 = .ok (.aload_n 0, 1) := by decide +kernel
theorem dX5_likely_16 : decode cX5_likely 16 = .ok (.iconst (-1), 1) := by decide +kernel
theorem dX5_likely_17 : decode cX5_likely 17 = .ok (.invokevirtual 184, 3) := by decide +kernel
theorem dX5_likely_20 : decode cX5_likely 20 = .ok (.lreturn, 1) := by decide +kernel
theorem dX5_likely_21 : decode cX5_likely 21 = .ok (.iload_n 3, 1) := by decide +kernel
theorem dX5_likely_22 : decode cX5_likely 22 = .ok (.iconst 1, 1) := by decide +kernel
theorem dX5_likely_23 : decode cX5_likely 23 = .ok (.iconst 2, 1) := by decide +kernel
theorem dX5_likely_24 : decode cX5_likely 24 = .ok (.invokestatic 61, 3) := by decide +kernel
theorem dX5_likely_27 : decode cX5_likely 27 = .ok (.istore 5, 2) := by decide +kernel
theorem dX5_likely_29 : decode cX5_likely 29 = .ok (.iload 5, 2) := by decide +kernel
theorem dX5_likely_31 : decode cX5_likely 31 = .ok (.ifCond .ne 17, 3) := by decide +kernel
theorem dX5_likely_34 : decode cX5_likely 34 = .ok (.iload 4, 2) := by decide +kernel
theorem dX5_likely_36 : decode cX5_likely 36 = .ok (.iconst 0, 1) := by decide +kernel
theorem dX5_likely_37 : decode cX5_likely 37 = .ok (.iconst 1, 1) := by decide +kernel
theorem dX5_likely_38 : decode cX5_likely 38 = .ok (.invokestatic 79, 3) := by decide +kernel
theorem dX5_likely_41 : decode cX5_likely 41 = .ok (.ifCond .ne 7, 3) := by decide +kernel
theorem dX5_likely_44 : decode cX5_likely 44 = .ok (.bipush (-2), 2) := by decide +kernel
theorem dX5_likely_46 : decode cX5_likely 46 = .ok (.istore 5, 2) := by decide +kernel
theorem dX5_likely_48 : decode cX5_likely 48 = .ok (.iload 5, 2) := by decide +kernel
theorem dX5_likely_50 : decode cX5_likely 50 = .ok (.ifCond .eq 10, 3) := by decide +kernel
theorem dX5_likely_53 : decode cX5_likely 53 = .ok (.aload_n 0, 1) := by decide +kernel
theorem dX5_likely_54 : decode cX5_likely 54 = .ok (.iload 5, 2) := by decide +kernel
theorem dX5_likely_56 : decode cX5_likely 56 = .ok (.invokevirtual 184, 3) := by decide +kernel
theorem dX5_likely_59 : decode cX5_likely 59 = .ok (.lreturn, 1) := by decide +kernel
theorem dX5_likely_60 : decode cX5_likely 60 = .ok (.lconst 1, 1) := by decide +kernel
theorem dX5_likely_61 : decode cX5_likely 61 = .ok (.lstore 6, 2) := by decide +kernel
theorem dX5_likely_63 : decode cX5_likely 63 = .ok (.iconst 0, 1) := by decide +kernel
theorem dX5_likely_64 : decode cX5_likely 64 = .ok (.istore 8, 2) := by decide +kernel
theorem dX5_likely_66 : decode cX5_likely 66 = .ok (.iload 8, 2) := by decide +kernel
theorem dX5_likely_68 : decode cX5_likely 68 = .ok (.iload_n 3, 1) := by decide +kernel
theorem dX5_likely_69 : decode cX5_likely 69 = .ok (.aload_n 0, 1) := by decide +kernel
theorem dX5_likely_70 : decode cX5_likely 70 = .ok (.getfield 57, 3) := by decide +kernel
theorem dX5_likely_73 : decode cX5_likely 73 = .ok (.imul, 1) := by decide +kernel
theorem dX5_likely_74 : decode cX5_likely 74 = .ok (.if_icmp .ge 17, 3) := by decide +kernel
theorem dX5_likely_77 : decode cX5_likely 77 = .ok (.lload 6, 2) := by decide +kernel
theorem dX5_likely_79 : decode cX5_likely 79 = .ok (.ldc2_w 174, 3) := by decide +kernel
theorem dX5_likely_82 : decode cX5_likely 82 = .ok (.lmul, 1) := by decide +kernel
theorem dX5_likely_83 : decode cX5_likely 83 = .ok (.lstore 6, 2) := by decide +kernel
theorem dX5_likely_85 : decode cX5_likely 85 = .ok (.iinc 8 1, 3) := by decide +kernel
theorem dX5_likely_88 : decode cX5_likely 88 = .ok (.goto (-22), 3) := by decide +kernel
theorem dX5_likely_91 : decode cX5_likely 91 = .ok (.iload_n 3, 1) := by decide +kernel
theorem dX5_likely_92 : decode cX5_likely 92 = .ok (.iconst 1, 1) := by decide +kernel
theorem dX5_likely_93 : decode cX5_likely 93 = .ok (.if_icmp .ne 13, 3) := by decide +kernel
theorem dX5_likely_96 : decode cX5_likely 96 = .ok (.aload_n 0, 1) := by decide +kernel
theorem dX5_likely_97 : decode cX5_likely 97 = .ok (.iload_n 1, 1) := by decide +kernel
theorem dX5_likely_98 : decode cX5_likely 98 = .ok (.iload_n 2, 1) := by decide +kernel
theorem dX5_likely_99 : decode cX5_likely 99 = .ok (.iconst 1, 1) := by decide +kernel
theorem dX5_likely_100 : decode cX5_likely 100 = .ok (.invokevirtual 180, 3) := by decide +kernel
theorem dX5_likely_103 : decode cX5_likely 103 = .ok (.goto 9, 3) := by decide +kernel
theorem dX5_likely_106 : decode cX5_likely 106 = .ok (.aload_n 0, 1) := by decide +kernel
theorem dX5_likely_107 : decode cX5_likely 107 = .ok (.iload_n 1, 1) := by decide +kernel
theorem dX5_likely_108 : decode cX5_likely 108 = .ok (.iload_n 2, 1) := by decide +kernel
theorem dX5_likely_109 : decode cX5_likely 109 = .ok (.invokevirtual 187, 3) := by decide +kernel
theorem dX5_likely_112 : decode cX5_likely 112 = .ok (.lstore 8, 2) := by decide +kernel
theorem dX5_likely_114 : decode cX5_likely 114 = .ok (.iload 4, 2) := by decide +kernel
theorem dX5_likely_116 : decode cX5_likely 116 = .ok (.ifCond .ne 8, 3) := by decide +kernel
theorem dX5_likely_119 : decode cX5_likely 119 = .ok (.lload 8, 2) := by decide +kernel
theorem dX5_likely_121 : decode cX5_likely 121 = .ok (.goto 5, 3) := by decide +kernel
theorem dX5_likely_124 : decode cX5_likely 124 = .ok (.lload 6, 2) := by decide +kernel
theorem dX5_likely_126 : decode cX5_likely 126 = .ok (.lload 8, 2) := by decide +kernel
theorem dX5_likely_128 : decode cX5_likely 128 = .ok (.lload 6, 2) := by decide +kernel
theorem dX5_likely_130 : decode cX5_likely 130 = .ok (.invokestatic 191, 3) := by decide +kernel
theorem dX5_likely_133 : decode cX5_likely 133 = .ok (.ldiv, 1) := by decide +kernel
theorem dX5_likely_134 : decode cX5_likely 134 = .ok (.lreturn, 1) := by decide +kernel
set_option maxRecDepth 20000 in
theorem ggX5_mean_X5_chanceOf : GoodIn wsX5_mean wsX5_chanceOf := goodIn_r _ [7, 8, 9, 10, 11, 6, 12, 13, 14, 15, 16, 17, 18, 19, 20, 21, 22, 23, 24, 25, 26, 27, 28, 29, 30, 31, 32, 33, 34, 35, 36] (by decide +kernel) (by decide +kernel)
set_option maxRecDepth 20000 in
theorem gX5_mean_X5_chanceOf : GoodIn wsX5_mean (wsV RX5 162 RX5 yX5_chanceOf wsX5_chanceOf) := goodIn_app (goodIn_of _ (by decide +kernel)) ggX5_mean_X5_chanceOf
theorem dX5_mean_0 : decode cX5_mean 0 = .ok (.iconst 0, 1) := by decide +kernel
theorem dX5_mean_1 : decode cX5_mean 1 = .ok (.istore_n 1, 1) := by decide +kernel
theorem dX5_mean_2 : decode cX5_mean 2 = .ok (.iconst 0, 1) := by decide +kernel
theorem dX5_mean_3 : decode cX5_mean 3 = .ok (.istore_n 2, 1) := by decide +kernel
theorem dX5_mean_4 : decode cX5_mean 4 = .ok (.iload_n 2, 1) := by decide +kernel
theorem dX5_mean_5 : decode cX5_mean 5 = .ok (.aload_n 0, 1) := by decide +kernel
theorem dX5_mean_6 : decode cX5_mean 6 = .ok (.getfield 57, 3) := by decide +kernel
theorem dX5_mean_9 : decode cX5_mean 9 = .ok (.if_icmp .ge 30, 3) := by decide +kernel
theorem dX5_mean_12 : decode cX5_mean 12 = .ok (.iload_n 1, 1) := by decide +kernel
theorem dX5_mean_13 : decode cX5_mean 13 = .ok (.aload_n 0, 1) := by decide +kernel
theorem dX5_mean_14 : decode cX5_mean 14 = .ok (.getfield 19, 3) := by decide +kernel
theorem dX5_mean_17 : decode cX5_mean 17 = .ok (.iload_n 2, 1) := by decide +kernel
theorem dX5_mean_18 : decode cX5_mean 18 = .ok (.iaload, 1) := by decide +kernel
theorem dX5_mean_19 : decode cX5_mean 19 = .ok (.ifCond .ge 7, 3) := by decide +kernel
theorem dX5_mean_22 : decode cX5_mean 22 = .ok (.iconst 0, 1) := by decide +kernel
theorem dX5_mean_23 : decode cX5_mean 23 = .ok (.goto 8, 3) := by decide +kernel
theorem dX5_mean_26 : decode cX5_mean 26 = .ok (.aload_n 0, 1) := by decide +kernel
theorem dX5_mean_27 : decode cX5_mean 27 = .ok (.iload_n 2, 1) := by decide +kernel
theorem dX5_mean_28 : decode cX5_mean 28 = .ok (.invokevirtual 162, 3) := by decide +kernel
theorem dX5_mean_31 : decode cX5_mean 31 = .ok (.iadd, 1) := by decide +kernel
theorem dX5_mean_32 : decode cX5_mean 32 = .ok (.istore_n 1, 1) := by decide +kernel
theorem dX5_mean_33 : decode cX5_mean 33 = .ok (.iinc 2 1, 3) := by decide +kernel
theorem dX5_mean_36 : decode cX5_mean 36 = .ok (.goto (-32), 3) := by decide +kernel
theorem dX5_mean_39 : decode cX5_mean 39 = .ok (.iload_n 1, 1) := by decide +kernel
theorem dX5_mean_40 : decode cX5_mean 40 = .ok (.ireturn, 1) := by decide +kernel
set_option maxRecDepth 20000 in
theorem ggX5_deaths_X5_isAlive : GoodIn wsX5_deaths wsX5_isAlive := goodIn_r _ [8, 3, 1, 28, 29, 30, 31, 32, 33, 34, 35, 36, 37, 38, 39, 40, 41, 42, 43, 44, 45, 46, 47, 48, 49, 50, 51] (by decide +kernel) (by decide +kernel)
set_option maxRecDepth 20000 in
theorem gX5_deaths_X5_isAlive : GoodIn wsX5_deaths (wsV RX5 104 RX5 yX5_isAlive wsX5_isAlive) := goodIn_app (goodIn_of _ (by decide +kernel)) ggX5_deaths_X5_isAlive
set_option maxRecDepth 20000 in
theorem ggX5_deaths_X5_isFloor : GoodIn wsX5_deaths wsX5_isFloor := goodIn_r _ [11] (by decide +kernel) (by decide +kernel)
set_option maxRecDepth 20000 in
theorem gX5_deaths_X5_isFloor : GoodIn wsX5_deaths (va_wsS RX5 168 yX5_isFloor wsX5_isFloor) := goodIn_app (goodIn_of _ (by decide +kernel)) ggX5_deaths_X5_isFloor
set_option maxRecDepth 20000 in
theorem ggX5_deaths_X5_no : GoodIn wsX5_deaths wsX5_no := goodIn_r _ [15, 16, 28, 29, 30, 31, 32, 33, 34, 35, 36, 37, 38, 39, 40, 41, 42, 43, 44, 45, 46, 47, 48, 49, 50, 51] (by decide +kernel) (by decide +kernel)
set_option maxRecDepth 20000 in
theorem gX5_deaths_X5_no : GoodIn wsX5_deaths (wsV RX5 68 RX5 yX5_no wsX5_no) := goodIn_app (goodIn_of _ (by decide +kernel)) ggX5_deaths_X5_no
set_option maxRecDepth 20000 in
theorem ggX5_deaths_X5_isIn : GoodIn wsX5_deaths wsX5_isIn := goodIn_r _ [19] (by decide +kernel) (by decide +kernel)
set_option maxRecDepth 20000 in
theorem gX5_deaths_X5_isIn : GoodIn wsX5_deaths (va_wsS RX5 79 yX5_isIn wsX5_isIn) := goodIn_app (goodIn_of _ (by decide +kernel)) ggX5_deaths_X5_isIn
set_option maxRecDepth 20000 in
theorem ggX5_deaths_X5_chanceOf : GoodIn wsX5_deaths wsX5_chanceOf := goodIn_r _ [23, 24, 2, 25, 26, 7, 27, 28, 29, 30, 31, 32, 33, 34, 35, 36, 37, 38, 39, 40, 41, 42, 43, 44, 45, 46, 47, 48, 49, 50, 51] (by decide +kernel) (by decide +kernel)
set_option maxRecDepth 20000 in
theorem gX5_deaths_X5_chanceOf : GoodIn wsX5_deaths (wsV RX5 162 RX5 yX5_chanceOf wsX5_chanceOf) := goodIn_app (goodIn_of _ (by decide +kernel)) ggX5_deaths_X5_chanceOf
theorem dX5_deaths_0 : decode cX5_deaths 0 = .ok (.aload_n 0, 1) := by decide +kernel
theorem dX5_deaths_1 : decode cX5_deaths 1 = .ok (.iload_n 1, 1) := by decide +kernel
theorem dX5_deaths_2 : decode cX5_deaths 2 = .ok (.invokevirtual 104, 3) := by decide +kernel
theorem dX5_deaths_5 : decode cX5_deaths 5 = .ok (.ifCond .eq 10, 3) := by decide +kernel
theorem dX5_deaths_8 : decode cX5_deaths 8 = .ok (.iload_n 2, 1) := by decide +kernel
theorem dX5_deaths_9 : decode cX5_deaths 9 = .ok (.invokestatic 168, 3) := by decide +kernel
theorem dX5_deaths_12 : decode cX5_deaths 12 = .ok (.ifCond .ne 9, 3) := by decide +kernel
theorem dX5_deaths_15 : decode cX5_deaths 15 = .ok (.aload_n 0, 1) := by decide +kernel
theorem dX5_deaths_16 : decode cX5_deaths 16 = .ok (.iconst (-1), 1) := by decide +kernel
theorem dX5_deaths_17 : decode cX5_deaths 17 = .ok (.invokevirtual 68, 3) := by decide +kernel
theorem dX5_deaths_20 : decode cX5_deaths 20 = .ok (.ireturn, 1) := by decide +kernel
theorem dX5_deaths_21 : decode cX5_deaths 21 = .ok (.iload_n 3, 1) := by decide +kernel
theorem dX5_deaths_22 : decode cX5_deaths 22 = .ok (.iconst 0, 1) := by decide +kernel
theorem dX5_deaths_23 : decode cX5_deaths 23 = .ok (.iconst 1, 1) := by decide +kernel
theorem dX5_deaths_24 : decode cX5_deaths 24 = .ok (.invokestatic 79, 3) := by decide +kernel
theorem dX5_deaths_27 : decode cX5_deaths 27 = .ok (.ifCond .ne 10, 3) := by decide +kernel
theorem dX5_deaths_30 : decode cX5_deaths 30 = .ok (.aload_n 0, 1) := by decide +kernel
theorem dX5_deaths_31 : decode cX5_deaths 31 = .ok (.bipush (-2), 2) := by decide +kernel
theorem dX5_deaths_33 : decode cX5_deaths 33 = .ok (.invokevirtual 68, 3) := by decide +kernel
theorem dX5_deaths_36 : decode cX5_deaths 36 = .ok (.ireturn, 1) := by decide +kernel
theorem dX5_deaths_37 : decode cX5_deaths 37 = .ok (.iload_n 2, 1) := by decide +kernel
theorem dX5_deaths_38 : decode cX5_deaths 38 = .ok (.aload_n 0, 1) := by decide +kernel
theorem dX5_deaths_39 : decode cX5_deaths 39 = .ok (.getfield 19, 3) := by decide +kernel
theorem dX5_deaths_42 : decode cX5_deaths 42 = .ok (.iload_n 1, 1) := by decide +kernel
theorem dX5_deaths_43 : decode cX5_deaths 43 = .ok (.iaload, 1) := by decide +kernel
theorem dX5_deaths_44 : decode cX5_deaths 44 = .ok (.isub, 1) := by decide +kernel
theorem dX5_deaths_45 : decode cX5_deaths 45 = .ok (.istore 4, 2) := by decide +kernel
theorem dX5_deaths_47 : decode cX5_deaths 47 = .ok (.iload 4, 2) := by decide +kernel
theorem dX5_deaths_49 : decode cX5_deaths 49 = .ok (.iconst 1, 1) := by decide +kernel
theorem dX5_deaths_50 : decode cX5_deaths 50 = .ok (.if_icmp .lt 22, 3) := by decide +kernel
theorem dX5_deaths_53 : decode cX5_deaths 53 = .ok (.aload_n 0, 1) := by decide +kernel
theorem dX5_deaths_54 : decode cX5_deaths 54 = .ok (.getfield 13, 3) := by decide +kernel
theorem dX5_deaths_57 : decode cX5_deaths 57 = .ok (.iload_n 1, 1) := by decide +kernel
theorem dX5_deaths_58 : decode cX5_deaths 58 = .ok (.iaload, 1) := by decide +kernel
theorem dX5_deaths_59 : decode cX5_deaths 59 = .ok (.iconst 3, 1) := by decide +kernel
theorem dX5_deaths_60 : decode cX5_deaths 60 = .ok (.if_icmp .ne 15, 3) := by decide +kernel
theorem dX5_deaths_63 : decode cX5_deaths 63 = .ok (.aload_n 0, 1) := by decide +kernel
theorem dX5_deaths_64 : decode cX5_deaths 64 = .ok (.getfield 19, 3) := by decide +kernel
theorem dX5_deaths_67 : decode cX5_deaths 67 = .ok (.iload_n 1, 1) := by decide +kernel
theorem dX5_deaths_68 : decode cX5_deaths 68 = .ok (.iaload, 1) := by decide +kernel
theorem dX5_deaths_69 : decode cX5_deaths 69 = .ok (.ifCond .ne 6, 3) := by decide +kernel
theorem dX5_deaths_72 : decode cX5_deaths 72 = .ok (.bipush (-9), 2) := by decide +kernel
theorem dX5_deaths_74 : decode cX5_deaths 74 = .ok (.ireturn, 1) := by decide +kernel
theorem dX5_deaths_75 : decode cX5_deaths 75 = .ok (.iconst 0, 1) := by decide +kernel
theorem dX5_deaths_76 : decode cX5_deaths 76 = .ok (.istore 5, 2) := by decide +kernel
theorem dX5_deaths_78 : decode cX5_deaths 78 = .ok (.iconst 0, 1) := by decide +kernel
theorem dX5_deaths_79 : decode cX5_deaths 79 = .ok (.istore 6, 2) := by decide +kernel
theorem dX5_deaths_81 : decode cX5_deaths 81 = .ok (.iload 6, 2) := by decide +kernel
theorem dX5_deaths_83 : decode cX5_deaths 83 = .ok (.iload 4, 2) := by decide +kernel
theorem dX5_deaths_85 : decode cX5_deaths 85 = .ok (.if_icmp .ge 98, 3) := by decide +kernel
theorem dX5_deaths_88 : decode cX5_deaths 88 = .ok (.bipush (-9), 2) := by decide +kernel
theorem dX5_deaths_90 : decode cX5_deaths 90 = .ok (.istore 7, 2) := by decide +kernel
theorem dX5_deaths_92 : decode cX5_deaths 92 = .ok (.iconst 0, 1) := by decide +kernel
theorem dX5_deaths_93 : decode cX5_deaths 93 = .ok (.istore 8, 2) := by decide +kernel
theorem dX5_deaths_95 : decode cX5_deaths 95 = .ok (.iload 8, 2) := by decide +kernel
theorem dX5_deaths_97 : decode cX5_deaths 97 = .ok (.aload_n 0, 1) := by decide +kernel
theorem dX5_deaths_98 : decode cX5_deaths 98 = .ok (.getfield 57, 3) := by decide +kernel
theorem dX5_deaths_101 : decode cX5_deaths 101 = .ok (.if_icmp .ge 59, 3) := by decide +kernel
theorem dX5_deaths_104 : decode cX5_deaths 104 = .ok (.aload_n 0, 1) := by decide +kernel
theorem dX5_deaths_105 : decode cX5_deaths 105 = .ok (.getfield 19, 3) := by decide +kernel
theorem dX5_deaths_108 : decode cX5_deaths 108 = .ok (.iload 8, 2) := by decide +kernel
theorem dX5_deaths_110 : decode cX5_deaths 110 = .ok (.iaload, 1) := by decide +kernel
theorem dX5_deaths_111 : decode cX5_deaths 111 = .ok (.aload_n 0, 1) := by decide +kernel
theorem dX5_deaths_112 : decode cX5_deaths 112 = .ok (.getfield 19, 3) := by decide +kernel
theorem dX5_deaths_115 : decode cX5_deaths 115 = .ok (.iload_n 1, 1) := by decide +kernel
theorem dX5_deaths_116 : decode cX5_deaths 116 = .ok (.iaload, 1) := by decide +kernel
theorem dX5_deaths_117 : decode cX5_deaths 117 = .ok (.if_icmp .le 37, 3) := by decide +kernel
theorem dX5_deaths_120 : decode cX5_deaths 120 = .ok (.iload 5, 2) := by decide +kernel
theorem dX5_deaths_122 : decode cX5_deaths 122 = .ok (.iload 8, 2) := by decide +kernel
theorem dX5_deaths_124 : decode cX5_deaths 124 = .ok (.ishr, 1) := by decide +kernel
theorem dX5_deaths_125 : decode cX5_deaths 125 = .ok (.iconst 1, 1) := by decide +kernel
theorem dX5_deaths_126 : decode cX5_deaths 126 = .ok (.iand, 1) := by decide +kernel
theorem dX5_deaths_127 : decode cX5_deaths 127 = .ok (.ifCond .ne 27, 3) := by decide +kernel
theorem dX5_deaths_130 : decode cX5_deaths 130 = .ok (.iload 7, 2) := by decide +kernel
theorem dX5_deaths_132 : decode cX5_deaths 132 = .ok (.ifCond .lt 18, 3) := by decide +kernel
theorem dX5_deaths_135 : decode cX5_deaths 135 = .ok (.aload_n 0, 1) := by decide +kernel
theorem dX5_deaths_136 : decode cX5_deaths 136 = .ok (.iload 8, 2) := by decide +kernel
theorem dX5_deaths_138 : decode cX5_deaths 138 = .ok (.invokevirtual 162, 3) := by decide +kernel
theorem dX5_deaths_141 : decode cX5_deaths 141 = .ok (.aload_n 0, 1) := by decide +kernel
theorem dX5_deaths_142 : decode cX5_deaths 142 = .ok (.iload 7, 2) := by decide +kernel
theorem dX5_deaths_144 : decode cX5_deaths 144 = .ok (.invokevirtual 162, 3) := by decide +kernel
theorem dX5_deaths_147 : decode cX5_deaths 147 = .ok (.if_icmp .le 7, 3) := by decide +kernel
theorem dX5_deaths_150 : decode cX5_deaths 150 = .ok (.iload 8, 2) := by decide +kernel
theorem dX5_deaths_152 : decode cX5_deaths 152 = .ok (.istore 7, 2) := by decide +kernel
theorem dX5_deaths_154 : decode cX5_deaths 154 = .ok (.iinc 8 1, 3) := by decide +kernel
theorem dX5_deaths_157 : decode cX5_deaths 157 = .ok (.goto (-62), 3) := by decide +kernel
theorem dX5_deaths_160 : decode cX5_deaths 160 = .ok (.iload 7, 2) := by decide +kernel
theorem dX5_deaths_162 : decode cX5_deaths 162 = .ok (.ifCond .ge 6, 3) := by decide +kernel
theorem dX5_deaths_165 : decode cX5_deaths 165 = .ok (.bipush (-9), 2) := by decide +kernel
theorem dX5_deaths_167 : decode cX5_deaths 167 = .ok (.ireturn, 1) := by decide +kernel
theorem dX5_deaths_168 : decode cX5_deaths 168 = .ok (.iload 5, 2) := by decide +kernel
theorem dX5_deaths_170 : decode cX5_deaths 170 = .ok (.iconst 1, 1) := by decide +kernel
theorem dX5_deaths_171 : decode cX5_deaths 171 = .ok (.iload 7, 2) := by decide +kernel
theorem dX5_deaths_173 : decode cX5_deaths 173 = .ok (.ishl, 1) := by decide +kernel
theorem dX5_deaths_174 : decode cX5_deaths 174 = .ok (.ior, 1) := by decide +kernel
theorem dX5_deaths_175 : decode cX5_deaths 175 = .ok (.istore 5, 2) := by decide +kernel
theorem dX5_deaths_177 : decode cX5_deaths 177 = .ok (.iinc 6 1, 3) := by decide +kernel
theorem dX5_deaths_180 : decode cX5_deaths 180 = .ok (.goto (-99), 3) := by decide +kernel
theorem dX5_deaths_183 : decode cX5_deaths 183 = .ok (.iload_n 3, 1) := by decide +kernel
theorem dX5_deaths_184 : decode cX5_deaths 184 = .ok (.ifCond .ne 8, 3) := by decide +kernel
theorem dX5_deaths_187 : decode cX5_deaths 187 = .ok (.iload 4, 2) := by decide +kernel
theorem dX5_deaths_189 : decode cX5_deaths 189 = .ok (.goto 5, 3) := by decide +kernel
theorem dX5_deaths_192 : decode cX5_deaths 192 = .ok (.iload 5, 2) := by decide +kernel
theorem dX5_deaths_194 : decode cX5_deaths 194 = .ok (.ireturn, 1) := by decide +kernel
set_option maxRecDepth 20000 in
theorem ggX5_stuck_X5_climbs : GoodIn wsX5_stuck wsX5_climbs := goodIn_r _ [8, 9, 10, 7, 11] (by decide +kernel) (by decide +kernel)
set_option maxRecDepth 20000 in
theorem gX5_stuck_X5_climbs : GoodIn wsX5_stuck (va_wsS RX5 165 yX5_climbs wsX5_climbs) := goodIn_app (goodIn_of _ (by decide +kernel)) ggX5_stuck_X5_climbs
theorem dX5_stuck_0 : decode cX5_stuck 0 = .ok (.iconst 0, 1) := by decide +kernel
theorem dX5_stuck_1 : decode cX5_stuck 1 = .ok (.istore_n 1, 1) := by decide +kernel
theorem dX5_stuck_2 : decode cX5_stuck 2 = .ok (.iconst 0, 1) := by decide +kernel
theorem dX5_stuck_3 : decode cX5_stuck 3 = .ok (.istore_n 2, 1) := by decide +kernel
theorem dX5_stuck_4 : decode cX5_stuck 4 = .ok (.iload_n 2, 1) := by decide +kernel
theorem dX5_stuck_5 : decode cX5_stuck 5 = .ok (.aload_n 0, 1) := by decide +kernel
theorem dX5_stuck_6 : decode cX5_stuck 6 = .ok (.getfield 57, 3) := by decide +kernel
theorem dX5_stuck_9 : decode cX5_stuck 9 = .ok (.if_icmp .ge 43, 3) := by decide +kernel
theorem dX5_stuck_12 : decode cX5_stuck 12 = .ok (.iload_n 1, 1) := by decide +kernel
theorem dX5_stuck_13 : decode cX5_stuck 13 = .ok (.aload_n 0, 1) := by decide +kernel
theorem dX5_stuck_14 : decode cX5_stuck 14 = .ok (.getfield 19, 3) := by decide +kernel
theorem dX5_stuck_17 : decode cX5_stuck 17 = .ok (.iload_n 2, 1) := by decide +kernel
theorem dX5_stuck_18 : decode cX5_stuck 18 = .ok (.iaload, 1) := by decide +kernel
theorem dX5_stuck_19 : decode cX5_stuck 19 = .ok (.aload_n 0, 1) := by decide +kernel
theorem dX5_stuck_20 : decode cX5_stuck 20 = .ok (.getfield 13, 3) := by decide +kernel
theorem dX5_stuck_23 : decode cX5_stuck 23 = .ok (.iload_n 2, 1) := by decide +kernel
theorem dX5_stuck_24 : decode cX5_stuck 24 = .ok (.iaload, 1) := by decide +kernel
theorem dX5_stuck_25 : decode cX5_stuck 25 = .ok (.aload_n 0, 1) := by decide +kernel
theorem dX5_stuck_26 : decode cX5_stuck 26 = .ok (.getfield 16, 3) := by decide +kernel
theorem dX5_stuck_29 : decode cX5_stuck 29 = .ok (.iload_n 2, 1) := by decide +kernel
theorem dX5_stuck_30 : decode cX5_stuck 30 = .ok (.iaload, 1) := by decide +kernel
theorem dX5_stuck_31 : decode cX5_stuck 31 = .ok (.invokestatic 165, 3) := by decide +kernel
theorem dX5_stuck_34 : decode cX5_stuck 34 = .ok (.if_icmp .le 9, 3) := by decide +kernel
theorem dX5_stuck_37 : decode cX5_stuck 37 = .ok (.iconst 1, 1) := by decide +kernel
theorem dX5_stuck_38 : decode cX5_stuck 38 = .ok (.iload_n 2, 1) := by decide +kernel
theorem dX5_stuck_39 : decode cX5_stuck 39 = .ok (.ishl, 1) := by decide +kernel
theorem dX5_stuck_40 : decode cX5_stuck 40 = .ok (.goto 4, 3) := by decide +kernel
theorem dX5_stuck_43 : decode cX5_stuck 43 = .ok (.iconst 0, 1) := by decide +kernel
theorem dX5_stuck_44 : decode cX5_stuck 44 = .ok (.ior, 1) := by decide +kernel
theorem dX5_stuck_45 : decode cX5_stuck 45 = .ok (.istore_n 1, 1) := by decide +kernel
theorem dX5_stuck_46 : decode cX5_stuck 46 = .ok (.iinc 2 1, 3) := by decide +kernel
theorem dX5_stuck_49 : decode cX5_stuck 49 = .ok (.goto (-45), 3) := by decide +kernel
theorem dX5_stuck_52 : decode cX5_stuck 52 = .ok (.iload_n 1, 1) := by decide +kernel
theorem dX5_stuck_53 : decode cX5_stuck 53 = .ok (.ireturn, 1) := by decide +kernel
set_option maxRecDepth 20000 in
theorem ggX5_safe_X5_isAlive : GoodIn wsX5_safe wsX5_isAlive := goodIn_r _ [8, 9, 3, 21, 22, 23, 24, 25, 26, 27, 28, 29, 30, 31, 32, 33, 34, 35, 36, 37, 38, 39, 40, 41, 42, 43, 44] (by decide +kernel) (by decide +kernel)
set_option maxRecDepth 20000 in
theorem gX5_safe_X5_isAlive : GoodIn wsX5_safe (wsV RX5 104 RX5 yX5_isAlive wsX5_isAlive) := goodIn_app (goodIn_of _ (by decide +kernel)) ggX5_safe_X5_isAlive
set_option maxRecDepth 20000 in
theorem ggX5_safe_X5_no : GoodIn wsX5_safe wsX5_no := goodIn_r _ [13, 14, 21, 22, 23, 24, 25, 26, 27, 28, 29, 30, 31, 32, 33, 34, 35, 36, 37, 38, 39, 40, 41, 42, 43, 44] (by decide +kernel) (by decide +kernel)
set_option maxRecDepth 20000 in
theorem gX5_safe_X5_no : GoodIn wsX5_safe (wsV RX5 68 RX5 yX5_no wsX5_no) := goodIn_app (goodIn_of _ (by decide +kernel)) ggX5_safe_X5_no
set_option maxRecDepth 20000 in
theorem ggX5_safe_X5_least : GoodIn wsX5_safe wsX5_least := goodIn_r _ [17] (by decide +kernel) (by decide +kernel)
set_option maxRecDepth 20000 in
theorem gX5_safe_X5_least : GoodIn wsX5_safe (va_wsS RX5 153 yX5_least wsX5_least) := goodIn_app (goodIn_of _ (by decide +kernel)) ggX5_safe_X5_least
set_option maxRecDepth 20000 in
theorem ggX5_safe_X5_climbs : GoodIn wsX5_safe wsX5_climbs := goodIn_r _ [20, 15, 16, 7, 17] (by decide +kernel) (by decide +kernel)
set_option maxRecDepth 20000 in
theorem gX5_safe_X5_climbs : GoodIn wsX5_safe (va_wsS RX5 165 yX5_climbs wsX5_climbs) := goodIn_app (goodIn_of _ (by decide +kernel)) ggX5_safe_X5_climbs
theorem dX5_safe_0 : decode cX5_safe 0 = .ok (.aload_n 0, 1) := by decide +kernel
theorem dX5_safe_1 : decode cX5_safe 1 = .ok (.iload_n 1, 1) := by decide +kernel
theorem dX5_safe_2 : decode cX5_safe 2 = .ok (.invokevirtual 104, 3) := by decide +kernel
theorem dX5_safe_5 : decode cX5_safe 5 = .ok (.ifCond .ne 9, 3) := by decide +kernel
theorem dX5_safe_8 : decode cX5_safe 8 = .ok (.aload_n 0, 1) := by decide +kernel
theorem dX5_safe_9 : decode cX5_safe 9 = .ok (.iconst (-1), 1) := by decide +kernel
theorem dX5_safe_10 : decode cX5_safe 10 = .ok (.invokevirtual 68, 3) := by decide +kernel
theorem dX5_safe_13 : decode cX5_safe 13 = .ok (.ireturn, 1) := by decide +kernel
theorem dX5_safe_14 : decode cX5_safe 14 = .ok (.bipush (-9), 2) := by decide +kernel
theorem dX5_safe_16 : decode cX5_safe 16 = .ok (.istore_n 2, 1) := by decide +kernel
theorem dX5_safe_17 : decode cX5_safe 17 = .ok (.iconst 0, 1) := by decide +kernel
theorem dX5_safe_18 : decode cX5_safe 18 = .ok (.istore_n 3, 1) := by decide +kernel
theorem dX5_safe_19 : decode cX5_safe 19 = .ok (.iload_n 3, 1) := by decide +kernel
theorem dX5_safe_20 : decode cX5_safe 20 = .ok (.bipush 99, 2) := by decide +kernel
theorem dX5_safe_22 : decode cX5_safe 22 = .ok (.if_icmp .gt 42, 3) := by decide +kernel
theorem dX5_safe_25 : decode cX5_safe 25 = .ok (.aload_n 0, 1) := by decide +kernel
theorem dX5_safe_26 : decode cX5_safe 26 = .ok (.getfield 13, 3) := by decide +kernel
theorem dX5_safe_29 : decode cX5_safe 29 = .ok (.iload_n 1, 1) := by decide +kernel
theorem dX5_safe_30 : decode cX5_safe 30 = .ok (.iaload, 1) := by decide +kernel
theorem dX5_safe_31 : decode cX5_safe 31 = .ok (.bipush 99, 2) := by decide +kernel
theorem dX5_safe_33 : decode cX5_safe 33 = .ok (.aload_n 0, 1) := by decide +kernel
theorem dX5_safe_34 : decode cX5_safe 34 = .ok (.getfield 16, 3) := by decide +kernel
theorem dX5_safe_37 : decode cX5_safe 37 = .ok (.iload_n 1, 1) := by decide +kernel
theorem dX5_safe_38 : decode cX5_safe 38 = .ok (.iaload, 1) := by decide +kernel
theorem dX5_safe_39 : decode cX5_safe 39 = .ok (.iload_n 3, 1) := by decide +kernel
theorem dX5_safe_40 : decode cX5_safe 40 = .ok (.iadd, 1) := by decide +kernel
theorem dX5_safe_41 : decode cX5_safe 41 = .ok (.invokestatic 153, 3) := by decide +kernel
theorem dX5_safe_44 : decode cX5_safe 44 = .ok (.invokestatic 165, 3) := by decide +kernel
theorem dX5_safe_47 : decode cX5_safe 47 = .ok (.aload_n 0, 1) := by decide +kernel
theorem dX5_safe_48 : decode cX5_safe 48 = .ok (.getfield 19, 3) := by decide +kernel
theorem dX5_safe_51 : decode cX5_safe 51 = .ok (.iload_n 1, 1) := by decide +kernel
theorem dX5_safe_52 : decode cX5_safe 52 = .ok (.iaload, 1) := by decide +kernel
theorem dX5_safe_53 : decode cX5_safe 53 = .ok (.if_icmp .lt 5, 3) := by decide +kernel
theorem dX5_safe_56 : decode cX5_safe 56 = .ok (.iload_n 3, 1) := by decide +kernel
theorem dX5_safe_57 : decode cX5_safe 57 = .ok (.istore_n 2, 1) := by decide +kernel
theorem dX5_safe_58 : decode cX5_safe 58 = .ok (.iinc 3 1, 3) := by decide +kernel
theorem dX5_safe_61 : decode cX5_safe 61 = .ok (.goto (-42), 3) := by decide +kernel
theorem dX5_safe_64 : decode cX5_safe 64 = .ok (.iload_n 2, 1) := by decide +kernel
theorem dX5_safe_65 : decode cX5_safe 65 = .ok (.ireturn, 1) := by decide +kernel
set_option maxRecDepth 20000 in
theorem ggX5_carriedBy_X5_movesOf : GoodIn wsX5_carriedBy wsX5_movesOf := goodIn_r _ [7, 8, 9, 1, 10, 11, 12, 13, 14, 15, 16, 17, 18, 19, 20, 21, 22, 23, 24, 25, 26, 27, 28, 29, 30, 31, 32, 33] (by decide +kernel) (by decide +kernel)
set_option maxRecDepth 20000 in
theorem gX5_carriedBy_X5_movesOf : GoodIn wsX5_carriedBy (wsV RX5 156 RX5 yX5_movesOf wsX5_movesOf) := goodIn_app (goodIn_of _ (by decide +kernel)) ggX5_carriedBy_X5_movesOf
theorem dX5_carriedBy_0 : decode cX5_carriedBy 0 = .ok (.iconst 0, 1) := by decide +kernel
theorem dX5_carriedBy_1 : decode cX5_carriedBy 1 = .ok (.istore_n 2, 1) := by decide +kernel
theorem dX5_carriedBy_2 : decode cX5_carriedBy 2 = .ok (.iconst 0, 1) := by decide +kernel
theorem dX5_carriedBy_3 : decode cX5_carriedBy 3 = .ok (.istore_n 3, 1) := by decide +kernel
theorem dX5_carriedBy_4 : decode cX5_carriedBy 4 = .ok (.iload_n 3, 1) := by decide +kernel
theorem dX5_carriedBy_5 : decode cX5_carriedBy 5 = .ok (.aload_n 0, 1) := by decide +kernel
theorem dX5_carriedBy_6 : decode cX5_carriedBy 6 = .ok (.getfield 57, 3) := by decide +kernel
theorem dX5_carriedBy_9 : decode cX5_carriedBy 9 = .ok (.if_icmp .ge 25, 3) := by decide +kernel
theorem dX5_carriedBy_12 : decode cX5_carriedBy 12 = .ok (.iload_n 2, 1) := by decide +kernel
theorem dX5_carriedBy_13 : decode cX5_carriedBy 13 = .ok (.aload_n 0, 1) := by decide +kernel
theorem dX5_carriedBy_14 : decode cX5_carriedBy 14 = .ok (.getfield 22, 3) := by decide +kernel
theorem dX5_carriedBy_17 : decode cX5_carriedBy 17 = .ok (.iload_n 3, 1) := by decide +kernel
theorem dX5_carriedBy_18 : decode cX5_carriedBy 18 = .ok (.iaload, 1) := by decide +kernel
theorem dX5_carriedBy_19 : decode cX5_carriedBy 19 = .ok (.aload_n 0, 1) := by decide +kernel
theorem dX5_carriedBy_20 : decode cX5_carriedBy 20 = .ok (.iload_n 3, 1) := by decide +kernel
theorem dX5_carriedBy_21 : decode cX5_carriedBy 21 = .ok (.iload_n 1, 1) := by decide +kernel
theorem dX5_carriedBy_22 : decode cX5_carriedBy 22 = .ok (.invokevirtual 156, 3) := by decide +kernel
theorem dX5_carriedBy_25 : decode cX5_carriedBy 25 = .ok (.imul, 1) := by decide +kernel
theorem dX5_carriedBy_26 : decode cX5_carriedBy 26 = .ok (.iadd, 1) := by decide +kernel
theorem dX5_carriedBy_27 : decode cX5_carriedBy 27 = .ok (.istore_n 2, 1) := by decide +kernel
theorem dX5_carriedBy_28 : decode cX5_carriedBy 28 = .ok (.iinc 3 1, 3) := by decide +kernel
theorem dX5_carriedBy_31 : decode cX5_carriedBy 31 = .ok (.goto (-27), 3) := by decide +kernel
theorem dX5_carriedBy_34 : decode cX5_carriedBy 34 = .ok (.iload_n 2, 1) := by decide +kernel
theorem dX5_carriedBy_35 : decode cX5_carriedBy 35 = .ok (.ireturn, 1) := by decide +kernel
set_option maxRecDepth 20000 in
theorem ggX5_carried_X5_areAlive : GoodIn wsX5_carried wsX5_areAlive := goodIn_r _ [5, 6, 7, 8, 4, 9, 10, 11, 27, 28, 29, 30, 31, 32, 33, 34, 35, 36, 37, 38, 39, 40, 41, 42, 43, 44, 45, 46, 47, 48, 49, 50] (by decide +kernel) (by decide +kernel)
set_option maxRecDepth 20000 in
theorem gX5_carried_X5_areAlive : GoodIn wsX5_carried (wsV RX5 171 RX5 yX5_areAlive wsX5_areAlive) := goodIn_app (goodIn_of _ (by decide +kernel)) ggX5_carried_X5_areAlive
set_option maxRecDepth 20000 in
theorem ggX5_carried_X5_carriedBy : GoodIn wsX5_carried wsX5_carriedBy := goodIn_r _ [15, 10, 16, 17, 18, 19, 4, 20, 11, 21, 27, 28, 29, 30, 31, 32, 33, 34, 35, 36, 37, 38, 39, 40, 41, 42, 43, 44, 45, 46, 47, 48, 49, 50] (by decide +kernel) (by decide +kernel)
set_option maxRecDepth 20000 in
theorem gX5_carried_X5_carriedBy : GoodIn wsX5_carried (wsV RX5 195 RX5 yX5_carriedBy wsX5_carriedBy) := goodIn_app (goodIn_of _ (by decide +kernel)) ggX5_carried_X5_carriedBy
set_option maxRecDepth 20000 in
theorem ggX5_carried_X5_no : GoodIn wsX5_carried wsX5_no := goodIn_r _ [25, 26, 27, 28, 29, 30, 31, 32, 33, 34, 35, 36, 37, 38, 39, 40, 41, 42, 43, 44, 45, 46, 47, 48, 49, 50] (by decide +kernel) (by decide +kernel)
set_option maxRecDepth 20000 in
theorem gX5_carried_X5_no : GoodIn wsX5_carried (wsV RX5 68 RX5 yX5_no wsX5_no) := goodIn_app (goodIn_of _ (by decide +kernel)) ggX5_carried_X5_no
theorem dX5_carried_0 : decode cX5_carried 0 = .ok (.aload_n 0, 1) := by decide +kernel
theorem dX5_carried_1 : decode cX5_carried 1 = .ok (.iload_n 1, 1) := by decide +kernel
theorem dX5_carried_2 : decode cX5_carried 2 = .ok (.invokevirtual 171, 3) := by decide +kernel
theorem dX5_carried_5 : decode cX5_carried 5 = .ok (.ifCond .eq 11, 3) := by decide +kernel
theorem dX5_carried_8 : decode cX5_carried 8 = .ok (.aload_n 0, 1) := by decide +kernel
theorem dX5_carried_9 : decode cX5_carried 9 = .ok (.iload_n 1, 1) := by decide +kernel
theorem dX5_carried_10 : decode cX5_carried 10 = .ok (.invokevirtual 195, 3) := by decide +kernel
theorem dX5_carried_13 : decode cX5_carried 13 = .ok (.goto 8, 3) := by decide +kernel
theorem dX5_carried_16 : decode cX5_carried 16 = .ok (.aload_n 0, 1) := by decide +kernel
theorem dX5_carried_17 : decode cX5_carried 17 = .ok (.iconst (-1), 1) := by decide +kernel
theorem dX5_carried_18 : decode cX5_carried 18 = .ok (.invokevirtual 68, 3) := by decide +kernel
theorem dX5_carried_21 : decode cX5_carried 21 = .ok (.ireturn, 1) := by decide +kernel
set_option maxRecDepth 20000 in
theorem ggX5_leastCarried_X5_carriedBy : GoodIn wsX5_leastCarried wsX5_carriedBy := goodIn_r _ [7, 1, 8, 9, 10, 11, 6, 12, 2, 13, 14, 15, 16, 17, 18, 19, 20, 21, 22, 23, 24, 25, 26, 27, 28, 29, 30, 31, 32, 33, 34, 35, 36, 37] (by decide +kernel) (by decide +kernel)
set_option maxRecDepth 20000 in
theorem gX5_leastCarried_X5_carriedBy : GoodIn wsX5_leastCarried (wsV RX5 195 RX5 yX5_carriedBy wsX5_carriedBy) := goodIn_app (goodIn_of _ (by decide +kernel)) ggX5_leastCarried_X5_carriedBy
theorem dX5_leastCarried_0 : decode cX5_leastCarried 0 = .ok (.bipush (-9), 2) := by decide +kernel
theorem dX5_leastCarried_2 : decode cX5_leastCarried 2 = .ok (.istore_n 1, 1) := by decide +kernel
theorem dX5_leastCarried_3 : decode cX5_leastCarried 3 = .ok (.iconst 0, 1) := by decide +kernel
theorem dX5_leastCarried_4 : decode cX5_leastCarried 4 = .ok (.istore_n 2, 1) := by decide +kernel
theorem dX5_leastCarried_5 : decode cX5_leastCarried 5 = .ok (.iload_n 2, 1) := by decide +kernel
theorem dX5_leastCarried_6 : decode cX5_leastCarried 6 = .ok (.aload_n 0, 1) := by decide +kernel
theorem dX5_leastCarried_7 : decode cX5_leastCarried 7 = .ok (.getfield 57, 3) := by decide +kernel
theorem dX5_leastCarried_10 : decode cX5_leastCarried 10 = .ok (.if_icmp .ge 41, 3) := by decide +kernel
theorem dX5_leastCarried_13 : decode cX5_leastCarried 13 = .ok (.aload_n 0, 1) := by decide +kernel
theorem dX5_leastCarried_14 : decode cX5_leastCarried 14 = .ok (.getfield 19, 3) := by decide +kernel
theorem dX5_leastCarried_17 : decode cX5_leastCarried 17 = .ok (.iload_n 2, 1) := by decide +kernel
theorem dX5_leastCarried_18 : decode cX5_leastCarried 18 = .ok (.iaload, 1) := by decide +kernel
theorem dX5_leastCarried_19 : decode cX5_leastCarried 19 = .ok (.ifCond .lt 26, 3) := by decide +kernel
theorem dX5_leastCarried_22 : decode cX5_leastCarried 22 = .ok (.iload_n 1, 1) := by decide +kernel
theorem dX5_leastCarried_23 : decode cX5_leastCarried 23 = .ok (.ifCond .lt 20, 3) := by decide +kernel
theorem dX5_leastCarried_26 : decode cX5_leastCarried 26 = .ok (.aload_n 0, 1) := by decide +kernel
theorem dX5_leastCarried_27 : decode cX5_leastCarried 27 = .ok (.iconst 1, 1) := by decide +kernel
theorem dX5_leastCarried_28 : decode cX5_leastCarried 28 = .ok (.iload_n 2, 1) := by decide +kernel
theorem dX5_leastCarried_29 : decode cX5_leastCarried 29 = .ok (.ishl, 1) := by decide +kernel
theorem dX5_leastCarried_30 : decode cX5_leastCarried 30 = .ok (.invokevirtual 195, 3) := by decide +kernel
theorem dX5_leastCarried_33 : decode cX5_leastCarried 33 = .ok (.aload_n 0, 1) := by decide +kernel
theorem dX5_leastCarried_34 : decode cX5_leastCarried 34 = .ok (.iconst 1, 1) := by decide +kernel
theorem dX5_leastCarried_35 : decode cX5_leastCarried 35 = .ok (.iload_n 1, 1) := by decide +kernel
theorem dX5_leastCarried_36 : decode cX5_leastCarried 36 = .ok (.ishl, 1) := by decide +kernel
theorem dX5_leastCarried_37 : decode cX5_leastCarried 37 = .ok (.invokevirtual 195, 3) := by decide +kernel
theorem dX5_leastCarried_40 : decode cX5_leastCarried 40 = .ok (.if_icmp .ge 5, 3) := by decide +kernel
theorem dX5_leastCarried_43 : decode cX5_leastCarried 43 = .ok (.iload_n 2, 1) := by decide +kernel
theorem dX5_leastCarried_44 : decode cX5_leastCarried 44 = .ok (.istore_n 1, 1) := by decide +kernel
theorem dX5_leastCarried_45 : decode cX5_leastCarried 45 = .ok (.iinc 2 1, 3) := by decide +kernel
theorem dX5_leastCarried_48 : decode cX5_leastCarried 48 = .ok (.goto (-43), 3) := by decide +kernel
theorem dX5_leastCarried_51 : decode cX5_leastCarried 51 = .ok (.iload_n 1, 1) := by decide +kernel
theorem dX5_leastCarried_52 : decode cX5_leastCarried 52 = .ok (.ireturn, 1) := by decide +kernel
set_option maxRecDepth 20000 in
theorem ggX5_ringBits_X5_whoOn : GoodIn wsX5_ringBits wsX5_whoOn := goodIn_r _ [8, 1, 2, 9, 10, 11, 12, 13, 14, 15, 16, 17, 18, 19, 20, 21, 22, 23, 24, 25, 26, 27, 28, 29, 30, 31, 32] (by decide +kernel) (by decide +kernel)
set_option maxRecDepth 20000 in
theorem gX5_ringBits_X5_whoOn : GoodIn wsX5_ringBits (wsV RX5 117 RX5 yX5_whoOn wsX5_whoOn) := goodIn_app (goodIn_of _ (by decide +kernel)) ggX5_ringBits_X5_whoOn
