theorem dX5_ringBits_0 : decode cX5_ringBits 0 = .ok (.iconst 0, 1) := by decide +kernel
theorem dX5_ringBits_1 : decode cX5_ringBits 1 = .ok (.istore_n 1, 1) := by decide +kernel
theorem dX5_ringBits_2 : decode cX5_ringBits 2 = .ok (.iconst 0, 1) := by decide +kernel
theorem dX5_ringBits_3 : decode cX5_ringBits 3 = .ok (.istore_n 2, 1) := by decide +kernel
theorem dX5_ringBits_4 : decode cX5_ringBits 4 = .ok (.iload_n 2, 1) := by decide +kernel
theorem dX5_ringBits_5 : decode cX5_ringBits 5 = .ok (.aload_n 0, 1) := by decide +kernel
theorem dX5_ringBits_6 : decode cX5_ringBits 6 = .ok (.getfield 57, 3) := by decide +kernel
theorem dX5_ringBits_9 : decode cX5_ringBits 9 = .ok (.if_icmp .ge 76, 3) := by decide +kernel
theorem dX5_ringBits_12 : decode cX5_ringBits 12 = .ok (.iload_n 2, 1) := by decide +kernel
theorem dX5_ringBits_13 : decode cX5_ringBits 13 = .ok (.istore_n 3, 1) := by decide +kernel
theorem dX5_ringBits_14 : decode cX5_ringBits 14 = .ok (.iconst 0, 1) := by decide +kernel
theorem dX5_ringBits_15 : decode cX5_ringBits 15 = .ok (.istore 4, 2) := by decide +kernel
theorem dX5_ringBits_17 : decode cX5_ringBits 17 = .ok (.iload 4, 2) := by decide +kernel
theorem dX5_ringBits_19 : decode cX5_ringBits 19 = .ok (.bipush 8, 2) := by decide +kernel
theorem dX5_ringBits_21 : decode cX5_ringBits 21 = .ok (.if_icmp .ge 58, 3) := by decide +kernel
theorem dX5_ringBits_24 : decode cX5_ringBits 24 = .ok (.iload_n 3, 1) := by decide +kernel
theorem dX5_ringBits_25 : decode cX5_ringBits 25 = .ok (.ifCond .lt 54, 3) := by decide +kernel
theorem dX5_ringBits_28 : decode cX5_ringBits 28 = .ok (.aload_n 0, 1) := by decide +kernel
theorem dX5_ringBits_29 : decode cX5_ringBits 29 = .ok (.getfield 19, 3) := by decide +kernel
theorem dX5_ringBits_32 : decode cX5_ringBits 32 = .ok (.iload_n 3, 1) := by decide +kernel
theorem dX5_ringBits_33 : decode cX5_ringBits 33 = .ok (.iaload, 1) := by decide +kernel
theorem dX5_ringBits_34 : decode cX5_ringBits 34 = .ok (.ifCond .lt 12, 3) := by decide +kernel
theorem dX5_ringBits_37 : decode cX5_ringBits 37 = .ok (.aload_n 0, 1) := by decide +kernel
theorem dX5_ringBits_38 : decode cX5_ringBits 38 = .ok (.getfield 25, 3) := by decide +kernel
theorem dX5_ringBits_41 : decode cX5_ringBits 41 = .ok (.iload_n 3, 1) := by decide +kernel
theorem dX5_ringBits_42 : decode cX5_ringBits 42 = .ok (.iaload, 1) := by decide +kernel
theorem dX5_ringBits_43 : decode cX5_ringBits 43 = .ok (.ifCond .ge 8, 3) := by decide +kernel
theorem dX5_ringBits_46 : decode cX5_ringBits 46 = .ok (.bipush (-9), 2) := by decide +kernel
theorem dX5_ringBits_48 : decode cX5_ringBits 48 = .ok (.goto 13, 3) := by decide +kernel
theorem dX5_ringBits_51 : decode cX5_ringBits 51 = .ok (.aload_n 0, 1) := by decide +kernel
theorem dX5_ringBits_52 : decode cX5_ringBits 52 = .ok (.aload_n 0, 1) := by decide +kernel
theorem dX5_ringBits_53 : decode cX5_ringBits 53 = .ok (.getfield 25, 3) := by decide +kernel
theorem dX5_ringBits_56 : decode cX5_ringBits 56 = .ok (.iload_n 3, 1) := by decide +kernel
theorem dX5_ringBits_57 : decode cX5_ringBits 57 = .ok (.iaload, 1) := by decide +kernel
theorem dX5_ringBits_58 : decode cX5_ringBits 58 = .ok (.invokevirtual 117, 3) := by decide +kernel
theorem dX5_ringBits_61 : decode cX5_ringBits 61 = .ok (.istore_n 3, 1) := by decide +kernel
theorem dX5_ringBits_62 : decode cX5_ringBits 62 = .ok (.iload_n 3, 1) := by decide +kernel
theorem dX5_ringBits_63 : decode cX5_ringBits 63 = .ok (.iload_n 2, 1) := by decide +kernel
theorem dX5_ringBits_64 : decode cX5_ringBits 64 = .ok (.if_icmp .ne 9, 3) := by decide +kernel
theorem dX5_ringBits_67 : decode cX5_ringBits 67 = .ok (.iload_n 1, 1) := by decide +kernel
theorem dX5_ringBits_68 : decode cX5_ringBits 68 = .ok (.iconst 1, 1) := by decide +kernel
theorem dX5_ringBits_69 : decode cX5_ringBits 69 = .ok (.iload_n 2, 1) := by decide +kernel
theorem dX5_ringBits_70 : decode cX5_ringBits 70 = .ok (.ishl, 1) := by decide +kernel
theorem dX5_ringBits_71 : decode cX5_ringBits 71 = .ok (.ior, 1) := by decide +kernel
theorem dX5_ringBits_72 : decode cX5_ringBits 72 = .ok (.istore_n 1, 1) := by decide +kernel
theorem dX5_ringBits_73 : decode cX5_ringBits 73 = .ok (.iinc 4 1, 3) := by decide +kernel
theorem dX5_ringBits_76 : decode cX5_ringBits 76 = .ok (.goto (-59), 3) := by decide +kernel
theorem dX5_ringBits_79 : decode cX5_ringBits 79 = .ok (.iinc 2 1, 3) := by decide +kernel
theorem dX5_ringBits_82 : decode cX5_ringBits 82 = .ok (.goto (-78), 3) := by decide +kernel
theorem dX5_ringBits_85 : decode cX5_ringBits 85 = .ok (.iload_n 1, 1) := by decide +kernel
theorem dX5_ringBits_86 : decode cX5_ringBits 86 = .ok (.ireturn, 1) := by decide +kernel
set_option maxRecDepth 20000 in
theorem ggX5_rings_X5_ringBits : GoodIn wsX5_rings wsX5_ringBits := goodIn_r _ [5, 6, 7, 8, 9, 10, 11, 4, 12, 13, 14, 15, 16, 17, 18, 19, 20, 21, 22, 23, 24, 25, 26, 27, 28, 29, 30, 31, 32, 33, 34, 35, 36] (by decide +kernel) (by decide +kernel)
set_option maxRecDepth 20000 in
theorem gX5_rings_X5_ringBits : GoodIn wsX5_rings (wsV RX5 198 RX5 yX5_ringBits wsX5_ringBits) := goodIn_app (goodIn_of _ (by decide +kernel)) ggX5_rings_X5_ringBits
theorem dX5_rings_0 : decode cX5_rings 0 = .ok (.aload_n 0, 1) := by decide +kernel
theorem dX5_rings_1 : decode cX5_rings 1 = .ok (.invokevirtual 198, 3) := by decide +kernel
theorem dX5_rings_4 : decode cX5_rings 4 = .ok (.ireturn, 1) := by decide +kernel
set_option maxRecDepth 20000 in
theorem ggX5_changing_X5_ringBits : GoodIn wsX5_changing wsX5_ringBits := goodIn_r _ [8, 1, 2, 3, 9, 10, 11, 7, 12, 13, 14, 15, 16, 17, 18, 19, 20, 21, 22, 23, 24, 25, 26, 27, 28, 29, 30, 31, 32, 33, 34, 35, 36] (by decide +kernel) (by decide +kernel)
set_option maxRecDepth 20000 in
theorem gX5_changing_X5_ringBits : GoodIn wsX5_changing (wsV RX5 198 RX5 yX5_ringBits wsX5_ringBits) := goodIn_app (goodIn_of _ (by decide +kernel)) ggX5_changing_X5_ringBits
theorem dX5_changing_0 : decode cX5_changing 0 = .ok (.aload_n 0, 1) := by decide +kernel
theorem dX5_changing_1 : decode cX5_changing 1 = .ok (.invokevirtual 198, 3) := by decide +kernel
theorem dX5_changing_4 : decode cX5_changing 4 = .ok (.istore_n 1, 1) := by decide +kernel
theorem dX5_changing_5 : decode cX5_changing 5 = .ok (.iconst 0, 1) := by decide +kernel
theorem dX5_changing_6 : decode cX5_changing 6 = .ok (.istore_n 2, 1) := by decide +kernel
theorem dX5_changing_7 : decode cX5_changing 7 = .ok (.iconst 0, 1) := by decide +kernel
theorem dX5_changing_8 : decode cX5_changing 8 = .ok (.istore_n 3, 1) := by decide +kernel
theorem dX5_changing_9 : decode cX5_changing 9 = .ok (.iload_n 3, 1) := by decide +kernel
theorem dX5_changing_10 : decode cX5_changing 10 = .ok (.aload_n 0, 1) := by decide +kernel
theorem dX5_changing_11 : decode cX5_changing 11 = .ok (.getfield 57, 3) := by decide +kernel
theorem dX5_changing_14 : decode cX5_changing 14 = .ok (.if_icmp .ge 63, 3) := by decide +kernel
theorem dX5_changing_17 : decode cX5_changing 17 = .ok (.iload_n 1, 1) := by decide +kernel
theorem dX5_changing_18 : decode cX5_changing 18 = .ok (.iload_n 3, 1) := by decide +kernel
theorem dX5_changing_19 : decode cX5_changing 19 = .ok (.ishr, 1) := by decide +kernel
theorem dX5_changing_20 : decode cX5_changing 20 = .ok (.iconst 1, 1) := by decide +kernel
theorem dX5_changing_21 : decode cX5_changing 21 = .ok (.iand, 1) := by decide +kernel
theorem dX5_changing_22 : decode cX5_changing 22 = .ok (.ifCond .ne 6, 3) := by decide +kernel
theorem dX5_changing_25 : decode cX5_changing 25 = .ok (.goto 46, 3) := by decide +kernel
theorem dX5_changing_28 : decode cX5_changing 28 = .ok (.iload_n 2, 1) := by decide +kernel
theorem dX5_changing_29 : decode cX5_changing 29 = .ok (.aload_n 0, 1) := by decide +kernel
theorem dX5_changing_30 : decode cX5_changing 30 = .ok (.getfield 19, 3) := by decide +kernel
theorem dX5_changing_33 : decode cX5_changing 33 = .ok (.iload_n 3, 1) := by decide +kernel
theorem dX5_changing_34 : decode cX5_changing 34 = .ok (.iaload, 1) := by decide +kernel
theorem dX5_changing_35 : decode cX5_changing 35 = .ok (.aload_n 0, 1) := by decide +kernel
theorem dX5_changing_36 : decode cX5_changing 36 = .ok (.getfield 25, 3) := by decide +kernel
theorem dX5_changing_39 : decode cX5_changing 39 = .ok (.iload_n 3, 1) := by decide +kernel
theorem dX5_changing_40 : decode cX5_changing 40 = .ok (.iaload, 1) := by decide +kernel
theorem dX5_changing_41 : decode cX5_changing 41 = .ok (.if_icmp .ne 7, 3) := by decide +kernel
theorem dX5_changing_44 : decode cX5_changing 44 = .ok (.iconst 0, 1) := by decide +kernel
theorem dX5_changing_45 : decode cX5_changing 45 = .ok (.goto 4, 3) := by decide +kernel
theorem dX5_changing_48 : decode cX5_changing 48 = .ok (.iconst 1, 1) := by decide +kernel
theorem dX5_changing_49 : decode cX5_changing 49 = .ok (.iadd, 1) := by decide +kernel
theorem dX5_changing_50 : decode cX5_changing 50 = .ok (.istore_n 2, 1) := by decide +kernel
theorem dX5_changing_51 : decode cX5_changing 51 = .ok (.aload_n 0, 1) := by decide +kernel
theorem dX5_changing_52 : decode cX5_changing 52 = .ok (.getfield 19, 3) := by decide +kernel
theorem dX5_changing_55 : decode cX5_changing 55 = .ok (.iload_n 3, 1) := by decide +kernel
theorem dX5_changing_56 : decode cX5_changing 56 = .ok (.aload_n 0, 1) := by decide +kernel
theorem dX5_changing_57 : decode cX5_changing 57 = .ok (.getfield 25, 3) := by decide +kernel
theorem dX5_changing_60 : decode cX5_changing 60 = .ok (.iload_n 3, 1) := by decide +kernel
theorem dX5_changing_61 : decode cX5_changing 61 = .ok (.iaload, 1) := by decide +kernel
theorem dX5_changing_62 : decode cX5_changing 62 = .ok (.iastore, 1) := by decide +kernel
theorem dX5_changing_63 : decode cX5_changing 63 = .ok (.aload_n 0, 1) := by decide +kernel
theorem dX5_changing_64 : decode cX5_changing 64 = .ok (.getfield 25, 3) := by decide +kernel
theorem dX5_changing_67 : decode cX5_changing 67 = .ok (.iload_n 3, 1) := by decide +kernel
theorem dX5_changing_68 : decode cX5_changing 68 = .ok (.bipush (-9), 2) := by decide +kernel
theorem dX5_changing_70 : decode cX5_changing 70 = .ok (.iastore, 1) := by decide +kernel
theorem dX5_changing_71 : decode cX5_changing 71 = .ok (.iinc 3 1, 3) := by decide +kernel
theorem dX5_changing_74 : decode cX5_changing 74 = .ok (.goto (-65), 3) := by decide +kernel
theorem dX5_changing_77 : decode cX5_changing 77 = .ok (.iload_n 2, 1) := by decide +kernel
theorem dX5_changing_78 : decode cX5_changing 78 = .ok (.ireturn, 1) := by decide +kernel
set_option maxRecDepth 20000 in
theorem ggX5_free_X5_whoOn : GoodIn wsX5_free wsX5_whoOn := goodIn_r _ [5, 6, 7, 8, 9, 10, 11, 12, 13, 14, 15, 16, 17, 18, 19, 20, 21, 22, 23, 24, 25, 26, 27, 28, 29, 30, 31] (by decide +kernel) (by decide +kernel)
set_option maxRecDepth 20000 in
theorem gX5_free_X5_whoOn : GoodIn wsX5_free (wsV RX5 117 RX5 yX5_whoOn wsX5_whoOn) := goodIn_app (goodIn_of _ (by decide +kernel)) ggX5_free_X5_whoOn
theorem dX5_free_0 : decode cX5_free 0 = .ok (.iconst 0, 1) := by decide +kernel
theorem dX5_free_1 : decode cX5_free 1 = .ok (.istore_n 1, 1) := by decide +kernel
theorem dX5_free_2 : decode cX5_free 2 = .ok (.iconst 0, 1) := by decide +kernel
theorem dX5_free_3 : decode cX5_free 3 = .ok (.istore_n 2, 1) := by decide +kernel
theorem dX5_free_4 : decode cX5_free 4 = .ok (.iload_n 2, 1) := by decide +kernel
theorem dX5_free_5 : decode cX5_free 5 = .ok (.bipush 10, 2) := by decide +kernel
theorem dX5_free_7 : decode cX5_free 7 = .ok (.if_icmp .ge 27, 3) := by decide +kernel
theorem dX5_free_10 : decode cX5_free 10 = .ok (.iload_n 1, 1) := by decide +kernel
theorem dX5_free_11 : decode cX5_free 11 = .ok (.aload_n 0, 1) := by decide +kernel
theorem dX5_free_12 : decode cX5_free 12 = .ok (.iload_n 2, 1) := by decide +kernel
theorem dX5_free_13 : decode cX5_free 13 = .ok (.invokevirtual 117, 3) := by decide +kernel
theorem dX5_free_16 : decode cX5_free 16 = .ok (.ifCond .ge 9, 3) := by decide +kernel
theorem dX5_free_19 : decode cX5_free 19 = .ok (.iconst 1, 1) := by decide +kernel
theorem dX5_free_20 : decode cX5_free 20 = .ok (.iload_n 2, 1) := by decide +kernel
theorem dX5_free_21 : decode cX5_free 21 = .ok (.ishl, 1) := by decide +kernel
theorem dX5_free_22 : decode cX5_free 22 = .ok (.goto 4, 3) := by decide +kernel
theorem dX5_free_25 : decode cX5_free 25 = .ok (.iconst 0, 1) := by decide +kernel
theorem dX5_free_26 : decode cX5_free 26 = .ok (.ior, 1) := by decide +kernel
theorem dX5_free_27 : decode cX5_free 27 = .ok (.istore_n 1, 1) := by decide +kernel
theorem dX5_free_28 : decode cX5_free 28 = .ok (.iinc 2 1, 3) := by decide +kernel
theorem dX5_free_31 : decode cX5_free 31 = .ok (.goto (-27), 3) := by decide +kernel
theorem dX5_free_34 : decode cX5_free 34 = .ok (.iload_n 1, 1) := by decide +kernel
theorem dX5_free_35 : decode cX5_free 35 = .ok (.ireturn, 1) := by decide +kernel
set_option maxRecDepth 20000 in
theorem ggX5_ages_X5_isIn : GoodIn wsX5_ages wsX5_isIn := goodIn_r _ [4] (by decide +kernel) (by decide +kernel)
set_option maxRecDepth 20000 in
theorem gX5_ages_X5_isIn : GoodIn wsX5_ages (va_wsS RX5 79 yX5_isIn wsX5_isIn) := goodIn_app (goodIn_of _ (by decide +kernel)) ggX5_ages_X5_isIn
set_option maxRecDepth 20000 in
theorem ggX5_ages_X5_no : GoodIn wsX5_ages wsX5_no := goodIn_r _ [8, 9, 19, 20, 21, 22, 23, 24, 25, 26, 27, 28, 29, 30, 31, 32, 33, 34, 35, 36, 37, 38, 39, 40, 41, 42] (by decide +kernel) (by decide +kernel)
set_option maxRecDepth 20000 in
theorem gX5_ages_X5_no : GoodIn wsX5_ages (wsV RX5 68 RX5 yX5_no wsX5_no) := goodIn_app (goodIn_of _ (by decide +kernel)) ggX5_ages_X5_no
set_option maxRecDepth 20000 in
theorem ggX5_ages_X5_entryOf : GoodIn wsX5_ages wsX5_entryOf := goodIn_r _ [12] (by decide +kernel) (by decide +kernel)
set_option maxRecDepth 20000 in
theorem gX5_ages_X5_entryOf : GoodIn wsX5_ages (va_wsS RX5 113 yX5_entryOf wsX5_entryOf) := goodIn_app (goodIn_of _ (by decide +kernel)) ggX5_ages_X5_entryOf
set_option maxRecDepth 20000 in
theorem ggX5_ages_X5_whoOn : GoodIn wsX5_ages wsX5_whoOn := goodIn_r _ [16, 17, 18, 19, 20, 21, 22, 23, 24, 25, 26, 27, 28, 29, 30, 31, 32, 33, 34, 35, 36, 37, 38, 39, 40, 41, 42] (by decide +kernel) (by decide +kernel)
set_option maxRecDepth 20000 in
theorem gX5_ages_X5_whoOn : GoodIn wsX5_ages (wsV RX5 117 RX5 yX5_whoOn wsX5_whoOn) := goodIn_app (goodIn_of _ (by decide +kernel)) ggX5_ages_X5_whoOn
theorem dX5_ages_0 : decode cX5_ages 0 = .ok (.iload_n 1, 1) := by decide +kernel
theorem dX5_ages_1 : decode cX5_ages 1 = .ok (.iconst 0, 1) := by decide +kernel
theorem dX5_ages_2 : decode cX5_ages 2 = .ok (.iconst 5, 1) := by decide +kernel
theorem dX5_ages_3 : decode cX5_ages 3 = .ok (.invokestatic 79, 3) := by decide +kernel
theorem dX5_ages_6 : decode cX5_ages 6 = .ok (.ifCond .eq 12, 3) := by decide +kernel
theorem dX5_ages_9 : decode cX5_ages 9 = .ok (.iload_n 2, 1) := by decide +kernel
theorem dX5_ages_10 : decode cX5_ages 10 = .ok (.iconst 0, 1) := by decide +kernel
theorem dX5_ages_11 : decode cX5_ages 11 = .ok (.iconst 1, 1) := by decide +kernel
theorem dX5_ages_12 : decode cX5_ages 12 = .ok (.invokestatic 79, 3) := by decide +kernel
theorem dX5_ages_15 : decode cX5_ages 15 = .ok (.ifCond .ne 10, 3) := by decide +kernel
theorem dX5_ages_18 : decode cX5_ages 18 = .ok (.aload_n 0, 1) := by decide +kernel
theorem dX5_ages_19 : decode cX5_ages 19 = .ok (.bipush (-2), 2) := by decide +kernel
theorem dX5_ages_21 : decode cX5_ages 21 = .ok (.invokevirtual 68, 3) := by decide +kernel
theorem dX5_ages_24 : decode cX5_ages 24 = .ok (.ireturn, 1) := by decide +kernel
theorem dX5_ages_25 : decode cX5_ages 25 = .ok (.iconst 0, 1) := by decide +kernel
theorem dX5_ages_26 : decode cX5_ages 26 = .ok (.istore_n 3, 1) := by decide +kernel
theorem dX5_ages_27 : decode cX5_ages 27 = .ok (.bipush (-9), 2) := by decide +kernel
theorem dX5_ages_29 : decode cX5_ages 29 = .ok (.istore 4, 2) := by decide +kernel
theorem dX5_ages_31 : decode cX5_ages 31 = .ok (.iconst 0, 1) := by decide +kernel
theorem dX5_ages_32 : decode cX5_ages 32 = .ok (.istore 5, 2) := by decide +kernel
theorem dX5_ages_34 : decode cX5_ages 34 = .ok (.iload 5, 2) := by decide +kernel
theorem dX5_ages_36 : decode cX5_ages 36 = .ok (.bipush 99, 2) := by decide +kernel
theorem dX5_ages_38 : decode cX5_ages 38 = .ok (.if_icmp .gt 41, 3) := by decide +kernel
theorem dX5_ages_41 : decode cX5_ages 41 = .ok (.aload_n 0, 1) := by decide +kernel
theorem dX5_ages_42 : decode cX5_ages 42 = .ok (.iload_n 1, 1) := by decide +kernel
theorem dX5_ages_43 : decode cX5_ages 43 = .ok (.iload 5, 2) := by decide +kernel
theorem dX5_ages_45 : decode cX5_ages 45 = .ok (.invokestatic 113, 3) := by decide +kernel
theorem dX5_ages_48 : decode cX5_ages 48 = .ok (.invokevirtual 117, 3) := by decide +kernel
theorem dX5_ages_51 : decode cX5_ages 51 = .ok (.ifCond .lt 6, 3) := by decide +kernel
theorem dX5_ages_54 : decode cX5_ages 54 = .ok (.goto 19, 3) := by decide +kernel
theorem dX5_ages_57 : decode cX5_ages 57 = .ok (.iload_n 3, 1) := by decide +kernel
theorem dX5_ages_58 : decode cX5_ages 58 = .ok (.ifCond .ne 8, 3) := by decide +kernel
theorem dX5_ages_61 : decode cX5_ages 61 = .ok (.iload 5, 2) := by decide +kernel
theorem dX5_ages_63 : decode cX5_ages 63 = .ok (.goto 5, 3) := by decide +kernel
theorem dX5_ages_66 : decode cX5_ages 66 = .ok (.iload 4, 2) := by decide +kernel
theorem dX5_ages_68 : decode cX5_ages 68 = .ok (.istore 4, 2) := by decide +kernel
theorem dX5_ages_70 : decode cX5_ages 70 = .ok (.iinc 3 1, 3) := by decide +kernel
theorem dX5_ages_73 : decode cX5_ages 73 = .ok (.iinc 5 1, 3) := by decide +kernel
theorem dX5_ages_76 : decode cX5_ages 76 = .ok (.goto (-42), 3) := by decide +kernel
theorem dX5_ages_79 : decode cX5_ages 79 = .ok (.iload_n 2, 1) := by decide +kernel
theorem dX5_ages_80 : decode cX5_ages 80 = .ok (.ifCond .ne 7, 3) := by decide +kernel
theorem dX5_ages_83 : decode cX5_ages 83 = .ok (.iload_n 3, 1) := by decide +kernel
theorem dX5_ages_84 : decode cX5_ages 84 = .ok (.goto 5, 3) := by decide +kernel
theorem dX5_ages_87 : decode cX5_ages 87 = .ok (.iload 4, 2) := by decide +kernel
theorem dX5_ages_89 : decode cX5_ages 89 = .ok (.ireturn, 1) := by decide +kernel
set_option maxRecDepth 20000 in
theorem ggX5_row_X5_bound : GoodIn wsX5_row wsX5_bound := goodIn_r _ [6] (by decide +kernel) (by decide +kernel)
set_option maxRecDepth 20000 in
theorem gX5_row_X5_bound : GoodIn wsX5_row (va_wsS RX5 61 yX5_bound wsX5_bound) := goodIn_app (goodIn_of _ (by decide +kernel)) ggX5_row_X5_bound
set_option maxRecDepth 20000 in
theorem ggX5_row_X5_no : GoodIn wsX5_row wsX5_no := goodIn_r _ [10, 11, 12, 13, 14, 15, 16, 17, 18, 19, 20, 21, 22, 23, 24, 25, 26, 27, 28, 29, 30, 31, 32, 33, 34, 35] (by decide +kernel) (by decide +kernel)
set_option maxRecDepth 20000 in
theorem gX5_row_X5_no : GoodIn wsX5_row (wsV RX5 68 RX5 yX5_no wsX5_no) := goodIn_app (goodIn_of _ (by decide +kernel)) ggX5_row_X5_no
theorem dX5_row_0 : decode cX5_row 0 = .ok (.iload_n 1, 1) := by decide +kernel
theorem dX5_row_1 : decode cX5_row 1 = .ok (.iconst 0, 1) := by decide +kernel
theorem dX5_row_2 : decode cX5_row 2 = .ok (.bipush 10, 2) := by decide +kernel
theorem dX5_row_4 : decode cX5_row 4 = .ok (.invokestatic 61, 3) := by decide +kernel
theorem dX5_row_7 : decode cX5_row 7 = .ok (.istore_n 2, 1) := by decide +kernel
theorem dX5_row_8 : decode cX5_row 8 = .ok (.iload_n 2, 1) := by decide +kernel
theorem dX5_row_9 : decode cX5_row 9 = .ok (.ifCond .ne 15, 3) := by decide +kernel
theorem dX5_row_12 : decode cX5_row 12 = .ok (.aload_n 0, 1) := by decide +kernel
theorem dX5_row_13 : decode cX5_row 13 = .ok (.getfield 201, 3) := by decide +kernel
theorem dX5_row_16 : decode cX5_row 16 = .ok (.bipush 8, 2) := by decide +kernel
theorem dX5_row_18 : decode cX5_row 18 = .ok (.if_icmp .ne 6, 3) := by decide +kernel
theorem dX5_row_21 : decode cX5_row 21 = .ok (.bipush (-6), 2) := by decide +kernel
theorem dX5_row_23 : decode cX5_row 23 = .ok (.istore_n 2, 1) := by decide +kernel
theorem dX5_row_24 : decode cX5_row 24 = .ok (.iload_n 2, 1) := by decide +kernel
theorem dX5_row_25 : decode cX5_row 25 = .ok (.ifCond .eq 9, 3) := by decide +kernel
theorem dX5_row_28 : decode cX5_row 28 = .ok (.aload_n 0, 1) := by decide +kernel
theorem dX5_row_29 : decode cX5_row 29 = .ok (.iload_n 2, 1) := by decide +kernel
theorem dX5_row_30 : decode cX5_row 30 = .ok (.invokevirtual 68, 3) := by decide +kernel
theorem dX5_row_33 : decode cX5_row 33 = .ok (.ireturn, 1) := by decide +kernel
theorem dX5_row_34 : decode cX5_row 34 = .ok (.aload_n 0, 1) := by decide +kernel
theorem dX5_row_35 : decode cX5_row 35 = .ok (.getfield 52, 3) := by decide +kernel
theorem dX5_row_38 : decode cX5_row 38 = .ok (.aload_n 0, 1) := by decide +kernel
theorem dX5_row_39 : decode cX5_row 39 = .ok (.getfield 201, 3) := by decide +kernel
theorem dX5_row_42 : decode cX5_row 42 = .ok (.iload_n 1, 1) := by decide +kernel
theorem dX5_row_43 : decode cX5_row 43 = .ok (.iastore, 1) := by decide +kernel
theorem dX5_row_44 : decode cX5_row 44 = .ok (.aload_n 0, 1) := by decide +kernel
theorem dX5_row_45 : decode cX5_row 45 = .ok (.dup, 1) := by decide +kernel
theorem dX5_row_46 : decode cX5_row 46 = .ok (.getfield 201, 3) := by decide +kernel
theorem dX5_row_49 : decode cX5_row 49 = .ok (.iconst 1, 1) := by decide +kernel
theorem dX5_row_50 : decode cX5_row 50 = .ok (.iadd, 1) := by decide +kernel
theorem dX5_row_51 : decode cX5_row 51 = .ok (.putfield 201, 3) := by decide +kernel
theorem dX5_row_54 : decode cX5_row 54 = .ok (.aload_n 0, 1) := by decide +kernel
theorem dX5_row_55 : decode cX5_row 55 = .ok (.getfield 201, 3) := by decide +kernel
theorem dX5_row_58 : decode cX5_row 58 = .ok (.ireturn, 1) := by decide +kernel
set_option maxRecDepth 20000 in
theorem ggX5_doesFit_X5_movesOf : GoodIn wsX5_doesFit wsX5_movesOf := goodIn_r _ [8, 2, 9, 1, 10, 11, 12, 13, 14, 15, 16, 17, 18, 19, 20, 21, 22, 23, 24, 25, 26, 27, 28, 29, 30, 31, 32, 33] (by decide +kernel) (by decide +kernel)
set_option maxRecDepth 20000 in
theorem gX5_doesFit_X5_movesOf : GoodIn wsX5_doesFit (wsV RX5 156 RX5 yX5_movesOf wsX5_movesOf) := goodIn_app (goodIn_of _ (by decide +kernel)) ggX5_doesFit_X5_movesOf
theorem dX5_doesFit_0 : decode cX5_doesFit 0 = .ok (.iconst 0, 1) := by decide +kernel
theorem dX5_doesFit_1 : decode cX5_doesFit 1 = .ok (.istore_n 2, 1) := by decide +kernel
theorem dX5_doesFit_2 : decode cX5_doesFit 2 = .ok (.iconst 0, 1) := by decide +kernel
theorem dX5_doesFit_3 : decode cX5_doesFit 3 = .ok (.istore_n 3, 1) := by decide +kernel
theorem dX5_doesFit_4 : decode cX5_doesFit 4 = .ok (.iload_n 3, 1) := by decide +kernel
theorem dX5_doesFit_5 : decode cX5_doesFit 5 = .ok (.aload_n 0, 1) := by decide +kernel
theorem dX5_doesFit_6 : decode cX5_doesFit 6 = .ok (.getfield 57, 3) := by decide +kernel
theorem dX5_doesFit_9 : decode cX5_doesFit 9 = .ok (.if_icmp .ge 80, 3) := by decide +kernel
theorem dX5_doesFit_12 : decode cX5_doesFit 12 = .ok (.aload_n 0, 1) := by decide +kernel
theorem dX5_doesFit_13 : decode cX5_doesFit 13 = .ok (.getfield 19, 3) := by decide +kernel
theorem dX5_doesFit_16 : decode cX5_doesFit 16 = .ok (.iload_n 3, 1) := by decide +kernel
theorem dX5_doesFit_17 : decode cX5_doesFit 17 = .ok (.iaload, 1) := by decide +kernel
theorem dX5_doesFit_18 : decode cX5_doesFit 18 = .ok (.ifCond .ge 6, 3) := by decide +kernel
theorem dX5_doesFit_21 : decode cX5_doesFit 21 = .ok (.goto 62, 3) := by decide +kernel
theorem dX5_doesFit_24 : decode cX5_doesFit 24 = .ok (.iload_n 1, 1) := by decide +kernel
theorem dX5_doesFit_25 : decode cX5_doesFit 25 = .ok (.iload_n 3, 1) := by decide +kernel
theorem dX5_doesFit_26 : decode cX5_doesFit 26 = .ok (.ishr, 1) := by decide +kernel
theorem dX5_doesFit_27 : decode cX5_doesFit 27 = .ok (.iconst 1, 1) := by decide +kernel
theorem dX5_doesFit_28 : decode cX5_doesFit 28 = .ok (.iand, 1) := by decide +kernel
theorem dX5_doesFit_29 : decode cX5_doesFit 29 = .ok (.iconst 1, 1) := by decide +kernel
theorem dX5_doesFit_30 : decode cX5_doesFit 30 = .ok (.if_icmp .ne 7, 3) := by decide +kernel
theorem dX5_doesFit_33 : decode cX5_doesFit 33 = .ok (.iconst 1, 1) := by decide +kernel
theorem dX5_doesFit_34 : decode cX5_doesFit 34 = .ok (.goto 4, 3) := by decide +kernel
theorem dX5_doesFit_37 : decode cX5_doesFit 37 = .ok (.iconst 0, 1) := by decide +kernel
theorem dX5_doesFit_38 : decode cX5_doesFit 38 = .ok (.istore 4, 2) := by decide +kernel
theorem dX5_doesFit_40 : decode cX5_doesFit 40 = .ok (.aload_n 0, 1) := by decide +kernel
theorem dX5_doesFit_41 : decode cX5_doesFit 41 = .ok (.getfield 52, 3) := by decide +kernel
theorem dX5_doesFit_44 : decode cX5_doesFit 44 = .ok (.iload_n 2, 1) := by decide +kernel
theorem dX5_doesFit_45 : decode cX5_doesFit 45 = .ok (.iaload, 1) := by decide +kernel
theorem dX5_doesFit_46 : decode cX5_doesFit 46 = .ok (.bipush 10, 2) := by decide +kernel
theorem dX5_doesFit_48 : decode cX5_doesFit 48 = .ok (.if_icmp .eq 32, 3) := by decide +kernel
theorem dX5_doesFit_51 : decode cX5_doesFit 51 = .ok (.iload 4, 2) := by decide +kernel
theorem dX5_doesFit_53 : decode cX5_doesFit 53 = .ok (.ifCond .ne 25, 3) := by decide +kernel
theorem dX5_doesFit_56 : decode cX5_doesFit 56 = .ok (.aload_n 0, 1) := by decide +kernel
theorem dX5_doesFit_57 : decode cX5_doesFit 57 = .ok (.getfield 52, 3) := by decide +kernel
theorem dX5_doesFit_60 : decode cX5_doesFit 60 = .ok (.iload_n 2, 1) := by decide +kernel
theorem dX5_doesFit_61 : decode cX5_doesFit 61 = .ok (.iaload, 1) := by decide +kernel
theorem dX5_doesFit_62 : decode cX5_doesFit 62 = .ok (.aload_n 0, 1) := by decide +kernel
theorem dX5_doesFit_63 : decode cX5_doesFit 63 = .ok (.getfield 19, 3) := by decide +kernel
theorem dX5_doesFit_66 : decode cX5_doesFit 66 = .ok (.iload_n 3, 1) := by decide +kernel
theorem dX5_doesFit_67 : decode cX5_doesFit 67 = .ok (.iaload, 1) := by decide +kernel
theorem dX5_doesFit_68 : decode cX5_doesFit 68 = .ok (.aload_n 0, 1) := by decide +kernel
theorem dX5_doesFit_69 : decode cX5_doesFit 69 = .ok (.iload_n 3, 1) := by decide +kernel
theorem dX5_doesFit_70 : decode cX5_doesFit 70 = .ok (.iload_n 1, 1) := by decide +kernel
theorem dX5_doesFit_71 : decode cX5_doesFit 71 = .ok (.invokevirtual 156, 3) := by decide +kernel
theorem dX5_doesFit_74 : decode cX5_doesFit 74 = .ok (.iadd, 1) := by decide +kernel
theorem dX5_doesFit_75 : decode cX5_doesFit 75 = .ok (.if_icmp .eq 5, 3) := by decide +kernel
theorem dX5_doesFit_78 : decode cX5_doesFit 78 = .ok (.iconst 0, 1) := by decide +kernel
theorem dX5_doesFit_79 : decode cX5_doesFit 79 = .ok (.ireturn, 1) := by decide +kernel
theorem dX5_doesFit_80 : decode cX5_doesFit 80 = .ok (.iinc 2 1, 3) := by decide +kernel
theorem dX5_doesFit_83 : decode cX5_doesFit 83 = .ok (.iinc 3 1, 3) := by decide +kernel
theorem dX5_doesFit_86 : decode cX5_doesFit 86 = .ok (.goto (-82), 3) := by decide +kernel
theorem dX5_doesFit_89 : decode cX5_doesFit 89 = .ok (.iconst 1, 1) := by decide +kernel
theorem dX5_doesFit_90 : decode cX5_doesFit 90 = .ok (.ireturn, 1) := by decide +kernel
set_option maxRecDepth 20000 in
theorem ggX5_fitting_X5_isIn : GoodIn wsX5_fitting wsX5_isIn := goodIn_r _ [6] (by decide +kernel) (by decide +kernel)
set_option maxRecDepth 20000 in
theorem gX5_fitting_X5_isIn : GoodIn wsX5_fitting (va_wsS RX5 79 yX5_isIn wsX5_isIn) := goodIn_app (goodIn_of _ (by decide +kernel)) ggX5_fitting_X5_isIn
set_option maxRecDepth 20000 in
theorem ggX5_fitting_X5_no : GoodIn wsX5_fitting wsX5_no := goodIn_r _ [10, 11, 34, 35, 36, 37, 38, 39, 40, 41, 42, 43, 44, 45, 46, 47, 48, 49, 50, 51, 52, 53, 54, 55, 56, 57] (by decide +kernel) (by decide +kernel)
set_option maxRecDepth 20000 in
theorem gX5_fitting_X5_no : GoodIn wsX5_fitting (wsV RX5 68 RX5 yX5_no wsX5_no) := goodIn_app (goodIn_of _ (by decide +kernel)) ggX5_fitting_X5_no
set_option maxRecDepth 20000 in
theorem ggX5_fitting_X5_aliveBits : GoodIn wsX5_fitting wsX5_aliveBits := goodIn_r _ [15, 2, 16, 34, 35, 36, 37, 38, 39, 40, 41, 42, 43, 44, 45, 46, 47, 48, 49, 50, 51, 52, 53, 54, 55, 56, 57] (by decide +kernel) (by decide +kernel)
set_option maxRecDepth 20000 in
theorem gX5_fitting_X5_aliveBits : GoodIn wsX5_fitting (wsV RX5 159 RX5 yX5_aliveBits wsX5_aliveBits) := goodIn_app (goodIn_of _ (by decide +kernel)) ggX5_fitting_X5_aliveBits
set_option maxRecDepth 20000 in
theorem ggX5_fitting_X5_bits : GoodIn wsX5_fitting wsX5_bits := goodIn_r _ [19] (by decide +kernel) (by decide +kernel)
set_option maxRecDepth 20000 in
theorem gX5_fitting_X5_bits : GoodIn wsX5_fitting (va_wsS RX5 204 yX5_bits wsX5_bits) := goodIn_app (goodIn_of _ (by decide +kernel)) ggX5_fitting_X5_bits
set_option maxRecDepth 20000 in
theorem ggX5_fitting_X5_areAlive : GoodIn wsX5_fitting wsX5_areAlive := goodIn_r _ [23, 12, 13, 14, 5, 15, 2, 16, 34, 35, 36, 37, 38, 39, 40, 41, 42, 43, 44, 45, 46, 47, 48, 49, 50, 51, 52, 53, 54, 55, 56, 57] (by decide +kernel) (by decide +kernel)
set_option maxRecDepth 20000 in
theorem gX5_fitting_X5_areAlive : GoodIn wsX5_fitting (wsV RX5 171 RX5 yX5_areAlive wsX5_areAlive) := goodIn_app (goodIn_of _ (by decide +kernel)) ggX5_fitting_X5_areAlive
set_option maxRecDepth 20000 in
theorem ggX5_fitting_X5_doesFit : GoodIn wsX5_fitting wsX5_doesFit := goodIn_r _ [27, 2, 16, 28, 29, 30, 31, 5, 32, 33, 34, 35, 36, 37, 38, 39, 40, 41, 42, 43, 44, 45, 46, 47, 48, 49, 50, 51, 52, 53, 54, 55, 56, 57] (by decide +kernel) (by decide +kernel)
set_option maxRecDepth 20000 in
theorem gX5_fitting_X5_doesFit : GoodIn wsX5_fitting (wsV RX5 207 RX5 yX5_doesFit wsX5_doesFit) := goodIn_app (goodIn_of _ (by decide +kernel)) ggX5_fitting_X5_doesFit
theorem dX5_fitting_0 : decode cX5_fitting 0 = .ok (.iload_n 1, 1) := by decide +kernel
theorem dX5_fitting_1 : decode cX5_fitting 1 = .ok (.iconst 0, 1) := by decide +kernel
theorem dX5_fitting_2 : decode cX5_fitting 2 = .ok (.iconst 1, 1) := by decide +kernel
theorem dX5_fitting_3 : decode cX5_fitting 3 = .ok (.invokestatic 79, 3) := by decide +kernel
theorem dX5_fitting_6 : decode cX5_fitting 6 = .ok (.ifCond .ne 10, 3) := by decide +kernel
theorem dX5_fitting_9 : decode cX5_fitting 9 = .ok (.aload_n 0, 1) := by decide +kernel
theorem dX5_fitting_10 : decode cX5_fitting 10 = .ok (.bipush (-2), 2) := by decide +kernel
theorem dX5_fitting_12 : decode cX5_fitting 12 = .ok (.invokevirtual 68, 3) := by decide +kernel
theorem dX5_fitting_15 : decode cX5_fitting 15 = .ok (.ireturn, 1) := by decide +kernel
theorem dX5_fitting_16 : decode cX5_fitting 16 = .ok (.aload_n 0, 1) := by decide +kernel
theorem dX5_fitting_17 : decode cX5_fitting 17 = .ok (.getfield 201, 3) := by decide +kernel
theorem dX5_fitting_20 : decode cX5_fitting 20 = .ok (.aload_n 0, 1) := by decide +kernel
theorem dX5_fitting_21 : decode cX5_fitting 21 = .ok (.invokevirtual 159, 3) := by decide +kernel
theorem dX5_fitting_24 : decode cX5_fitting 24 = .ok (.invokestatic 204, 3) := by decide +kernel
theorem dX5_fitting_27 : decode cX5_fitting 27 = .ok (.if_icmp .eq 10, 3) := by decide +kernel
theorem dX5_fitting_30 : decode cX5_fitting 30 = .ok (.aload_n 0, 1) := by decide +kernel
theorem dX5_fitting_31 : decode cX5_fitting 31 = .ok (.bipush (-3), 2) := by decide +kernel
theorem dX5_fitting_33 : decode cX5_fitting 33 = .ok (.invokevirtual 68, 3) := by decide +kernel
theorem dX5_fitting_36 : decode cX5_fitting 36 = .ok (.ireturn, 1) := by decide +kernel
theorem dX5_fitting_37 : decode cX5_fitting 37 = .ok (.iconst 0, 1) := by decide +kernel
theorem dX5_fitting_38 : decode cX5_fitting 38 = .ok (.istore_n 2, 1) := by decide +kernel
theorem dX5_fitting_39 : decode cX5_fitting 39 = .ok (.bipush (-9), 2) := by decide +kernel
theorem dX5_fitting_41 : decode cX5_fitting 41 = .ok (.istore_n 3, 1) := by decide +kernel
theorem dX5_fitting_42 : decode cX5_fitting 42 = .ok (.iconst 0, 1) := by decide +kernel
theorem dX5_fitting_43 : decode cX5_fitting 43 = .ok (.istore 4, 2) := by decide +kernel
theorem dX5_fitting_45 : decode cX5_fitting 45 = .ok (.iload 4, 2) := by decide +kernel
theorem dX5_fitting_47 : decode cX5_fitting 47 = .ok (.iconst 1, 1) := by decide +kernel
theorem dX5_fitting_48 : decode cX5_fitting 48 = .ok (.aload_n 0, 1) := by decide +kernel
theorem dX5_fitting_49 : decode cX5_fitting 49 = .ok (.getfield 57, 3) := by decide +kernel
theorem dX5_fitting_52 : decode cX5_fitting 52 = .ok (.ishl, 1) := by decide +kernel
theorem dX5_fitting_53 : decode cX5_fitting 53 = .ok (.if_icmp .ge 44, 3) := by decide +kernel
theorem dX5_fitting_56 : decode cX5_fitting 56 = .ok (.aload_n 0, 1) := by decide +kernel
theorem dX5_fitting_57 : decode cX5_fitting 57 = .ok (.iload 4, 2) := by decide +kernel
theorem dX5_fitting_59 : decode cX5_fitting 59 = .ok (.invokevirtual 171, 3) := by decide +kernel
theorem dX5_fitting_62 : decode cX5_fitting 62 = .ok (.ifCond .eq 29, 3) := by decide +kernel
theorem dX5_fitting_65 : decode cX5_fitting 65 = .ok (.aload_n 0, 1) := by decide +kernel
theorem dX5_fitting_66 : decode cX5_fitting 66 = .ok (.iload 4, 2) := by decide +kernel
theorem dX5_fitting_68 : decode cX5_fitting 68 = .ok (.invokevirtual 207, 3) := by decide +kernel
theorem dX5_fitting_71 : decode cX5_fitting 71 = .ok (.ifCond .ne 6, 3) := by decide +kernel
theorem dX5_fitting_74 : decode cX5_fitting 74 = .ok (.goto 17, 3) := by decide +kernel
theorem dX5_fitting_77 : decode cX5_fitting 77 = .ok (.iload_n 2, 1) := by decide +kernel
theorem dX5_fitting_78 : decode cX5_fitting 78 = .ok (.ifCond .ne 8, 3) := by decide +kernel
theorem dX5_fitting_81 : decode cX5_fitting 81 = .ok (.iload 4, 2) := by decide +kernel
theorem dX5_fitting_83 : decode cX5_fitting 83 = .ok (.goto 4, 3) := by decide +kernel
theorem dX5_fitting_86 : decode cX5_fitting 86 = .ok (.iload_n 3, 1) := by decide +kernel
theorem dX5_fitting_87 : decode cX5_fitting 87 = .ok (.istore_n 3, 1) := by decide +kernel
theorem dX5_fitting_88 : decode cX5_fitting 88 = .ok (.iinc 2 1, 3) := by decide +kernel
theorem dX5_fitting_91 : decode cX5_fitting 91 = .ok (.iinc 4 1, 3) := by decide +kernel
theorem dX5_fitting_94 : decode cX5_fitting 94 = .ok (.goto (-49), 3) := by decide +kernel
theorem dX5_fitting_97 : decode cX5_fitting 97 = .ok (.iload_n 1, 1) := by decide +kernel
theorem dX5_fitting_98 : decode cX5_fitting 98 = .ok (.ifCond .ne 7, 3) := by decide +kernel
theorem dX5_fitting_101 : decode cX5_fitting 101 = .ok (.iload_n 2, 1) := by decide +kernel
theorem dX5_fitting_102 : decode cX5_fitting 102 = .ok (.goto 4, 3) := by decide +kernel
theorem dX5_fitting_105 : decode cX5_fitting 105 = .ok (.iload_n 3, 1) := by decide +kernel
theorem dX5_fitting_106 : decode cX5_fitting 106 = .ok (.ireturn, 1) := by decide +kernel
theorem dX5_judge_0 : decode cX5_judge 0 = .ok (.aload_n 0, 1) := by decide +kernel
theorem dX5_judge_1 : decode cX5_judge 1 = .ok (.getfield 201, 3) := by decide +kernel
theorem dX5_judge_4 : decode cX5_judge 4 = .ok (.istore_n 1, 1) := by decide +kernel
theorem dX5_judge_5 : decode cX5_judge 5 = .ok (.aload_n 0, 1) := by decide +kernel
theorem dX5_judge_6 : decode cX5_judge 6 = .ok (.iconst 0, 1) := by decide +kernel
theorem dX5_judge_7 : decode cX5_judge 7 = .ok (.putfield 201, 3) := by decide +kernel
theorem dX5_judge_10 : decode cX5_judge 10 = .ok (.iconst 0, 1) := by decide +kernel
theorem dX5_judge_11 : decode cX5_judge 11 = .ok (.istore_n 2, 1) := by decide +kernel
theorem dX5_judge_12 : decode cX5_judge 12 = .ok (.iconst 0, 1) := by decide +kernel
theorem dX5_judge_13 : decode cX5_judge 13 = .ok (.istore_n 3, 1) := by decide +kernel
theorem dX5_judge_14 : decode cX5_judge 14 = .ok (.iload_n 3, 1) := by decide +kernel
theorem dX5_judge_15 : decode cX5_judge 15 = .ok (.aload_n 0, 1) := by decide +kernel
theorem dX5_judge_16 : decode cX5_judge 16 = .ok (.getfield 57, 3) := by decide +kernel
theorem dX5_judge_19 : decode cX5_judge 19 = .ok (.if_icmp .ge 46, 3) := by decide +kernel
theorem dX5_judge_22 : decode cX5_judge 22 = .ok (.aload_n 0, 1) := by decide +kernel
theorem dX5_judge_23 : decode cX5_judge 23 = .ok (.getfield 19, 3) := by decide +kernel
theorem dX5_judge_26 : decode cX5_judge 26 = .ok (.iload_n 3, 1) := by decide +kernel
theorem dX5_judge_27 : decode cX5_judge 27 = .ok (.iaload, 1) := by decide +kernel
theorem dX5_judge_28 : decode cX5_judge 28 = .ok (.ifCond .ge 6, 3) := by decide +kernel
theorem dX5_judge_31 : decode cX5_judge 31 = .ok (.goto 28, 3) := by decide +kernel
theorem dX5_judge_34 : decode cX5_judge 34 = .ok (.iload_n 2, 1) := by decide +kernel
theorem dX5_judge_35 : decode cX5_judge 35 = .ok (.iload_n 1, 1) := by decide +kernel
theorem dX5_judge_36 : decode cX5_judge 36 = .ok (.if_icmp .eq 18, 3) := by decide +kernel
theorem dX5_judge_39 : decode cX5_judge 39 = .ok (.aload_n 0, 1) := by decide +kernel
theorem dX5_judge_40 : decode cX5_judge 40 = .ok (.getfield 52, 3) := by decide +kernel
theorem dX5_judge_43 : decode cX5_judge 43 = .ok (.iload_n 2, 1) := by decide +kernel
theorem dX5_judge_44 : decode cX5_judge 44 = .ok (.iaload, 1) := by decide +kernel
theorem dX5_judge_45 : decode cX5_judge 45 = .ok (.aload_n 0, 1) := by decide +kernel
theorem dX5_judge_46 : decode cX5_judge 46 = .ok (.getfield 19, 3) := by decide +kernel
theorem dX5_judge_49 : decode cX5_judge 49 = .ok (.iload_n 3, 1) := by decide +kernel
theorem dX5_judge_50 : decode cX5_judge 50 = .ok (.iaload, 1) := by decide +kernel
theorem dX5_judge_51 : decode cX5_judge 51 = .ok (.if_icmp .eq 5, 3) := by decide +kernel
theorem dX5_judge_54 : decode cX5_judge 54 = .ok (.iload_n 2, 1) := by decide +kernel
theorem dX5_judge_55 : decode cX5_judge 55 = .ok (.ireturn, 1) := by decide +kernel
theorem dX5_judge_56 : decode cX5_judge 56 = .ok (.iinc 2 1, 3) := by decide +kernel
theorem dX5_judge_59 : decode cX5_judge 59 = .ok (.iinc 3 1, 3) := by decide +kernel
theorem dX5_judge_62 : decode cX5_judge 62 = .ok (.goto (-48), 3) := by decide +kernel
theorem dX5_judge_65 : decode cX5_judge 65 = .ok (.iload_n 1, 1) := by decide +kernel
theorem dX5_judge_66 : decode cX5_judge 66 = .ok (.iload_n 2, 1) := by decide +kernel
theorem dX5_judge_67 : decode cX5_judge 67 = .ok (.if_icmp .le 7, 3) := by decide +kernel
theorem dX5_judge_70 : decode cX5_judge 70 = .ok (.iload_n 2, 1) := by decide +kernel
theorem dX5_judge_71 : decode cX5_judge 71 = .ok (.goto 5, 3) := by decide +kernel
theorem dX5_judge_74 : decode cX5_judge 74 = .ok (.bipush (-9), 2) := by decide +kernel
theorem dX5_judge_76 : decode cX5_judge 76 = .ok (.ireturn, 1) := by decide +kernel
set_option maxRecDepth 20000 in
theorem ggX5_lots_X5_bound : GoodIn wsX5_lots wsX5_bound := goodIn_r _ [9] (by decide +kernel) (by decide +kernel)
set_option maxRecDepth 20000 in
theorem gX5_lots_X5_bound : GoodIn wsX5_lots (va_wsS RX5 61 yX5_bound wsX5_bound) := goodIn_app (goodIn_of _ (by decide +kernel)) ggX5_lots_X5_bound
set_option maxRecDepth 20000 in
theorem ggX5_lots_X5_no : GoodIn wsX5_lots wsX5_no := goodIn_r _ [13, 14, 55, 56, 57, 58, 59, 60, 61, 62, 63, 64, 65, 66, 67, 68, 69, 70, 71, 72, 73, 74, 75, 76, 77, 78] (by decide +kernel) (by decide +kernel)
set_option maxRecDepth 20000 in
theorem gX5_lots_X5_no : GoodIn wsX5_lots (wsV RX5 68 RX5 yX5_no wsX5_no) := goodIn_app (goodIn_of _ (by decide +kernel)) ggX5_lots_X5_no
set_option maxRecDepth 20000 in
theorem ggX5_lots_X5_passesAll : GoodIn wsX5_lots wsX5_passesAll := goodIn_r _ [18, 19, 20, 21, 22, 2, 23, 24, 1, 25, 26, 27, 28, 8, 29, 30, 31, 32, 33, 34, 55, 56, 57, 58, 59, 60, 61, 62, 63, 64, 65, 66, 67, 68, 69, 70, 71, 72, 73, 74, 75, 76, 77, 78] (by decide +kernel) (by decide +kernel)
set_option maxRecDepth 20000 in
theorem gX5_lots_X5_passesAll : GoodIn wsX5_lots (wsV RX5 129 RX5 yX5_passesAll wsX5_passesAll) := goodIn_app (goodIn_of _ (by decide +kernel)) ggX5_lots_X5_passesAll
set_option maxRecDepth 20000 in
theorem ggX5_lots_X5_chanceOf : GoodIn wsX5_lots wsX5_chanceOf := goodIn_r _ [38, 22, 21, 39, 40, 8, 41, 55, 56, 57, 58, 59, 60, 61, 62, 63, 64, 65, 66, 67, 68, 69, 70, 71, 72, 73, 74, 75, 76, 77, 78] (by decide +kernel) (by decide +kernel)
set_option maxRecDepth 20000 in
theorem gX5_lots_X5_chanceOf : GoodIn wsX5_lots (wsV RX5 162 RX5 yX5_chanceOf wsX5_chanceOf) := goodIn_app (goodIn_of _ (by decide +kernel)) ggX5_lots_X5_chanceOf
set_option maxRecDepth 20000 in
theorem ggX5_lots_X5_goesYear : GoodIn wsX5_lots wsX5_goesYear := goodIn_r _ [45, 1, 46, 2, 22, 25, 47, 48, 49, 8, 50, 21, 39, 40, 41, 55, 56, 57, 58, 59, 60, 61, 62, 63, 64, 65, 66, 67, 68, 69, 70, 71, 72, 73, 74, 75, 76, 77, 78] (by decide +kernel) (by decide +kernel)
set_option maxRecDepth 20000 in
theorem gX5_lots_X5_goesYear : GoodIn wsX5_lots (wsV RX5 110 RX5 yX5_goesYear wsX5_goesYear) := goodIn_app (goodIn_of _ (by decide +kernel)) ggX5_lots_X5_goesYear
set_option maxRecDepth 20000 in
theorem ggX5_lots_X5_aliveBits : GoodIn wsX5_lots wsX5_aliveBits := goodIn_r _ [54, 1, 2, 55, 56, 57, 58, 59, 60, 61, 62, 63, 64, 65, 66, 67, 68, 69, 70, 71, 72, 73, 74, 75, 76, 77, 78] (by decide +kernel) (by decide +kernel)
set_option maxRecDepth 20000 in
theorem gX5_lots_X5_aliveBits : GoodIn wsX5_lots (wsV RX5 159 RX5 yX5_aliveBits wsX5_aliveBits) := goodIn_app (goodIn_of _ (by decide +kernel)) ggX5_lots_X5_aliveBits
theorem dX5_lots_0 : decode cX5_lots 0 = .ok (.iload_n 1, 1) := by decide +kernel
theorem dX5_lots_1 : decode cX5_lots 1 = .ok (.iconst 1, 1) := by decide +kernel
theorem dX5_lots_2 : decode cX5_lots 2 = .ok (.bipush 40, 2) := by decide +kernel
theorem dX5_lots_4 : decode cX5_lots 4 = .ok (.invokestatic 61, 3) := by decide +kernel
theorem dX5_lots_7 : decode cX5_lots 7 = .ok (.istore_n 3, 1) := by decide +kernel
theorem dX5_lots_8 : decode cX5_lots 8 = .ok (.iload_n 3, 1) := by decide +kernel
theorem dX5_lots_9 : decode cX5_lots 9 = .ok (.ifCond .eq 9, 3) := by decide +kernel
theorem dX5_lots_12 : decode cX5_lots 12 = .ok (.aload_n 0, 1) := by decide +kernel
theorem dX5_lots_13 : decode cX5_lots 13 = .ok (.iload_n 3, 1) := by decide +kernel
theorem dX5_lots_14 : decode cX5_lots 14 = .ok (.invokevirtual 68, 3) := by decide +kernel
theorem dX5_lots_17 : decode cX5_lots 17 = .ok (.ireturn, 1) := by decide +kernel
theorem dX5_lots_18 : decode cX5_lots 18 = .ok (.aload_n 0, 1) := by decide +kernel
theorem dX5_lots_19 : decode cX5_lots 19 = .ok (.iconst 1, 1) := by decide +kernel
theorem dX5_lots_20 : decode cX5_lots 20 = .ok (.iconst 1, 1) := by decide +kernel
theorem dX5_lots_21 : decode cX5_lots 21 = .ok (.invokevirtual 129, 3) := by decide +kernel
theorem dX5_lots_24 : decode cX5_lots 24 = .ok (.iload_n 2, 1) := by decide +kernel
theorem dX5_lots_25 : decode cX5_lots 25 = .ok (.istore 4, 2) := by decide +kernel
theorem dX5_lots_27 : decode cX5_lots 27 = .ok (.iconst 0, 1) := by decide +kernel
theorem dX5_lots_28 : decode cX5_lots 28 = .ok (.istore 5, 2) := by decide +kernel
theorem dX5_lots_30 : decode cX5_lots 30 = .ok (.iload 5, 2) := by decide +kernel
theorem dX5_lots_32 : decode cX5_lots 32 = .ok (.iload_n 1, 1) := by decide +kernel
theorem dX5_lots_33 : decode cX5_lots 33 = .ok (.if_icmp .ge 94, 3) := by decide +kernel
theorem dX5_lots_36 : decode cX5_lots 36 = .ok (.iconst 0, 1) := by decide +kernel
theorem dX5_lots_37 : decode cX5_lots 37 = .ok (.istore 6, 2) := by decide +kernel
theorem dX5_lots_39 : decode cX5_lots 39 = .ok (.iconst 0, 1) := by decide +kernel
theorem dX5_lots_40 : decode cX5_lots 40 = .ok (.istore 7, 2) := by decide +kernel
theorem dX5_lots_42 : decode cX5_lots 42 = .ok (.iload 7, 2) := by decide +kernel
theorem dX5_lots_44 : decode cX5_lots 44 = .ok (.aload_n 0, 1) := by decide +kernel
theorem dX5_lots_45 : decode cX5_lots 45 = .ok (.getfield 57, 3) := by decide +kernel
theorem dX5_lots_48 : decode cX5_lots 48 = .ok (.if_icmp .ge 66, 3) := by decide +kernel
theorem dX5_lots_51 : decode cX5_lots 51 = .ok (.aload_n 0, 1) := by decide +kernel
theorem dX5_lots_52 : decode cX5_lots 52 = .ok (.getfield 19, 3) := by decide +kernel
theorem dX5_lots_55 : decode cX5_lots 55 = .ok (.iload 7, 2) := by decide +kernel
theorem dX5_lots_57 : decode cX5_lots 57 = .ok (.iaload, 1) := by decide +kernel
theorem dX5_lots_58 : decode cX5_lots 58 = .ok (.ifCond .ge 6, 3) := by decide +kernel
theorem dX5_lots_61 : decode cX5_lots 61 = .ok (.goto 47, 3) := by decide +kernel
theorem dX5_lots_64 : decode cX5_lots 64 = .ok (.iload 4, 2) := by decide +kernel
theorem dX5_lots_66 : decode cX5_lots 66 = .ok (.ldc 210, 2) := by decide +kernel
theorem dX5_lots_68 : decode cX5_lots 68 = .ok (.imul, 1) := by decide +kernel
theorem dX5_lots_69 : decode cX5_lots 69 = .ok (.ldc 211, 2) := by decide +kernel
theorem dX5_lots_71 : decode cX5_lots 71 = .ok (.iadd, 1) := by decide +kernel
theorem dX5_lots_72 : decode cX5_lots 72 = .ok (.istore 4, 2) := by decide +kernel
theorem dX5_lots_74 : decode cX5_lots 74 = .ok (.iload 6, 2) := by decide +kernel
theorem dX5_lots_76 : decode cX5_lots 76 = .ok (.iload 4, 2) := by decide +kernel
theorem dX5_lots_78 : decode cX5_lots 78 = .ok (.ldc 212, 2) := by decide +kernel
theorem dX5_lots_80 : decode cX5_lots 80 = .ok (.iand, 1) := by decide +kernel
theorem dX5_lots_81 : decode cX5_lots 81 = .ok (.sipush 256, 3) := by decide +kernel
theorem dX5_lots_84 : decode cX5_lots 84 = .ok (.idiv, 1) := by decide +kernel
theorem dX5_lots_85 : decode cX5_lots 85 = .ok (.bipush 10, 2) := by decide +kernel
theorem dX5_lots_87 : decode cX5_lots 87 = .ok (.irem, 1) := by decide +kernel
theorem dX5_lots_88 : decode cX5_lots 88 = .ok (.aload_n 0, 1) := by decide +kernel
theorem dX5_lots_89 : decode cX5_lots 89 = .ok (.iload 7, 2) := by decide +kernel
theorem dX5_lots_91 : decode cX5_lots 91 = .ok (.invokevirtual 162, 3) := by decide +kernel
theorem dX5_lots_94 : decode cX5_lots 94 = .ok (.if_icmp .ge 10, 3) := by decide +kernel
theorem dX5_lots_97 : decode cX5_lots 97 = .ok (.iconst 1, 1) := by decide +kernel
theorem dX5_lots_98 : decode cX5_lots 98 = .ok (.iload 7, 2) := by decide +kernel
theorem dX5_lots_100 : decode cX5_lots 100 = .ok (.ishl, 1) := by decide +kernel
theorem dX5_lots_101 : decode cX5_lots 101 = .ok (.goto 4, 3) := by decide +kernel
theorem dX5_lots_104 : decode cX5_lots 104 = .ok (.iconst 0, 1) := by decide +kernel
theorem dX5_lots_105 : decode cX5_lots 105 = .ok (.ior, 1) := by decide +kernel
theorem dX5_lots_106 : decode cX5_lots 106 = .ok (.istore 6, 2) := by decide +kernel
theorem dX5_lots_108 : decode cX5_lots 108 = .ok (.iinc 7 1, 3) := by decide +kernel
theorem dX5_lots_111 : decode cX5_lots 111 = .ok (.goto (-69), 3) := by decide +kernel
theorem dX5_lots_114 : decode cX5_lots 114 = .ok (.aload_n 0, 1) := by decide +kernel
theorem dX5_lots_115 : decode cX5_lots 115 = .ok (.iload 6, 2) := by decide +kernel
theorem dX5_lots_117 : decode cX5_lots 117 = .ok (.invokevirtual 110, 3) := by decide +kernel
theorem dX5_lots_120 : decode cX5_lots 120 = .ok (.pop, 1) := by decide +kernel
theorem dX5_lots_121 : decode cX5_lots 121 = .ok (.iinc 5 1, 3) := by decide +kernel
theorem dX5_lots_124 : decode cX5_lots 124 = .ok (.goto (-94), 3) := by decide +kernel
theorem dX5_lots_127 : decode cX5_lots 127 = .ok (.aload_n 0, 1) := by decide +kernel
theorem dX5_lots_128 : decode cX5_lots 128 = .ok (.invokevirtual 159, 3) := by decide +kernel
theorem dX5_lots_131 : decode cX5_lots 131 = .ok (.istore 5, 2) := by decide +kernel
theorem dX5_lots_133 : decode cX5_lots 133 = .ok (.aload_n 0, 1) := by decide +kernel
theorem dX5_lots_134 : decode cX5_lots 134 = .ok (.iconst 1, 1) := by decide +kernel
theorem dX5_lots_135 : decode cX5_lots 135 = .ok (.iconst 0, 1) := by decide +kernel
theorem dX5_lots_136 : decode cX5_lots 136 = .ok (.invokevirtual 129, 3) := by decide +kernel
theorem dX5_lots_139 : decode cX5_lots 139 = .ok (.iload 5, 2) := by decide +kernel
theorem dX5_lots_141 : decode cX5_lots 141 = .ok (.ireturn, 1) := by decide +kernel
set_option maxRecDepth 20000 in
theorem ggX5_count_X5_isIn : GoodIn wsX5_count wsX5_isIn := goodIn_r _ [12] (by decide +kernel) (by decide +kernel)
set_option maxRecDepth 20000 in
theorem gX5_count_X5_isIn : GoodIn wsX5_count (va_wsS RX5 79 yX5_isIn wsX5_isIn) := goodIn_app (goodIn_of _ (by decide +kernel)) ggX5_count_X5_isIn
set_option maxRecDepth 20000 in
theorem ggX5_count_X5_aliveBits : GoodIn wsX5_count wsX5_aliveBits := goodIn_r _ [16, 2, 4, 20, 21, 22, 23, 24, 25, 26, 27, 28, 29, 30, 31, 32, 33, 34, 35, 36, 37, 38, 39, 40, 41, 42, 43] (by decide +kernel) (by decide +kernel)
set_option maxRecDepth 20000 in
theorem gX5_count_X5_aliveBits : GoodIn wsX5_count (wsV RX5 159 RX5 yX5_aliveBits wsX5_aliveBits) := goodIn_app (goodIn_of _ (by decide +kernel)) ggX5_count_X5_aliveBits
set_option maxRecDepth 20000 in
theorem ggX5_count_X5_bits : GoodIn wsX5_count wsX5_bits := goodIn_r _ [19] (by decide +kernel) (by decide +kernel)
set_option maxRecDepth 20000 in
theorem gX5_count_X5_bits : GoodIn wsX5_count (va_wsS RX5 204 yX5_bits wsX5_bits) := goodIn_app (goodIn_of _ (by decide +kernel)) ggX5_count_X5_bits
theorem dX5_count_0 : decode cX5_count 0 = .ok (.iload_n 1, 1) := by decide +kernel
theorem dX5_count_1 : decode cX5_count 1 = .ok (.bipush 11, 2) := by decide +kernel
theorem dX5_count_3 : decode cX5_count 3 = .ok (.bipush 16, 2) := by decide +kernel
theorem dX5_count_5 : decode cX5_count 5 = .ok (.invokestatic 79, 3) := by decide +kernel
theorem dX5_count_8 : decode cX5_count 8 = .ok (.ifCond .eq 13, 3) := by decide +kernel
theorem dX5_count_11 : decode cX5_count 11 = .ok (.aload_n 0, 1) := by decide +kernel
theorem dX5_count_12 : decode cX5_count 12 = .ok (.getfield 7, 3) := by decide +kernel
theorem dX5_count_15 : decode cX5_count 15 = .ok (.iload_n 1, 1) := by decide +kernel
theorem dX5_count_16 : decode cX5_count 16 = .ok (.bipush 10, 2) := by decide +kernel
theorem dX5_count_18 : decode cX5_count 18 = .ok (.isub, 1) := by decide +kernel
theorem dX5_count_19 : decode cX5_count 19 = .ok (.iaload, 1) := by decide +kernel
theorem dX5_count_20 : decode cX5_count 20 = .ok (.ireturn, 1) := by decide +kernel
theorem dX5_count_21 : decode cX5_count 21 = .ok (.iconst 0, 1) := by decide +kernel
theorem dX5_count_22 : decode cX5_count 22 = .ok (.istore_n 2, 1) := by decide +kernel
theorem dX5_count_23 : decode cX5_count 23 = .ok (.iload_n 1, 1) := by decide +kernel
theorem dX5_count_24 : decode cX5_count 24 = .ok (.tableswitch 152 0 6 #[44, 52, 57, 62, 102, 142, 147], 44) := by decide +kernel
theorem dX5_count_68 : decode cX5_count 68 = .ok (.aload_n 0, 1) := by decide +kernel
theorem dX5_count_69 : decode cX5_count 69 = .ok (.invokevirtual 159, 3) := by decide +kernel
theorem dX5_count_72 : decode cX5_count 72 = .ok (.invokestatic 204, 3) := by decide +kernel
theorem dX5_count_75 : decode cX5_count 75 = .ok (.ireturn, 1) := by decide +kernel
theorem dX5_count_76 : decode cX5_count 76 = .ok (.aload_n 0, 1) := by decide +kernel
theorem dX5_count_77 : decode cX5_count 77 = .ok (.getfield 57, 3) := by decide +kernel
theorem dX5_count_80 : decode cX5_count 80 = .ok (.ireturn, 1) := by decide +kernel
theorem dX5_count_81 : decode cX5_count 81 = .ok (.aload_n 0, 1) := by decide +kernel
theorem dX5_count_82 : decode cX5_count 82 = .ok (.getfield 107, 3) := by decide +kernel
theorem dX5_count_85 : decode cX5_count 85 = .ok (.ireturn, 1) := by decide +kernel
theorem dX5_count_86 : decode cX5_count 86 = .ok (.iconst 0, 1) := by decide +kernel
theorem dX5_count_87 : decode cX5_count 87 = .ok (.istore_n 3, 1) := by decide +kernel
theorem dX5_count_88 : decode cX5_count 88 = .ok (.iload_n 3, 1) := by decide +kernel
theorem dX5_count_89 : decode cX5_count 89 = .ok (.aload_n 0, 1) := by decide +kernel
theorem dX5_count_90 : decode cX5_count 90 = .ok (.getfield 57, 3) := by decide +kernel
theorem dX5_count_93 : decode cX5_count 93 = .ok (.if_icmp .ge 31, 3) := by decide +kernel
theorem dX5_count_96 : decode cX5_count 96 = .ok (.iload_n 2, 1) := by decide +kernel
theorem dX5_count_97 : decode cX5_count 97 = .ok (.aload_n 0, 1) := by decide +kernel
theorem dX5_count_98 : decode cX5_count 98 = .ok (.getfield 19, 3) := by decide +kernel
theorem dX5_count_101 : decode cX5_count 101 = .ok (.iload_n 3, 1) := by decide +kernel
theorem dX5_count_102 : decode cX5_count 102 = .ok (.iaload, 1) := by decide +kernel
theorem dX5_count_103 : decode cX5_count 103 = .ok (.ifCond .ge 7, 3) := by decide +kernel
theorem dX5_count_106 : decode cX5_count 106 = .ok (.iconst 0, 1) := by decide +kernel
theorem dX5_count_107 : decode cX5_count 107 = .ok (.goto 9, 3) := by decide +kernel
theorem dX5_count_110 : decode cX5_count 110 = .ok (.aload_n 0, 1) := by decide +kernel
theorem dX5_count_111 : decode cX5_count 111 = .ok (.getfield 22, 3) := by decide +kernel
theorem dX5_count_114 : decode cX5_count 114 = .ok (.iload_n 3, 1) := by decide +kernel
theorem dX5_count_115 : decode cX5_count 115 = .ok (.iaload, 1) := by decide +kernel
theorem dX5_count_116 : decode cX5_count 116 = .ok (.iadd, 1) := by decide +kernel
theorem dX5_count_117 : decode cX5_count 117 = .ok (.istore_n 2, 1) := by decide +kernel
theorem dX5_count_118 : decode cX5_count 118 = .ok (.iinc 3 1, 3) := by decide +kernel
theorem dX5_count_121 : decode cX5_count 121 = .ok (.goto (-33), 3) := by decide +kernel
theorem dX5_count_124 : decode cX5_count 124 = .ok (.iload_n 2, 1) := by decide +kernel
theorem dX5_count_125 : decode cX5_count 125 = .ok (.ireturn, 1) := by decide +kernel
theorem dX5_count_126 : decode cX5_count 126 = .ok (.iconst 0, 1) := by decide +kernel
theorem dX5_count_127 : decode cX5_count 127 = .ok (.istore_n 3, 1) := by decide +kernel
theorem dX5_count_128 : decode cX5_count 128 = .ok (.iload_n 3, 1) := by decide +kernel
theorem dX5_count_129 : decode cX5_count 129 = .ok (.aload_n 0, 1) := by decide +kernel
theorem dX5_count_130 : decode cX5_count 130 = .ok (.getfield 57, 3) := by decide +kernel
theorem dX5_count_133 : decode cX5_count 133 = .ok (.if_icmp .ge 31, 3) := by decide +kernel
theorem dX5_count_136 : decode cX5_count 136 = .ok (.iload_n 2, 1) := by decide +kernel
theorem dX5_count_137 : decode cX5_count 137 = .ok (.aload_n 0, 1) := by decide +kernel
theorem dX5_count_138 : decode cX5_count 138 = .ok (.getfield 19, 3) := by decide +kernel
theorem dX5_count_141 : decode cX5_count 141 = .ok (.iload_n 3, 1) := by decide +kernel
theorem dX5_count_142 : decode cX5_count 142 = .ok (.iaload, 1) := by decide +kernel
theorem dX5_count_143 : decode cX5_count 143 = .ok (.ifCond .ge 7, 3) := by decide +kernel
theorem dX5_count_146 : decode cX5_count 146 = .ok (.iconst 0, 1) := by decide +kernel
theorem dX5_count_147 : decode cX5_count 147 = .ok (.goto 9, 3) := by decide +kernel
theorem dX5_count_150 : decode cX5_count 150 = .ok (.aload_n 0, 1) := by decide +kernel
theorem dX5_count_151 : decode cX5_count 151 = .ok (.getfield 16, 3) := by decide +kernel
theorem dX5_count_154 : decode cX5_count 154 = .ok (.iload_n 3, 1) := by decide +kernel
theorem dX5_count_155 : decode cX5_count 155 = .ok (.iaload, 1) := by decide +kernel
theorem dX5_count_156 : decode cX5_count 156 = .ok (.iadd, 1) := by decide +kernel
theorem dX5_count_157 : decode cX5_count 157 = .ok (.istore_n 2, 1) := by decide +kernel
theorem dX5_count_158 : decode cX5_count 158 = .ok (.iinc 3 1, 3) := by decide +kernel
theorem dX5_count_161 : decode cX5_count 161 = .ok (.goto (-33), 3) := by decide +kernel
theorem dX5_count_164 : decode cX5_count 164 = .ok (.iload_n 2, 1) := by decide +kernel
theorem dX5_count_165 : decode cX5_count 165 = .ok (.ireturn, 1) := by decide +kernel
theorem dX5_count_166 : decode cX5_count 166 = .ok (.aload_n 0, 1) := by decide +kernel
theorem dX5_count_167 : decode cX5_count 167 = .ok (.getfield 201, 3) := by decide +kernel
theorem dX5_count_170 : decode cX5_count 170 = .ok (.ireturn, 1) := by decide +kernel
theorem dX5_count_171 : decode cX5_count 171 = .ok (.aload_n 0, 1) := by decide +kernel
theorem dX5_count_172 : decode cX5_count 172 = .ok (.getfield 65, 3) := by decide +kernel
theorem dX5_count_175 : decode cX5_count 175 = .ok (.ireturn, 1) := by decide +kernel
theorem dX5_count_176 : decode cX5_count 176 = .ok (.bipush (-9), 2) := by decide +kernel
theorem dX5_count_178 : decode cX5_count 178 = .ok (.ireturn, 1) := by decide +kernel
theorem dJ6_bitCount_0f7a4_0 : decode cJ6_bitCount_0f7a4 0 = .ok (.iload_n 0, 1) := by decide +kernel
theorem dJ6_bitCount_0f7a4_1 : decode cJ6_bitCount_0f7a4 1 = .ok (.iload_n 0, 1) := by decide +kernel
theorem dJ6_bitCount_0f7a4_2 : decode cJ6_bitCount_0f7a4 2 = .ok (.iconst 1, 1) := by decide +kernel
theorem dJ6_bitCount_0f7a4_3 : decode cJ6_bitCount_0f7a4 3 = .ok (.iushr, 1) := by decide +kernel
theorem dJ6_bitCount_0f7a4_4 : decode cJ6_bitCount_0f7a4 4 = .ok (.ldc_w 265, 3) := by decide +kernel
theorem dJ6_bitCount_0f7a4_7 : decode cJ6_bitCount_0f7a4 7 = .ok (.iand, 1) := by decide +kernel
theorem dJ6_bitCount_0f7a4_8 : decode cJ6_bitCount_0f7a4 8 = .ok (.isub, 1) := by decide +kernel
theorem dJ6_bitCount_0f7a4_9 : decode cJ6_bitCount_0f7a4 9 = .ok (.istore_n 0, 1) := by decide +kernel
theorem dJ6_bitCount_0f7a4_10 : decode cJ6_bitCount_0f7a4 10 = .ok (.iload_n 0, 1) := by decide +kernel
theorem dJ6_bitCount_0f7a4_11 : decode cJ6_bitCount_0f7a4 11 = .ok (.ldc_w 266, 3) := by decide +kernel
theorem dJ6_bitCount_0f7a4_14 : decode cJ6_bitCount_0f7a4 14 = .ok (.iand, 1) := by decide +kernel
theorem dJ6_bitCount_0f7a4_15 : decode cJ6_bitCount_0f7a4 15 = .ok (.iload_n 0, 1) := by decide +kernel
theorem dJ6_bitCount_0f7a4_16 : decode cJ6_bitCount_0f7a4 16 = .ok (.iconst 2, 1) := by decide +kernel
theorem dJ6_bitCount_0f7a4_17 : decode cJ6_bitCount_0f7a4 17 = .ok (.iushr, 1) := by decide +kernel
theorem dJ6_bitCount_0f7a4_18 : decode cJ6_bitCount_0f7a4 18 = .ok (.ldc_w 266, 3) := by decide +kernel
theorem dJ6_bitCount_0f7a4_21 : decode cJ6_bitCount_0f7a4 21 = .ok (.iand, 1) := by decide +kernel
theorem dJ6_bitCount_0f7a4_22 : decode cJ6_bitCount_0f7a4 22 = .ok (.iadd, 1) := by decide +kernel
theorem dJ6_bitCount_0f7a4_23 : decode cJ6_bitCount_0f7a4 23 = .ok (.istore_n 0, 1) := by decide +kernel
theorem dJ6_bitCount_0f7a4_24 : decode cJ6_bitCount_0f7a4 24 = .ok (.iload_n 0, 1) := by decide +kernel
theorem dJ6_bitCount_0f7a4_25 : decode cJ6_bitCount_0f7a4 25 = .ok (.iload_n 0, 1) := by decide +kernel
theorem dJ6_bitCount_0f7a4_26 : decode cJ6_bitCount_0f7a4 26 = .ok (.iconst 4, 1) := by decide +kernel
theorem dJ6_bitCount_0f7a4_27 : decode cJ6_bitCount_0f7a4 27 = .ok (.iushr, 1) := by decide +kernel
theorem dJ6_bitCount_0f7a4_28 : decode cJ6_bitCount_0f7a4 28 = .ok (.iadd, 1) := by decide +kernel
theorem dJ6_bitCount_0f7a4_29 : decode cJ6_bitCount_0f7a4 29 = .ok (.ldc_w 267, 3) := by decide +kernel
theorem dJ6_bitCount_0f7a4_32 : decode cJ6_bitCount_0f7a4 32 = .ok (.iand, 1) := by decide +kernel
theorem dJ6_bitCount_0f7a4_33 : decode cJ6_bitCount_0f7a4 33 = .ok (.istore_n 0, 1) := by decide +kernel
theorem dJ6_bitCount_0f7a4_34 : decode cJ6_bitCount_0f7a4 34 = .ok (.iload_n 0, 1) := by decide +kernel
theorem dJ6_bitCount_0f7a4_35 : decode cJ6_bitCount_0f7a4 35 = .ok (.iload_n 0, 1) := by decide +kernel
theorem dJ6_bitCount_0f7a4_36 : decode cJ6_bitCount_0f7a4 36 = .ok (.bipush 8, 2) := by decide +kernel
theorem dJ6_bitCount_0f7a4_38 : decode cJ6_bitCount_0f7a4 38 = .ok (.iushr, 1) := by decide +kernel
theorem dJ6_bitCount_0f7a4_39 : decode cJ6_bitCount_0f7a4 39 = .ok (.iadd, 1) := by decide +kernel
theorem dJ6_bitCount_0f7a4_40 : decode cJ6_bitCount_0f7a4 40 = .ok (.istore_n 0, 1) := by decide +kernel
theorem dJ6_bitCount_0f7a4_41 : decode cJ6_bitCount_0f7a4 41 = .ok (.iload_n 0, 1) := by decide +kernel
theorem dJ6_bitCount_0f7a4_42 : decode cJ6_bitCount_0f7a4 42 = .ok (.iload_n 0, 1) := by decide +kernel
theorem dJ6_bitCount_0f7a4_43 : decode cJ6_bitCount_0f7a4 43 = .ok (.bipush 16, 2) := by decide +kernel
theorem dJ6_bitCount_0f7a4_45 : decode cJ6_bitCount_0f7a4 45 = .ok (.iushr, 1) := by decide +kernel
theorem dJ6_bitCount_0f7a4_46 : decode cJ6_bitCount_0f7a4 46 = .ok (.iadd, 1) := by decide +kernel
theorem dJ6_bitCount_0f7a4_47 : decode cJ6_bitCount_0f7a4 47 = .ok (.istore_n 0, 1) := by decide +kernel
theorem dJ6_bitCount_0f7a4_48 : decode cJ6_bitCount_0f7a4 48 = .ok (.iload_n 0, 1) := by decide +kernel
theorem dJ6_bitCount_0f7a4_49 : decode cJ6_bitCount_0f7a4 49 = .ok (.bipush 63, 2) := by decide +kernel
theorem dJ6_bitCount_0f7a4_51 : decode cJ6_bitCount_0f7a4 51 = .ok (.iand, 1) := by decide +kernel
theorem dJ6_bitCount_0f7a4_52 : decode cJ6_bitCount_0f7a4 52 = .ok (.ireturn, 1) := by decide +kernel
theorem dJ9_max_7cf53_0 : decode cJ9_max_7cf53 0 = .ok (.iload_n 0, 1) := by decide +kernel
theorem dJ9_max_7cf53_1 : decode cJ9_max_7cf53 1 = .ok (.iload_n 1, 1) := by decide +kernel
theorem dJ9_max_7cf53_2 : decode cJ9_max_7cf53 2 = .ok (.if_icmp .lt 7, 3) := by decide +kernel
theorem dJ9_max_7cf53_5 : decode cJ9_max_7cf53 5 = .ok (.iload_n 0, 1) := by decide +kernel
theorem dJ9_max_7cf53_6 : decode cJ9_max_7cf53 6 = .ok (.goto 4, 3) := by decide +kernel
theorem dJ9_max_7cf53_9 : decode cJ9_max_7cf53 9 = .ok (.iload_n 1, 1) := by decide +kernel
theorem dJ9_max_7cf53_10 : decode cJ9_max_7cf53 10 = .ok (.ireturn, 1) := by decide +kernel
theorem dJ9_min_7cf53_0 : decode cJ9_min_7cf53 0 = .ok (.iload_n 0, 1) := by decide +kernel
theorem dJ9_min_7cf53_1 : decode cJ9_min_7cf53 1 = .ok (.iload_n 1, 1) := by decide +kernel
theorem dJ9_min_7cf53_2 : decode cJ9_min_7cf53 2 = .ok (.if_icmp .gt 7, 3) := by decide +kernel
theorem dJ9_min_7cf53_5 : decode cJ9_min_7cf53 5 = .ok (.iload_n 0, 1) := by decide +kernel
theorem dJ9_min_7cf53_6 : decode cJ9_min_7cf53 6 = .ok (.goto 4, 3) := by decide +kernel
theorem dJ9_min_7cf53_9 : decode cJ9_min_7cf53 9 = .ok (.iload_n 1, 1) := by decide +kernel
theorem dJ9_min_7cf53_10 : decode cJ9_min_7cf53 10 = .ok (.ireturn, 1) := by decide +kernel
set_option maxRecDepth 20000 in
theorem ggL_law_X4_init : GoodIn wsL_law wsX4_init := goodIn_r _ [8, 9, 10, 11, 12, 13, 14, 15, 16, 17, 18, 19, 20, 21, 22, 23, 24, 25, 26, 27, 28, 29, 30, 31, 32, 33, 34, 35, 36, 37, 38, 39, 40, 41, 42, 43, 44, 45, 735, 736, 737, 738, 739, 740, 741, 702, 703, 704, 705, 706, 707, 708, 709, 710, 742, 743, 744, 745, 746] (by decide +kernel) (by decide +kernel)
set_option maxRecDepth 20000 in
theorem gL_law_X4_init : GoodIn wsL_law (wsX4_init) := ggL_law_X4_init
set_option maxRecDepth 20000 in
theorem ggL_law_X5_init : GoodIn wsL_law wsX5_init := goodIn_r _ [48, 49, 10, 11, 26, 50, 51, 52, 53, 54, 55, 56, 57, 58, 59, 60, 61, 62, 63, 64, 711, 712, 713, 714, 715, 716, 717, 718, 719, 720, 721, 722, 723, 724, 725, 726, 727, 728, 729, 730, 731, 732, 733, 734] (by decide +kernel) (by decide +kernel)
set_option maxRecDepth 20000 in
theorem gL_law_X5_init : GoodIn wsL_law (wsX5_init) := ggL_law_X5_init
set_option maxRecDepth 20000 in
theorem ggL_law_X4_letter : GoodIn wsL_law wsX4_letter := goodIn_r _ [68, 21, 69, 70, 71, 2, 72, 28, 73, 74, 75, 20, 76, 77, 78, 79, 80, 81, 40, 702, 703, 704, 705, 706, 707, 708, 709, 710, 742, 743] (by decide +kernel) (by decide +kernel)
set_option maxRecDepth 20000 in
theorem gL_law_X4_letter : GoodIn wsL_law (wsV RL 13 RX4 yX4_letter wsX4_letter) := goodIn_app (goodIn_of _ (by decide +kernel)) ggL_law_X4_letter
set_option maxRecDepth 20000 in
theorem ggL_law_X5_letter : GoodIn wsL_law wsX5_letter := goodIn_r _ [85, 86, 56, 87, 88, 5, 89, 90, 91, 92, 93, 50, 711, 712, 713, 714, 715, 716, 717, 718, 719, 720, 721, 722, 723, 724, 725, 726, 727, 728, 729, 730, 731, 732, 733, 734] (by decide +kernel) (by decide +kernel)
set_option maxRecDepth 20000 in
theorem gL_law_X5_letter : GoodIn wsL_law (wsV RL 17 RX5 yX5_letter wsX5_letter) := goodIn_app (goodIn_of _ (by decide +kernel)) ggL_law_X5_letter
set_option maxRecDepth 20000 in
theorem ggL_law_X4_house : GoodIn wsL_law wsX4_house := goodIn_r _ [97, 21, 98, 99, 100, 2, 101, 16, 15, 102, 103, 104, 20, 105, 77, 106, 107, 108, 109, 40, 110, 111, 112, 113, 114, 115, 116, 117, 118, 119, 120, 121, 122, 123, 124, 125, 126, 127, 128, 129, 130, 131, 14, 132, 32, 33, 34, 35, 36, 133, 134, 135, 136, 137, 138, 139, 140, 141, 142, 143, 144, 145, 146, 147, 148, 149, 150, 151, 152, 153, 154, 155, 156, 157, 158, 159, 160, 161, 162, 163, 164, 165, 166, 167, 168, 169, 170, 171, 172, 173, 174, 175, 176, 177, 178, 179, 180, 181, 182, 183, 184, 185, 186, 187, 188, 189, 190, 191, 192, 193, 194, 195, 196, 197, 198, 199, 200, 201, 202, 203, 204, 205, 206, 207, 208, 209, 210, 211, 212, 213, 214, 215, 216, 217, 218, 219, 220, 221, 222, 223, 224, 225, 226, 227, 228, 229, 230, 702, 703, 704, 705, 706, 707, 708, 709, 710, 742, 743, 735, 736, 737, 738, 739, 740, 741] (by decide +kernel) (by decide +kernel)
set_option maxRecDepth 20000 in
theorem gL_law_X4_house : GoodIn wsL_law (wsV RL 18 RX4 yX4_house wsX4_house) := goodIn_app (goodIn_of _ (by decide +kernel)) ggL_law_X4_house
set_option maxRecDepth 20000 in
theorem ggL_law_X5_house : GoodIn wsL_law wsX5_house := goodIn_r _ [234, 235, 236, 86, 58, 237, 238, 239, 5, 240, 57, 241, 242, 243, 244, 56, 245, 246, 247, 248, 59, 249, 250, 251, 252, 253, 254, 255, 256, 257, 258, 259, 260, 261, 262, 263, 264, 265, 266, 60, 61, 267, 268, 269, 270, 271, 272, 51, 52, 53, 54, 55, 273, 274, 275, 276, 277, 278, 62, 279, 280, 281, 282, 283, 284, 285, 286, 287, 288, 289, 290, 291, 292, 293, 294, 295, 296, 297, 298, 299, 300, 301, 302, 303, 304, 305, 306, 307, 308, 309, 63, 310, 311, 312, 313, 314, 315, 316, 711, 712, 713, 714, 715, 716, 717, 718, 719, 720, 721, 722, 723, 724, 725, 726, 727, 728, 729, 730, 731, 732, 733, 734] (by decide +kernel) (by decide +kernel)
set_option maxRecDepth 20000 in
theorem gL_law_X5_house : GoodIn wsL_law (wsV RL 22 RX5 yX5_house wsX5_house) := goodIn_app (goodIn_of _ (by decide +kernel)) ggL_law_X5_house
set_option maxRecDepth 20000 in
theorem ggL_law_X4_enter : GoodIn wsL_law wsX4_enter := goodIn_r _ [320, 15, 321, 322, 2, 323, 69, 70, 71, 72, 28, 324, 152, 153, 14, 154, 133, 325, 148, 149, 150, 151, 155, 156, 118, 157, 158, 159, 160, 161, 162, 163, 164, 165, 34, 166, 167, 168, 169, 326, 171, 172, 173, 32, 33, 35, 36, 702, 703, 704, 705, 706, 707, 708, 709, 710, 735, 736, 737, 738, 739, 740, 741] (by decide +kernel) (by decide +kernel)
set_option maxRecDepth 20000 in
theorem gL_law_X4_enter : GoodIn wsL_law (wsV RL 23 RX4 yX4_enter wsX4_enter) := goodIn_app (goodIn_of _ (by decide +kernel)) ggL_law_X4_enter
set_option maxRecDepth 20000 in
theorem ggL_law_X5_enter : GoodIn wsL_law wsX5_enter := goodIn_r _ [330, 273, 260, 261, 5, 262, 291, 292, 293, 294, 295, 296, 297, 53, 90, 91, 92, 93, 50, 287, 288, 289, 290, 51, 52, 54, 55, 711, 712, 713, 714, 715, 716, 717, 718, 719, 720, 721, 722, 723, 724, 725, 726, 727, 728, 729, 730, 731, 732, 733, 734] (by decide +kernel) (by decide +kernel)
set_option maxRecDepth 20000 in
theorem gL_law_X5_enter : GoodIn wsL_law (wsV RL 27 RX5 yX5_enter wsX5_enter) := goodIn_app (goodIn_of _ (by decide +kernel)) ggL_law_X5_enter
set_option maxRecDepth 20000 in
theorem ggL_law_X4_lodger : GoodIn wsL_law wsX4_lodger := goodIn_r _ [334, 15, 335, 336, 337, 338, 339, 167, 168, 14, 169, 133, 34, 69, 70, 71, 2, 72, 28, 340, 341, 342, 343, 32, 216, 217, 218, 219, 33, 220, 221, 160, 222, 344, 345, 118, 346, 158, 159, 161, 347, 348, 349, 350, 351, 352, 353, 354, 355, 356, 357, 358, 359, 360, 361, 362, 363, 364, 36, 702, 703, 704, 705, 706, 707, 708, 709, 710, 735, 736, 737, 738, 739, 740, 741] (by decide +kernel) (by decide +kernel)
set_option maxRecDepth 20000 in
theorem gL_law_X4_lodger : GoodIn wsL_law (wsV RL 28 RX4 yX4_lodger wsX4_lodger) := goodIn_app (goodIn_of _ (by decide +kernel)) ggL_law_X4_lodger
set_option maxRecDepth 20000 in
theorem ggL_law_X5_lodger : GoodIn wsL_law wsX5_lodger := goodIn_r _ [368, 51, 52, 53, 54, 55, 302, 303, 304, 5, 305, 273, 90, 91, 92, 93, 50, 369, 370, 371, 372, 314, 315, 316, 373, 374, 375, 711, 712, 713, 714, 715, 716, 717, 718, 719, 720, 721, 722, 723, 724, 725, 726, 727, 728, 729, 730, 731, 732, 733, 734] (by decide +kernel) (by decide +kernel)
set_option maxRecDepth 20000 in
theorem gL_law_X5_lodger : GoodIn wsL_law (wsV RL 32 RX5 yX5_lodger wsX5_lodger) := goodIn_app (goodIn_of _ (by decide +kernel)) ggL_law_X5_lodger
set_option maxRecDepth 20000 in
theorem ggL_law_X4_wish : GoodIn wsL_law wsX4_wish := goodIn_r _ [379, 15, 380, 339, 167, 168, 14, 169, 133, 34, 69, 70, 71, 2, 72, 28, 381, 382, 383, 361, 362, 363, 364, 36, 702, 703, 704, 705, 706, 707, 708, 709, 710, 735, 736, 737, 738, 739, 740, 741] (by decide +kernel) (by decide +kernel)
set_option maxRecDepth 20000 in
theorem gL_law_X4_wish : GoodIn wsL_law (wsV RL 33 RX4 yX4_wish wsX4_wish) := goodIn_app (goodIn_of _ (by decide +kernel)) ggL_law_X4_wish
set_option maxRecDepth 20000 in
theorem ggL_law_X5_wish : GoodIn wsL_law wsX5_wish := goodIn_r _ [387, 55, 302, 303, 304, 5, 305, 273, 53, 388, 389, 390, 90, 91, 92, 93, 50, 711, 712, 713, 714, 715, 716, 717, 718, 719, 720, 721, 722, 723, 724, 725, 726, 727, 728, 729, 730, 731, 732, 733, 734] (by decide +kernel) (by decide +kernel)
set_option maxRecDepth 20000 in
theorem gL_law_X5_wish : GoodIn wsL_law (wsV RL 36 RX5 yX5_wish wsX5_wish) := goodIn_app (goodIn_of _ (by decide +kernel)) ggL_law_X5_wish
set_option maxRecDepth 20000 in
theorem ggL_law_X4_year : GoodIn wsL_law wsX4_year := goodIn_r _ [394, 15, 395, 396, 397, 398, 14, 399, 197, 198, 199, 200, 166, 167, 168, 169, 133, 34, 69, 70, 71, 2, 72, 28, 400, 189, 190, 191, 33, 134, 192, 193, 194, 195, 196, 186, 187, 201, 202, 203, 204, 205, 206, 207, 208, 32, 209, 210, 211, 212, 213, 214, 215, 216, 217, 218, 219, 220, 221, 160, 222, 702, 703, 704, 705, 706, 707, 708, 709, 710, 735, 736, 737, 738, 739, 740, 741] (by decide +kernel) (by decide +kernel)
set_option maxRecDepth 20000 in
theorem gL_law_X4_year : GoodIn wsL_law (wsV RL 37 RX4 yX4_year wsX4_year) := goodIn_app (goodIn_of _ (by decide +kernel)) ggL_law_X4_year
set_option maxRecDepth 20000 in
theorem ggL_law_X5_year : GoodIn wsL_law wsX5_year := goodIn_r _ [404, 274, 405, 406, 407, 5, 408, 409, 410, 411, 412, 273, 53, 90, 91, 92, 93, 50, 306, 307, 308, 309, 63, 52, 310, 311, 312, 313, 51, 314, 315, 316, 711, 712, 713, 714, 715, 716, 717, 718, 719, 720, 721, 722, 723, 724, 725, 726, 727, 728, 729, 730, 731, 732, 733, 734] (by decide +kernel) (by decide +kernel)
set_option maxRecDepth 20000 in
theorem gL_law_X5_year : GoodIn wsL_law (wsV RL 40 RX5 yX5_year wsX5_year) := goodIn_app (goodIn_of _ (by decide +kernel)) ggL_law_X5_year
set_option maxRecDepth 20000 in
theorem ggL_law_X4_on : GoodIn wsL_law wsX4_on := goodIn_r _ [416, 15, 381, 382, 2, 383, 69, 70, 71, 72, 28, 417, 163, 164, 14, 165, 34, 166, 167, 168, 169, 133, 702, 703, 704, 705, 706, 707, 708, 709, 710, 735, 736, 737, 738, 739, 740, 741] (by decide +kernel) (by decide +kernel)
set_option maxRecDepth 20000 in
theorem gL_law_X4_on : GoodIn wsL_law (wsV RL 41 RX4 yX4_on wsX4_on) := goodIn_app (goodIn_of _ (by decide +kernel)) ggL_law_X4_on
set_option maxRecDepth 20000 in
theorem ggL_law_X5_on : GoodIn wsL_law wsX5_on := goodIn_r _ [421, 388, 389, 5, 390, 294, 295, 296, 297, 273, 53, 90, 91, 92, 93, 50, 711, 712, 713, 714, 715, 716, 717, 718, 719, 720, 721, 722, 723, 724, 725, 726, 727, 728, 729, 730, 731, 732, 733, 734] (by decide +kernel) (by decide +kernel)
set_option maxRecDepth 20000 in
theorem gL_law_X5_on : GoodIn wsL_law (wsV RL 44 RX5 yX5_on wsX5_on) := goodIn_app (goodIn_of _ (by decide +kernel)) ggL_law_X5_on
set_option maxRecDepth 20000 in
theorem ggL_law_X4_likely : GoodIn wsL_law wsX4_likely := goodIn_r _ [425, 15, 25, 426, 427, 339, 167, 168, 14, 169, 133, 34, 381, 382, 2, 383, 428, 429, 430, 431, 432, 69, 70, 71, 72, 28, 433, 434, 435, 24, 436, 437, 438, 439, 440, 159, 160, 161, 441, 442, 443, 444, 445, 446, 45, 447, 448, 449, 450, 451, 341, 342, 343, 32, 216, 217, 218, 219, 33, 220, 221, 222, 344, 345, 118, 346, 158, 347, 348, 349, 350, 351, 352, 353, 452, 453, 454, 455, 456, 206, 207, 208, 457, 458, 459, 460, 461, 462, 463, 464, 702, 703, 704, 705, 706, 707, 708, 709, 710, 744, 745, 746, 735, 736, 737, 738, 739, 740, 741] (by decide +kernel) (by decide +kernel)
set_option maxRecDepth 20000 in
theorem gL_law_X4_likely : GoodIn wsL_law (wsV RL 45 RX4 yX4_likely wsX4_likely) := goodIn_app (goodIn_of _ (by decide +kernel)) ggL_law_X4_likely
set_option maxRecDepth 20000 in
theorem ggL_law_X5_likely : GoodIn wsL_law wsX5_likely := goodIn_r _ [468, 273, 469, 302, 303, 304, 5, 305, 53, 388, 389, 390, 470, 471, 472, 473, 50, 474, 87, 88, 89, 260, 261, 262, 475, 476, 477, 478, 405, 406, 407, 408, 409, 410, 411, 412, 479, 480, 481, 482, 369, 370, 371, 372, 52, 51, 314, 315, 316, 267, 268, 269, 270, 271, 272, 54, 55, 274, 275, 276, 277, 278, 62, 279, 280, 281, 282, 306, 307, 308, 309, 63, 310, 311, 312, 313, 483, 484, 485, 486, 487, 488, 489, 711, 712, 713, 714, 715, 716, 717, 718, 719, 720, 721, 722, 723, 724, 725, 726, 727, 728, 729, 730, 731, 732, 733, 734] (by decide +kernel) (by decide +kernel)
set_option maxRecDepth 20000 in
theorem gL_law_X5_likely : GoodIn wsL_law (wsV RL 49 RX5 yX5_likely wsX5_likely) := goodIn_app (goodIn_of _ (by decide +kernel)) ggL_law_X5_likely
set_option maxRecDepth 20000 in
theorem ggL_law_X4_mean : GoodIn wsL_law wsX4_mean := goodIn_r _ [493, 15, 339, 167, 168, 14, 169, 133, 34, 340, 341, 342, 343, 32, 216, 217, 218, 219, 33, 220, 221, 160, 222, 344, 345, 118, 346, 158, 159, 161, 347, 348, 349, 350, 351, 352, 353, 702, 703, 704, 705, 706, 707, 708, 709, 710, 735, 736, 737, 738, 739, 740, 741] (by decide +kernel) (by decide +kernel)
set_option maxRecDepth 20000 in
theorem gL_law_X4_mean : GoodIn wsL_law (wsV RL 50 RX4 yX4_mean wsX4_mean) := goodIn_app (goodIn_of _ (by decide +kernel)) ggL_law_X4_mean
set_option maxRecDepth 20000 in
theorem ggL_law_X5_mean : GoodIn wsL_law wsX5_mean := goodIn_r _ [497, 273, 53, 369, 370, 371, 5, 372, 52, 51, 314, 315, 316, 711, 712, 713, 714, 715, 716, 717, 718, 719, 720, 721, 722, 723, 724, 725, 726, 727, 728, 729, 730, 731, 732, 733, 734] (by decide +kernel) (by decide +kernel)
set_option maxRecDepth 20000 in
theorem gL_law_X5_mean : GoodIn wsL_law (wsV RL 53 RX5 yX5_mean wsX5_mean) := goodIn_app (goodIn_of _ (by decide +kernel)) ggL_law_X5_mean
set_option maxRecDepth 20000 in
theorem ggL_law_X4_deaths : GoodIn wsL_law wsX4_deaths := goodIn_r _ [501, 15, 337, 339, 167, 168, 14, 169, 133, 34, 381, 382, 2, 383, 69, 70, 71, 72, 28, 502, 206, 207, 208, 32, 503, 198, 199, 200, 166, 504, 193, 194, 195, 196, 186, 187, 505, 202, 203, 204, 205, 209, 210, 211, 212, 213, 214, 215, 506, 507, 508, 509, 510, 341, 342, 343, 216, 217, 218, 219, 33, 220, 221, 160, 222, 344, 345, 118, 346, 158, 159, 161, 347, 348, 349, 350, 351, 352, 353, 702, 703, 704, 705, 706, 707, 708, 709, 710, 735, 736, 737, 738, 739, 740, 741] (by decide +kernel) (by decide +kernel)
set_option maxRecDepth 20000 in
theorem gL_law_X4_deaths : GoodIn wsL_law (wsV RL 54 RX4 yX4_deaths wsX4_deaths) := goodIn_app (goodIn_of _ (by decide +kernel)) ggL_law_X4_deaths
set_option maxRecDepth 20000 in
theorem ggL_law_X5_deaths : GoodIn wsL_law wsX5_deaths := goodIn_r _ [514, 53, 51, 273, 302, 303, 304, 5, 305, 388, 389, 390, 90, 91, 92, 93, 50, 260, 261, 262, 369, 370, 371, 372, 52, 314, 315, 316, 711, 712, 713, 714, 715, 716, 717, 718, 719, 720, 721, 722, 723, 724, 725, 726, 727, 728, 729, 730, 731, 732, 733, 734] (by decide +kernel) (by decide +kernel)
set_option maxRecDepth 20000 in
theorem gL_law_X5_deaths : GoodIn wsL_law (wsV RL 57 RX5 yX5_deaths wsX5_deaths) := goodIn_app (goodIn_of _ (by decide +kernel)) ggL_law_X5_deaths
set_option maxRecDepth 20000 in
theorem ggL_law_X4_stuck : GoodIn wsL_law wsX4_stuck := goodIn_r _ [518, 15, 339, 167, 168, 14, 169, 133, 34, 519, 520, 521, 522, 523, 355, 356, 357, 32, 216, 217, 218, 219, 33, 220, 221, 160, 222, 358, 359, 118, 360, 353, 702, 703, 704, 705, 706, 707, 708, 709, 710, 735, 736, 737, 738, 739, 740, 741] (by decide +kernel) (by decide +kernel)
set_option maxRecDepth 20000 in
theorem gL_law_X4_stuck : GoodIn wsL_law (wsV RL 58 RX4 yX4_stuck wsX4_stuck) := goodIn_app (goodIn_of _ (by decide +kernel)) ggL_law_X4_stuck
set_option maxRecDepth 20000 in
theorem ggL_law_X5_stuck : GoodIn wsL_law wsX5_stuck := goodIn_r _ [527, 273, 53, 51, 52, 373, 374, 5, 375, 314, 315, 316, 711, 712, 713, 714, 715, 716, 717, 718, 719, 720, 721, 722, 723, 724, 725, 726, 727, 728, 729, 730, 731, 732, 733, 734] (by decide +kernel) (by decide +kernel)
set_option maxRecDepth 20000 in
theorem gL_law_X5_stuck : GoodIn wsL_law (wsV RL 61 RX5 yX5_stuck wsX5_stuck) := goodIn_app (goodIn_of _ (by decide +kernel)) ggL_law_X5_stuck
set_option maxRecDepth 20000 in
theorem ggL_law_X4_safe : GoodIn wsL_law wsX4_safe := goodIn_r _ [531, 15, 339, 167, 168, 14, 169, 133, 34, 69, 70, 71, 2, 72, 28, 519, 520, 521, 522, 523, 355, 356, 357, 32, 216, 217, 218, 219, 33, 220, 221, 160, 222, 358, 359, 118, 360, 353, 702, 703, 704, 705, 706, 707, 708, 709, 710, 735, 736, 737, 738, 739, 740, 741] (by decide +kernel) (by decide +kernel)
set_option maxRecDepth 20000 in
theorem gL_law_X4_safe : GoodIn wsL_law (wsV RL 62 RX4 yX4_safe wsX4_safe) := goodIn_app (goodIn_of _ (by decide +kernel)) ggL_law_X4_safe
set_option maxRecDepth 20000 in
theorem ggL_law_X5_safe : GoodIn wsL_law wsX5_safe := goodIn_r _ [535, 51, 52, 53, 302, 303, 304, 5, 305, 273, 90, 91, 92, 93, 50, 314, 315, 316, 373, 374, 375, 711, 712, 713, 714, 715, 716, 717, 718, 719, 720, 721, 722, 723, 724, 725, 726, 727, 728, 729, 730, 731, 732, 733, 734] (by decide +kernel) (by decide +kernel)
set_option maxRecDepth 20000 in
theorem gL_law_X5_safe : GoodIn wsL_law (wsV RL 65 RX5 yX5_safe wsX5_safe) := goodIn_app (goodIn_of _ (by decide +kernel)) ggL_law_X5_safe
set_option maxRecDepth 20000 in
theorem ggL_law_X4_carried : GoodIn wsL_law wsX4_carried := goodIn_r _ [539, 15, 396, 397, 398, 14, 399, 197, 198, 199, 200, 166, 167, 168, 169, 133, 34, 69, 70, 71, 2, 72, 28, 540, 541, 542, 543, 35, 192, 193, 194, 195, 196, 186, 187, 201, 202, 203, 204, 205, 206, 207, 208, 32, 209, 210, 211, 212, 213, 214, 215, 702, 703, 704, 705, 706, 707, 708, 709, 710, 735, 736, 737, 738, 739, 740, 741] (by decide +kernel) (by decide +kernel)
set_option maxRecDepth 20000 in
theorem gL_law_X4_carried : GoodIn wsL_law (wsV RL 66 RX4 yX4_carried wsX4_carried) := goodIn_app (goodIn_of _ (by decide +kernel)) ggL_law_X4_carried
set_option maxRecDepth 20000 in
theorem ggL_law_X5_carried : GoodIn wsL_law wsX5_carried := goodIn_r _ [547, 405, 406, 407, 5, 408, 409, 410, 411, 412, 273, 53, 548, 549, 550, 551, 54, 310, 311, 312, 313, 51, 90, 91, 92, 93, 50, 711, 712, 713, 714, 715, 716, 717, 718, 719, 720, 721, 722, 723, 724, 725, 726, 727, 728, 729, 730, 731, 732, 733, 734] (by decide +kernel) (by decide +kernel)
set_option maxRecDepth 20000 in
theorem gL_law_X5_carried : GoodIn wsL_law (wsV RL 69 RX5 yX5_carried wsX5_carried) := goodIn_app (goodIn_of _ (by decide +kernel)) ggL_law_X5_carried
set_option maxRecDepth 20000 in
theorem ggL_law_X4_leastCarried : GoodIn wsL_law wsX4_leastCarried := goodIn_r _ [555, 15, 339, 167, 168, 14, 169, 133, 34, 540, 541, 542, 543, 35, 192, 193, 194, 195, 196, 186, 187, 166, 201, 202, 203, 204, 205, 206, 207, 208, 32, 209, 210, 211, 212, 213, 214, 215, 702, 703, 704, 705, 706, 707, 708, 709, 710, 735, 736, 737, 738, 739, 740, 741] (by decide +kernel) (by decide +kernel)
set_option maxRecDepth 20000 in
theorem gL_law_X4_leastCarried : GoodIn wsL_law (wsV RL 70 RX4 yX4_leastCarried wsX4_leastCarried) := goodIn_app (goodIn_of _ (by decide +kernel)) ggL_law_X4_leastCarried
set_option maxRecDepth 20000 in
theorem ggL_law_X5_leastCarried : GoodIn wsL_law wsX5_leastCarried := goodIn_r _ [559, 273, 53, 548, 549, 550, 5, 551, 54, 310, 311, 312, 313, 51, 711, 712, 713, 714, 715, 716, 717, 718, 719, 720, 721, 722, 723, 724, 725, 726, 727, 728, 729, 730, 731, 732, 733, 734] (by decide +kernel) (by decide +kernel)
set_option maxRecDepth 20000 in
theorem gL_law_X5_leastCarried : GoodIn wsL_law (wsV RL 73 RX5 yX5_leastCarried wsX5_leastCarried) := goodIn_app (goodIn_of _ (by decide +kernel)) ggL_law_X5_leastCarried
set_option maxRecDepth 20000 in
theorem ggL_law_X4_rings : GoodIn wsL_law wsX4_rings := goodIn_r _ [563, 15, 564, 565, 566, 14, 567, 166, 167, 168, 169, 133, 34, 568, 569, 570, 571, 36, 162, 163, 164, 165, 702, 703, 704, 705, 706, 707, 708, 709, 710, 735, 736, 737, 738, 739, 740, 741] (by decide +kernel) (by decide +kernel)
set_option maxRecDepth 20000 in
theorem gL_law_X4_rings : GoodIn wsL_law (wsV RL 74 RX4 yX4_rings wsX4_rings) := goodIn_app (goodIn_of _ (by decide +kernel)) ggL_law_X4_rings
set_option maxRecDepth 20000 in
theorem ggL_law_X5_rings : GoodIn wsL_law wsX5_rings := goodIn_r _ [575, 576, 577, 578, 5, 579, 273, 53, 55, 294, 295, 296, 297, 711, 712, 713, 714, 715, 716, 717, 718, 719, 720, 721, 722, 723, 724, 725, 726, 727, 728, 729, 730, 731, 732, 733, 734] (by decide +kernel) (by decide +kernel)
set_option maxRecDepth 20000 in
theorem gL_law_X5_rings : GoodIn wsL_law (wsV RL 77 RX5 yX5_rings wsX5_rings) := goodIn_app (goodIn_of _ (by decide +kernel)) ggL_law_X5_rings
set_option maxRecDepth 20000 in
theorem ggL_law_X4_changing : GoodIn wsL_law wsX4_changing := goodIn_r _ [583, 15, 584, 585, 586, 14, 587, 34, 36, 588, 565, 566, 567, 166, 167, 168, 169, 133, 568, 569, 570, 571, 162, 163, 164, 165, 196, 186, 187, 702, 703, 704, 705, 706, 707, 708, 709, 710, 735, 736, 737, 738, 739, 740, 741] (by decide +kernel) (by decide +kernel)
set_option maxRecDepth 20000 in
theorem gL_law_X4_changing : GoodIn wsL_law (wsV RL 78 RX4 yX4_changing wsX4_changing) := goodIn_app (goodIn_of _ (by decide +kernel)) ggL_law_X4_changing
set_option maxRecDepth 20000 in
theorem ggL_law_X5_changing : GoodIn wsL_law wsX5_changing := goodIn_r _ [592, 273, 53, 55, 576, 577, 578, 5, 579, 294, 295, 296, 297, 711, 712, 713, 714, 715, 716, 717, 718, 719, 720, 721, 722, 723, 724, 725, 726, 727, 728, 729, 730, 731, 732, 733, 734] (by decide +kernel) (by decide +kernel)
set_option maxRecDepth 20000 in
theorem gL_law_X5_changing : GoodIn wsL_law (wsV RL 81 RX5 yX5_changing wsX5_changing) := goodIn_app (goodIn_of _ (by decide +kernel)) ggL_law_X5_changing
set_option maxRecDepth 20000 in
theorem ggL_law_X4_free : GoodIn wsL_law wsX4_free := goodIn_r _ [596, 15, 503, 198, 199, 14, 200, 166, 167, 168, 169, 133, 34, 504, 193, 194, 195, 196, 186, 187, 702, 703, 704, 705, 706, 707, 708, 709, 710, 735, 736, 737, 738, 739, 740, 741] (by decide +kernel) (by decide +kernel)
set_option maxRecDepth 20000 in
theorem gL_law_X4_free : GoodIn wsL_law (wsV RL 82 RX4 yX4_free wsX4_free) := goodIn_app (goodIn_of _ (by decide +kernel)) ggL_law_X4_free
set_option maxRecDepth 20000 in
theorem ggL_law_X5_free : GoodIn wsL_law wsX5_free := goodIn_r _ [600, 294, 295, 296, 5, 297, 273, 53, 711, 712, 713, 714, 715, 716, 717, 718, 719, 720, 721, 722, 723, 724, 725, 726, 727, 728, 729, 730, 731, 732, 733, 734] (by decide +kernel) (by decide +kernel)
set_option maxRecDepth 20000 in
theorem gL_law_X5_free : GoodIn wsL_law (wsV RL 85 RX5 yX5_free wsX5_free) := goodIn_app (goodIn_of _ (by decide +kernel)) ggL_law_X5_free
set_option maxRecDepth 20000 in
theorem ggL_law_X4_ages : GoodIn wsL_law wsX4_ages := goodIn_r _ [604, 15, 321, 322, 2, 323, 69, 70, 71, 72, 28, 325, 148, 149, 14, 150, 151, 152, 153, 154, 133, 155, 156, 118, 157, 158, 159, 160, 161, 162, 163, 164, 165, 34, 166, 167, 168, 169, 702, 703, 704, 705, 706, 707, 708, 709, 710, 735, 736, 737, 738, 739, 740, 741] (by decide +kernel) (by decide +kernel)
set_option maxRecDepth 20000 in
theorem gL_law_X4_ages : GoodIn wsL_law (wsV RL 86 RX4 yX4_ages wsX4_ages) := goodIn_app (goodIn_of _ (by decide +kernel)) ggL_law_X4_ages
set_option maxRecDepth 20000 in
theorem ggL_law_X5_ages : GoodIn wsL_law wsX5_ages := goodIn_r _ [608, 260, 261, 5, 262, 90, 91, 92, 93, 50, 291, 292, 293, 294, 295, 296, 297, 273, 53, 711, 712, 713, 714, 715, 716, 717, 718, 719, 720, 721, 722, 723, 724, 725, 726, 727, 728, 729, 730, 731, 732, 733, 734] (by decide +kernel) (by decide +kernel)
set_option maxRecDepth 20000 in
theorem gL_law_X5_ages : GoodIn wsL_law (wsV RL 89 RX5 yX5_ages wsX5_ages) := goodIn_app (goodIn_of _ (by decide +kernel)) ggL_law_X5_ages
set_option maxRecDepth 20000 in
theorem ggL_law_X4_row : GoodIn wsL_law wsX4_row := goodIn_r _ [612, 613, 27, 69, 70, 71, 2, 72, 28, 702, 703, 704, 705, 706, 707, 708, 709, 710] (by decide +kernel) (by decide +kernel)
set_option maxRecDepth 20000 in
theorem gL_law_X4_row : GoodIn wsL_law (wsV RL 90 RX4 yX4_row wsX4_row) := goodIn_app (goodIn_of _ (by decide +kernel)) ggL_law_X4_row
set_option maxRecDepth 20000 in
theorem ggL_law_X5_row : GoodIn wsL_law wsX5_row := goodIn_r _ [617, 618, 64, 87, 88, 5, 89, 90, 91, 92, 93, 50, 711, 712, 713, 714, 715, 716, 717, 718, 719, 720, 721, 722, 723, 724, 725, 726, 727, 728, 729, 730, 731, 732, 733, 734] (by decide +kernel) (by decide +kernel)
set_option maxRecDepth 20000 in
theorem gL_law_X5_row : GoodIn wsL_law (wsV RL 93 RX5 yX5_row wsX5_row) := goodIn_app (goodIn_of _ (by decide +kernel)) ggL_law_X5_row
set_option maxRecDepth 20000 in
theorem ggL_law_X4_fitting : GoodIn wsL_law wsX4_fitting := goodIn_r _ [622, 613, 15, 69, 70, 71, 2, 72, 28, 503, 198, 199, 14, 200, 166, 167, 168, 169, 133, 34, 623, 210, 211, 212, 213, 214, 215, 396, 397, 398, 399, 197, 624, 625, 626, 627, 337, 27, 504, 193, 194, 195, 196, 186, 187, 339, 628, 505, 202, 203, 204, 205, 206, 207, 208, 32, 209, 702, 703, 704, 705, 706, 707, 708, 709, 710, 735, 736, 737, 738, 739, 740, 741] (by decide +kernel) (by decide +kernel)
set_option maxRecDepth 20000 in
theorem gL_law_X4_fitting : GoodIn wsL_law (wsV RL 94 RX4 yX4_fitting wsX4_fitting) := goodIn_app (goodIn_of _ (by decide +kernel)) ggL_law_X4_fitting
set_option maxRecDepth 20000 in
theorem ggL_law_X5_fitting : GoodIn wsL_law wsX5_fitting := goodIn_r _ [632, 618, 273, 260, 261, 5, 262, 90, 91, 92, 93, 50, 409, 410, 411, 412, 53, 633, 634, 635, 405, 406, 407, 408, 636, 637, 638, 639, 64, 310, 311, 312, 313, 51, 711, 712, 713, 714, 715, 716, 717, 718, 719, 720, 721, 722, 723, 724, 725, 726, 727, 728, 729, 730, 731, 732, 733, 734] (by decide +kernel) (by decide +kernel)
set_option maxRecDepth 20000 in
theorem gL_law_X5_fitting : GoodIn wsL_law (wsV RL 97 RX5 yX5_fitting wsX5_fitting) := goodIn_app (goodIn_of _ (by decide +kernel)) ggL_law_X5_fitting
set_option maxRecDepth 20000 in
theorem ggL_law_X4_judge : GoodIn wsL_law wsX4_judge := goodIn_r _ [643, 613, 644, 645, 646, 2, 647, 15, 27, 337, 339, 167, 168, 14, 169, 133, 34, 702, 703, 704, 705, 706, 707, 708, 709, 710, 735, 736, 737, 738, 739, 740, 741] (by decide +kernel) (by decide +kernel)
set_option maxRecDepth 20000 in
theorem gL_law_X4_judge : GoodIn wsL_law (wsV RL 98 RX4 yX4_judge wsX4_judge) := goodIn_app (goodIn_of _ (by decide +kernel)) ggL_law_X4_judge
set_option maxRecDepth 20000 in
theorem ggL_law_X5_judge : GoodIn wsL_law wsX5_judge := goodIn_r _ [651, 618, 273, 53, 64, 711, 712, 713, 714, 715, 716, 717, 718, 719, 720, 721, 722, 723, 724, 725, 726, 727, 728, 729, 730, 731, 732, 733, 734] (by decide +kernel) (by decide +kernel)
set_option maxRecDepth 20000 in
theorem gL_law_X5_judge : GoodIn wsL_law (wsV RL 101 RX5 yX5_judge wsX5_judge) := goodIn_app (goodIn_of _ (by decide +kernel)) ggL_law_X5_judge
set_option maxRecDepth 20000 in
theorem ggL_law_X4_lots : GoodIn wsL_law wsX4_lots := goodIn_r _ [655, 15, 69, 70, 71, 2, 72, 28, 656, 657, 658, 14, 659, 660, 661, 662, 197, 198, 199, 200, 166, 167, 168, 169, 133, 34, 196, 186, 187, 510, 341, 342, 343, 32, 216, 217, 218, 219, 33, 220, 221, 160, 222, 344, 345, 118, 346, 158, 159, 161, 347, 348, 349, 350, 351, 352, 353, 702, 703, 704, 705, 706, 707, 708, 709, 710, 735, 736, 737, 738, 739, 740, 741] (by decide +kernel) (by decide +kernel)
set_option maxRecDepth 20000 in
theorem gL_law_X4_lots : GoodIn wsL_law (wsV RL 102 RX4 yX4_lots wsX4_lots) := goodIn_app (goodIn_of _ (by decide +kernel)) ggL_law_X4_lots
set_option maxRecDepth 20000 in
theorem ggL_law_X5_lots : GoodIn wsL_law wsX5_lots := goodIn_r _ [666, 273, 53, 667, 668, 669, 87, 88, 5, 89, 90, 91, 92, 93, 50, 267, 268, 269, 270, 271, 272, 51, 52, 54, 55, 274, 275, 276, 277, 278, 62, 279, 280, 281, 282, 369, 370, 371, 372, 314, 315, 316, 306, 307, 308, 309, 63, 310, 311, 312, 313, 409, 410, 411, 412, 711, 712, 713, 714, 715, 716, 717, 718, 719, 720, 721, 722, 723, 724, 725, 726, 727, 728, 729, 730, 731, 732, 733, 734] (by decide +kernel) (by decide +kernel)
set_option maxRecDepth 20000 in
theorem gL_law_X5_lots : GoodIn wsL_law (wsV RL 105 RX5 yX5_lots wsX5_lots) := goodIn_app (goodIn_of _ (by decide +kernel)) ggL_law_X5_lots
set_option maxRecDepth 20000 in
theorem ggL_law_X4_image : GoodIn wsL_law wsX4_image := goodIn_r _ [673, 17, 15, 674, 395, 129, 130, 131, 14, 132, 32, 33, 34, 35, 36, 133, 134, 702, 703, 704, 705, 706, 707, 708, 709, 710, 735, 736, 737, 738, 739, 740, 741] (by decide +kernel) (by decide +kernel)
set_option maxRecDepth 20000 in
theorem gL_law_X4_image : GoodIn wsL_law (wsV RL 106 RX4 yX4_image wsX4_image) := goodIn_app (goodIn_of _ (by decide +kernel)) ggL_law_X4_image
set_option maxRecDepth 20000 in
theorem ggL_law_X5_image : GoodIn wsL_law wsX5_image := goodIn_r _ [678, 679, 274, 267, 268, 269, 5, 270, 271, 272, 51, 52, 53, 54, 55, 273, 275, 276, 277, 278, 62, 279, 280, 281, 282, 711, 712, 713, 714, 715, 716, 717, 718, 719, 720, 721, 722, 723, 724, 725, 726, 727, 728, 729, 730, 731, 732, 733, 734] (by decide +kernel) (by decide +kernel)
set_option maxRecDepth 20000 in
theorem gL_law_X5_image : GoodIn wsL_law (wsV RL 109 RX5 yX5_image wsX5_image) := goodIn_app (goodIn_of _ (by decide +kernel)) ggL_law_X5_image
set_option maxRecDepth 20000 in
theorem ggL_law_X4_back : GoodIn wsL_law wsX4_back := goodIn_r _ [683, 674, 15, 17, 395, 69, 70, 71, 2, 72, 28, 129, 130, 131, 14, 132, 32, 33, 34, 35, 36, 133, 134, 702, 703, 704, 705, 706, 707, 708, 709, 710, 735, 736, 737, 738, 739, 740, 741] (by decide +kernel) (by decide +kernel)
set_option maxRecDepth 20000 in
theorem gL_law_X4_back : GoodIn wsL_law (wsV RL 110 RX4 yX4_back wsX4_back) := goodIn_app (goodIn_of _ (by decide +kernel)) ggL_law_X4_back
set_option maxRecDepth 20000 in
theorem ggL_law_X5_back : GoodIn wsL_law wsX5_back := goodIn_r _ [687, 679, 274, 90, 91, 92, 5, 93, 50, 267, 268, 269, 270, 271, 272, 51, 52, 53, 54, 55, 273, 275, 276, 277, 278, 62, 279, 280, 281, 282, 711, 712, 713, 714, 715, 716, 717, 718, 719, 720, 721, 722, 723, 724, 725, 726, 727, 728, 729, 730, 731, 732, 733, 734] (by decide +kernel) (by decide +kernel)
set_option maxRecDepth 20000 in
theorem gL_law_X5_back : GoodIn wsL_law (wsV RL 113 RX5 yX5_back wsX5_back) := goodIn_app (goodIn_of _ (by decide +kernel)) ggL_law_X5_back
set_option maxRecDepth 20000 in
theorem ggL_law_X4_count : GoodIn wsL_law wsX4_count := goodIn_r _ [691, 15, 692, 395, 338, 336, 613, 21, 693, 28, 503, 198, 199, 14, 200, 166, 167, 168, 169, 133, 34, 623, 210, 211, 212, 213, 214, 215, 694, 695, 696, 697, 702, 703, 704, 705, 706, 707, 708, 709, 710, 735, 736, 737, 738, 739, 740, 741, 742, 743] (by decide +kernel) (by decide +kernel)
set_option maxRecDepth 20000 in
theorem gL_law_X4_count : GoodIn wsL_law (wsV RL 114 RX4 yX4_count wsX4_count) := goodIn_app (goodIn_of _ (by decide +kernel)) ggL_law_X4_count
set_option maxRecDepth 20000 in
theorem ggL_law_X5_count : GoodIn wsL_law wsX5_count := goodIn_r _ [701, 50, 273, 274, 53, 54, 52, 618, 86, 260, 261, 5, 262, 409, 410, 411, 412, 633, 634, 635, 711, 712, 713, 714, 715, 716, 717, 718, 719, 720, 721, 722, 723, 724, 725, 726, 727, 728, 729, 730, 731, 732, 733, 734] (by decide +kernel) (by decide +kernel)
set_option maxRecDepth 20000 in
theorem gL_law_X5_count : GoodIn wsL_law (wsV RL 117 RX5 yX5_count wsX5_count) := goodIn_app (goodIn_of _ (by decide +kernel)) ggL_law_X5_count
