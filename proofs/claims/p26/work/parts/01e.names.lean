theorem dX5_comesYear_1 : decode cX5_comesYear 1 = .ok (.istore_n 2, 1) := dck_get daX5_comesYear_t0 1 rfl
theorem dX5_comesYear_2 : decode cX5_comesYear 2 = .ok (.aload_n 0, 1) := dck_get daX5_comesYear_t0 2 rfl
theorem dX5_comesYear_3 : decode cX5_comesYear 3 = .ok (.getfield 40, 3) := dck_get daX5_comesYear_t0 3 rfl
theorem dX5_comesYear_6 : decode cX5_comesYear 6 = .ok (.iload_n 1, 1) := dck_get daX5_comesYear_t0 4 rfl
theorem dX5_comesYear_7 : decode cX5_comesYear 7 = .ok (.iaload, 1) := dck_get daX5_comesYear_t0 5 rfl
theorem dX5_comesYear_8 : decode cX5_comesYear 8 = .ok (.istore_n 3, 1) := dck_get daX5_comesYear_t0 6 rfl
theorem dX5_comesYear_9 : decode cX5_comesYear 9 = .ok (.iload_n 3, 1) := dck_get daX5_comesYear_t0 7 rfl
theorem dX5_comesYear_10 : decode cX5_comesYear 10 = .ok (.aload_n 0, 1) := dck_get daX5_comesYear_t0 8 rfl
theorem dX5_comesYear_11 : decode cX5_comesYear 11 = .ok (.getfield 43, 3) := dck_get daX5_comesYear_t0 9 rfl
theorem dX5_comesYear_14 : decode cX5_comesYear 14 = .ok (.iload_n 1, 1) := dck_get daX5_comesYear_t0 10 rfl
theorem dX5_comesYear_15 : decode cX5_comesYear 15 = .ok (.iaload, 1) := dck_get daX5_comesYear_t0 11 rfl
theorem dX5_comesYear_16 : decode cX5_comesYear 16 = .ok (.if_icmp .ge 48, 3) := dck_get daX5_comesYear_t0 12 rfl
theorem dX5_comesYear_19 : decode cX5_comesYear 19 = .ok (.aload_n 0, 1) := dck_get daX5_comesYear_t0 13 rfl
theorem dX5_comesYear_20 : decode cX5_comesYear 20 = .ok (.getfield 28, 3) := dck_get daX5_comesYear_t0 14 rfl
theorem dX5_comesYear_23 : decode cX5_comesYear 23 = .ok (.iload_n 3, 1) := dck_get daX5_comesYear_t0 15 rfl
theorem dX5_comesYear_24 : decode cX5_comesYear 24 = .ok (.iaload, 1) := dck_get daX5_comesYear_t0 16 rfl
theorem dX5_comesYear_25 : decode cX5_comesYear 25 = .ok (.bipush 48, 2) := dck_get daX5_comesYear_t0 17 rfl
theorem dX5_comesYear_27 : decode cX5_comesYear 27 = .ok (.isub, 1) := dck_get daX5_comesYear_t0 18 rfl
theorem dX5_comesYear_28 : decode cX5_comesYear 28 = .ok (.istore 4, 2) := dck_get daX5_comesYear_t0 19 rfl
def dtX5_comesYear_t1 : List (Nat × Instr × Nat) := [(30, .aload_n 0, 1), (31, .iload 4, 2), (33, .invokevirtual 104, 3), (36, .ifCond .eq 13, 3), (39, .iload_n 2, 1), (40, .iload 4, 2), (42, .ishr, 1), (43, .iconst 1, 1), (44, .iand, 1), (45, .iconst 1, 1), (46, .if_icmp .ne 5, 3), (49, .iconst 0, 1), (50, .ireturn, 1), (51, .iload_n 2, 1), (52, .iconst 1, 1), (53, .iload 4, 2), (55, .ishl, 1), (56, .ior, 1), (57, .istore_n 2, 1), (58, .iinc 3 1, 3)]
theorem daX5_comesYear_t1 : dtX5_comesYear_t1.all (dck cX5_comesYear) = true := by decide +kernel
theorem dX5_comesYear_30 : decode cX5_comesYear 30 = .ok (.aload_n 0, 1) := dck_get daX5_comesYear_t1 0 rfl
theorem dX5_comesYear_31 : decode cX5_comesYear 31 = .ok (.iload 4, 2) := dck_get daX5_comesYear_t1 1 rfl
theorem dX5_comesYear_33 : decode cX5_comesYear 33 = .ok (.invokevirtual 104, 3) := dck_get daX5_comesYear_t1 2 rfl
theorem dX5_comesYear_36 : decode cX5_comesYear 36 = .ok (.ifCond .eq 13, 3) := dck_get daX5_comesYear_t1 3 rfl
theorem dX5_comesYear_39 : decode cX5_comesYear 39 = .ok (.iload_n 2, 1) := dck_get daX5_comesYear_t1 4 rfl
theorem dX5_comesYear_40 : decode cX5_comesYear 40 = .ok (.iload 4, 2) := dck_get daX5_comesYear_t1 5 rfl
theorem dX5_comesYear_42 : decode cX5_comesYear 42 = .ok (.ishr, 1) := dck_get daX5_comesYear_t1 6 rfl
theorem dX5_comesYear_43 : decode cX5_comesYear 43 = .ok (.iconst 1, 1) := dck_get daX5_comesYear_t1 7 rfl
theorem dX5_comesYear_44 : decode cX5_comesYear 44 = .ok (.iand, 1) := dck_get daX5_comesYear_t1 8 rfl
theorem dX5_comesYear_45 : decode cX5_comesYear 45 = .ok (.iconst 1, 1) := dck_get daX5_comesYear_t1 9 rfl
theorem dX5_comesYear_46 : decode cX5_comesYear 46 = .ok (.if_icmp .ne 5, 3) := dck_get daX5_comesYear_t1 10 rfl
theorem dX5_comesYear_49 : decode cX5_comesYear 49 = .ok (.iconst 0, 1) := dck_get daX5_comesYear_t1 11 rfl
theorem dX5_comesYear_50 : decode cX5_comesYear 50 = .ok (.ireturn, 1) := dck_get daX5_comesYear_t1 12 rfl
theorem dX5_comesYear_51 : decode cX5_comesYear 51 = .ok (.iload_n 2, 1) := dck_get daX5_comesYear_t1 13 rfl
theorem dX5_comesYear_52 : decode cX5_comesYear 52 = .ok (.iconst 1, 1) := dck_get daX5_comesYear_t1 14 rfl
theorem dX5_comesYear_53 : decode cX5_comesYear 53 = .ok (.iload 4, 2) := dck_get daX5_comesYear_t1 15 rfl
theorem dX5_comesYear_55 : decode cX5_comesYear 55 = .ok (.ishl, 1) := dck_get daX5_comesYear_t1 16 rfl
theorem dX5_comesYear_56 : decode cX5_comesYear 56 = .ok (.ior, 1) := dck_get daX5_comesYear_t1 17 rfl
theorem dX5_comesYear_57 : decode cX5_comesYear 57 = .ok (.istore_n 2, 1) := dck_get daX5_comesYear_t1 18 rfl
theorem dX5_comesYear_58 : decode cX5_comesYear 58 = .ok (.iinc 3 1, 3) := dck_get daX5_comesYear_t1 19 rfl
def dtX5_comesYear_t2 : List (Nat × Instr × Nat) := [(61, .goto (-52), 3), (64, .aload_n 0, 1), (65, .getfield 107, 3), (68, .bipush 99, 2), (70, .if_icmp .ne 5, 3), (73, .iconst 0, 1), (74, .ireturn, 1), (75, .aload_n 0, 1), (76, .iload_n 2, 1), (77, .invokevirtual 110, 3), (80, .pop, 1), (81, .iconst 1, 1), (82, .ireturn, 1)]
theorem daX5_comesYear_t2 : dtX5_comesYear_t2.all (dck cX5_comesYear) = true := by decide +kernel
theorem dX5_comesYear_61 : decode cX5_comesYear 61 = .ok (.goto (-52), 3) := dck_get daX5_comesYear_t2 0 rfl
theorem dX5_comesYear_64 : decode cX5_comesYear 64 = .ok (.aload_n 0, 1) := dck_get daX5_comesYear_t2 1 rfl
theorem dX5_comesYear_65 : decode cX5_comesYear 65 = .ok (.getfield 107, 3) := dck_get daX5_comesYear_t2 2 rfl
theorem dX5_comesYear_68 : decode cX5_comesYear 68 = .ok (.bipush 99, 2) := dck_get daX5_comesYear_t2 3 rfl
theorem dX5_comesYear_70 : decode cX5_comesYear 70 = .ok (.if_icmp .ne 5, 3) := dck_get daX5_comesYear_t2 4 rfl
theorem dX5_comesYear_73 : decode cX5_comesYear 73 = .ok (.iconst 0, 1) := dck_get daX5_comesYear_t2 5 rfl
theorem dX5_comesYear_74 : decode cX5_comesYear 74 = .ok (.ireturn, 1) := dck_get daX5_comesYear_t2 6 rfl
theorem dX5_comesYear_75 : decode cX5_comesYear 75 = .ok (.aload_n 0, 1) := dck_get daX5_comesYear_t2 7 rfl
theorem dX5_comesYear_76 : decode cX5_comesYear 76 = .ok (.iload_n 2, 1) := dck_get daX5_comesYear_t2 8 rfl
theorem dX5_comesYear_77 : decode cX5_comesYear 77 = .ok (.invokevirtual 110, 3) := dck_get daX5_comesYear_t2 9 rfl
theorem dX5_comesYear_80 : decode cX5_comesYear 80 = .ok (.pop, 1) := dck_get daX5_comesYear_t2 10 rfl
theorem dX5_comesYear_81 : decode cX5_comesYear 81 = .ok (.iconst 1, 1) := dck_get daX5_comesYear_t2 11 rfl
theorem dX5_comesYear_82 : decode cX5_comesYear 82 = .ok (.ireturn, 1) := dck_get daX5_comesYear_t2 12 rfl
set_option maxRecDepth 20000 in
theorem gw_wsX5_entryOf : wsX5_entryOf.all goodWord = true := by decide +kernel
set_option maxRecDepth 20000 in
theorem ggX5_comesIn_X5_entryOf : GoodIn wsX5_comesIn wsX5_entryOf := goodIn_sub (List.forall_mem_cons.mpr ⟨(List.mem_of_getElem? (i := 10) rfl), (fun _ h => absurd h List.not_mem_nil)⟩) gw_wsX5_entryOf
set_option maxRecDepth 20000 in
theorem gX5_comesIn_X5_entryOf : GoodIn wsX5_comesIn (va_wsS RX5 113 yX5_entryOf wsX5_entryOf) := goodIn_app (goodIn_sub (List.forall_mem_cons.mpr ⟨(List.mem_of_getElem? (i := 7) rfl), (List.forall_mem_cons.mpr ⟨(List.mem_of_getElem? (i := 8) rfl), (List.forall_mem_cons.mpr ⟨(List.mem_of_getElem? (i := 9) rfl), (fun _ h => absurd h List.not_mem_nil)⟩)⟩)⟩) (by decide +kernel)) ggX5_comesIn_X5_entryOf
set_option maxRecDepth 20000 in
theorem gw_wsX5_whoOn : wsX5_whoOn.all goodWord = true := by decide +kernel
set_option maxRecDepth 20000 in
theorem ggX5_comesIn_X5_whoOn : GoodIn wsX5_comesIn wsX5_whoOn := goodIn_sub (List.forall_mem_cons.mpr ⟨(List.mem_of_getElem? (i := 14) rfl), (List.forall_mem_append.mpr ⟨(List.forall_mem_cons.mpr ⟨(List.mem_of_getElem? (i := 1) rfl), (List.forall_mem_cons.mpr ⟨(List.mem_of_getElem? (i := 4) rfl), (fun _ h => absurd h List.not_mem_nil)⟩)⟩), (fun _ h => (List.mem_cons_of_mem _ (List.mem_append_right _ h)))⟩)⟩) gw_wsX5_whoOn
set_option maxRecDepth 20000 in
theorem gX5_comesIn_X5_whoOn : GoodIn wsX5_comesIn (wsV RX5 117 RX5 yX5_whoOn wsX5_whoOn) := goodIn_app (goodIn_sub (List.forall_mem_cons.mpr ⟨(List.mem_of_getElem? (i := 11) rfl), (List.forall_mem_cons.mpr ⟨(List.mem_of_getElem? (i := 12) rfl), (List.forall_mem_cons.mpr ⟨(List.mem_of_getElem? (i := 13) rfl), (List.forall_mem_cons.mpr ⟨(List.mem_of_getElem? (i := 9) rfl), (fun _ h => absurd h List.not_mem_nil)⟩)⟩)⟩)⟩) (by decide +kernel)) ggX5_comesIn_X5_whoOn
def dtX5_comesIn_t0 : List (Nat × Instr × Nat) := [(0, .iload_n 1, 1), (1, .iload_n 2, 1), (2, .invokestatic 113, 3), (5, .istore 4, 2), (7, .aload_n 0, 1), (8, .getfield 57, 3), (11, .bipush 8, 2), (13, .if_icmp .eq 12, 3), (16, .aload_n 0, 1), (17, .iload 4, 2), (19, .invokevirtual 117, 3), (22, .ifCond .lt 5, 3), (25, .iconst 0, 1), (26, .ireturn, 1), (27, .aload_n 0, 1), (28, .getfield 13, 3), (31, .aload_n 0, 1), (32, .getfield 57, 3), (35, .iload_n 1, 1), (36, .iastore, 1)]
theorem daX5_comesIn_t0 : dtX5_comesIn_t0.all (dck cX5_comesIn) = true := by decide +kernel
theorem dX5_comesIn_0 : decode cX5_comesIn 0 = .ok (.iload_n 1, 1) := dck_get daX5_comesIn_t0 0 rfl
theorem dX5_comesIn_1 : decode cX5_comesIn 1 = .ok (.iload_n 2, 1) := dck_get daX5_comesIn_t0 1 rfl
theorem dX5_comesIn_2 : decode cX5_comesIn 2 = .ok (.invokestatic 113, 3) := dck_get daX5_comesIn_t0 2 rfl
theorem dX5_comesIn_5 : decode cX5_comesIn 5 = .ok (.istore 4, 2) := dck_get daX5_comesIn_t0 3 rfl
theorem dX5_comesIn_7 : decode cX5_comesIn 7 = .ok (.aload_n 0, 1) := dck_get daX5_comesIn_t0 4 rfl
theorem dX5_comesIn_8 : decode cX5_comesIn 8 = .ok (.getfield 57, 3) := dck_get daX5_comesIn_t0 5 rfl
theorem dX5_comesIn_11 : decode cX5_comesIn 11 = .ok (.bipush 8, 2) := dck_get daX5_comesIn_t0 6 rfl
theorem dX5_comesIn_13 : decode cX5_comesIn 13 = .ok (.if_icmp .eq 12, 3) := dck_get daX5_comesIn_t0 7 rfl
theorem dX5_comesIn_16 : decode cX5_comesIn 16 = .ok (.aload_n 0, 1) := dck_get daX5_comesIn_t0 8 rfl
theorem dX5_comesIn_17 : decode cX5_comesIn 17 = .ok (.iload 4, 2) := dck_get daX5_comesIn_t0 9 rfl
theorem dX5_comesIn_19 : decode cX5_comesIn 19 = .ok (.invokevirtual 117, 3) := dck_get daX5_comesIn_t0 10 rfl
theorem dX5_comesIn_22 : decode cX5_comesIn 22 = .ok (.ifCond .lt 5, 3) := dck_get daX5_comesIn_t0 11 rfl
theorem dX5_comesIn_25 : decode cX5_comesIn 25 = .ok (.iconst 0, 1) := dck_get daX5_comesIn_t0 12 rfl
theorem dX5_comesIn_26 : decode cX5_comesIn 26 = .ok (.ireturn, 1) := dck_get daX5_comesIn_t0 13 rfl
theorem dX5_comesIn_27 : decode cX5_comesIn 27 = .ok (.aload_n 0, 1) := dck_get daX5_comesIn_t0 14 rfl
theorem dX5_comesIn_28 : decode cX5_comesIn 28 = .ok (.getfield 13, 3) := dck_get daX5_comesIn_t0 15 rfl
theorem dX5_comesIn_31 : decode cX5_comesIn 31 = .ok (.aload_n 0, 1) := dck_get daX5_comesIn_t0 16 rfl
theorem dX5_comesIn_32 : decode cX5_comesIn 32 = .ok (.getfield 57, 3) := dck_get daX5_comesIn_t0 17 rfl
theorem dX5_comesIn_35 : decode cX5_comesIn 35 = .ok (.iload_n 1, 1) := dck_get daX5_comesIn_t0 18 rfl
theorem dX5_comesIn_36 : decode cX5_comesIn 36 = .ok (.iastore, 1) := dck_get daX5_comesIn_t0 19 rfl
def dtX5_comesIn_t1 : List (Nat × Instr × Nat) := [(37, .aload_n 0, 1), (38, .getfield 16, 3), (41, .aload_n 0, 1), (42, .getfield 57, 3), (45, .iload_n 2, 1), (46, .iastore, 1), (47, .aload_n 0, 1), (48, .getfield 19, 3), (51, .aload_n 0, 1), (52, .getfield 57, 3), (55, .iload 4, 2), (57, .iastore, 1), (58, .aload_n 0, 1), (59, .getfield 22, 3), (62, .aload_n 0, 1), (63, .getfield 57, 3), (66, .iload_n 3, 1), (67, .iastore, 1), (68, .aload_n 0, 1), (69, .getfield 25, 3)]
theorem daX5_comesIn_t1 : dtX5_comesIn_t1.all (dck cX5_comesIn) = true := by decide +kernel
theorem dX5_comesIn_37 : decode cX5_comesIn 37 = .ok (.aload_n 0, 1) := dck_get daX5_comesIn_t1 0 rfl
theorem dX5_comesIn_38 : decode cX5_comesIn 38 = .ok (.getfield 16, 3) := dck_get daX5_comesIn_t1 1 rfl
theorem dX5_comesIn_41 : decode cX5_comesIn 41 = .ok (.aload_n 0, 1) := dck_get daX5_comesIn_t1 2 rfl
theorem dX5_comesIn_42 : decode cX5_comesIn 42 = .ok (.getfield 57, 3) := dck_get daX5_comesIn_t1 3 rfl
theorem dX5_comesIn_45 : decode cX5_comesIn 45 = .ok (.iload_n 2, 1) := dck_get daX5_comesIn_t1 4 rfl
theorem dX5_comesIn_46 : decode cX5_comesIn 46 = .ok (.iastore, 1) := dck_get daX5_comesIn_t1 5 rfl
theorem dX5_comesIn_47 : decode cX5_comesIn 47 = .ok (.aload_n 0, 1) := dck_get daX5_comesIn_t1 6 rfl
theorem dX5_comesIn_48 : decode cX5_comesIn 48 = .ok (.getfield 19, 3) := dck_get daX5_comesIn_t1 7 rfl
theorem dX5_comesIn_51 : decode cX5_comesIn 51 = .ok (.aload_n 0, 1) := dck_get daX5_comesIn_t1 8 rfl
theorem dX5_comesIn_52 : decode cX5_comesIn 52 = .ok (.getfield 57, 3) := dck_get daX5_comesIn_t1 9 rfl
theorem dX5_comesIn_55 : decode cX5_comesIn 55 = .ok (.iload 4, 2) := dck_get daX5_comesIn_t1 10 rfl
theorem dX5_comesIn_57 : decode cX5_comesIn 57 = .ok (.iastore, 1) := dck_get daX5_comesIn_t1 11 rfl
theorem dX5_comesIn_58 : decode cX5_comesIn 58 = .ok (.aload_n 0, 1) := dck_get daX5_comesIn_t1 12 rfl
theorem dX5_comesIn_59 : decode cX5_comesIn 59 = .ok (.getfield 22, 3) := dck_get daX5_comesIn_t1 13 rfl
theorem dX5_comesIn_62 : decode cX5_comesIn 62 = .ok (.aload_n 0, 1) := dck_get daX5_comesIn_t1 14 rfl
theorem dX5_comesIn_63 : decode cX5_comesIn 63 = .ok (.getfield 57, 3) := dck_get daX5_comesIn_t1 15 rfl
theorem dX5_comesIn_66 : decode cX5_comesIn 66 = .ok (.iload_n 3, 1) := dck_get daX5_comesIn_t1 16 rfl
theorem dX5_comesIn_67 : decode cX5_comesIn 67 = .ok (.iastore, 1) := dck_get daX5_comesIn_t1 17 rfl
theorem dX5_comesIn_68 : decode cX5_comesIn 68 = .ok (.aload_n 0, 1) := dck_get daX5_comesIn_t1 18 rfl
theorem dX5_comesIn_69 : decode cX5_comesIn 69 = .ok (.getfield 25, 3) := dck_get daX5_comesIn_t1 19 rfl
def dtX5_comesIn_t2 : List (Nat × Instr × Nat) := [(72, .aload_n 0, 1), (73, .getfield 57, 3), (76, .bipush (-9), 2), (78, .iastore, 1), (79, .aload_n 0, 1), (80, .dup, 1), (81, .getfield 57, 3), (84, .iconst 1, 1), (85, .iadd, 1), (86, .putfield 57, 3), (89, .iconst 1, 1), (90, .ireturn, 1)]
theorem daX5_comesIn_t2 : dtX5_comesIn_t2.all (dck cX5_comesIn) = true := by decide +kernel
theorem dX5_comesIn_72 : decode cX5_comesIn 72 = .ok (.aload_n 0, 1) := dck_get daX5_comesIn_t2 0 rfl
theorem dX5_comesIn_73 : decode cX5_comesIn 73 = .ok (.getfield 57, 3) := dck_get daX5_comesIn_t2 1 rfl
theorem dX5_comesIn_76 : decode cX5_comesIn 76 = .ok (.bipush (-9), 2) := dck_get daX5_comesIn_t2 2 rfl
theorem dX5_comesIn_78 : decode cX5_comesIn 78 = .ok (.iastore, 1) := dck_get daX5_comesIn_t2 3 rfl
theorem dX5_comesIn_79 : decode cX5_comesIn 79 = .ok (.aload_n 0, 1) := dck_get daX5_comesIn_t2 4 rfl
theorem dX5_comesIn_80 : decode cX5_comesIn 80 = .ok (.dup, 1) := dck_get daX5_comesIn_t2 5 rfl
theorem dX5_comesIn_81 : decode cX5_comesIn 81 = .ok (.getfield 57, 3) := dck_get daX5_comesIn_t2 6 rfl
theorem dX5_comesIn_84 : decode cX5_comesIn 84 = .ok (.iconst 1, 1) := dck_get daX5_comesIn_t2 7 rfl
theorem dX5_comesIn_85 : decode cX5_comesIn 85 = .ok (.iadd, 1) := dck_get daX5_comesIn_t2 8 rfl
theorem dX5_comesIn_86 : decode cX5_comesIn 86 = .ok (.putfield 57, 3) := dck_get daX5_comesIn_t2 9 rfl
theorem dX5_comesIn_89 : decode cX5_comesIn 89 = .ok (.iconst 1, 1) := dck_get daX5_comesIn_t2 10 rfl
theorem dX5_comesIn_90 : decode cX5_comesIn 90 = .ok (.ireturn, 1) := dck_get daX5_comesIn_t2 11 rfl
set_option maxRecDepth 20000 in
theorem gw_wsX5_comesIn : wsX5_comesIn.all goodWord = true := by decide +kernel
set_option maxRecDepth 20000 in
theorem ggX5_comes_X5_comesIn : GoodIn wsX5_comes wsX5_comesIn := goodIn_sub (List.forall_mem_cons.mpr ⟨(List.mem_of_getElem? (i := 8) rfl), (List.forall_mem_append.mpr ⟨(List.forall_mem_cons.mpr ⟨(List.mem_of_getElem? (i := 9) rfl), (List.forall_mem_cons.mpr ⟨(List.mem_of_getElem? (i := 10) rfl), (List.forall_mem_cons.mpr ⟨(List.mem_of_getElem? (i := 11) rfl), (List.forall_mem_cons.mpr ⟨(List.mem_of_getElem? (i := 12) rfl), (List.forall_mem_cons.mpr ⟨(List.mem_of_getElem? (i := 13) rfl), (List.forall_mem_cons.mpr ⟨(List.mem_of_getElem? (i := 3) rfl), (List.forall_mem_cons.mpr ⟨(List.mem_of_getElem? (i := 14) rfl), (List.forall_mem_cons.mpr ⟨(List.mem_of_getElem? (i := 15) rfl), (List.forall_mem_cons.mpr ⟨(List.mem_of_getElem? (i := 7) rfl), (List.forall_mem_cons.mpr ⟨(List.mem_of_getElem? (i := 16) rfl), (List.forall_mem_cons.mpr ⟨(List.mem_of_getElem? (i := 17) rfl), (List.forall_mem_cons.mpr ⟨(List.mem_of_getElem? (i := 18) rfl), (List.forall_mem_cons.mpr ⟨(List.mem_of_getElem? (i := 19) rfl), (List.forall_mem_cons.mpr ⟨(List.mem_of_getElem? (i := 20) rfl), (fun _ h => absurd h List.not_mem_nil)⟩)⟩)⟩)⟩)⟩)⟩)⟩)⟩)⟩)⟩)⟩)⟩)⟩)⟩), (fun _ h => (List.mem_cons_of_mem _ (List.mem_append_right _ h)))⟩)⟩) gw_wsX5_comesIn
set_option maxRecDepth 20000 in
theorem gX5_comes_X5_comesIn : GoodIn wsX5_comes (wsV RX5 120 RX5 yX5_comesIn wsX5_comesIn) := goodIn_app (goodIn_sub (List.forall_mem_cons.mpr ⟨(List.mem_of_getElem? (i := 4) rfl), (List.forall_mem_cons.mpr ⟨(List.mem_of_getElem? (i := 5) rfl), (List.forall_mem_cons.mpr ⟨(List.mem_of_getElem? (i := 6) rfl), (List.forall_mem_cons.mpr ⟨(List.mem_of_getElem? (i := 7) rfl), (fun _ h => absurd h List.not_mem_nil)⟩)⟩)⟩)⟩) (by decide +kernel)) ggX5_comes_X5_comesIn
set_option maxRecDepth 20000 in
theorem gw_wsX5_comesYear : wsX5_comesYear.all goodWord = true := by decide +kernel
set_option maxRecDepth 20000 in
theorem ggX5_comes_X5_comesYear : GoodIn wsX5_comes wsX5_comesYear := goodIn_sub (List.forall_mem_cons.mpr ⟨(List.mem_of_getElem? (i := 24) rfl), (List.forall_mem_append.mpr ⟨(List.forall_mem_append.mpr ⟨(List.forall_mem_cons.mpr ⟨(List.mem_of_getElem? (i := 25) rfl), (List.forall_mem_cons.mpr ⟨(List.mem_of_getElem? (i := 26) rfl), (List.forall_mem_cons.mpr ⟨(List.mem_of_getElem? (i := 27) rfl), (List.forall_mem_cons.mpr ⟨(List.mem_of_getElem? (i := 28) rfl), (List.forall_mem_cons.mpr ⟨(List.mem_of_getElem? (i := 29) rfl), (List.forall_mem_cons.mpr ⟨(List.mem_of_getElem? (i := 30) rfl), (List.forall_mem_cons.mpr ⟨(List.mem_of_getElem? (i := 31) rfl), (List.forall_mem_cons.mpr ⟨(List.mem_of_getElem? (i := 7) rfl), (List.forall_mem_cons.mpr ⟨(List.mem_of_getElem? (i := 32) rfl), (List.forall_mem_cons.mpr ⟨(List.mem_of_getElem? (i := 9) rfl), (List.forall_mem_cons.mpr ⟨(List.mem_of_getElem? (i := 12) rfl), (List.forall_mem_cons.mpr ⟨(List.mem_of_getElem? (i := 33) rfl), (List.forall_mem_cons.mpr ⟨(List.mem_of_getElem? (i := 34) rfl), (List.forall_mem_cons.mpr ⟨(List.mem_of_getElem? (i := 35) rfl), (List.forall_mem_cons.mpr ⟨(List.mem_of_getElem? (i := 36) rfl), (List.forall_mem_cons.mpr ⟨(List.mem_of_getElem? (i := 37) rfl), (List.forall_mem_cons.mpr ⟨(List.mem_of_getElem? (i := 11) rfl), (List.forall_mem_cons.mpr ⟨(List.mem_of_getElem? (i := 38) rfl), (List.forall_mem_cons.mpr ⟨(List.mem_of_getElem? (i := 39) rfl), (List.forall_mem_cons.mpr ⟨(List.mem_of_getElem? (i := 40) rfl), (List.forall_mem_cons.mpr ⟨(List.mem_of_getElem? (i := 41) rfl), (List.forall_mem_cons.mpr ⟨(List.mem_of_getElem? (i := 10) rfl), (List.forall_mem_cons.mpr ⟨(List.mem_of_getElem? (i := 42) rfl), (List.forall_mem_cons.mpr ⟨(List.mem_of_getElem? (i := 43) rfl), (fun _ h => absurd h List.not_mem_nil)⟩)⟩)⟩)⟩)⟩)⟩)⟩)⟩)⟩)⟩)⟩)⟩)⟩)⟩)⟩)⟩)⟩)⟩)⟩)⟩)⟩)⟩)⟩)⟩), (List.forall_mem_cons.mpr ⟨(List.mem_of_getElem? (i := 44) rfl), (fun _ h => absurd h List.not_mem_nil)⟩)⟩), (fun _ h => (List.mem_cons_of_mem _ (List.mem_append_right _ h)))⟩)⟩) gw_wsX5_comesYear
set_option maxRecDepth 20000 in
theorem gX5_comes_X5_comesYear : GoodIn wsX5_comes (wsV RX5 123 RX5 yX5_comesYear wsX5_comesYear) := goodIn_app (goodIn_sub (List.forall_mem_cons.mpr ⟨(List.mem_of_getElem? (i := 21) rfl), (List.forall_mem_cons.mpr ⟨(List.mem_of_getElem? (i := 22) rfl), (List.forall_mem_cons.mpr ⟨(List.mem_of_getElem? (i := 23) rfl), (List.forall_mem_cons.mpr ⟨(List.mem_of_getElem? (i := 7) rfl), (fun _ h => absurd h List.not_mem_nil)⟩)⟩)⟩)⟩) (by decide +kernel)) ggX5_comes_X5_comesYear
set_option maxRecDepth 20000 in
theorem ggX5_comes_X5_isAlive : GoodIn wsX5_comes wsX5_isAlive := goodIn_sub (List.forall_mem_cons.mpr ⟨(List.mem_of_getElem? (i := 32) rfl), (List.forall_mem_append.mpr ⟨(List.forall_mem_cons.mpr ⟨(List.mem_of_getElem? (i := 9) rfl), (List.forall_mem_cons.mpr ⟨(List.mem_of_getElem? (i := 12) rfl), (fun _ h => absurd h List.not_mem_nil)⟩)⟩), (fun _ h => (List.mem_cons_of_mem _ (List.mem_append_right _ h)))⟩)⟩) gw_wsX5_isAlive
set_option maxRecDepth 20000 in
theorem gX5_comes_X5_isAlive : GoodIn wsX5_comes (wsV RX5 104 RX5 yX5_isAlive wsX5_isAlive) := goodIn_app (goodIn_sub (List.forall_mem_cons.mpr ⟨(List.mem_of_getElem? (i := 29) rfl), (List.forall_mem_cons.mpr ⟨(List.mem_of_getElem? (i := 30) rfl), (List.forall_mem_cons.mpr ⟨(List.mem_of_getElem? (i := 31) rfl), (List.forall_mem_cons.mpr ⟨(List.mem_of_getElem? (i := 7) rfl), (fun _ h => absurd h List.not_mem_nil)⟩)⟩)⟩)⟩) (by decide +kernel)) ggX5_comes_X5_isAlive
def dtX5_comes_t0 : List (Nat × Instr × Nat) := [(0, .iconst 3, 1), (1, .iload_n 1, 1), (2, .imul, 1), (3, .istore_n 2, 1), (4, .aload_n 0, 1), (5, .getfield 31, 3), (8, .iload_n 1, 1), (9, .iaload, 1), (10, .bipush 108, 2), (12, .if_icmp .ne 30, 3), (15, .aload_n 0, 1), (16, .aload_n 0, 1), (17, .getfield 37, 3), (20, .iload_n 2, 1), (21, .iaload, 1), (22, .aload_n 0, 1), (23, .getfield 37, 3), (26, .iload_n 2, 1), (27, .iconst 1, 1), (28, .iadd, 1)]
theorem daX5_comes_t0 : dtX5_comes_t0.all (dck cX5_comes) = true := by decide +kernel
theorem dX5_comes_0 : decode cX5_comes 0 = .ok (.iconst 3, 1) := dck_get daX5_comes_t0 0 rfl
theorem dX5_comes_1 : decode cX5_comes 1 = .ok (.iload_n 1, 1) := dck_get daX5_comes_t0 1 rfl
theorem dX5_comes_2 : decode cX5_comes 2 = .ok (.imul, 1) := dck_get daX5_comes_t0 2 rfl
theorem dX5_comes_3 : decode cX5_comes 3 = .ok (.istore_n 2, 1) := dck_get daX5_comes_t0 3 rfl
theorem dX5_comes_4 : decode cX5_comes 4 = .ok (.aload_n 0, 1) := dck_get daX5_comes_t0 4 rfl
theorem dX5_comes_5 : decode cX5_comes 5 = .ok (.getfield 31, 3) := dck_get daX5_comes_t0 5 rfl
theorem dX5_comes_8 : decode cX5_comes 8 = .ok (.iload_n 1, 1) := dck_get daX5_comes_t0 6 rfl
theorem dX5_comes_9 : decode cX5_comes 9 = .ok (.iaload, 1) := dck_get daX5_comes_t0 7 rfl
theorem dX5_comes_10 : decode cX5_comes 10 = .ok (.bipush 108, 2) := dck_get daX5_comes_t0 8 rfl
theorem dX5_comes_12 : decode cX5_comes 12 = .ok (.if_icmp .ne 30, 3) := dck_get daX5_comes_t0 9 rfl
theorem dX5_comes_15 : decode cX5_comes 15 = .ok (.aload_n 0, 1) := dck_get daX5_comes_t0 10 rfl
theorem dX5_comes_16 : decode cX5_comes 16 = .ok (.aload_n 0, 1) := dck_get daX5_comes_t0 11 rfl
theorem dX5_comes_17 : decode cX5_comes 17 = .ok (.getfield 37, 3) := dck_get daX5_comes_t0 12 rfl
theorem dX5_comes_20 : decode cX5_comes 20 = .ok (.iload_n 2, 1) := dck_get daX5_comes_t0 13 rfl
theorem dX5_comes_21 : decode cX5_comes 21 = .ok (.iaload, 1) := dck_get daX5_comes_t0 14 rfl
theorem dX5_comes_22 : decode cX5_comes 22 = .ok (.aload_n 0, 1) := dck_get daX5_comes_t0 15 rfl
theorem dX5_comes_23 : decode cX5_comes 23 = .ok (.getfield 37, 3) := dck_get daX5_comes_t0 16 rfl
theorem dX5_comes_26 : decode cX5_comes 26 = .ok (.iload_n 2, 1) := dck_get daX5_comes_t0 17 rfl
theorem dX5_comes_27 : decode cX5_comes 27 = .ok (.iconst 1, 1) := dck_get daX5_comes_t0 18 rfl
theorem dX5_comes_28 : decode cX5_comes 28 = .ok (.iadd, 1) := dck_get daX5_comes_t0 19 rfl
def dtX5_comes_t1 : List (Nat × Instr × Nat) := [(29, .iaload, 1), (30, .aload_n 0, 1), (31, .getfield 37, 3), (34, .iload_n 2, 1), (35, .iconst 2, 1), (36, .iadd, 1), (37, .iaload, 1), (38, .invokevirtual 120, 3), (41, .ireturn, 1), (42, .aload_n 0, 1), (43, .getfield 31, 3), (46, .iload_n 1, 1), (47, .iaload, 1), (48, .bipush 121, 2), (50, .if_icmp .ne 9, 3), (53, .aload_n 0, 1), (54, .iload_n 1, 1), (55, .invokevirtual 123, 3), (58, .ireturn, 1), (59, .aload_n 0, 1)]
theorem daX5_comes_t1 : dtX5_comes_t1.all (dck cX5_comes) = true := by decide +kernel
theorem dX5_comes_29 : decode cX5_comes 29 = .ok (.iaload, 1) := dck_get daX5_comes_t1 0 rfl
theorem dX5_comes_30 : decode cX5_comes 30 = .ok (.aload_n 0, 1) := dck_get daX5_comes_t1 1 rfl
theorem dX5_comes_31 : decode cX5_comes 31 = .ok (.getfield 37, 3) := dck_get daX5_comes_t1 2 rfl
theorem dX5_comes_34 : decode cX5_comes 34 = .ok (.iload_n 2, 1) := dck_get daX5_comes_t1 3 rfl
theorem dX5_comes_35 : decode cX5_comes 35 = .ok (.iconst 2, 1) := dck_get daX5_comes_t1 4 rfl
theorem dX5_comes_36 : decode cX5_comes 36 = .ok (.iadd, 1) := dck_get daX5_comes_t1 5 rfl
theorem dX5_comes_37 : decode cX5_comes 37 = .ok (.iaload, 1) := dck_get daX5_comes_t1 6 rfl
theorem dX5_comes_38 : decode cX5_comes 38 = .ok (.invokevirtual 120, 3) := dck_get daX5_comes_t1 7 rfl
theorem dX5_comes_41 : decode cX5_comes 41 = .ok (.ireturn, 1) := dck_get daX5_comes_t1 8 rfl
theorem dX5_comes_42 : decode cX5_comes 42 = .ok (.aload_n 0, 1) := dck_get daX5_comes_t1 9 rfl
theorem dX5_comes_43 : decode cX5_comes 43 = .ok (.getfield 31, 3) := dck_get daX5_comes_t1 10 rfl
theorem dX5_comes_46 : decode cX5_comes 46 = .ok (.iload_n 1, 1) := dck_get daX5_comes_t1 11 rfl
theorem dX5_comes_47 : decode cX5_comes 47 = .ok (.iaload, 1) := dck_get daX5_comes_t1 12 rfl
theorem dX5_comes_48 : decode cX5_comes 48 = .ok (.bipush 121, 2) := dck_get daX5_comes_t1 13 rfl
theorem dX5_comes_50 : decode cX5_comes 50 = .ok (.if_icmp .ne 9, 3) := dck_get daX5_comes_t1 14 rfl
theorem dX5_comes_53 : decode cX5_comes 53 = .ok (.aload_n 0, 1) := dck_get daX5_comes_t1 15 rfl
theorem dX5_comes_54 : decode cX5_comes 54 = .ok (.iload_n 1, 1) := dck_get daX5_comes_t1 16 rfl
theorem dX5_comes_55 : decode cX5_comes 55 = .ok (.invokevirtual 123, 3) := dck_get daX5_comes_t1 17 rfl
theorem dX5_comes_58 : decode cX5_comes 58 = .ok (.ireturn, 1) := dck_get daX5_comes_t1 18 rfl
theorem dX5_comes_59 : decode cX5_comes 59 = .ok (.aload_n 0, 1) := dck_get daX5_comes_t1 19 rfl
def dtX5_comes_t2 : List (Nat × Instr × Nat) := [(60, .aload_n 0, 1), (61, .getfield 37, 3), (64, .iload_n 2, 1), (65, .iaload, 1), (66, .invokevirtual 104, 3), (69, .ifCond .ne 5, 3), (72, .iconst 0, 1), (73, .ireturn, 1), (74, .aload_n 0, 1), (75, .getfield 25, 3), (78, .aload_n 0, 1), (79, .getfield 37, 3), (82, .iload_n 2, 1), (83, .iaload, 1), (84, .aload_n 0, 1), (85, .getfield 37, 3), (88, .iload_n 2, 1), (89, .iconst 1, 1), (90, .iadd, 1), (91, .iaload, 1)]
theorem daX5_comes_t2 : dtX5_comes_t2.all (dck cX5_comes) = true := by decide +kernel
theorem dX5_comes_60 : decode cX5_comes 60 = .ok (.aload_n 0, 1) := dck_get daX5_comes_t2 0 rfl
theorem dX5_comes_61 : decode cX5_comes 61 = .ok (.getfield 37, 3) := dck_get daX5_comes_t2 1 rfl
theorem dX5_comes_64 : decode cX5_comes 64 = .ok (.iload_n 2, 1) := dck_get daX5_comes_t2 2 rfl
theorem dX5_comes_65 : decode cX5_comes 65 = .ok (.iaload, 1) := dck_get daX5_comes_t2 3 rfl
theorem dX5_comes_66 : decode cX5_comes 66 = .ok (.invokevirtual 104, 3) := dck_get daX5_comes_t2 4 rfl
theorem dX5_comes_69 : decode cX5_comes 69 = .ok (.ifCond .ne 5, 3) := dck_get daX5_comes_t2 5 rfl
theorem dX5_comes_72 : decode cX5_comes 72 = .ok (.iconst 0, 1) := dck_get daX5_comes_t2 6 rfl
theorem dX5_comes_73 : decode cX5_comes 73 = .ok (.ireturn, 1) := dck_get daX5_comes_t2 7 rfl
theorem dX5_comes_74 : decode cX5_comes 74 = .ok (.aload_n 0, 1) := dck_get daX5_comes_t2 8 rfl
theorem dX5_comes_75 : decode cX5_comes 75 = .ok (.getfield 25, 3) := dck_get daX5_comes_t2 9 rfl
theorem dX5_comes_78 : decode cX5_comes 78 = .ok (.aload_n 0, 1) := dck_get daX5_comes_t2 10 rfl
theorem dX5_comes_79 : decode cX5_comes 79 = .ok (.getfield 37, 3) := dck_get daX5_comes_t2 11 rfl
theorem dX5_comes_82 : decode cX5_comes 82 = .ok (.iload_n 2, 1) := dck_get daX5_comes_t2 12 rfl
theorem dX5_comes_83 : decode cX5_comes 83 = .ok (.iaload, 1) := dck_get daX5_comes_t2 13 rfl
theorem dX5_comes_84 : decode cX5_comes 84 = .ok (.aload_n 0, 1) := dck_get daX5_comes_t2 14 rfl
theorem dX5_comes_85 : decode cX5_comes 85 = .ok (.getfield 37, 3) := dck_get daX5_comes_t2 15 rfl
theorem dX5_comes_88 : decode cX5_comes 88 = .ok (.iload_n 2, 1) := dck_get daX5_comes_t2 16 rfl
theorem dX5_comes_89 : decode cX5_comes 89 = .ok (.iconst 1, 1) := dck_get daX5_comes_t2 17 rfl
theorem dX5_comes_90 : decode cX5_comes 90 = .ok (.iadd, 1) := dck_get daX5_comes_t2 18 rfl
theorem dX5_comes_91 : decode cX5_comes 91 = .ok (.iaload, 1) := dck_get daX5_comes_t2 19 rfl
def dtX5_comes_t3 : List (Nat × Instr × Nat) := [(92, .iastore, 1), (93, .iconst 1, 1), (94, .ireturn, 1)]
theorem daX5_comes_t3 : dtX5_comes_t3.all (dck cX5_comes) = true := by decide +kernel
theorem dX5_comes_92 : decode cX5_comes 92 = .ok (.iastore, 1) := dck_get daX5_comes_t3 0 rfl
theorem dX5_comes_93 : decode cX5_comes 93 = .ok (.iconst 1, 1) := dck_get daX5_comes_t3 1 rfl
theorem dX5_comes_94 : decode cX5_comes 94 = .ok (.ireturn, 1) := dck_get daX5_comes_t3 2 rfl
set_option maxRecDepth 20000 in
theorem gw_wsX5_statement : wsX5_statement.all goodWord = true := by decide +kernel
set_option maxRecDepth 20000 in
theorem ggX5_house_X5_statement : GoodIn wsX5_house wsX5_statement := goodIn_sub (List.forall_mem_cons.mpr ⟨(List.mem_of_getElem? (i := 9) rfl), (List.forall_mem_append.mpr ⟨(List.forall_mem_append.mpr ⟨(List.forall_mem_cons.mpr ⟨(List.mem_of_getElem? (i := 10) rfl), (List.forall_mem_cons.mpr ⟨(List.mem_of_getElem? (i := 2) rfl), (List.forall_mem_cons.mpr ⟨(List.mem_of_getElem? (i := 4) rfl), (List.forall_mem_cons.mpr ⟨(List.mem_of_getElem? (i := 1) rfl), (List.forall_mem_cons.mpr ⟨(List.mem_of_getElem? (i := 11) rfl), (List.forall_mem_cons.mpr ⟨(List.mem_of_getElem? (i := 12) rfl), (List.forall_mem_cons.mpr ⟨(List.mem_of_getElem? (i := 13) rfl), (List.forall_mem_cons.mpr ⟨(List.mem_of_getElem? (i := 8) rfl), (List.forall_mem_cons.mpr ⟨(List.mem_of_getElem? (i := 14) rfl), (List.forall_mem_cons.mpr ⟨(List.mem_of_getElem? (i := 3) rfl), (List.forall_mem_cons.mpr ⟨(List.mem_of_getElem? (i := 15) rfl), (List.forall_mem_cons.mpr ⟨(List.mem_of_getElem? (i := 16) rfl), (List.forall_mem_cons.mpr ⟨(List.mem_of_getElem? (i := 17) rfl), (List.forall_mem_cons.mpr ⟨(List.mem_of_getElem? (i := 18) rfl), (List.forall_mem_cons.mpr ⟨(List.mem_of_getElem? (i := 19) rfl), (List.forall_mem_cons.mpr ⟨(List.mem_of_getElem? (i := 20) rfl), (List.forall_mem_cons.mpr ⟨(List.mem_of_getElem? (i := 21) rfl), (List.forall_mem_cons.mpr ⟨(List.mem_of_getElem? (i := 22) rfl), (List.forall_mem_cons.mpr ⟨(List.mem_of_getElem? (i := 23) rfl), (List.forall_mem_cons.mpr ⟨(List.mem_of_getElem? (i := 24) rfl), (List.forall_mem_cons.mpr ⟨(List.mem_of_getElem? (i := 25) rfl), (List.forall_mem_cons.mpr ⟨(List.mem_of_getElem? (i := 26) rfl), (List.forall_mem_cons.mpr ⟨(List.mem_of_getElem? (i := 27) rfl), (List.forall_mem_cons.mpr ⟨(List.mem_of_getElem? (i := 28) rfl), (fun _ h => absurd h List.not_mem_nil)⟩)⟩)⟩)⟩)⟩)⟩)⟩)⟩)⟩)⟩)⟩)⟩)⟩)⟩)⟩)⟩)⟩)⟩)⟩)⟩)⟩)⟩)⟩)⟩), (List.forall_mem_cons.mpr ⟨(List.mem_of_getElem? (i := 29) rfl), (List.forall_mem_cons.mpr ⟨(List.mem_of_getElem? (i := 30) rfl), (List.forall_mem_cons.mpr ⟨(List.mem_of_getElem? (i := 31) rfl), (List.forall_mem_cons.mpr ⟨(List.mem_of_getElem? (i := 32) rfl), (List.forall_mem_cons.mpr ⟨(List.mem_of_getElem? (i := 33) rfl), (List.forall_mem_cons.mpr ⟨(List.mem_of_getElem? (i := 34) rfl), (List.forall_mem_cons.mpr ⟨(List.mem_of_getElem? (i := 35) rfl), (List.forall_mem_cons.mpr ⟨(List.mem_of_getElem? (i := 36) rfl), (List.forall_mem_cons.mpr ⟨(List.mem_of_getElem? (i := 37) rfl), (List.forall_mem_cons.mpr ⟨(List.mem_of_getElem? (i := 38) rfl), (List.forall_mem_cons.mpr ⟨(List.mem_of_getElem? (i := 39) rfl), (List.forall_mem_cons.mpr ⟨(List.mem_of_getElem? (i := 40) rfl), (fun _ h => absurd h List.not_mem_nil)⟩)⟩)⟩)⟩)⟩)⟩)⟩)⟩)⟩)⟩)⟩)⟩)⟩), (fun _ h => (List.mem_cons_of_mem _ (List.mem_append_right _ h)))⟩)⟩) gw_wsX5_statement
set_option maxRecDepth 20000 in
theorem gX5_house_X5_statement : GoodIn wsX5_house (wsV RX5 126 RX5 yX5_statement wsX5_statement) := goodIn_app (goodIn_sub (List.forall_mem_cons.mpr ⟨(List.mem_of_getElem? (i := 5) rfl), (List.forall_mem_cons.mpr ⟨(List.mem_of_getElem? (i := 6) rfl), (List.forall_mem_cons.mpr ⟨(List.mem_of_getElem? (i := 7) rfl), (List.forall_mem_cons.mpr ⟨(List.mem_of_getElem? (i := 8) rfl), (fun _ h => absurd h List.not_mem_nil)⟩)⟩)⟩)⟩) (by decide +kernel)) ggX5_house_X5_statement
set_option maxRecDepth 20000 in
theorem gw_wsX5_passesAll : wsX5_passesAll.all goodWord = true := by decide +kernel
set_option maxRecDepth 20000 in
theorem ggX5_house_X5_passesAll : GoodIn wsX5_house wsX5_passesAll := goodIn_sub (List.forall_mem_cons.mpr ⟨(List.mem_of_getElem? (i := 44) rfl), (List.forall_mem_append.mpr ⟨(List.forall_mem_cons.mpr ⟨(List.mem_of_getElem? (i := 45) rfl), (List.forall_mem_cons.mpr ⟨(List.mem_of_getElem? (i := 46) rfl), (List.forall_mem_cons.mpr ⟨(List.mem_of_getElem? (i := 47) rfl), (List.forall_mem_cons.mpr ⟨(List.mem_of_getElem? (i := 48) rfl), (List.forall_mem_cons.mpr ⟨(List.mem_of_getElem? (i := 49) rfl), (List.forall_mem_cons.mpr ⟨(List.mem_of_getElem? (i := 50) rfl), (List.forall_mem_cons.mpr ⟨(List.mem_of_getElem? (i := 51) rfl), (List.forall_mem_cons.mpr ⟨(List.mem_of_getElem? (i := 52) rfl), (List.forall_mem_cons.mpr ⟨(List.mem_of_getElem? (i := 53) rfl), (List.forall_mem_cons.mpr ⟨(List.mem_of_getElem? (i := 54) rfl), (List.forall_mem_cons.mpr ⟨(List.mem_of_getElem? (i := 55) rfl), (List.forall_mem_cons.mpr ⟨(List.mem_of_getElem? (i := 56) rfl), (List.forall_mem_cons.mpr ⟨(List.mem_of_getElem? (i := 8) rfl), (List.forall_mem_cons.mpr ⟨(List.mem_of_getElem? (i := 57) rfl), (List.forall_mem_cons.mpr ⟨(List.mem_of_getElem? (i := 58) rfl), (List.forall_mem_cons.mpr ⟨(List.mem_of_getElem? (i := 59) rfl), (List.forall_mem_cons.mpr ⟨(List.mem_of_getElem? (i := 60) rfl), (List.forall_mem_cons.mpr ⟨(List.mem_of_getElem? (i := 61) rfl), (List.forall_mem_cons.mpr ⟨(List.mem_of_getElem? (i := 62) rfl), (fun _ h => absurd h List.not_mem_nil)⟩)⟩)⟩)⟩)⟩)⟩)⟩)⟩)⟩)⟩)⟩)⟩)⟩)⟩)⟩)⟩)⟩)⟩)⟩), (fun _ h => (List.mem_cons_of_mem _ (List.mem_append_right _ h)))⟩)⟩) gw_wsX5_passesAll
set_option maxRecDepth 20000 in
theorem gX5_house_X5_passesAll : GoodIn wsX5_house (wsV RX5 129 RX5 yX5_passesAll wsX5_passesAll) := goodIn_app (goodIn_sub (List.forall_mem_cons.mpr ⟨(List.mem_of_getElem? (i := 41) rfl), (List.forall_mem_cons.mpr ⟨(List.mem_of_getElem? (i := 42) rfl), (List.forall_mem_cons.mpr ⟨(List.mem_of_getElem? (i := 43) rfl), (List.forall_mem_cons.mpr ⟨(List.mem_of_getElem? (i := 8) rfl), (fun _ h => absurd h List.not_mem_nil)⟩)⟩)⟩)⟩) (by decide +kernel)) ggX5_house_X5_passesAll
set_option maxRecDepth 20000 in
theorem gw_wsX5_comes : wsX5_comes.all goodWord = true := by decide +kernel
set_option maxRecDepth 20000 in
theorem ggX5_house_X5_comes : GoodIn wsX5_house wsX5_comes := goodIn_sub (List.forall_mem_cons.mpr ⟨(List.mem_of_getElem? (i := 66) rfl), (List.forall_mem_append.mpr ⟨(List.forall_mem_append.mpr ⟨(List.forall_mem_cons.mpr ⟨(List.mem_of_getElem? (i := 10) rfl), (List.forall_mem_cons.mpr ⟨(List.mem_of_getElem? (i := 20) rfl), (List.forall_mem_cons.mpr ⟨(List.mem_of_getElem? (i := 51) rfl), (List.forall_mem_cons.mpr ⟨(List.mem_of_getElem? (i := 67) rfl), (List.forall_mem_cons.mpr ⟨(List.mem_of_getElem? (i := 68) rfl), (List.forall_mem_cons.mpr ⟨(List.mem_of_getElem? (i := 69) rfl), (List.forall_mem_cons.mpr ⟨(List.mem_of_getElem? (i := 8) rfl), (List.forall_mem_cons.mpr ⟨(List.mem_of_getElem? (i := 70) rfl), (List.forall_mem_cons.mpr ⟨(List.mem_of_getElem? (i := 52) rfl), (List.forall_mem_cons.mpr ⟨(List.mem_of_getElem? (i := 47) rfl), (List.forall_mem_cons.mpr ⟨(List.mem_of_getElem? (i := 48) rfl), (List.forall_mem_cons.mpr ⟨(List.mem_of_getElem? (i := 49) rfl), (List.forall_mem_cons.mpr ⟨(List.mem_of_getElem? (i := 50) rfl), (List.forall_mem_cons.mpr ⟨(List.mem_of_getElem? (i := 71) rfl), (List.forall_mem_cons.mpr ⟨(List.mem_of_getElem? (i := 72) rfl), (List.forall_mem_cons.mpr ⟨(List.mem_of_getElem? (i := 73) rfl), (List.forall_mem_cons.mpr ⟨(List.mem_of_getElem? (i := 74) rfl), (List.forall_mem_cons.mpr ⟨(List.mem_of_getElem? (i := 75) rfl), (List.forall_mem_cons.mpr ⟨(List.mem_of_getElem? (i := 76) rfl), (List.forall_mem_cons.mpr ⟨(List.mem_of_getElem? (i := 77) rfl), (List.forall_mem_cons.mpr ⟨(List.mem_of_getElem? (i := 78) rfl), (List.forall_mem_cons.mpr ⟨(List.mem_of_getElem? (i := 79) rfl), (List.forall_mem_cons.mpr ⟨(List.mem_of_getElem? (i := 80) rfl), (List.forall_mem_cons.mpr ⟨(List.mem_of_getElem? (i := 81) rfl), (fun _ h => absurd h List.not_mem_nil)⟩)⟩)⟩)⟩)⟩)⟩)⟩)⟩)⟩)⟩)⟩)⟩)⟩)⟩)⟩)⟩)⟩)⟩)⟩)⟩)⟩)⟩)⟩)⟩), (List.forall_mem_cons.mpr ⟨(List.mem_of_getElem? (i := 39) rfl), (List.forall_mem_cons.mpr ⟨(List.mem_of_getElem? (i := 40) rfl), (List.forall_mem_cons.mpr ⟨(List.mem_of_getElem? (i := 15) rfl), (List.forall_mem_cons.mpr ⟨(List.mem_of_getElem? (i := 53) rfl), (List.forall_mem_cons.mpr ⟨(List.mem_of_getElem? (i := 82) rfl), (List.forall_mem_cons.mpr ⟨(List.mem_of_getElem? (i := 83) rfl), (List.forall_mem_cons.mpr ⟨(List.mem_of_getElem? (i := 84) rfl), (List.forall_mem_cons.mpr ⟨(List.mem_of_getElem? (i := 85) rfl), (List.forall_mem_cons.mpr ⟨(List.mem_of_getElem? (i := 86) rfl), (List.forall_mem_cons.mpr ⟨(List.mem_of_getElem? (i := 87) rfl), (List.forall_mem_cons.mpr ⟨(List.mem_of_getElem? (i := 88) rfl), (List.forall_mem_cons.mpr ⟨(List.mem_of_getElem? (i := 89) rfl), (List.forall_mem_cons.mpr ⟨(List.mem_of_getElem? (i := 90) rfl), (List.forall_mem_cons.mpr ⟨(List.mem_of_getElem? (i := 91) rfl), (List.forall_mem_cons.mpr ⟨(List.mem_of_getElem? (i := 92) rfl), (List.forall_mem_cons.mpr ⟨(List.mem_of_getElem? (i := 93) rfl), (List.forall_mem_cons.mpr ⟨(List.mem_of_getElem? (i := 94) rfl), (List.forall_mem_cons.mpr ⟨(List.mem_of_getElem? (i := 95) rfl), (List.forall_mem_cons.mpr ⟨(List.mem_of_getElem? (i := 96) rfl), (List.forall_mem_cons.mpr ⟨(List.mem_of_getElem? (i := 97) rfl), (fun _ h => absurd h List.not_mem_nil)⟩)⟩)⟩)⟩)⟩)⟩)⟩)⟩)⟩)⟩)⟩)⟩)⟩)⟩)⟩)⟩)⟩)⟩)⟩)⟩)⟩), (fun _ h => (List.mem_cons_of_mem _ (List.mem_append_right _ h)))⟩)⟩) gw_wsX5_comes
set_option maxRecDepth 20000 in
theorem gX5_house_X5_comes : GoodIn wsX5_house (wsV RX5 133 RX5 yX5_comes wsX5_comes) := goodIn_app (goodIn_sub (List.forall_mem_cons.mpr ⟨(List.mem_of_getElem? (i := 63) rfl), (List.forall_mem_cons.mpr ⟨(List.mem_of_getElem? (i := 64) rfl), (List.forall_mem_cons.mpr ⟨(List.mem_of_getElem? (i := 65) rfl), (List.forall_mem_cons.mpr ⟨(List.mem_of_getElem? (i := 8) rfl), (fun _ h => absurd h List.not_mem_nil)⟩)⟩)⟩)⟩) (by decide +kernel)) ggX5_house_X5_comes
def dtX5_house_t0 : List (Nat × Instr × Nat) := [(0, .aload_n 0, 1), (1, .iconst 0, 1), (2, .putfield 72, 3), (5, .aload_n 0, 1), (6, .iconst 0, 1), (7, .putfield 94, 3), (10, .iconst 1, 1), (11, .istore_n 1, 1), (12, .iload_n 1, 1), (13, .ifCond .eq 47, 3), (16, .aload_n 0, 1), (17, .getfield 72, 3), (20, .aload_n 0, 1), (21, .getfield 65, 3), (24, .if_icmp .lt 10, 3), (27, .aload_n 0, 1), (28, .getfield 94, 3), (31, .ifCond .ne 29, 3), (34, .aload_n 0, 1), (35, .invokevirtual 126, 3)]
theorem daX5_house_t0 : dtX5_house_t0.all (dck cX5_house) = true := by decide +kernel
theorem dX5_house_0 : decode cX5_house 0 = .ok (.aload_n 0, 1) := dck_get daX5_house_t0 0 rfl
theorem dX5_house_1 : decode cX5_house 1 = .ok (.iconst 0, 1) := dck_get daX5_house_t0 1 rfl
theorem dX5_house_2 : decode cX5_house 2 = .ok (.putfield 72, 3) := dck_get daX5_house_t0 2 rfl
theorem dX5_house_5 : decode cX5_house 5 = .ok (.aload_n 0, 1) := dck_get daX5_house_t0 3 rfl
theorem dX5_house_6 : decode cX5_house 6 = .ok (.iconst 0, 1) := dck_get daX5_house_t0 4 rfl
theorem dX5_house_7 : decode cX5_house 7 = .ok (.putfield 94, 3) := dck_get daX5_house_t0 5 rfl
theorem dX5_house_10 : decode cX5_house 10 = .ok (.iconst 1, 1) := dck_get daX5_house_t0 6 rfl
theorem dX5_house_11 : decode cX5_house 11 = .ok (.istore_n 1, 1) := dck_get daX5_house_t0 7 rfl
theorem dX5_house_12 : decode cX5_house 12 = .ok (.iload_n 1, 1) := dck_get daX5_house_t0 8 rfl
theorem dX5_house_13 : decode cX5_house 13 = .ok (.ifCond .eq 47, 3) := dck_get daX5_house_t0 9 rfl
theorem dX5_house_16 : decode cX5_house 16 = .ok (.aload_n 0, 1) := dck_get daX5_house_t0 10 rfl
theorem dX5_house_17 : decode cX5_house 17 = .ok (.getfield 72, 3) := dck_get daX5_house_t0 11 rfl
theorem dX5_house_20 : decode cX5_house 20 = .ok (.aload_n 0, 1) := dck_get daX5_house_t0 12 rfl
theorem dX5_house_21 : decode cX5_house 21 = .ok (.getfield 65, 3) := dck_get daX5_house_t0 13 rfl
theorem dX5_house_24 : decode cX5_house 24 = .ok (.if_icmp .lt 10, 3) := dck_get daX5_house_t0 14 rfl
theorem dX5_house_27 : decode cX5_house 27 = .ok (.aload_n 0, 1) := dck_get daX5_house_t0 15 rfl
theorem dX5_house_28 : decode cX5_house 28 = .ok (.getfield 94, 3) := dck_get daX5_house_t0 16 rfl
theorem dX5_house_31 : decode cX5_house 31 = .ok (.ifCond .ne 29, 3) := dck_get daX5_house_t0 17 rfl
theorem dX5_house_34 : decode cX5_house 34 = .ok (.aload_n 0, 1) := dck_get daX5_house_t0 18 rfl
theorem dX5_house_35 : decode cX5_house 35 = .ok (.invokevirtual 126, 3) := dck_get daX5_house_t0 19 rfl
def dtX5_house_t1 : List (Nat × Instr × Nat) := [(38, .istore_n 1, 1), (39, .aload_n 0, 1), (40, .dup, 1), (41, .getfield 94, 3), (44, .iload_n 1, 1), (45, .ifCond .eq 7, 3), (48, .iconst 1, 1), (49, .goto 4, 3), (52, .iconst 0, 1), (53, .iadd, 1), (54, .putfield 94, 3), (57, .goto (-45), 3), (60, .aload_n 0, 1), (61, .iconst 0, 1), (62, .putfield 65, 3), (65, .iload_n 1, 1), (66, .ifCond .ne 12, 3), (69, .sipush (-1000), 3), (72, .aload_n 0, 1), (73, .getfield 72, 3)]
theorem daX5_house_t1 : dtX5_house_t1.all (dck cX5_house) = true := by decide +kernel
theorem dX5_house_38 : decode cX5_house 38 = .ok (.istore_n 1, 1) := dck_get daX5_house_t1 0 rfl
theorem dX5_house_39 : decode cX5_house 39 = .ok (.aload_n 0, 1) := dck_get daX5_house_t1 1 rfl
theorem dX5_house_40 : decode cX5_house 40 = .ok (.dup, 1) := dck_get daX5_house_t1 2 rfl
theorem dX5_house_41 : decode cX5_house 41 = .ok (.getfield 94, 3) := dck_get daX5_house_t1 3 rfl
theorem dX5_house_44 : decode cX5_house 44 = .ok (.iload_n 1, 1) := dck_get daX5_house_t1 4 rfl
theorem dX5_house_45 : decode cX5_house 45 = .ok (.ifCond .eq 7, 3) := dck_get daX5_house_t1 5 rfl
theorem dX5_house_48 : decode cX5_house 48 = .ok (.iconst 1, 1) := dck_get daX5_house_t1 6 rfl
theorem dX5_house_49 : decode cX5_house 49 = .ok (.goto 4, 3) := dck_get daX5_house_t1 7 rfl
theorem dX5_house_52 : decode cX5_house 52 = .ok (.iconst 0, 1) := dck_get daX5_house_t1 8 rfl
theorem dX5_house_53 : decode cX5_house 53 = .ok (.iadd, 1) := dck_get daX5_house_t1 9 rfl
theorem dX5_house_54 : decode cX5_house 54 = .ok (.putfield 94, 3) := dck_get daX5_house_t1 10 rfl
theorem dX5_house_57 : decode cX5_house 57 = .ok (.goto (-45), 3) := dck_get daX5_house_t1 11 rfl
theorem dX5_house_60 : decode cX5_house 60 = .ok (.aload_n 0, 1) := dck_get daX5_house_t1 12 rfl
theorem dX5_house_61 : decode cX5_house 61 = .ok (.iconst 0, 1) := dck_get daX5_house_t1 13 rfl
theorem dX5_house_62 : decode cX5_house 62 = .ok (.putfield 65, 3) := dck_get daX5_house_t1 14 rfl
theorem dX5_house_65 : decode cX5_house 65 = .ok (.iload_n 1, 1) := dck_get daX5_house_t1 15 rfl
theorem dX5_house_66 : decode cX5_house 66 = .ok (.ifCond .ne 12, 3) := dck_get daX5_house_t1 16 rfl
theorem dX5_house_69 : decode cX5_house 69 = .ok (.sipush (-1000), 3) := dck_get daX5_house_t1 17 rfl
theorem dX5_house_72 : decode cX5_house 72 = .ok (.aload_n 0, 1) := dck_get daX5_house_t1 18 rfl
theorem dX5_house_73 : decode cX5_house 73 = .ok (.getfield 72, 3) := dck_get daX5_house_t1 19 rfl
def dtX5_house_t2 : List (Nat × Instr × Nat) := [(76, .isub, 1), (77, .ireturn, 1), (78, .aload_n 0, 1), (79, .iconst 1, 1), (80, .iconst 1, 1), (81, .invokevirtual 129, 3), (84, .iconst 0, 1), (85, .istore_n 2, 1), (86, .iload_n 2, 1), (87, .aload_n 0, 1), (88, .getfield 94, 3), (91, .if_icmp .ge 37, 3), (94, .aload_n 0, 1), (95, .iload_n 2, 1), (96, .invokevirtual 133, 3), (99, .ifCond .eq 6, 3), (102, .goto 20, 3), (105, .aload_n 0, 1), (106, .iconst 1, 1), (107, .iconst 0, 1)]
theorem daX5_house_t2 : dtX5_house_t2.all (dck cX5_house) = true := by decide +kernel
theorem dX5_house_76 : decode cX5_house 76 = .ok (.isub, 1) := dck_get daX5_house_t2 0 rfl
theorem dX5_house_77 : decode cX5_house 77 = .ok (.ireturn, 1) := dck_get daX5_house_t2 1 rfl
theorem dX5_house_78 : decode cX5_house 78 = .ok (.aload_n 0, 1) := dck_get daX5_house_t2 2 rfl
theorem dX5_house_79 : decode cX5_house 79 = .ok (.iconst 1, 1) := dck_get daX5_house_t2 3 rfl
theorem dX5_house_80 : decode cX5_house 80 = .ok (.iconst 1, 1) := dck_get daX5_house_t2 4 rfl
theorem dX5_house_81 : decode cX5_house 81 = .ok (.invokevirtual 129, 3) := dck_get daX5_house_t2 5 rfl
theorem dX5_house_84 : decode cX5_house 84 = .ok (.iconst 0, 1) := dck_get daX5_house_t2 6 rfl
theorem dX5_house_85 : decode cX5_house 85 = .ok (.istore_n 2, 1) := dck_get daX5_house_t2 7 rfl
theorem dX5_house_86 : decode cX5_house 86 = .ok (.iload_n 2, 1) := dck_get daX5_house_t2 8 rfl
theorem dX5_house_87 : decode cX5_house 87 = .ok (.aload_n 0, 1) := dck_get daX5_house_t2 9 rfl
theorem dX5_house_88 : decode cX5_house 88 = .ok (.getfield 94, 3) := dck_get daX5_house_t2 10 rfl
theorem dX5_house_91 : decode cX5_house 91 = .ok (.if_icmp .ge 37, 3) := dck_get daX5_house_t2 11 rfl
theorem dX5_house_94 : decode cX5_house 94 = .ok (.aload_n 0, 1) := dck_get daX5_house_t2 12 rfl
theorem dX5_house_95 : decode cX5_house 95 = .ok (.iload_n 2, 1) := dck_get daX5_house_t2 13 rfl
theorem dX5_house_96 : decode cX5_house 96 = .ok (.invokevirtual 133, 3) := dck_get daX5_house_t2 14 rfl
theorem dX5_house_99 : decode cX5_house 99 = .ok (.ifCond .eq 6, 3) := dck_get daX5_house_t2 15 rfl
theorem dX5_house_102 : decode cX5_house 102 = .ok (.goto 20, 3) := dck_get daX5_house_t2 16 rfl
theorem dX5_house_105 : decode cX5_house 105 = .ok (.aload_n 0, 1) := dck_get daX5_house_t2 17 rfl
theorem dX5_house_106 : decode cX5_house 106 = .ok (.iconst 1, 1) := dck_get daX5_house_t2 18 rfl
theorem dX5_house_107 : decode cX5_house 107 = .ok (.iconst 0, 1) := dck_get daX5_house_t2 19 rfl
def dtX5_house_t3 : List (Nat × Instr × Nat) := [(108, .invokevirtual 129, 3), (111, .sipush (-2000), 3), (114, .aload_n 0, 1), (115, .getfield 34, 3), (118, .iload_n 2, 1), (119, .iaload, 1), (120, .isub, 1), (121, .ireturn, 1), (122, .iinc 2 1, 3), (125, .goto (-39), 3), (128, .aload_n 0, 1), (129, .getfield 94, 3), (132, .ireturn, 1)]
theorem daX5_house_t3 : dtX5_house_t3.all (dck cX5_house) = true := by decide +kernel
theorem dX5_house_108 : decode cX5_house 108 = .ok (.invokevirtual 129, 3) := dck_get daX5_house_t3 0 rfl
theorem dX5_house_111 : decode cX5_house 111 = .ok (.sipush (-2000), 3) := dck_get daX5_house_t3 1 rfl
theorem dX5_house_114 : decode cX5_house 114 = .ok (.aload_n 0, 1) := dck_get daX5_house_t3 2 rfl
theorem dX5_house_115 : decode cX5_house 115 = .ok (.getfield 34, 3) := dck_get daX5_house_t3 3 rfl
theorem dX5_house_118 : decode cX5_house 118 = .ok (.iload_n 2, 1) := dck_get daX5_house_t3 4 rfl
theorem dX5_house_119 : decode cX5_house 119 = .ok (.iaload, 1) := dck_get daX5_house_t3 5 rfl
theorem dX5_house_120 : decode cX5_house 120 = .ok (.isub, 1) := dck_get daX5_house_t3 6 rfl
theorem dX5_house_121 : decode cX5_house 121 = .ok (.ireturn, 1) := dck_get daX5_house_t3 7 rfl
theorem dX5_house_122 : decode cX5_house 122 = .ok (.iinc 2 1, 3) := dck_get daX5_house_t3 8 rfl
theorem dX5_house_125 : decode cX5_house 125 = .ok (.goto (-39), 3) := dck_get daX5_house_t3 9 rfl
theorem dX5_house_128 : decode cX5_house 128 = .ok (.aload_n 0, 1) := dck_get daX5_house_t3 10 rfl
theorem dX5_house_129 : decode cX5_house 129 = .ok (.getfield 94, 3) := dck_get daX5_house_t3 11 rfl
theorem dX5_house_132 : decode cX5_house 132 = .ok (.ireturn, 1) := dck_get daX5_house_t3 12 rfl
def dtX5_passes_t0 : List (Nat × Instr × Nat) := [(0, .iconst 0, 1), (1, .istore_n 2, 1), (2, .iload_n 2, 1), (3, .aload_n 1, 1), (4, .arraylength, 1), (5, .if_icmp .ge 53, 3), (8, .aload_n 0, 1), (9, .getfield 136, 3), (12, .ifCond .eq 18, 3), (15, .aload_n 0, 1), (16, .getfield 46, 3), (19, .aload_n 0, 1), (20, .getfield 140, 3), (23, .aload_n 1, 1), (24, .iload_n 2, 1), (25, .iaload, 1), (26, .iastore, 1), (27, .goto 15, 3), (30, .aload_n 1, 1), (31, .iload_n 2, 1)]
theorem daX5_passes_t0 : dtX5_passes_t0.all (dck cX5_passes) = true := by decide +kernel
theorem dX5_passes_0 : decode cX5_passes 0 = .ok (.iconst 0, 1) := dck_get daX5_passes_t0 0 rfl
theorem dX5_passes_1 : decode cX5_passes 1 = .ok (.istore_n 2, 1) := dck_get daX5_passes_t0 1 rfl
theorem dX5_passes_2 : decode cX5_passes 2 = .ok (.iload_n 2, 1) := dck_get daX5_passes_t0 2 rfl
theorem dX5_passes_3 : decode cX5_passes 3 = .ok (.aload_n 1, 1) := dck_get daX5_passes_t0 3 rfl
theorem dX5_passes_4 : decode cX5_passes 4 = .ok (.arraylength, 1) := dck_get daX5_passes_t0 4 rfl
theorem dX5_passes_5 : decode cX5_passes 5 = .ok (.if_icmp .ge 53, 3) := dck_get daX5_passes_t0 5 rfl
theorem dX5_passes_8 : decode cX5_passes 8 = .ok (.aload_n 0, 1) := dck_get daX5_passes_t0 6 rfl
theorem dX5_passes_9 : decode cX5_passes 9 = .ok (.getfield 136, 3) := dck_get daX5_passes_t0 7 rfl
theorem dX5_passes_12 : decode cX5_passes 12 = .ok (.ifCond .eq 18, 3) := dck_get daX5_passes_t0 8 rfl
theorem dX5_passes_15 : decode cX5_passes 15 = .ok (.aload_n 0, 1) := dck_get daX5_passes_t0 9 rfl
theorem dX5_passes_16 : decode cX5_passes 16 = .ok (.getfield 46, 3) := dck_get daX5_passes_t0 10 rfl
theorem dX5_passes_19 : decode cX5_passes 19 = .ok (.aload_n 0, 1) := dck_get daX5_passes_t0 11 rfl
theorem dX5_passes_20 : decode cX5_passes 20 = .ok (.getfield 140, 3) := dck_get daX5_passes_t0 12 rfl
theorem dX5_passes_23 : decode cX5_passes 23 = .ok (.aload_n 1, 1) := dck_get daX5_passes_t0 13 rfl
theorem dX5_passes_24 : decode cX5_passes 24 = .ok (.iload_n 2, 1) := dck_get daX5_passes_t0 14 rfl
theorem dX5_passes_25 : decode cX5_passes 25 = .ok (.iaload, 1) := dck_get daX5_passes_t0 15 rfl
theorem dX5_passes_26 : decode cX5_passes 26 = .ok (.iastore, 1) := dck_get daX5_passes_t0 16 rfl
theorem dX5_passes_27 : decode cX5_passes 27 = .ok (.goto 15, 3) := dck_get daX5_passes_t0 17 rfl
theorem dX5_passes_30 : decode cX5_passes 30 = .ok (.aload_n 1, 1) := dck_get daX5_passes_t0 18 rfl
theorem dX5_passes_31 : decode cX5_passes 31 = .ok (.iload_n 2, 1) := dck_get daX5_passes_t0 19 rfl
def dtX5_passes_t1 : List (Nat × Instr × Nat) := [(32, .aload_n 0, 1), (33, .getfield 46, 3), (36, .aload_n 0, 1), (37, .getfield 140, 3), (40, .iaload, 1), (41, .iastore, 1), (42, .aload_n 0, 1), (43, .dup, 1), (44, .getfield 140, 3), (47, .iconst 1, 1), (48, .iadd, 1), (49, .putfield 140, 3), (52, .iinc 2 1, 3), (55, .goto (-53), 3), (58, .return_, 1)]
theorem daX5_passes_t1 : dtX5_passes_t1.all (dck cX5_passes) = true := by decide +kernel
theorem dX5_passes_32 : decode cX5_passes 32 = .ok (.aload_n 0, 1) := dck_get daX5_passes_t1 0 rfl
theorem dX5_passes_33 : decode cX5_passes 33 = .ok (.getfield 46, 3) := dck_get daX5_passes_t1 1 rfl
theorem dX5_passes_36 : decode cX5_passes 36 = .ok (.aload_n 0, 1) := dck_get daX5_passes_t1 2 rfl
theorem dX5_passes_37 : decode cX5_passes 37 = .ok (.getfield 140, 3) := dck_get daX5_passes_t1 3 rfl
theorem dX5_passes_40 : decode cX5_passes 40 = .ok (.iaload, 1) := dck_get daX5_passes_t1 4 rfl
theorem dX5_passes_41 : decode cX5_passes 41 = .ok (.iastore, 1) := dck_get daX5_passes_t1 5 rfl
theorem dX5_passes_42 : decode cX5_passes 42 = .ok (.aload_n 0, 1) := dck_get daX5_passes_t1 6 rfl
theorem dX5_passes_43 : decode cX5_passes 43 = .ok (.dup, 1) := dck_get daX5_passes_t1 7 rfl
theorem dX5_passes_44 : decode cX5_passes 44 = .ok (.getfield 140, 3) := dck_get daX5_passes_t1 8 rfl
theorem dX5_passes_47 : decode cX5_passes 47 = .ok (.iconst 1, 1) := dck_get daX5_passes_t1 9 rfl
theorem dX5_passes_48 : decode cX5_passes 48 = .ok (.iadd, 1) := dck_get daX5_passes_t1 10 rfl
theorem dX5_passes_49 : decode cX5_passes 49 = .ok (.putfield 140, 3) := dck_get daX5_passes_t1 11 rfl
theorem dX5_passes_52 : decode cX5_passes 52 = .ok (.iinc 2 1, 3) := dck_get daX5_passes_t1 12 rfl
theorem dX5_passes_55 : decode cX5_passes 55 = .ok (.goto (-53), 3) := dck_get daX5_passes_t1 13 rfl
theorem dX5_passes_58 : decode cX5_passes 58 = .ok (.return_, 1) := dck_get daX5_passes_t1 14 rfl
def dtX5_passOne_t0 : List (Nat × Instr × Nat) := [(0, .aload_n 0, 1), (1, .getfield 136, 3), (4, .ifCond .eq 7, 3), (7, .iload_n 1, 1), (8, .goto 12, 3), (11, .aload_n 0, 1), (12, .getfield 46, 3), (15, .aload_n 0, 1), (16, .getfield 140, 3), (19, .iaload, 1), (20, .istore_n 2, 1), (21, .aload_n 0, 1), (22, .getfield 136, 3), (25, .ifCond .eq 13, 3), (28, .aload_n 0, 1), (29, .getfield 46, 3), (32, .aload_n 0, 1), (33, .getfield 140, 3), (36, .iload_n 1, 1), (37, .iastore, 1)]
theorem daX5_passOne_t0 : dtX5_passOne_t0.all (dck cX5_passOne) = true := by decide +kernel
theorem dX5_passOne_0 : decode cX5_passOne 0 = .ok (.aload_n 0, 1) := dck_get daX5_passOne_t0 0 rfl
theorem dX5_passOne_1 : decode cX5_passOne 1 = .ok (.getfield 136, 3) := dck_get daX5_passOne_t0 1 rfl
theorem dX5_passOne_4 : decode cX5_passOne 4 = .ok (.ifCond .eq 7, 3) := dck_get daX5_passOne_t0 2 rfl
theorem dX5_passOne_7 : decode cX5_passOne 7 = .ok (.iload_n 1, 1) := dck_get daX5_passOne_t0 3 rfl
theorem dX5_passOne_8 : decode cX5_passOne 8 = .ok (.goto 12, 3) := dck_get daX5_passOne_t0 4 rfl
theorem dX5_passOne_11 : decode cX5_passOne 11 = .ok (.aload_n 0, 1) := dck_get daX5_passOne_t0 5 rfl
theorem dX5_passOne_12 : decode cX5_passOne 12 = .ok (.getfield 46, 3) := dck_get daX5_passOne_t0 6 rfl
theorem dX5_passOne_15 : decode cX5_passOne 15 = .ok (.aload_n 0, 1) := dck_get daX5_passOne_t0 7 rfl
theorem dX5_passOne_16 : decode cX5_passOne 16 = .ok (.getfield 140, 3) := dck_get daX5_passOne_t0 8 rfl
theorem dX5_passOne_19 : decode cX5_passOne 19 = .ok (.iaload, 1) := dck_get daX5_passOne_t0 9 rfl
theorem dX5_passOne_20 : decode cX5_passOne 20 = .ok (.istore_n 2, 1) := dck_get daX5_passOne_t0 10 rfl
theorem dX5_passOne_21 : decode cX5_passOne 21 = .ok (.aload_n 0, 1) := dck_get daX5_passOne_t0 11 rfl
theorem dX5_passOne_22 : decode cX5_passOne 22 = .ok (.getfield 136, 3) := dck_get daX5_passOne_t0 12 rfl
theorem dX5_passOne_25 : decode cX5_passOne 25 = .ok (.ifCond .eq 13, 3) := dck_get daX5_passOne_t0 13 rfl
theorem dX5_passOne_28 : decode cX5_passOne 28 = .ok (.aload_n 0, 1) := dck_get daX5_passOne_t0 14 rfl
theorem dX5_passOne_29 : decode cX5_passOne 29 = .ok (.getfield 46, 3) := dck_get daX5_passOne_t0 15 rfl
theorem dX5_passOne_32 : decode cX5_passOne 32 = .ok (.aload_n 0, 1) := dck_get daX5_passOne_t0 16 rfl
theorem dX5_passOne_33 : decode cX5_passOne 33 = .ok (.getfield 140, 3) := dck_get daX5_passOne_t0 17 rfl
theorem dX5_passOne_36 : decode cX5_passOne 36 = .ok (.iload_n 1, 1) := dck_get daX5_passOne_t0 18 rfl
theorem dX5_passOne_37 : decode cX5_passOne 37 = .ok (.iastore, 1) := dck_get daX5_passOne_t0 19 rfl
def dtX5_passOne_t1 : List (Nat × Instr × Nat) := [(38, .aload_n 0, 1), (39, .dup, 1), (40, .getfield 140, 3), (43, .iconst 1, 1), (44, .iadd, 1), (45, .putfield 140, 3), (48, .iload_n 2, 1), (49, .ireturn, 1)]
theorem daX5_passOne_t1 : dtX5_passOne_t1.all (dck cX5_passOne) = true := by decide +kernel
theorem dX5_passOne_38 : decode cX5_passOne 38 = .ok (.aload_n 0, 1) := dck_get daX5_passOne_t1 0 rfl
theorem dX5_passOne_39 : decode cX5_passOne 39 = .ok (.dup, 1) := dck_get daX5_passOne_t1 1 rfl
theorem dX5_passOne_40 : decode cX5_passOne 40 = .ok (.getfield 140, 3) := dck_get daX5_passOne_t1 2 rfl
theorem dX5_passOne_43 : decode cX5_passOne 43 = .ok (.iconst 1, 1) := dck_get daX5_passOne_t1 3 rfl
theorem dX5_passOne_44 : decode cX5_passOne 44 = .ok (.iadd, 1) := dck_get daX5_passOne_t1 4 rfl
theorem dX5_passOne_45 : decode cX5_passOne 45 = .ok (.putfield 140, 3) := dck_get daX5_passOne_t1 5 rfl
theorem dX5_passOne_48 : decode cX5_passOne 48 = .ok (.iload_n 2, 1) := dck_get daX5_passOne_t1 6 rfl
theorem dX5_passOne_49 : decode cX5_passOne 49 = .ok (.ireturn, 1) := dck_get daX5_passOne_t1 7 rfl
set_option maxRecDepth 20000 in
theorem gw_wsX5_passes : wsX5_passes.all goodWord = true := by decide +kernel
set_option maxRecDepth 20000 in
theorem ggX5_passesAll_X5_passes : GoodIn wsX5_passesAll wsX5_passes := goodIn_sub (List.forall_mem_cons.mpr ⟨(List.mem_of_getElem? (i := 14) rfl), (List.forall_mem_append.mpr ⟨(List.forall_mem_cons.mpr ⟨(List.mem_of_getElem? (i := 2) rfl), (List.forall_mem_cons.mpr ⟨(List.mem_of_getElem? (i := 15) rfl), (List.forall_mem_cons.mpr ⟨(List.mem_of_getElem? (i := 1) rfl), (fun _ h => absurd h List.not_mem_nil)⟩)⟩)⟩), (fun _ h => (List.mem_cons_of_mem _ (List.mem_append_right _ h)))⟩)⟩) gw_wsX5_passes
set_option maxRecDepth 20000 in
theorem gX5_passesAll_X5_passes : GoodIn wsX5_passesAll (wsV RX5 143 RX5 yX5_passes wsX5_passes) := goodIn_app (goodIn_sub (List.forall_mem_cons.mpr ⟨(List.mem_of_getElem? (i := 10) rfl), (List.forall_mem_cons.mpr ⟨(List.mem_of_getElem? (i := 11) rfl), (List.forall_mem_cons.mpr ⟨(List.mem_of_getElem? (i := 12) rfl), (List.forall_mem_cons.mpr ⟨(List.mem_of_getElem? (i := 13) rfl), (fun _ h => absurd h List.not_mem_nil)⟩)⟩)⟩)⟩) (by decide +kernel)) ggX5_passesAll_X5_passes
set_option maxRecDepth 20000 in
theorem gw_wsX5_passOne : wsX5_passOne.all goodWord = true := by decide +kernel
set_option maxRecDepth 20000 in
theorem ggX5_passesAll_X5_passOne : GoodIn wsX5_passesAll wsX5_passOne := goodIn_sub (List.forall_mem_cons.mpr ⟨(List.mem_of_getElem? (i := 19) rfl), (List.forall_mem_append.mpr ⟨(List.forall_mem_cons.mpr ⟨(List.mem_of_getElem? (i := 2) rfl), (List.forall_mem_cons.mpr ⟨(List.mem_of_getElem? (i := 15) rfl), (List.forall_mem_cons.mpr ⟨(List.mem_of_getElem? (i := 1) rfl), (fun _ h => absurd h List.not_mem_nil)⟩)⟩)⟩), (fun _ h => (List.mem_cons_of_mem _ (List.mem_append_right _ h)))⟩)⟩) gw_wsX5_passOne
set_option maxRecDepth 20000 in
theorem gX5_passesAll_X5_passOne : GoodIn wsX5_passesAll (wsV RX5 147 RX5 yX5_passOne wsX5_passOne) := goodIn_app (goodIn_sub (List.forall_mem_cons.mpr ⟨(List.mem_of_getElem? (i := 16) rfl), (List.forall_mem_cons.mpr ⟨(List.mem_of_getElem? (i := 17) rfl), (List.forall_mem_cons.mpr ⟨(List.mem_of_getElem? (i := 18) rfl), (List.forall_mem_cons.mpr ⟨(List.mem_of_getElem? (i := 13) rfl), (fun _ h => absurd h List.not_mem_nil)⟩)⟩)⟩)⟩) (by decide +kernel)) ggX5_passesAll_X5_passOne
def dtX5_passesAll_t0 : List (Nat × Instr × Nat) := [(0, .aload_n 0, 1), (1, .bipush 43, 2), (3, .iload_n 1, 1), (4, .imul, 1), (5, .putfield 140, 3), (8, .aload_n 0, 1), (9, .iload_n 2, 1), (10, .putfield 136, 3), (13, .aload_n 0, 1), (14, .aload_n 0, 1), (15, .getfield 13, 3), (18, .invokevirtual 143, 3), (21, .aload_n 0, 1), (22, .aload_n 0, 1), (23, .getfield 16, 3), (26, .invokevirtual 143, 3), (29, .aload_n 0, 1), (30, .aload_n 0, 1), (31, .getfield 19, 3), (34, .invokevirtual 143, 3)]
theorem daX5_passesAll_t0 : dtX5_passesAll_t0.all (dck cX5_passesAll) = true := by decide +kernel
theorem dX5_passesAll_0 : decode cX5_passesAll 0 = .ok (.aload_n 0, 1) := dck_get daX5_passesAll_t0 0 rfl
theorem dX5_passesAll_1 : decode cX5_passesAll 1 = .ok (.bipush 43, 2) := dck_get daX5_passesAll_t0 1 rfl
theorem dX5_passesAll_3 : decode cX5_passesAll 3 = .ok (.iload_n 1, 1) := dck_get daX5_passesAll_t0 2 rfl
theorem dX5_passesAll_4 : decode cX5_passesAll 4 = .ok (.imul, 1) := dck_get daX5_passesAll_t0 3 rfl
theorem dX5_passesAll_5 : decode cX5_passesAll 5 = .ok (.putfield 140, 3) := dck_get daX5_passesAll_t0 4 rfl
theorem dX5_passesAll_8 : decode cX5_passesAll 8 = .ok (.aload_n 0, 1) := dck_get daX5_passesAll_t0 5 rfl
theorem dX5_passesAll_9 : decode cX5_passesAll 9 = .ok (.iload_n 2, 1) := dck_get daX5_passesAll_t0 6 rfl
theorem dX5_passesAll_10 : decode cX5_passesAll 10 = .ok (.putfield 136, 3) := dck_get daX5_passesAll_t0 7 rfl
theorem dX5_passesAll_13 : decode cX5_passesAll 13 = .ok (.aload_n 0, 1) := dck_get daX5_passesAll_t0 8 rfl
theorem dX5_passesAll_14 : decode cX5_passesAll 14 = .ok (.aload_n 0, 1) := dck_get daX5_passesAll_t0 9 rfl
theorem dX5_passesAll_15 : decode cX5_passesAll 15 = .ok (.getfield 13, 3) := dck_get daX5_passesAll_t0 10 rfl
theorem dX5_passesAll_18 : decode cX5_passesAll 18 = .ok (.invokevirtual 143, 3) := dck_get daX5_passesAll_t0 11 rfl
theorem dX5_passesAll_21 : decode cX5_passesAll 21 = .ok (.aload_n 0, 1) := dck_get daX5_passesAll_t0 12 rfl
theorem dX5_passesAll_22 : decode cX5_passesAll 22 = .ok (.aload_n 0, 1) := dck_get daX5_passesAll_t0 13 rfl
theorem dX5_passesAll_23 : decode cX5_passesAll 23 = .ok (.getfield 16, 3) := dck_get daX5_passesAll_t0 14 rfl
theorem dX5_passesAll_26 : decode cX5_passesAll 26 = .ok (.invokevirtual 143, 3) := dck_get daX5_passesAll_t0 15 rfl
theorem dX5_passesAll_29 : decode cX5_passesAll 29 = .ok (.aload_n 0, 1) := dck_get daX5_passesAll_t0 16 rfl
theorem dX5_passesAll_30 : decode cX5_passesAll 30 = .ok (.aload_n 0, 1) := dck_get daX5_passesAll_t0 17 rfl
theorem dX5_passesAll_31 : decode cX5_passesAll 31 = .ok (.getfield 19, 3) := dck_get daX5_passesAll_t0 18 rfl
theorem dX5_passesAll_34 : decode cX5_passesAll 34 = .ok (.invokevirtual 143, 3) := dck_get daX5_passesAll_t0 19 rfl
def dtX5_passesAll_t1 : List (Nat × Instr × Nat) := [(37, .aload_n 0, 1), (38, .aload_n 0, 1), (39, .getfield 22, 3), (42, .invokevirtual 143, 3), (45, .aload_n 0, 1), (46, .aload_n 0, 1), (47, .getfield 25, 3), (50, .invokevirtual 143, 3), (53, .aload_n 0, 1), (54, .aload_n 0, 1), (55, .aload_n 0, 1), (56, .getfield 57, 3), (59, .invokevirtual 147, 3), (62, .putfield 57, 3), (65, .aload_n 0, 1), (66, .aload_n 0, 1), (67, .aload_n 0, 1), (68, .getfield 107, 3), (71, .invokevirtual 147, 3), (74, .putfield 107, 3)]
theorem daX5_passesAll_t1 : dtX5_passesAll_t1.all (dck cX5_passesAll) = true := by decide +kernel
theorem dX5_passesAll_37 : decode cX5_passesAll 37 = .ok (.aload_n 0, 1) := dck_get daX5_passesAll_t1 0 rfl
theorem dX5_passesAll_38 : decode cX5_passesAll 38 = .ok (.aload_n 0, 1) := dck_get daX5_passesAll_t1 1 rfl
theorem dX5_passesAll_39 : decode cX5_passesAll 39 = .ok (.getfield 22, 3) := dck_get daX5_passesAll_t1 2 rfl
theorem dX5_passesAll_42 : decode cX5_passesAll 42 = .ok (.invokevirtual 143, 3) := dck_get daX5_passesAll_t1 3 rfl
theorem dX5_passesAll_45 : decode cX5_passesAll 45 = .ok (.aload_n 0, 1) := dck_get daX5_passesAll_t1 4 rfl
theorem dX5_passesAll_46 : decode cX5_passesAll 46 = .ok (.aload_n 0, 1) := dck_get daX5_passesAll_t1 5 rfl
theorem dX5_passesAll_47 : decode cX5_passesAll 47 = .ok (.getfield 25, 3) := dck_get daX5_passesAll_t1 6 rfl
theorem dX5_passesAll_50 : decode cX5_passesAll 50 = .ok (.invokevirtual 143, 3) := dck_get daX5_passesAll_t1 7 rfl
theorem dX5_passesAll_53 : decode cX5_passesAll 53 = .ok (.aload_n 0, 1) := dck_get daX5_passesAll_t1 8 rfl
theorem dX5_passesAll_54 : decode cX5_passesAll 54 = .ok (.aload_n 0, 1) := dck_get daX5_passesAll_t1 9 rfl
theorem dX5_passesAll_55 : decode cX5_passesAll 55 = .ok (.aload_n 0, 1) := dck_get daX5_passesAll_t1 10 rfl
theorem dX5_passesAll_56 : decode cX5_passesAll 56 = .ok (.getfield 57, 3) := dck_get daX5_passesAll_t1 11 rfl
theorem dX5_passesAll_59 : decode cX5_passesAll 59 = .ok (.invokevirtual 147, 3) := dck_get daX5_passesAll_t1 12 rfl
theorem dX5_passesAll_62 : decode cX5_passesAll 62 = .ok (.putfield 57, 3) := dck_get daX5_passesAll_t1 13 rfl
theorem dX5_passesAll_65 : decode cX5_passesAll 65 = .ok (.aload_n 0, 1) := dck_get daX5_passesAll_t1 14 rfl
theorem dX5_passesAll_66 : decode cX5_passesAll 66 = .ok (.aload_n 0, 1) := dck_get daX5_passesAll_t1 15 rfl
theorem dX5_passesAll_67 : decode cX5_passesAll 67 = .ok (.aload_n 0, 1) := dck_get daX5_passesAll_t1 16 rfl
theorem dX5_passesAll_68 : decode cX5_passesAll 68 = .ok (.getfield 107, 3) := dck_get daX5_passesAll_t1 17 rfl
theorem dX5_passesAll_71 : decode cX5_passesAll 71 = .ok (.invokevirtual 147, 3) := dck_get daX5_passesAll_t1 18 rfl
theorem dX5_passesAll_74 : decode cX5_passesAll 74 = .ok (.putfield 107, 3) := dck_get daX5_passesAll_t1 19 rfl
def dtX5_passesAll_t2 : List (Nat × Instr × Nat) := [(77, .return_, 1)]
theorem daX5_passesAll_t2 : dtX5_passesAll_t2.all (dck cX5_passesAll) = true := by decide +kernel
theorem dX5_passesAll_77 : decode cX5_passesAll 77 = .ok (.return_, 1) := dck_get daX5_passesAll_t2 0 rfl
set_option maxRecDepth 20000 in
theorem ggX5_image_X5_passesAll : GoodIn wsX5_image wsX5_passesAll := goodIn_sub (List.forall_mem_cons.mpr ⟨(List.mem_of_getElem? (i := 7) rfl), (List.forall_mem_append.mpr ⟨(List.forall_mem_cons.mpr ⟨(List.mem_of_getElem? (i := 8) rfl), (List.forall_mem_cons.mpr ⟨(List.mem_of_getElem? (i := 9) rfl), (List.forall_mem_cons.mpr ⟨(List.mem_of_getElem? (i := 10) rfl), (List.forall_mem_cons.mpr ⟨(List.mem_of_getElem? (i := 11) rfl), (List.forall_mem_cons.mpr ⟨(List.mem_of_getElem? (i := 12) rfl), (List.forall_mem_cons.mpr ⟨(List.mem_of_getElem? (i := 13) rfl), (List.forall_mem_cons.mpr ⟨(List.mem_of_getElem? (i := 14) rfl), (List.forall_mem_cons.mpr ⟨(List.mem_of_getElem? (i := 15) rfl), (List.forall_mem_cons.mpr ⟨(List.mem_of_getElem? (i := 2) rfl), (List.forall_mem_cons.mpr ⟨(List.mem_of_getElem? (i := 16) rfl), (List.forall_mem_cons.mpr ⟨(List.mem_of_getElem? (i := 17) rfl), (List.forall_mem_cons.mpr ⟨(List.mem_of_getElem? (i := 18) rfl), (List.forall_mem_cons.mpr ⟨(List.mem_of_getElem? (i := 6) rfl), (List.forall_mem_cons.mpr ⟨(List.mem_of_getElem? (i := 19) rfl), (List.forall_mem_cons.mpr ⟨(List.mem_of_getElem? (i := 20) rfl), (List.forall_mem_cons.mpr ⟨(List.mem_of_getElem? (i := 21) rfl), (List.forall_mem_cons.mpr ⟨(List.mem_of_getElem? (i := 22) rfl), (List.forall_mem_cons.mpr ⟨(List.mem_of_getElem? (i := 23) rfl), (List.forall_mem_cons.mpr ⟨(List.mem_of_getElem? (i := 24) rfl), (fun _ h => absurd h List.not_mem_nil)⟩)⟩)⟩)⟩)⟩)⟩)⟩)⟩)⟩)⟩)⟩)⟩)⟩)⟩)⟩)⟩)⟩)⟩)⟩), (fun _ h => (List.mem_cons_of_mem _ (List.mem_append_right _ h)))⟩)⟩) gw_wsX5_passesAll
set_option maxRecDepth 20000 in
theorem gX5_image_X5_passesAll : GoodIn wsX5_image (wsV RX5 129 RX5 yX5_passesAll wsX5_passesAll) := goodIn_app (goodIn_sub (List.forall_mem_cons.mpr ⟨(List.mem_of_getElem? (i := 3) rfl), (List.forall_mem_cons.mpr ⟨(List.mem_of_getElem? (i := 4) rfl), (List.forall_mem_cons.mpr ⟨(List.mem_of_getElem? (i := 5) rfl), (List.forall_mem_cons.mpr ⟨(List.mem_of_getElem? (i := 6) rfl), (fun _ h => absurd h List.not_mem_nil)⟩)⟩)⟩)⟩) (by decide +kernel)) ggX5_image_X5_passesAll
def dtX5_image_t0 : List (Nat × Instr × Nat) := [(0, .aload_n 0, 1), (1, .iconst 1, 1), (2, .putfield 150, 3), (5, .aload_n 0, 1), (6, .iconst 0, 1), (7, .iconst 1, 1), (8, .invokevirtual 129, 3), (11, .aload_n 0, 1), (12, .getfield 107, 3), (15, .ireturn, 1)]
theorem daX5_image_t0 : dtX5_image_t0.all (dck cX5_image) = true := by decide +kernel
theorem dX5_image_0 : decode cX5_image 0 = .ok (.aload_n 0, 1) := dck_get daX5_image_t0 0 rfl
theorem dX5_image_1 : decode cX5_image 1 = .ok (.iconst 1, 1) := dck_get daX5_image_t0 1 rfl
theorem dX5_image_2 : decode cX5_image 2 = .ok (.putfield 150, 3) := dck_get daX5_image_t0 2 rfl
theorem dX5_image_5 : decode cX5_image 5 = .ok (.aload_n 0, 1) := dck_get daX5_image_t0 3 rfl
theorem dX5_image_6 : decode cX5_image 6 = .ok (.iconst 0, 1) := dck_get daX5_image_t0 4 rfl
theorem dX5_image_7 : decode cX5_image 7 = .ok (.iconst 1, 1) := dck_get daX5_image_t0 5 rfl
theorem dX5_image_8 : decode cX5_image 8 = .ok (.invokevirtual 129, 3) := dck_get daX5_image_t0 6 rfl
theorem dX5_image_11 : decode cX5_image 11 = .ok (.aload_n 0, 1) := dck_get daX5_image_t0 7 rfl
theorem dX5_image_12 : decode cX5_image 12 = .ok (.getfield 107, 3) := dck_get daX5_image_t0 8 rfl
theorem dX5_image_15 : decode cX5_image 15 = .ok (.ireturn, 1) := dck_get daX5_image_t0 9 rfl
set_option maxRecDepth 20000 in
theorem ggX5_back_X5_no : GoodIn wsX5_back wsX5_no := goodIn_sub (List.forall_mem_cons.mpr ⟨(List.mem_of_getElem? (i := 7) rfl), (List.forall_mem_append.mpr ⟨(List.forall_mem_cons.mpr ⟨(List.mem_of_getElem? (i := 8) rfl), (fun _ h => absurd h List.not_mem_nil)⟩), (fun _ h => (List.mem_cons_of_mem _ (List.mem_append_right _ h)))⟩)⟩) gw_wsX5_no
set_option maxRecDepth 20000 in
theorem gX5_back_X5_no : GoodIn wsX5_back (wsV RX5 68 RX5 yX5_no wsX5_no) := goodIn_app (goodIn_sub (List.forall_mem_cons.mpr ⟨(List.mem_of_getElem? (i := 3) rfl), (List.forall_mem_cons.mpr ⟨(List.mem_of_getElem? (i := 4) rfl), (List.forall_mem_cons.mpr ⟨(List.mem_of_getElem? (i := 5) rfl), (List.forall_mem_cons.mpr ⟨(List.mem_of_getElem? (i := 6) rfl), (fun _ h => absurd h List.not_mem_nil)⟩)⟩)⟩)⟩) (by decide +kernel)) ggX5_back_X5_no
set_option maxRecDepth 20000 in
theorem ggX5_back_X5_passesAll : GoodIn wsX5_back wsX5_passesAll := goodIn_sub (List.forall_mem_cons.mpr ⟨(List.mem_of_getElem? (i := 12) rfl), (List.forall_mem_append.mpr ⟨(List.forall_mem_cons.mpr ⟨(List.mem_of_getElem? (i := 13) rfl), (List.forall_mem_cons.mpr ⟨(List.mem_of_getElem? (i := 14) rfl), (List.forall_mem_cons.mpr ⟨(List.mem_of_getElem? (i := 15) rfl), (List.forall_mem_cons.mpr ⟨(List.mem_of_getElem? (i := 16) rfl), (List.forall_mem_cons.mpr ⟨(List.mem_of_getElem? (i := 17) rfl), (List.forall_mem_cons.mpr ⟨(List.mem_of_getElem? (i := 18) rfl), (List.forall_mem_cons.mpr ⟨(List.mem_of_getElem? (i := 19) rfl), (List.forall_mem_cons.mpr ⟨(List.mem_of_getElem? (i := 20) rfl), (List.forall_mem_cons.mpr ⟨(List.mem_of_getElem? (i := 2) rfl), (List.forall_mem_cons.mpr ⟨(List.mem_of_getElem? (i := 21) rfl), (List.forall_mem_cons.mpr ⟨(List.mem_of_getElem? (i := 22) rfl), (List.forall_mem_cons.mpr ⟨(List.mem_of_getElem? (i := 23) rfl), (List.forall_mem_cons.mpr ⟨(List.mem_of_getElem? (i := 6) rfl), (List.forall_mem_cons.mpr ⟨(List.mem_of_getElem? (i := 24) rfl), (List.forall_mem_cons.mpr ⟨(List.mem_of_getElem? (i := 25) rfl), (List.forall_mem_cons.mpr ⟨(List.mem_of_getElem? (i := 26) rfl), (List.forall_mem_cons.mpr ⟨(List.mem_of_getElem? (i := 27) rfl), (List.forall_mem_cons.mpr ⟨(List.mem_of_getElem? (i := 28) rfl), (List.forall_mem_cons.mpr ⟨(List.mem_of_getElem? (i := 29) rfl), (fun _ h => absurd h List.not_mem_nil)⟩)⟩)⟩)⟩)⟩)⟩)⟩)⟩)⟩)⟩)⟩)⟩)⟩)⟩)⟩)⟩)⟩)⟩)⟩), (fun _ h => (List.mem_cons_of_mem _ (List.mem_append_right _ h)))⟩)⟩) gw_wsX5_passesAll
set_option maxRecDepth 20000 in
theorem gX5_back_X5_passesAll : GoodIn wsX5_back (wsV RX5 129 RX5 yX5_passesAll wsX5_passesAll) := goodIn_app (goodIn_sub (List.forall_mem_cons.mpr ⟨(List.mem_of_getElem? (i := 9) rfl), (List.forall_mem_cons.mpr ⟨(List.mem_of_getElem? (i := 10) rfl), (List.forall_mem_cons.mpr ⟨(List.mem_of_getElem? (i := 11) rfl), (List.forall_mem_cons.mpr ⟨(List.mem_of_getElem? (i := 6) rfl), (fun _ h => absurd h List.not_mem_nil)⟩)⟩)⟩)⟩) (by decide +kernel)) ggX5_back_X5_passesAll
def dtX5_back_t0 : List (Nat × Instr × Nat) := [(0, .aload_n 0, 1), (1, .getfield 150, 3), (4, .ifCond .ne 10, 3), (7, .aload_n 0, 1), (8, .bipush (-3), 2), (10, .invokevirtual 68, 3), (13, .ireturn, 1), (14, .aload_n 0, 1), (15, .iconst 0, 1), (16, .iconst 0, 1), (17, .invokevirtual 129, 3), (20, .aload_n 0, 1), (21, .getfield 107, 3), (24, .ireturn, 1)]
theorem daX5_back_t0 : dtX5_back_t0.all (dck cX5_back) = true := by decide +kernel
theorem dX5_back_0 : decode cX5_back 0 = .ok (.aload_n 0, 1) := dck_get daX5_back_t0 0 rfl
theorem dX5_back_1 : decode cX5_back 1 = .ok (.getfield 150, 3) := dck_get daX5_back_t0 1 rfl
theorem dX5_back_4 : decode cX5_back 4 = .ok (.ifCond .ne 10, 3) := dck_get daX5_back_t0 2 rfl
theorem dX5_back_7 : decode cX5_back 7 = .ok (.aload_n 0, 1) := dck_get daX5_back_t0 3 rfl
theorem dX5_back_8 : decode cX5_back 8 = .ok (.bipush (-3), 2) := dck_get daX5_back_t0 4 rfl
theorem dX5_back_10 : decode cX5_back 10 = .ok (.invokevirtual 68, 3) := dck_get daX5_back_t0 5 rfl
theorem dX5_back_13 : decode cX5_back 13 = .ok (.ireturn, 1) := dck_get daX5_back_t0 6 rfl
theorem dX5_back_14 : decode cX5_back 14 = .ok (.aload_n 0, 1) := dck_get daX5_back_t0 7 rfl
theorem dX5_back_15 : decode cX5_back 15 = .ok (.iconst 0, 1) := dck_get daX5_back_t0 8 rfl
theorem dX5_back_16 : decode cX5_back 16 = .ok (.iconst 0, 1) := dck_get daX5_back_t0 9 rfl
theorem dX5_back_17 : decode cX5_back 17 = .ok (.invokevirtual 129, 3) := dck_get daX5_back_t0 10 rfl
theorem dX5_back_20 : decode cX5_back 20 = .ok (.aload_n 0, 1) := dck_get daX5_back_t0 11 rfl
theorem dX5_back_21 : decode cX5_back 21 = .ok (.getfield 107, 3) := dck_get daX5_back_t0 12 rfl
theorem dX5_back_24 : decode cX5_back 24 = .ok (.ireturn, 1) := dck_get daX5_back_t0 13 rfl
def dtX5_entryOf_t0 : List (Nat × Instr × Nat) := [(0, .iload_n 1, 1), (1, .bipush 10, 2), (3, .idiv, 1), (4, .istore_n 2, 1), (5, .iload_n 0, 1), (6, .iconst 3, 1), (7, .if_icmp .ne 7, 3), (10, .iconst 0, 1), (11, .goto 23, 3), (14, .iload_n 0, 1), (15, .iconst 5, 1), (16, .if_icmp .ne 17, 3), (19, .iload_n 2, 1), (20, .ifCond .le 9, 3), (23, .iload_n 2, 1), (24, .iconst 1, 1), (25, .isub, 1), (26, .goto 8, 3), (29, .iconst 0, 1), (30, .goto 4, 3)]
theorem daX5_entryOf_t0 : dtX5_entryOf_t0.all (dck cX5_entryOf) = true := by decide +kernel
theorem dX5_entryOf_0 : decode cX5_entryOf 0 = .ok (.iload_n 1, 1) := dck_get daX5_entryOf_t0 0 rfl
theorem dX5_entryOf_1 : decode cX5_entryOf 1 = .ok (.bipush 10, 2) := dck_get daX5_entryOf_t0 1 rfl
theorem dX5_entryOf_3 : decode cX5_entryOf 3 = .ok (.idiv, 1) := dck_get daX5_entryOf_t0 2 rfl
theorem dX5_entryOf_4 : decode cX5_entryOf 4 = .ok (.istore_n 2, 1) := dck_get daX5_entryOf_t0 3 rfl
theorem dX5_entryOf_5 : decode cX5_entryOf 5 = .ok (.iload_n 0, 1) := dck_get daX5_entryOf_t0 4 rfl
theorem dX5_entryOf_6 : decode cX5_entryOf 6 = .ok (.iconst 3, 1) := dck_get daX5_entryOf_t0 5 rfl
theorem dX5_entryOf_7 : decode cX5_entryOf 7 = .ok (.if_icmp .ne 7, 3) := dck_get daX5_entryOf_t0 6 rfl
theorem dX5_entryOf_10 : decode cX5_entryOf 10 = .ok (.iconst 0, 1) := dck_get daX5_entryOf_t0 7 rfl
theorem dX5_entryOf_11 : decode cX5_entryOf 11 = .ok (.goto 23, 3) := dck_get daX5_entryOf_t0 8 rfl
theorem dX5_entryOf_14 : decode cX5_entryOf 14 = .ok (.iload_n 0, 1) := dck_get daX5_entryOf_t0 9 rfl
theorem dX5_entryOf_15 : decode cX5_entryOf 15 = .ok (.iconst 5, 1) := dck_get daX5_entryOf_t0 10 rfl
theorem dX5_entryOf_16 : decode cX5_entryOf 16 = .ok (.if_icmp .ne 17, 3) := dck_get daX5_entryOf_t0 11 rfl
theorem dX5_entryOf_19 : decode cX5_entryOf 19 = .ok (.iload_n 2, 1) := dck_get daX5_entryOf_t0 12 rfl
theorem dX5_entryOf_20 : decode cX5_entryOf 20 = .ok (.ifCond .le 9, 3) := dck_get daX5_entryOf_t0 13 rfl
theorem dX5_entryOf_23 : decode cX5_entryOf 23 = .ok (.iload_n 2, 1) := dck_get daX5_entryOf_t0 14 rfl
theorem dX5_entryOf_24 : decode cX5_entryOf 24 = .ok (.iconst 1, 1) := dck_get daX5_entryOf_t0 15 rfl
theorem dX5_entryOf_25 : decode cX5_entryOf 25 = .ok (.isub, 1) := dck_get daX5_entryOf_t0 16 rfl
theorem dX5_entryOf_26 : decode cX5_entryOf 26 = .ok (.goto 8, 3) := dck_get daX5_entryOf_t0 17 rfl
theorem dX5_entryOf_29 : decode cX5_entryOf 29 = .ok (.iconst 0, 1) := dck_get daX5_entryOf_t0 18 rfl
theorem dX5_entryOf_30 : decode cX5_entryOf 30 = .ok (.goto 4, 3) := dck_get daX5_entryOf_t0 19 rfl
def dtX5_entryOf_t1 : List (Nat × Instr × Nat) := [(33, .iload_n 2, 1), (34, .ireturn, 1)]
theorem daX5_entryOf_t1 : dtX5_entryOf_t1.all (dck cX5_entryOf) = true := by decide +kernel
theorem dX5_entryOf_33 : decode cX5_entryOf 33 = .ok (.iload_n 2, 1) := dck_get daX5_entryOf_t1 0 rfl
theorem dX5_entryOf_34 : decode cX5_entryOf 34 = .ok (.ireturn, 1) := dck_get daX5_entryOf_t1 1 rfl
set_option maxRecDepth 20000 in
theorem gw_wsX5_least : wsX5_least.all goodWord = true := by decide +kernel
set_option maxRecDepth 20000 in
theorem ggX5_chanceOf_X5_least : GoodIn wsX5_chanceOf wsX5_least := goodIn_sub (List.forall_mem_cons.mpr ⟨(List.mem_of_getElem? (i := 6) rfl), (fun _ h => absurd h List.not_mem_nil)⟩) gw_wsX5_least
set_option maxRecDepth 20000 in
theorem gX5_chanceOf_X5_least : GoodIn wsX5_chanceOf (va_wsS RX5 153 yX5_least wsX5_least) := goodIn_app (goodIn_sub (List.forall_mem_cons.mpr ⟨(List.mem_of_getElem? (i := 3) rfl), (List.forall_mem_cons.mpr ⟨(List.mem_of_getElem? (i := 4) rfl), (List.forall_mem_cons.mpr ⟨(List.mem_of_getElem? (i := 5) rfl), (fun _ h => absurd h List.not_mem_nil)⟩)⟩)⟩) (by decide +kernel)) ggX5_chanceOf_X5_least
def dtX5_chanceOf_t0 : List (Nat × Instr × Nat) := [(0, .aload_n 0, 1), (1, .getfield 16, 3), (4, .iload_n 1, 1), (5, .iaload, 1), (6, .bipush 10, 2), (8, .idiv, 1), (9, .istore_n 2, 1), (10, .aload_n 0, 1), (11, .getfield 13, 3), (14, .iload_n 1, 1), (15, .iaload, 1), (16, .tableswitch 79 1 5 #[36, 40, 79, 49, 60], 36), (52, .iload_n 2, 1), (53, .iconst 2, 1), (54, .idiv, 1), (55, .ireturn, 1), (56, .bipush 10, 2), (58, .iload_n 2, 1), (59, .iconst 3, 1), (60, .iadd, 1)]
theorem daX5_chanceOf_t0 : dtX5_chanceOf_t0.all (dck cX5_chanceOf) = true := by decide +kernel
theorem dX5_chanceOf_0 : decode cX5_chanceOf 0 = .ok (.aload_n 0, 1) := dck_get daX5_chanceOf_t0 0 rfl
theorem dX5_chanceOf_1 : decode cX5_chanceOf 1 = .ok (.getfield 16, 3) := dck_get daX5_chanceOf_t0 1 rfl
theorem dX5_chanceOf_4 : decode cX5_chanceOf 4 = .ok (.iload_n 1, 1) := dck_get daX5_chanceOf_t0 2 rfl
theorem dX5_chanceOf_5 : decode cX5_chanceOf 5 = .ok (.iaload, 1) := dck_get daX5_chanceOf_t0 3 rfl
theorem dX5_chanceOf_6 : decode cX5_chanceOf 6 = .ok (.bipush 10, 2) := dck_get daX5_chanceOf_t0 4 rfl
theorem dX5_chanceOf_8 : decode cX5_chanceOf 8 = .ok (.idiv, 1) := dck_get daX5_chanceOf_t0 5 rfl
theorem dX5_chanceOf_9 : decode cX5_chanceOf 9 = .ok (.istore_n 2, 1) := dck_get daX5_chanceOf_t0 6 rfl
theorem dX5_chanceOf_10 : decode cX5_chanceOf 10 = .ok (.aload_n 0, 1) := dck_get daX5_chanceOf_t0 7 rfl
theorem dX5_chanceOf_11 : decode cX5_chanceOf 11 = .ok (.getfield 13, 3) := dck_get daX5_chanceOf_t0 8 rfl
theorem dX5_chanceOf_14 : decode cX5_chanceOf 14 = .ok (.iload_n 1, 1) := dck_get daX5_chanceOf_t0 9 rfl
theorem dX5_chanceOf_15 : decode cX5_chanceOf 15 = .ok (.iaload, 1) := dck_get daX5_chanceOf_t0 10 rfl
theorem dX5_chanceOf_16 : decode cX5_chanceOf 16 = .ok (.tableswitch 79 1 5 #[36, 40, 79, 49, 60], 36) := dck_get daX5_chanceOf_t0 11 rfl
theorem dX5_chanceOf_52 : decode cX5_chanceOf 52 = .ok (.iload_n 2, 1) := dck_get daX5_chanceOf_t0 12 rfl
theorem dX5_chanceOf_53 : decode cX5_chanceOf 53 = .ok (.iconst 2, 1) := dck_get daX5_chanceOf_t0 13 rfl
theorem dX5_chanceOf_54 : decode cX5_chanceOf 54 = .ok (.idiv, 1) := dck_get daX5_chanceOf_t0 14 rfl
theorem dX5_chanceOf_55 : decode cX5_chanceOf 55 = .ok (.ireturn, 1) := dck_get daX5_chanceOf_t0 15 rfl
theorem dX5_chanceOf_56 : decode cX5_chanceOf 56 = .ok (.bipush 10, 2) := dck_get daX5_chanceOf_t0 16 rfl
theorem dX5_chanceOf_58 : decode cX5_chanceOf 58 = .ok (.iload_n 2, 1) := dck_get daX5_chanceOf_t0 17 rfl
theorem dX5_chanceOf_59 : decode cX5_chanceOf 59 = .ok (.iconst 3, 1) := dck_get daX5_chanceOf_t0 18 rfl
theorem dX5_chanceOf_60 : decode cX5_chanceOf 60 = .ok (.iadd, 1) := dck_get daX5_chanceOf_t0 19 rfl
def dtX5_chanceOf_t1 : List (Nat × Instr × Nat) := [(61, .invokestatic 153, 3), (64, .ireturn, 1), (65, .bipush 10, 2), (67, .iload_n 2, 1), (68, .iconst 3, 1), (69, .iadd, 1), (70, .invokestatic 153, 3), (73, .iconst 2, 1), (74, .isub, 1), (75, .ireturn, 1), (76, .aload_n 0, 1), (77, .getfield 16, 3), (80, .iload_n 1, 1), (81, .iaload, 1), (82, .bipush 50, 2), (84, .if_icmp .ge 7, 3), (87, .iconst 0, 1), (88, .goto 6, 3), (91, .iload_n 2, 1), (92, .iconst 2, 1)]
theorem daX5_chanceOf_t1 : dtX5_chanceOf_t1.all (dck cX5_chanceOf) = true := by decide +kernel
theorem dX5_chanceOf_61 : decode cX5_chanceOf 61 = .ok (.invokestatic 153, 3) := dck_get daX5_chanceOf_t1 0 rfl
theorem dX5_chanceOf_64 : decode cX5_chanceOf 64 = .ok (.ireturn, 1) := dck_get daX5_chanceOf_t1 1 rfl
theorem dX5_chanceOf_65 : decode cX5_chanceOf 65 = .ok (.bipush 10, 2) := dck_get daX5_chanceOf_t1 2 rfl
theorem dX5_chanceOf_67 : decode cX5_chanceOf 67 = .ok (.iload_n 2, 1) := dck_get daX5_chanceOf_t1 3 rfl
theorem dX5_chanceOf_68 : decode cX5_chanceOf 68 = .ok (.iconst 3, 1) := dck_get daX5_chanceOf_t1 4 rfl
theorem dX5_chanceOf_69 : decode cX5_chanceOf 69 = .ok (.iadd, 1) := dck_get daX5_chanceOf_t1 5 rfl
theorem dX5_chanceOf_70 : decode cX5_chanceOf 70 = .ok (.invokestatic 153, 3) := dck_get daX5_chanceOf_t1 6 rfl
theorem dX5_chanceOf_73 : decode cX5_chanceOf 73 = .ok (.iconst 2, 1) := dck_get daX5_chanceOf_t1 7 rfl
theorem dX5_chanceOf_74 : decode cX5_chanceOf 74 = .ok (.isub, 1) := dck_get daX5_chanceOf_t1 8 rfl
theorem dX5_chanceOf_75 : decode cX5_chanceOf 75 = .ok (.ireturn, 1) := dck_get daX5_chanceOf_t1 9 rfl
theorem dX5_chanceOf_76 : decode cX5_chanceOf 76 = .ok (.aload_n 0, 1) := dck_get daX5_chanceOf_t1 10 rfl
theorem dX5_chanceOf_77 : decode cX5_chanceOf 77 = .ok (.getfield 16, 3) := dck_get daX5_chanceOf_t1 11 rfl
theorem dX5_chanceOf_80 : decode cX5_chanceOf 80 = .ok (.iload_n 1, 1) := dck_get daX5_chanceOf_t1 12 rfl
theorem dX5_chanceOf_81 : decode cX5_chanceOf 81 = .ok (.iaload, 1) := dck_get daX5_chanceOf_t1 13 rfl
theorem dX5_chanceOf_82 : decode cX5_chanceOf 82 = .ok (.bipush 50, 2) := dck_get daX5_chanceOf_t1 14 rfl
theorem dX5_chanceOf_84 : decode cX5_chanceOf 84 = .ok (.if_icmp .ge 7, 3) := dck_get daX5_chanceOf_t1 15 rfl
theorem dX5_chanceOf_87 : decode cX5_chanceOf 87 = .ok (.iconst 0, 1) := dck_get daX5_chanceOf_t1 16 rfl
theorem dX5_chanceOf_88 : decode cX5_chanceOf 88 = .ok (.goto 6, 3) := dck_get daX5_chanceOf_t1 17 rfl
theorem dX5_chanceOf_91 : decode cX5_chanceOf 91 = .ok (.iload_n 2, 1) := dck_get daX5_chanceOf_t1 18 rfl
theorem dX5_chanceOf_92 : decode cX5_chanceOf 92 = .ok (.iconst 2, 1) := dck_get daX5_chanceOf_t1 19 rfl
def dtX5_chanceOf_t2 : List (Nat × Instr × Nat) := [(93, .idiv, 1), (94, .ireturn, 1), (95, .iload_n 2, 1), (96, .ireturn, 1)]
theorem daX5_chanceOf_t2 : dtX5_chanceOf_t2.all (dck cX5_chanceOf) = true := by decide +kernel
theorem dX5_chanceOf_93 : decode cX5_chanceOf 93 = .ok (.idiv, 1) := dck_get daX5_chanceOf_t2 0 rfl
theorem dX5_chanceOf_94 : decode cX5_chanceOf 94 = .ok (.ireturn, 1) := dck_get daX5_chanceOf_t2 1 rfl
theorem dX5_chanceOf_95 : decode cX5_chanceOf 95 = .ok (.iload_n 2, 1) := dck_get daX5_chanceOf_t2 2 rfl
theorem dX5_chanceOf_96 : decode cX5_chanceOf 96 = .ok (.ireturn, 1) := dck_get daX5_chanceOf_t2 3 rfl
set_option maxRecDepth 20000 in
theorem ggX5_climbs_X5_least : GoodIn wsX5_climbs wsX5_least := goodIn_sub (List.forall_mem_cons.mpr ⟨(List.mem_of_getElem? (i := 4) rfl), (fun _ h => absurd h List.not_mem_nil)⟩) gw_wsX5_least
set_option maxRecDepth 20000 in
theorem gX5_climbs_X5_least : GoodIn wsX5_climbs (va_wsS RX5 153 yX5_least wsX5_least) := goodIn_app (goodIn_sub (List.forall_mem_cons.mpr ⟨(List.mem_of_getElem? (i := 1) rfl), (List.forall_mem_cons.mpr ⟨(List.mem_of_getElem? (i := 2) rfl), (List.forall_mem_cons.mpr ⟨(List.mem_of_getElem? (i := 3) rfl), (fun _ h => absurd h List.not_mem_nil)⟩)⟩)⟩) (by decide +kernel)) ggX5_climbs_X5_least
def dtX5_climbs_t0 : List (Nat × Instr × Nat) := [(0, .bipush 9, 2), (2, .iload_n 1, 1), (3, .bipush 12, 2), (5, .idiv, 1), (6, .isub, 1), (7, .istore_n 2, 1), (8, .iload_n 0, 1), (9, .iconst 1, 1), (10, .if_icmp .eq 8, 3), (13, .iload_n 0, 1), (14, .iconst 5, 1), (15, .if_icmp .ne 14, 3), (18, .bipush 9, 2), (20, .iload_n 2, 1), (21, .iconst 2, 1), (22, .iadd, 1), (23, .invokestatic 153, 3), (26, .goto 4, 3), (29, .iload_n 2, 1), (30, .ireturn, 1)]
theorem daX5_climbs_t0 : dtX5_climbs_t0.all (dck cX5_climbs) = true := by decide +kernel
theorem dX5_climbs_0 : decode cX5_climbs 0 = .ok (.bipush 9, 2) := dck_get daX5_climbs_t0 0 rfl
theorem dX5_climbs_2 : decode cX5_climbs 2 = .ok (.iload_n 1, 1) := dck_get daX5_climbs_t0 1 rfl
theorem dX5_climbs_3 : decode cX5_climbs 3 = .ok (.bipush 12, 2) := dck_get daX5_climbs_t0 2 rfl
theorem dX5_climbs_5 : decode cX5_climbs 5 = .ok (.idiv, 1) := dck_get daX5_climbs_t0 3 rfl
theorem dX5_climbs_6 : decode cX5_climbs 6 = .ok (.isub, 1) := dck_get daX5_climbs_t0 4 rfl
theorem dX5_climbs_7 : decode cX5_climbs 7 = .ok (.istore_n 2, 1) := dck_get daX5_climbs_t0 5 rfl
theorem dX5_climbs_8 : decode cX5_climbs 8 = .ok (.iload_n 0, 1) := dck_get daX5_climbs_t0 6 rfl
theorem dX5_climbs_9 : decode cX5_climbs 9 = .ok (.iconst 1, 1) := dck_get daX5_climbs_t0 7 rfl
theorem dX5_climbs_10 : decode cX5_climbs 10 = .ok (.if_icmp .eq 8, 3) := dck_get daX5_climbs_t0 8 rfl
theorem dX5_climbs_13 : decode cX5_climbs 13 = .ok (.iload_n 0, 1) := dck_get daX5_climbs_t0 9 rfl
theorem dX5_climbs_14 : decode cX5_climbs 14 = .ok (.iconst 5, 1) := dck_get daX5_climbs_t0 10 rfl
theorem dX5_climbs_15 : decode cX5_climbs 15 = .ok (.if_icmp .ne 14, 3) := dck_get daX5_climbs_t0 11 rfl
theorem dX5_climbs_18 : decode cX5_climbs 18 = .ok (.bipush 9, 2) := dck_get daX5_climbs_t0 12 rfl
theorem dX5_climbs_20 : decode cX5_climbs 20 = .ok (.iload_n 2, 1) := dck_get daX5_climbs_t0 13 rfl
theorem dX5_climbs_21 : decode cX5_climbs 21 = .ok (.iconst 2, 1) := dck_get daX5_climbs_t0 14 rfl
theorem dX5_climbs_22 : decode cX5_climbs 22 = .ok (.iadd, 1) := dck_get daX5_climbs_t0 15 rfl
theorem dX5_climbs_23 : decode cX5_climbs 23 = .ok (.invokestatic 153, 3) := dck_get daX5_climbs_t0 16 rfl
theorem dX5_climbs_26 : decode cX5_climbs 26 = .ok (.goto 4, 3) := dck_get daX5_climbs_t0 17 rfl
theorem dX5_climbs_29 : decode cX5_climbs 29 = .ok (.iload_n 2, 1) := dck_get daX5_climbs_t0 18 rfl
theorem dX5_climbs_30 : decode cX5_climbs 30 = .ok (.ireturn, 1) := dck_get daX5_climbs_t0 19 rfl
def dtX5_movesOf_t0 : List (Nat × Instr × Nat) := [(0, .aload_n 0, 1), (1, .getfield 19, 3), (4, .iload_n 1, 1), (5, .iaload, 1), (6, .ifCond .lt 31, 3), (9, .iload_n 2, 1), (10, .iload_n 1, 1), (11, .ishr, 1), (12, .iconst 1, 1), (13, .iand, 1), (14, .iconst 1, 1), (15, .if_icmp .eq 22, 3), (18, .aload_n 0, 1), (19, .getfield 13, 3), (22, .iload_n 1, 1), (23, .iaload, 1), (24, .iconst 3, 1), (25, .if_icmp .ne 14, 3), (28, .aload_n 0, 1), (29, .getfield 19, 3)]
theorem daX5_movesOf_t0 : dtX5_movesOf_t0.all (dck cX5_movesOf) = true := by decide +kernel
theorem dX5_movesOf_0 : decode cX5_movesOf 0 = .ok (.aload_n 0, 1) := dck_get daX5_movesOf_t0 0 rfl
theorem dX5_movesOf_1 : decode cX5_movesOf 1 = .ok (.getfield 19, 3) := dck_get daX5_movesOf_t0 1 rfl
theorem dX5_movesOf_4 : decode cX5_movesOf 4 = .ok (.iload_n 1, 1) := dck_get daX5_movesOf_t0 2 rfl
theorem dX5_movesOf_5 : decode cX5_movesOf 5 = .ok (.iaload, 1) := dck_get daX5_movesOf_t0 3 rfl
theorem dX5_movesOf_6 : decode cX5_movesOf 6 = .ok (.ifCond .lt 31, 3) := dck_get daX5_movesOf_t0 4 rfl
theorem dX5_movesOf_9 : decode cX5_movesOf 9 = .ok (.iload_n 2, 1) := dck_get daX5_movesOf_t0 5 rfl
theorem dX5_movesOf_10 : decode cX5_movesOf 10 = .ok (.iload_n 1, 1) := dck_get daX5_movesOf_t0 6 rfl
theorem dX5_movesOf_11 : decode cX5_movesOf 11 = .ok (.ishr, 1) := dck_get daX5_movesOf_t0 7 rfl
theorem dX5_movesOf_12 : decode cX5_movesOf 12 = .ok (.iconst 1, 1) := dck_get daX5_movesOf_t0 8 rfl
theorem dX5_movesOf_13 : decode cX5_movesOf 13 = .ok (.iand, 1) := dck_get daX5_movesOf_t0 9 rfl
theorem dX5_movesOf_14 : decode cX5_movesOf 14 = .ok (.iconst 1, 1) := dck_get daX5_movesOf_t0 10 rfl
theorem dX5_movesOf_15 : decode cX5_movesOf 15 = .ok (.if_icmp .eq 22, 3) := dck_get daX5_movesOf_t0 11 rfl
theorem dX5_movesOf_18 : decode cX5_movesOf 18 = .ok (.aload_n 0, 1) := dck_get daX5_movesOf_t0 12 rfl
theorem dX5_movesOf_19 : decode cX5_movesOf 19 = .ok (.getfield 13, 3) := dck_get daX5_movesOf_t0 13 rfl
theorem dX5_movesOf_22 : decode cX5_movesOf 22 = .ok (.iload_n 1, 1) := dck_get daX5_movesOf_t0 14 rfl
theorem dX5_movesOf_23 : decode cX5_movesOf 23 = .ok (.iaload, 1) := dck_get daX5_movesOf_t0 15 rfl
theorem dX5_movesOf_24 : decode cX5_movesOf 24 = .ok (.iconst 3, 1) := dck_get daX5_movesOf_t0 16 rfl
theorem dX5_movesOf_25 : decode cX5_movesOf 25 = .ok (.if_icmp .ne 14, 3) := dck_get daX5_movesOf_t0 17 rfl
theorem dX5_movesOf_28 : decode cX5_movesOf 28 = .ok (.aload_n 0, 1) := dck_get daX5_movesOf_t0 18 rfl
theorem dX5_movesOf_29 : decode cX5_movesOf 29 = .ok (.getfield 19, 3) := dck_get daX5_movesOf_t0 19 rfl
def dtX5_movesOf_t1 : List (Nat × Instr × Nat) := [(32, .iload_n 1, 1), (33, .iaload, 1), (34, .ifCond .ne 5, 3), (37, .iconst 0, 1), (38, .ireturn, 1), (39, .iconst 0, 1), (40, .istore_n 3, 1), (41, .iconst 0, 1), (42, .istore 4, 2), (44, .iload 4, 2), (46, .aload_n 0, 1), (47, .getfield 57, 3), (50, .if_icmp .ge 43, 3), (53, .iload_n 3, 1), (54, .iload_n 2, 1), (55, .iload 4, 2), (57, .ishr, 1), (58, .iconst 1, 1), (59, .iand, 1), (60, .iconst 1, 1)]
theorem daX5_movesOf_t1 : dtX5_movesOf_t1.all (dck cX5_movesOf) = true := by decide +kernel
theorem dX5_movesOf_32 : decode cX5_movesOf 32 = .ok (.iload_n 1, 1) := dck_get daX5_movesOf_t1 0 rfl
theorem dX5_movesOf_33 : decode cX5_movesOf 33 = .ok (.iaload, 1) := dck_get daX5_movesOf_t1 1 rfl
theorem dX5_movesOf_34 : decode cX5_movesOf 34 = .ok (.ifCond .ne 5, 3) := dck_get daX5_movesOf_t1 2 rfl
theorem dX5_movesOf_37 : decode cX5_movesOf 37 = .ok (.iconst 0, 1) := dck_get daX5_movesOf_t1 3 rfl
theorem dX5_movesOf_38 : decode cX5_movesOf 38 = .ok (.ireturn, 1) := dck_get daX5_movesOf_t1 4 rfl
theorem dX5_movesOf_39 : decode cX5_movesOf 39 = .ok (.iconst 0, 1) := dck_get daX5_movesOf_t1 5 rfl
theorem dX5_movesOf_40 : decode cX5_movesOf 40 = .ok (.istore_n 3, 1) := dck_get daX5_movesOf_t1 6 rfl
theorem dX5_movesOf_41 : decode cX5_movesOf 41 = .ok (.iconst 0, 1) := dck_get daX5_movesOf_t1 7 rfl
theorem dX5_movesOf_42 : decode cX5_movesOf 42 = .ok (.istore 4, 2) := dck_get daX5_movesOf_t1 8 rfl
theorem dX5_movesOf_44 : decode cX5_movesOf 44 = .ok (.iload 4, 2) := dck_get daX5_movesOf_t1 9 rfl
theorem dX5_movesOf_46 : decode cX5_movesOf 46 = .ok (.aload_n 0, 1) := dck_get daX5_movesOf_t1 10 rfl
theorem dX5_movesOf_47 : decode cX5_movesOf 47 = .ok (.getfield 57, 3) := dck_get daX5_movesOf_t1 11 rfl
theorem dX5_movesOf_50 : decode cX5_movesOf 50 = .ok (.if_icmp .ge 43, 3) := dck_get daX5_movesOf_t1 12 rfl
theorem dX5_movesOf_53 : decode cX5_movesOf 53 = .ok (.iload_n 3, 1) := dck_get daX5_movesOf_t1 13 rfl
theorem dX5_movesOf_54 : decode cX5_movesOf 54 = .ok (.iload_n 2, 1) := dck_get daX5_movesOf_t1 14 rfl
theorem dX5_movesOf_55 : decode cX5_movesOf 55 = .ok (.iload 4, 2) := dck_get daX5_movesOf_t1 15 rfl
theorem dX5_movesOf_57 : decode cX5_movesOf 57 = .ok (.ishr, 1) := dck_get daX5_movesOf_t1 16 rfl
theorem dX5_movesOf_58 : decode cX5_movesOf 58 = .ok (.iconst 1, 1) := dck_get daX5_movesOf_t1 17 rfl
theorem dX5_movesOf_59 : decode cX5_movesOf 59 = .ok (.iand, 1) := dck_get daX5_movesOf_t1 18 rfl
theorem dX5_movesOf_60 : decode cX5_movesOf 60 = .ok (.iconst 1, 1) := dck_get daX5_movesOf_t1 19 rfl
def dtX5_movesOf_t2 : List (Nat × Instr × Nat) := [(61, .if_icmp .ne 23, 3), (64, .aload_n 0, 1), (65, .getfield 19, 3), (68, .iload 4, 2), (70, .iaload, 1), (71, .aload_n 0, 1), (72, .getfield 19, 3), (75, .iload_n 1, 1), (76, .iaload, 1), (77, .if_icmp .le 7, 3), (80, .iconst 1, 1), (81, .goto 4, 3), (84, .iconst 0, 1), (85, .iadd, 1), (86, .istore_n 3, 1), (87, .iinc 4 1, 3), (90, .goto (-46), 3), (93, .iload_n 3, 1), (94, .ireturn, 1)]
theorem daX5_movesOf_t2 : dtX5_movesOf_t2.all (dck cX5_movesOf) = true := by decide +kernel
theorem dX5_movesOf_61 : decode cX5_movesOf 61 = .ok (.if_icmp .ne 23, 3) := dck_get daX5_movesOf_t2 0 rfl
theorem dX5_movesOf_64 : decode cX5_movesOf 64 = .ok (.aload_n 0, 1) := dck_get daX5_movesOf_t2 1 rfl
theorem dX5_movesOf_65 : decode cX5_movesOf 65 = .ok (.getfield 19, 3) := dck_get daX5_movesOf_t2 2 rfl
theorem dX5_movesOf_68 : decode cX5_movesOf 68 = .ok (.iload 4, 2) := dck_get daX5_movesOf_t2 3 rfl
theorem dX5_movesOf_70 : decode cX5_movesOf 70 = .ok (.iaload, 1) := dck_get daX5_movesOf_t2 4 rfl
theorem dX5_movesOf_71 : decode cX5_movesOf 71 = .ok (.aload_n 0, 1) := dck_get daX5_movesOf_t2 5 rfl
theorem dX5_movesOf_72 : decode cX5_movesOf 72 = .ok (.getfield 19, 3) := dck_get daX5_movesOf_t2 6 rfl
theorem dX5_movesOf_75 : decode cX5_movesOf 75 = .ok (.iload_n 1, 1) := dck_get daX5_movesOf_t2 7 rfl
theorem dX5_movesOf_76 : decode cX5_movesOf 76 = .ok (.iaload, 1) := dck_get daX5_movesOf_t2 8 rfl
theorem dX5_movesOf_77 : decode cX5_movesOf 77 = .ok (.if_icmp .le 7, 3) := dck_get daX5_movesOf_t2 9 rfl
theorem dX5_movesOf_80 : decode cX5_movesOf 80 = .ok (.iconst 1, 1) := dck_get daX5_movesOf_t2 10 rfl
theorem dX5_movesOf_81 : decode cX5_movesOf 81 = .ok (.goto 4, 3) := dck_get daX5_movesOf_t2 11 rfl
theorem dX5_movesOf_84 : decode cX5_movesOf 84 = .ok (.iconst 0, 1) := dck_get daX5_movesOf_t2 12 rfl
theorem dX5_movesOf_85 : decode cX5_movesOf 85 = .ok (.iadd, 1) := dck_get daX5_movesOf_t2 13 rfl
theorem dX5_movesOf_86 : decode cX5_movesOf 86 = .ok (.istore_n 3, 1) := dck_get daX5_movesOf_t2 14 rfl
theorem dX5_movesOf_87 : decode cX5_movesOf 87 = .ok (.iinc 4 1, 3) := dck_get daX5_movesOf_t2 15 rfl
theorem dX5_movesOf_90 : decode cX5_movesOf 90 = .ok (.goto (-46), 3) := dck_get daX5_movesOf_t2 16 rfl
theorem dX5_movesOf_93 : decode cX5_movesOf 93 = .ok (.iload_n 3, 1) := dck_get daX5_movesOf_t2 17 rfl
theorem dX5_movesOf_94 : decode cX5_movesOf 94 = .ok (.ireturn, 1) := dck_get daX5_movesOf_t2 18 rfl
set_option maxRecDepth 20000 in
theorem gw_wsX5_movesOf : wsX5_movesOf.all goodWord = true := by decide +kernel
set_option maxRecDepth 20000 in
theorem ggX5_goesYear_X5_movesOf : GoodIn wsX5_goesYear wsX5_movesOf := goodIn_sub (List.forall_mem_cons.mpr ⟨(List.mem_of_getElem? (i := 10) rfl), (List.forall_mem_append.mpr ⟨(List.forall_mem_cons.mpr ⟨(List.mem_of_getElem? (i := 3) rfl), (List.forall_mem_cons.mpr ⟨(List.mem_of_getElem? (i := 11) rfl), (List.forall_mem_cons.mpr ⟨(List.mem_of_getElem? (i := 1) rfl), (fun _ h => absurd h List.not_mem_nil)⟩)⟩)⟩), (fun _ h => (List.mem_cons_of_mem _ (List.mem_append_right _ h)))⟩)⟩) gw_wsX5_movesOf
set_option maxRecDepth 20000 in
theorem gX5_goesYear_X5_movesOf : GoodIn wsX5_goesYear (wsV RX5 156 RX5 yX5_movesOf wsX5_movesOf) := goodIn_app (goodIn_sub (List.forall_mem_cons.mpr ⟨(List.mem_of_getElem? (i := 6) rfl), (List.forall_mem_cons.mpr ⟨(List.mem_of_getElem? (i := 7) rfl), (List.forall_mem_cons.mpr ⟨(List.mem_of_getElem? (i := 8) rfl), (List.forall_mem_cons.mpr ⟨(List.mem_of_getElem? (i := 9) rfl), (fun _ h => absurd h List.not_mem_nil)⟩)⟩)⟩)⟩) (by decide +kernel)) ggX5_goesYear_X5_movesOf
set_option maxRecDepth 20000 in
theorem ggX5_goesYear_X5_least : GoodIn wsX5_goesYear wsX5_least := goodIn_sub (List.forall_mem_cons.mpr ⟨(List.mem_of_getElem? (i := 14) rfl), (fun _ h => absurd h List.not_mem_nil)⟩) gw_wsX5_least
set_option maxRecDepth 20000 in
theorem gX5_goesYear_X5_least : GoodIn wsX5_goesYear (va_wsS RX5 153 yX5_least wsX5_least) := goodIn_app (goodIn_sub (List.forall_mem_cons.mpr ⟨(List.mem_of_getElem? (i := 12) rfl), (List.forall_mem_cons.mpr ⟨(List.mem_of_getElem? (i := 13) rfl), (List.forall_mem_cons.mpr ⟨(List.mem_of_getElem? (i := 9) rfl), (fun _ h => absurd h List.not_mem_nil)⟩)⟩)⟩) (by decide +kernel)) ggX5_goesYear_X5_least
def dtX5_goesYear_t0 : List (Nat × Instr × Nat) := [(0, .iconst 0, 1), (1, .istore_n 2, 1), (2, .iconst 0, 1), (3, .istore_n 3, 1), (4, .iload_n 3, 1), (5, .aload_n 0, 1), (6, .getfield 57, 3), (9, .if_icmp .ge 21, 3), (12, .aload_n 0, 1), (13, .getfield 49, 3), (16, .iload_n 3, 1), (17, .aload_n 0, 1), (18, .iload_n 3, 1), (19, .iload_n 1, 1), (20, .invokevirtual 156, 3), (23, .iastore, 1), (24, .iinc 3 1, 3), (27, .goto (-23), 3), (30, .iconst 0, 1), (31, .istore_n 3, 1)]
theorem daX5_goesYear_t0 : dtX5_goesYear_t0.all (dck cX5_goesYear) = true := by decide +kernel
theorem dX5_goesYear_0 : decode cX5_goesYear 0 = .ok (.iconst 0, 1) := dck_get daX5_goesYear_t0 0 rfl
theorem dX5_goesYear_1 : decode cX5_goesYear 1 = .ok (.istore_n 2, 1) := dck_get daX5_goesYear_t0 1 rfl
theorem dX5_goesYear_2 : decode cX5_goesYear 2 = .ok (.iconst 0, 1) := dck_get daX5_goesYear_t0 2 rfl
theorem dX5_goesYear_3 : decode cX5_goesYear 3 = .ok (.istore_n 3, 1) := dck_get daX5_goesYear_t0 3 rfl
theorem dX5_goesYear_4 : decode cX5_goesYear 4 = .ok (.iload_n 3, 1) := dck_get daX5_goesYear_t0 4 rfl
theorem dX5_goesYear_5 : decode cX5_goesYear 5 = .ok (.aload_n 0, 1) := dck_get daX5_goesYear_t0 5 rfl
theorem dX5_goesYear_6 : decode cX5_goesYear 6 = .ok (.getfield 57, 3) := dck_get daX5_goesYear_t0 6 rfl
theorem dX5_goesYear_9 : decode cX5_goesYear 9 = .ok (.if_icmp .ge 21, 3) := dck_get daX5_goesYear_t0 7 rfl
theorem dX5_goesYear_12 : decode cX5_goesYear 12 = .ok (.aload_n 0, 1) := dck_get daX5_goesYear_t0 8 rfl
theorem dX5_goesYear_13 : decode cX5_goesYear 13 = .ok (.getfield 49, 3) := dck_get daX5_goesYear_t0 9 rfl
theorem dX5_goesYear_16 : decode cX5_goesYear 16 = .ok (.iload_n 3, 1) := dck_get daX5_goesYear_t0 10 rfl
theorem dX5_goesYear_17 : decode cX5_goesYear 17 = .ok (.aload_n 0, 1) := dck_get daX5_goesYear_t0 11 rfl
theorem dX5_goesYear_18 : decode cX5_goesYear 18 = .ok (.iload_n 3, 1) := dck_get daX5_goesYear_t0 12 rfl
theorem dX5_goesYear_19 : decode cX5_goesYear 19 = .ok (.iload_n 1, 1) := dck_get daX5_goesYear_t0 13 rfl
theorem dX5_goesYear_20 : decode cX5_goesYear 20 = .ok (.invokevirtual 156, 3) := dck_get daX5_goesYear_t0 14 rfl
theorem dX5_goesYear_23 : decode cX5_goesYear 23 = .ok (.iastore, 1) := dck_get daX5_goesYear_t0 15 rfl
theorem dX5_goesYear_24 : decode cX5_goesYear 24 = .ok (.iinc 3 1, 3) := dck_get daX5_goesYear_t0 16 rfl
theorem dX5_goesYear_27 : decode cX5_goesYear 27 = .ok (.goto (-23), 3) := dck_get daX5_goesYear_t0 17 rfl
theorem dX5_goesYear_30 : decode cX5_goesYear 30 = .ok (.iconst 0, 1) := dck_get daX5_goesYear_t0 18 rfl
theorem dX5_goesYear_31 : decode cX5_goesYear 31 = .ok (.istore_n 3, 1) := dck_get daX5_goesYear_t0 19 rfl
def dtX5_goesYear_t1 : List (Nat × Instr × Nat) := [(32, .iload_n 3, 1), (33, .aload_n 0, 1), (34, .getfield 57, 3), (37, .if_icmp .ge 88, 3), (40, .iload_n 1, 1), (41, .iload_n 3, 1), (42, .ishr, 1), (43, .iconst 1, 1), (44, .iand, 1), (45, .iconst 1, 1), (46, .if_icmp .ne 10, 3), (49, .aload_n 0, 1), (50, .getfield 19, 3), (53, .iload_n 3, 1), (54, .iconst (-1), 1), (55, .iastore, 1), (56, .aload_n 0, 1), (57, .getfield 19, 3), (60, .iload_n 3, 1), (61, .iaload, 1)]
theorem daX5_goesYear_t1 : dtX5_goesYear_t1.all (dck cX5_goesYear) = true := by decide +kernel
theorem dX5_goesYear_32 : decode cX5_goesYear 32 = .ok (.iload_n 3, 1) := dck_get daX5_goesYear_t1 0 rfl
theorem dX5_goesYear_33 : decode cX5_goesYear 33 = .ok (.aload_n 0, 1) := dck_get daX5_goesYear_t1 1 rfl
theorem dX5_goesYear_34 : decode cX5_goesYear 34 = .ok (.getfield 57, 3) := dck_get daX5_goesYear_t1 2 rfl
theorem dX5_goesYear_37 : decode cX5_goesYear 37 = .ok (.if_icmp .ge 88, 3) := dck_get daX5_goesYear_t1 3 rfl
theorem dX5_goesYear_40 : decode cX5_goesYear 40 = .ok (.iload_n 1, 1) := dck_get daX5_goesYear_t1 4 rfl
theorem dX5_goesYear_41 : decode cX5_goesYear 41 = .ok (.iload_n 3, 1) := dck_get daX5_goesYear_t1 5 rfl
theorem dX5_goesYear_42 : decode cX5_goesYear 42 = .ok (.ishr, 1) := dck_get daX5_goesYear_t1 6 rfl
theorem dX5_goesYear_43 : decode cX5_goesYear 43 = .ok (.iconst 1, 1) := dck_get daX5_goesYear_t1 7 rfl
theorem dX5_goesYear_44 : decode cX5_goesYear 44 = .ok (.iand, 1) := dck_get daX5_goesYear_t1 8 rfl
theorem dX5_goesYear_45 : decode cX5_goesYear 45 = .ok (.iconst 1, 1) := dck_get daX5_goesYear_t1 9 rfl
theorem dX5_goesYear_46 : decode cX5_goesYear 46 = .ok (.if_icmp .ne 10, 3) := dck_get daX5_goesYear_t1 10 rfl
theorem dX5_goesYear_49 : decode cX5_goesYear 49 = .ok (.aload_n 0, 1) := dck_get daX5_goesYear_t1 11 rfl
theorem dX5_goesYear_50 : decode cX5_goesYear 50 = .ok (.getfield 19, 3) := dck_get daX5_goesYear_t1 12 rfl
theorem dX5_goesYear_53 : decode cX5_goesYear 53 = .ok (.iload_n 3, 1) := dck_get daX5_goesYear_t1 13 rfl
theorem dX5_goesYear_54 : decode cX5_goesYear 54 = .ok (.iconst (-1), 1) := dck_get daX5_goesYear_t1 14 rfl
theorem dX5_goesYear_55 : decode cX5_goesYear 55 = .ok (.iastore, 1) := dck_get daX5_goesYear_t1 15 rfl
theorem dX5_goesYear_56 : decode cX5_goesYear 56 = .ok (.aload_n 0, 1) := dck_get daX5_goesYear_t1 16 rfl
theorem dX5_goesYear_57 : decode cX5_goesYear 57 = .ok (.getfield 19, 3) := dck_get daX5_goesYear_t1 17 rfl
theorem dX5_goesYear_60 : decode cX5_goesYear 60 = .ok (.iload_n 3, 1) := dck_get daX5_goesYear_t1 18 rfl
theorem dX5_goesYear_61 : decode cX5_goesYear 61 = .ok (.iaload, 1) := dck_get daX5_goesYear_t1 19 rfl
def dtX5_goesYear_t2 : List (Nat × Instr × Nat) := [(62, .ifCond .ge 6, 3), (65, .goto 54, 3), (68, .aload_n 0, 1), (69, .getfield 19, 3), (72, .iload_n 3, 1), (73, .dup2, 1), (74, .iaload, 1), (75, .aload_n 0, 1), (76, .getfield 49, 3), (79, .iload_n 3, 1), (80, .iaload, 1), (81, .iadd, 1), (82, .iastore, 1), (83, .aload_n 0, 1), (84, .getfield 16, 3), (87, .iload_n 3, 1), (88, .bipush 99, 2), (90, .aload_n 0, 1), (91, .getfield 16, 3), (94, .iload_n 3, 1)]
theorem daX5_goesYear_t2 : dtX5_goesYear_t2.all (dck cX5_goesYear) = true := by decide +kernel
theorem dX5_goesYear_62 : decode cX5_goesYear 62 = .ok (.ifCond .ge 6, 3) := dck_get daX5_goesYear_t2 0 rfl
theorem dX5_goesYear_65 : decode cX5_goesYear 65 = .ok (.goto 54, 3) := dck_get daX5_goesYear_t2 1 rfl
theorem dX5_goesYear_68 : decode cX5_goesYear 68 = .ok (.aload_n 0, 1) := dck_get daX5_goesYear_t2 2 rfl
theorem dX5_goesYear_69 : decode cX5_goesYear 69 = .ok (.getfield 19, 3) := dck_get daX5_goesYear_t2 3 rfl
theorem dX5_goesYear_72 : decode cX5_goesYear 72 = .ok (.iload_n 3, 1) := dck_get daX5_goesYear_t2 4 rfl
theorem dX5_goesYear_73 : decode cX5_goesYear 73 = .ok (.dup2, 1) := dck_get daX5_goesYear_t2 5 rfl
theorem dX5_goesYear_74 : decode cX5_goesYear 74 = .ok (.iaload, 1) := dck_get daX5_goesYear_t2 6 rfl
theorem dX5_goesYear_75 : decode cX5_goesYear 75 = .ok (.aload_n 0, 1) := dck_get daX5_goesYear_t2 7 rfl
theorem dX5_goesYear_76 : decode cX5_goesYear 76 = .ok (.getfield 49, 3) := dck_get daX5_goesYear_t2 8 rfl
theorem dX5_goesYear_79 : decode cX5_goesYear 79 = .ok (.iload_n 3, 1) := dck_get daX5_goesYear_t2 9 rfl
theorem dX5_goesYear_80 : decode cX5_goesYear 80 = .ok (.iaload, 1) := dck_get daX5_goesYear_t2 10 rfl
theorem dX5_goesYear_81 : decode cX5_goesYear 81 = .ok (.iadd, 1) := dck_get daX5_goesYear_t2 11 rfl
theorem dX5_goesYear_82 : decode cX5_goesYear 82 = .ok (.iastore, 1) := dck_get daX5_goesYear_t2 12 rfl
theorem dX5_goesYear_83 : decode cX5_goesYear 83 = .ok (.aload_n 0, 1) := dck_get daX5_goesYear_t2 13 rfl
theorem dX5_goesYear_84 : decode cX5_goesYear 84 = .ok (.getfield 16, 3) := dck_get daX5_goesYear_t2 14 rfl
theorem dX5_goesYear_87 : decode cX5_goesYear 87 = .ok (.iload_n 3, 1) := dck_get daX5_goesYear_t2 15 rfl
theorem dX5_goesYear_88 : decode cX5_goesYear 88 = .ok (.bipush 99, 2) := dck_get daX5_goesYear_t2 16 rfl
theorem dX5_goesYear_90 : decode cX5_goesYear 90 = .ok (.aload_n 0, 1) := dck_get daX5_goesYear_t2 17 rfl
theorem dX5_goesYear_91 : decode cX5_goesYear 91 = .ok (.getfield 16, 3) := dck_get daX5_goesYear_t2 18 rfl
theorem dX5_goesYear_94 : decode cX5_goesYear 94 = .ok (.iload_n 3, 1) := dck_get daX5_goesYear_t2 19 rfl
def dtX5_goesYear_t3 : List (Nat × Instr × Nat) := [(95, .iaload, 1), (96, .iconst 1, 1), (97, .iadd, 1), (98, .invokestatic 153, 3), (101, .iastore, 1), (102, .iload_n 2, 1), (103, .aload_n 0, 1), (104, .getfield 49, 3), (107, .iload_n 3, 1), (108, .iaload, 1), (109, .ifCond .le 7, 3), (112, .iconst 1, 1), (113, .goto 4, 3), (116, .iconst 0, 1), (117, .iadd, 1), (118, .istore_n 2, 1), (119, .iinc 3 1, 3), (122, .goto (-90), 3), (125, .aload_n 0, 1), (126, .dup, 1)]
theorem daX5_goesYear_t3 : dtX5_goesYear_t3.all (dck cX5_goesYear) = true := by decide +kernel
theorem dX5_goesYear_95 : decode cX5_goesYear 95 = .ok (.iaload, 1) := dck_get daX5_goesYear_t3 0 rfl
theorem dX5_goesYear_96 : decode cX5_goesYear 96 = .ok (.iconst 1, 1) := dck_get daX5_goesYear_t3 1 rfl
theorem dX5_goesYear_97 : decode cX5_goesYear 97 = .ok (.iadd, 1) := dck_get daX5_goesYear_t3 2 rfl
theorem dX5_goesYear_98 : decode cX5_goesYear 98 = .ok (.invokestatic 153, 3) := dck_get daX5_goesYear_t3 3 rfl
theorem dX5_goesYear_101 : decode cX5_goesYear 101 = .ok (.iastore, 1) := dck_get daX5_goesYear_t3 4 rfl
theorem dX5_goesYear_102 : decode cX5_goesYear 102 = .ok (.iload_n 2, 1) := dck_get daX5_goesYear_t3 5 rfl
theorem dX5_goesYear_103 : decode cX5_goesYear 103 = .ok (.aload_n 0, 1) := dck_get daX5_goesYear_t3 6 rfl
theorem dX5_goesYear_104 : decode cX5_goesYear 104 = .ok (.getfield 49, 3) := dck_get daX5_goesYear_t3 7 rfl
theorem dX5_goesYear_107 : decode cX5_goesYear 107 = .ok (.iload_n 3, 1) := dck_get daX5_goesYear_t3 8 rfl
theorem dX5_goesYear_108 : decode cX5_goesYear 108 = .ok (.iaload, 1) := dck_get daX5_goesYear_t3 9 rfl
theorem dX5_goesYear_109 : decode cX5_goesYear 109 = .ok (.ifCond .le 7, 3) := dck_get daX5_goesYear_t3 10 rfl
theorem dX5_goesYear_112 : decode cX5_goesYear 112 = .ok (.iconst 1, 1) := dck_get daX5_goesYear_t3 11 rfl
theorem dX5_goesYear_113 : decode cX5_goesYear 113 = .ok (.goto 4, 3) := dck_get daX5_goesYear_t3 12 rfl
theorem dX5_goesYear_116 : decode cX5_goesYear 116 = .ok (.iconst 0, 1) := dck_get daX5_goesYear_t3 13 rfl
theorem dX5_goesYear_117 : decode cX5_goesYear 117 = .ok (.iadd, 1) := dck_get daX5_goesYear_t3 14 rfl
theorem dX5_goesYear_118 : decode cX5_goesYear 118 = .ok (.istore_n 2, 1) := dck_get daX5_goesYear_t3 15 rfl
theorem dX5_goesYear_119 : decode cX5_goesYear 119 = .ok (.iinc 3 1, 3) := dck_get daX5_goesYear_t3 16 rfl
theorem dX5_goesYear_122 : decode cX5_goesYear 122 = .ok (.goto (-90), 3) := dck_get daX5_goesYear_t3 17 rfl
theorem dX5_goesYear_125 : decode cX5_goesYear 125 = .ok (.aload_n 0, 1) := dck_get daX5_goesYear_t3 18 rfl
theorem dX5_goesYear_126 : decode cX5_goesYear 126 = .ok (.dup, 1) := dck_get daX5_goesYear_t3 19 rfl
def dtX5_goesYear_t4 : List (Nat × Instr × Nat) := [(127, .getfield 107, 3), (130, .iconst 1, 1), (131, .iadd, 1), (132, .putfield 107, 3), (135, .iload_n 2, 1), (136, .ireturn, 1)]
theorem daX5_goesYear_t4 : dtX5_goesYear_t4.all (dck cX5_goesYear) = true := by decide +kernel
theorem dX5_goesYear_127 : decode cX5_goesYear 127 = .ok (.getfield 107, 3) := dck_get daX5_goesYear_t4 0 rfl
theorem dX5_goesYear_130 : decode cX5_goesYear 130 = .ok (.iconst 1, 1) := dck_get daX5_goesYear_t4 1 rfl
theorem dX5_goesYear_131 : decode cX5_goesYear 131 = .ok (.iadd, 1) := dck_get daX5_goesYear_t4 2 rfl
theorem dX5_goesYear_132 : decode cX5_goesYear 132 = .ok (.putfield 107, 3) := dck_get daX5_goesYear_t4 3 rfl
theorem dX5_goesYear_135 : decode cX5_goesYear 135 = .ok (.iload_n 2, 1) := dck_get daX5_goesYear_t4 4 rfl
theorem dX5_goesYear_136 : decode cX5_goesYear 136 = .ok (.ireturn, 1) := dck_get daX5_goesYear_t4 5 rfl
set_option maxRecDepth 20000 in
theorem gw_wsX5_aliveBits : wsX5_aliveBits.all goodWord = true := by decide +kernel
set_option maxRecDepth 20000 in
theorem ggX5_areAlive_X5_aliveBits : GoodIn wsX5_areAlive wsX5_aliveBits := goodIn_sub (List.forall_mem_cons.mpr ⟨(List.mem_of_getElem? (i := 5) rfl), (List.forall_mem_append.mpr ⟨(List.forall_mem_cons.mpr ⟨(List.mem_of_getElem? (i := 6) rfl), (List.forall_mem_cons.mpr ⟨(List.mem_of_getElem? (i := 7) rfl), (fun _ h => absurd h List.not_mem_nil)⟩)⟩), (fun _ h => (List.mem_cons_of_mem _ (List.mem_append_right _ h)))⟩)⟩) gw_wsX5_aliveBits
set_option maxRecDepth 20000 in
theorem gX5_areAlive_X5_aliveBits : GoodIn wsX5_areAlive (wsV RX5 159 RX5 yX5_aliveBits wsX5_aliveBits) := goodIn_app (goodIn_sub (List.forall_mem_cons.mpr ⟨(List.mem_of_getElem? (i := 1) rfl), (List.forall_mem_cons.mpr ⟨(List.mem_of_getElem? (i := 2) rfl), (List.forall_mem_cons.mpr ⟨(List.mem_of_getElem? (i := 3) rfl), (List.forall_mem_cons.mpr ⟨(List.mem_of_getElem? (i := 4) rfl), (fun _ h => absurd h List.not_mem_nil)⟩)⟩)⟩)⟩) (by decide +kernel)) ggX5_areAlive_X5_aliveBits
def dtX5_areAlive_t0 : List (Nat × Instr × Nat) := [(0, .iload_n 1, 1), (1, .ifCond .lt 18, 3), (4, .iload_n 1, 1), (5, .aload_n 0, 1), (6, .invokevirtual 159, 3), (9, .iconst (-1), 1), (10, .ixor, 1), (11, .iand, 1), (12, .ifCond .ne 7, 3), (15, .iconst 1, 1), (16, .goto 4, 3), (19, .iconst 0, 1), (20, .ireturn, 1)]
theorem daX5_areAlive_t0 : dtX5_areAlive_t0.all (dck cX5_areAlive) = true := by decide +kernel
theorem dX5_areAlive_0 : decode cX5_areAlive 0 = .ok (.iload_n 1, 1) := dck_get daX5_areAlive_t0 0 rfl
theorem dX5_areAlive_1 : decode cX5_areAlive 1 = .ok (.ifCond .lt 18, 3) := dck_get daX5_areAlive_t0 1 rfl
theorem dX5_areAlive_4 : decode cX5_areAlive 4 = .ok (.iload_n 1, 1) := dck_get daX5_areAlive_t0 2 rfl
theorem dX5_areAlive_5 : decode cX5_areAlive 5 = .ok (.aload_n 0, 1) := dck_get daX5_areAlive_t0 3 rfl
theorem dX5_areAlive_6 : decode cX5_areAlive 6 = .ok (.invokevirtual 159, 3) := dck_get daX5_areAlive_t0 4 rfl
theorem dX5_areAlive_9 : decode cX5_areAlive 9 = .ok (.iconst (-1), 1) := dck_get daX5_areAlive_t0 5 rfl
theorem dX5_areAlive_10 : decode cX5_areAlive 10 = .ok (.ixor, 1) := dck_get daX5_areAlive_t0 6 rfl
theorem dX5_areAlive_11 : decode cX5_areAlive 11 = .ok (.iand, 1) := dck_get daX5_areAlive_t0 7 rfl
theorem dX5_areAlive_12 : decode cX5_areAlive 12 = .ok (.ifCond .ne 7, 3) := dck_get daX5_areAlive_t0 8 rfl
theorem dX5_areAlive_15 : decode cX5_areAlive 15 = .ok (.iconst 1, 1) := dck_get daX5_areAlive_t0 9 rfl
theorem dX5_areAlive_16 : decode cX5_areAlive 16 = .ok (.goto 4, 3) := dck_get daX5_areAlive_t0 10 rfl
theorem dX5_areAlive_19 : decode cX5_areAlive 19 = .ok (.iconst 0, 1) := dck_get daX5_areAlive_t0 11 rfl
theorem dX5_areAlive_20 : decode cX5_areAlive 20 = .ok (.ireturn, 1) := dck_get daX5_areAlive_t0 12 rfl
set_option maxRecDepth 20000 in
theorem ggX5_enter_X5_isIn : GoodIn wsX5_enter wsX5_isIn := goodIn_sub (List.forall_mem_cons.mpr ⟨(List.mem_of_getElem? (i := 5) rfl), (fun _ h => absurd h List.not_mem_nil)⟩) gw_wsX5_isIn
set_option maxRecDepth 20000 in
theorem gX5_enter_X5_isIn : GoodIn wsX5_enter (va_wsS RX5 79 yX5_isIn wsX5_isIn) := goodIn_app (goodIn_sub (List.forall_mem_cons.mpr ⟨(List.mem_of_getElem? (i := 2) rfl), (List.forall_mem_cons.mpr ⟨(List.mem_of_getElem? (i := 3) rfl), (List.forall_mem_cons.mpr ⟨(List.mem_of_getElem? (i := 4) rfl), (fun _ h => absurd h List.not_mem_nil)⟩)⟩)⟩) (by decide +kernel)) ggX5_enter_X5_isIn
set_option maxRecDepth 20000 in
theorem ggX5_enter_X5_entryOf : GoodIn wsX5_enter wsX5_entryOf := goodIn_sub (List.forall_mem_cons.mpr ⟨(List.mem_of_getElem? (i := 8) rfl), (fun _ h => absurd h List.not_mem_nil)⟩) gw_wsX5_entryOf
set_option maxRecDepth 20000 in
theorem gX5_enter_X5_entryOf : GoodIn wsX5_enter (va_wsS RX5 113 yX5_entryOf wsX5_entryOf) := goodIn_app (goodIn_sub (List.forall_mem_cons.mpr ⟨(List.mem_of_getElem? (i := 6) rfl), (List.forall_mem_cons.mpr ⟨(List.mem_of_getElem? (i := 7) rfl), (List.forall_mem_cons.mpr ⟨(List.mem_of_getElem? (i := 4) rfl), (fun _ h => absurd h List.not_mem_nil)⟩)⟩)⟩) (by decide +kernel)) ggX5_enter_X5_entryOf
set_option maxRecDepth 20000 in
theorem ggX5_enter_X5_whoOn : GoodIn wsX5_enter wsX5_whoOn := goodIn_sub (List.forall_mem_cons.mpr ⟨(List.mem_of_getElem? (i := 12) rfl), (List.forall_mem_append.mpr ⟨(List.forall_mem_cons.mpr ⟨(List.mem_of_getElem? (i := 1) rfl), (List.forall_mem_cons.mpr ⟨(List.mem_of_getElem? (i := 13) rfl), (fun _ h => absurd h List.not_mem_nil)⟩)⟩), (fun _ h => (List.mem_cons_of_mem _ (List.mem_append_right _ h)))⟩)⟩) gw_wsX5_whoOn
set_option maxRecDepth 20000 in
theorem gX5_enter_X5_whoOn : GoodIn wsX5_enter (wsV RX5 117 RX5 yX5_whoOn wsX5_whoOn) := goodIn_app (goodIn_sub (List.forall_mem_cons.mpr ⟨(List.mem_of_getElem? (i := 9) rfl), (List.forall_mem_cons.mpr ⟨(List.mem_of_getElem? (i := 10) rfl), (List.forall_mem_cons.mpr ⟨(List.mem_of_getElem? (i := 11) rfl), (List.forall_mem_cons.mpr ⟨(List.mem_of_getElem? (i := 4) rfl), (fun _ h => absurd h List.not_mem_nil)⟩)⟩)⟩)⟩) (by decide +kernel)) ggX5_enter_X5_whoOn
set_option maxRecDepth 20000 in
theorem ggX5_enter_X5_no : GoodIn wsX5_enter wsX5_no := goodIn_sub (List.forall_mem_cons.mpr ⟨(List.mem_of_getElem? (i := 17) rfl), (List.forall_mem_append.mpr ⟨(List.forall_mem_cons.mpr ⟨(List.mem_of_getElem? (i := 18) rfl), (fun _ h => absurd h List.not_mem_nil)⟩), (fun _ h => (List.mem_cons_of_mem _ (List.mem_append_right _ h)))⟩)⟩) gw_wsX5_no
set_option maxRecDepth 20000 in
theorem gX5_enter_X5_no : GoodIn wsX5_enter (wsV RX5 68 RX5 yX5_no wsX5_no) := goodIn_app (goodIn_sub (List.forall_mem_cons.mpr ⟨(List.mem_of_getElem? (i := 14) rfl), (List.forall_mem_cons.mpr ⟨(List.mem_of_getElem? (i := 15) rfl), (List.forall_mem_cons.mpr ⟨(List.mem_of_getElem? (i := 16) rfl), (List.forall_mem_cons.mpr ⟨(List.mem_of_getElem? (i := 4) rfl), (fun _ h => absurd h List.not_mem_nil)⟩)⟩)⟩)⟩) (by decide +kernel)) ggX5_enter_X5_no
set_option maxRecDepth 20000 in
theorem ggX5_enter_X5_comesIn : GoodIn wsX5_enter wsX5_comesIn := goodIn_sub (List.forall_mem_cons.mpr ⟨(List.mem_of_getElem? (i := 22) rfl), (List.forall_mem_append.mpr ⟨(List.forall_mem_cons.mpr ⟨(List.mem_of_getElem? (i := 1) rfl), (List.forall_mem_cons.mpr ⟨(List.mem_of_getElem? (i := 23) rfl), (List.forall_mem_cons.mpr ⟨(List.mem_of_getElem? (i := 24) rfl), (List.forall_mem_cons.mpr ⟨(List.mem_of_getElem? (i := 13) rfl), (List.forall_mem_cons.mpr ⟨(List.mem_of_getElem? (i := 25) rfl), (List.forall_mem_cons.mpr ⟨(List.mem_of_getElem? (i := 26) rfl), (List.forall_mem_cons.mpr ⟨(List.mem_of_getElem? (i := 6) rfl), (List.forall_mem_cons.mpr ⟨(List.mem_of_getElem? (i := 7) rfl), (List.forall_mem_cons.mpr ⟨(List.mem_of_getElem? (i := 4) rfl), (List.forall_mem_cons.mpr ⟨(List.mem_of_getElem? (i := 8) rfl), (List.forall_mem_cons.mpr ⟨(List.mem_of_getElem? (i := 9) rfl), (List.forall_mem_cons.mpr ⟨(List.mem_of_getElem? (i := 10) rfl), (List.forall_mem_cons.mpr ⟨(List.mem_of_getElem? (i := 11) rfl), (List.forall_mem_cons.mpr ⟨(List.mem_of_getElem? (i := 12) rfl), (fun _ h => absurd h List.not_mem_nil)⟩)⟩)⟩)⟩)⟩)⟩)⟩)⟩)⟩)⟩)⟩)⟩)⟩)⟩), (fun _ h => (List.mem_cons_of_mem _ (List.mem_append_right _ h)))⟩)⟩) gw_wsX5_comesIn
set_option maxRecDepth 20000 in
theorem gX5_enter_X5_comesIn : GoodIn wsX5_enter (wsV RX5 120 RX5 yX5_comesIn wsX5_comesIn) := goodIn_app (goodIn_sub (List.forall_mem_cons.mpr ⟨(List.mem_of_getElem? (i := 19) rfl), (List.forall_mem_cons.mpr ⟨(List.mem_of_getElem? (i := 20) rfl), (List.forall_mem_cons.mpr ⟨(List.mem_of_getElem? (i := 21) rfl), (List.forall_mem_cons.mpr ⟨(List.mem_of_getElem? (i := 4) rfl), (fun _ h => absurd h List.not_mem_nil)⟩)⟩)⟩)⟩) (by decide +kernel)) ggX5_enter_X5_comesIn
def dtX5_enter_t0 : List (Nat × Instr × Nat) := [(0, .iload_n 1, 1), (1, .iconst 0, 1), (2, .iconst 5, 1), (3, .invokestatic 79, 3), (6, .ifCond .ne 8, 3), (9, .bipush (-2), 2), (11, .goto 60, 3), (14, .iload_n 2, 1), (15, .ifCond .lt 7, 3), (18, .iload_n 3, 1), (19, .ifCond .ge 8, 3), (22, .bipush (-4), 2), (24, .goto 47, 3), (27, .iload_n 2, 1), (28, .bipush 99, 2), (30, .if_icmp .gt 18, 3), (33, .iload_n 3, 1), (34, .bipush 9, 2), (36, .if_icmp .gt 12, 3), (39, .aload_n 0, 1)]
theorem daX5_enter_t0 : dtX5_enter_t0.all (dck cX5_enter) = true := by decide +kernel
theorem dX5_enter_0 : decode cX5_enter 0 = .ok (.iload_n 1, 1) := dck_get daX5_enter_t0 0 rfl
theorem dX5_enter_1 : decode cX5_enter 1 = .ok (.iconst 0, 1) := dck_get daX5_enter_t0 1 rfl
theorem dX5_enter_2 : decode cX5_enter 2 = .ok (.iconst 5, 1) := dck_get daX5_enter_t0 2 rfl
theorem dX5_enter_3 : decode cX5_enter 3 = .ok (.invokestatic 79, 3) := dck_get daX5_enter_t0 3 rfl
theorem dX5_enter_6 : decode cX5_enter 6 = .ok (.ifCond .ne 8, 3) := dck_get daX5_enter_t0 4 rfl
theorem dX5_enter_9 : decode cX5_enter 9 = .ok (.bipush (-2), 2) := dck_get daX5_enter_t0 5 rfl
theorem dX5_enter_11 : decode cX5_enter 11 = .ok (.goto 60, 3) := dck_get daX5_enter_t0 6 rfl
theorem dX5_enter_14 : decode cX5_enter 14 = .ok (.iload_n 2, 1) := dck_get daX5_enter_t0 7 rfl
theorem dX5_enter_15 : decode cX5_enter 15 = .ok (.ifCond .lt 7, 3) := dck_get daX5_enter_t0 8 rfl
theorem dX5_enter_18 : decode cX5_enter 18 = .ok (.iload_n 3, 1) := dck_get daX5_enter_t0 9 rfl
theorem dX5_enter_19 : decode cX5_enter 19 = .ok (.ifCond .ge 8, 3) := dck_get daX5_enter_t0 10 rfl
theorem dX5_enter_22 : decode cX5_enter 22 = .ok (.bipush (-4), 2) := dck_get daX5_enter_t0 11 rfl
theorem dX5_enter_24 : decode cX5_enter 24 = .ok (.goto 47, 3) := dck_get daX5_enter_t0 12 rfl
theorem dX5_enter_27 : decode cX5_enter 27 = .ok (.iload_n 2, 1) := dck_get daX5_enter_t0 13 rfl
theorem dX5_enter_28 : decode cX5_enter 28 = .ok (.bipush 99, 2) := dck_get daX5_enter_t0 14 rfl
theorem dX5_enter_30 : decode cX5_enter 30 = .ok (.if_icmp .gt 18, 3) := dck_get daX5_enter_t0 15 rfl
theorem dX5_enter_33 : decode cX5_enter 33 = .ok (.iload_n 3, 1) := dck_get daX5_enter_t0 16 rfl
theorem dX5_enter_34 : decode cX5_enter 34 = .ok (.bipush 9, 2) := dck_get daX5_enter_t0 17 rfl
theorem dX5_enter_36 : decode cX5_enter 36 = .ok (.if_icmp .gt 12, 3) := dck_get daX5_enter_t0 18 rfl
theorem dX5_enter_39 : decode cX5_enter 39 = .ok (.aload_n 0, 1) := dck_get daX5_enter_t0 19 rfl
def dtX5_enter_t1 : List (Nat × Instr × Nat) := [(40, .getfield 57, 3), (43, .bipush 8, 2), (45, .if_icmp .ne 8, 3), (48, .bipush (-6), 2), (50, .goto 21, 3), (53, .aload_n 0, 1), (54, .iload_n 1, 1), (55, .iload_n 2, 1), (56, .invokestatic 113, 3), (59, .invokevirtual 117, 3), (62, .ifCond .lt 8, 3), (65, .bipush (-3), 2), (67, .goto 4, 3), (70, .iconst 0, 1), (71, .istore 4, 2), (73, .iload 4, 2), (75, .ifCond .eq 10, 3), (78, .aload_n 0, 1), (79, .iload 4, 2), (81, .invokevirtual 68, 3)]
theorem daX5_enter_t1 : dtX5_enter_t1.all (dck cX5_enter) = true := by decide +kernel
theorem dX5_enter_40 : decode cX5_enter 40 = .ok (.getfield 57, 3) := dck_get daX5_enter_t1 0 rfl
theorem dX5_enter_43 : decode cX5_enter 43 = .ok (.bipush 8, 2) := dck_get daX5_enter_t1 1 rfl
theorem dX5_enter_45 : decode cX5_enter 45 = .ok (.if_icmp .ne 8, 3) := dck_get daX5_enter_t1 2 rfl
theorem dX5_enter_48 : decode cX5_enter 48 = .ok (.bipush (-6), 2) := dck_get daX5_enter_t1 3 rfl
theorem dX5_enter_50 : decode cX5_enter 50 = .ok (.goto 21, 3) := dck_get daX5_enter_t1 4 rfl
theorem dX5_enter_53 : decode cX5_enter 53 = .ok (.aload_n 0, 1) := dck_get daX5_enter_t1 5 rfl
theorem dX5_enter_54 : decode cX5_enter 54 = .ok (.iload_n 1, 1) := dck_get daX5_enter_t1 6 rfl
theorem dX5_enter_55 : decode cX5_enter 55 = .ok (.iload_n 2, 1) := dck_get daX5_enter_t1 7 rfl
theorem dX5_enter_56 : decode cX5_enter 56 = .ok (.invokestatic 113, 3) := dck_get daX5_enter_t1 8 rfl
theorem dX5_enter_59 : decode cX5_enter 59 = .ok (.invokevirtual 117, 3) := dck_get daX5_enter_t1 9 rfl
theorem dX5_enter_62 : decode cX5_enter 62 = .ok (.ifCond .lt 8, 3) := dck_get daX5_enter_t1 10 rfl
theorem dX5_enter_65 : decode cX5_enter 65 = .ok (.bipush (-3), 2) := dck_get daX5_enter_t1 11 rfl
theorem dX5_enter_67 : decode cX5_enter 67 = .ok (.goto 4, 3) := dck_get daX5_enter_t1 12 rfl
theorem dX5_enter_70 : decode cX5_enter 70 = .ok (.iconst 0, 1) := dck_get daX5_enter_t1 13 rfl
theorem dX5_enter_71 : decode cX5_enter 71 = .ok (.istore 4, 2) := dck_get daX5_enter_t1 14 rfl
theorem dX5_enter_73 : decode cX5_enter 73 = .ok (.iload 4, 2) := dck_get daX5_enter_t1 15 rfl
theorem dX5_enter_75 : decode cX5_enter 75 = .ok (.ifCond .eq 10, 3) := dck_get daX5_enter_t1 16 rfl
theorem dX5_enter_78 : decode cX5_enter 78 = .ok (.aload_n 0, 1) := dck_get daX5_enter_t1 17 rfl
theorem dX5_enter_79 : decode cX5_enter 79 = .ok (.iload 4, 2) := dck_get daX5_enter_t1 18 rfl
theorem dX5_enter_81 : decode cX5_enter 81 = .ok (.invokevirtual 68, 3) := dck_get daX5_enter_t1 19 rfl
def dtX5_enter_t2 : List (Nat × Instr × Nat) := [(84, .ireturn, 1), (85, .aload_n 0, 1), (86, .iload_n 1, 1), (87, .iload_n 2, 1), (88, .iload_n 3, 1), (89, .invokevirtual 120, 3), (92, .pop, 1), (93, .aload_n 0, 1), (94, .getfield 57, 3), (97, .iconst 1, 1), (98, .isub, 1), (99, .ireturn, 1)]
theorem daX5_enter_t2 : dtX5_enter_t2.all (dck cX5_enter) = true := by decide +kernel
theorem dX5_enter_84 : decode cX5_enter 84 = .ok (.ireturn, 1) := dck_get daX5_enter_t2 0 rfl
theorem dX5_enter_85 : decode cX5_enter 85 = .ok (.aload_n 0, 1) := dck_get daX5_enter_t2 1 rfl
theorem dX5_enter_86 : decode cX5_enter 86 = .ok (.iload_n 1, 1) := dck_get daX5_enter_t2 2 rfl
theorem dX5_enter_87 : decode cX5_enter 87 = .ok (.iload_n 2, 1) := dck_get daX5_enter_t2 3 rfl
theorem dX5_enter_88 : decode cX5_enter 88 = .ok (.iload_n 3, 1) := dck_get daX5_enter_t2 4 rfl
theorem dX5_enter_89 : decode cX5_enter 89 = .ok (.invokevirtual 120, 3) := dck_get daX5_enter_t2 5 rfl
theorem dX5_enter_92 : decode cX5_enter 92 = .ok (.pop, 1) := dck_get daX5_enter_t2 6 rfl
theorem dX5_enter_93 : decode cX5_enter 93 = .ok (.aload_n 0, 1) := dck_get daX5_enter_t2 7 rfl
theorem dX5_enter_94 : decode cX5_enter 94 = .ok (.getfield 57, 3) := dck_get daX5_enter_t2 8 rfl
theorem dX5_enter_97 : decode cX5_enter 97 = .ok (.iconst 1, 1) := dck_get daX5_enter_t2 9 rfl
theorem dX5_enter_98 : decode cX5_enter 98 = .ok (.isub, 1) := dck_get daX5_enter_t2 10 rfl
theorem dX5_enter_99 : decode cX5_enter 99 = .ok (.ireturn, 1) := dck_get daX5_enter_t2 11 rfl
set_option maxRecDepth 20000 in
theorem ggX5_lodger_X5_isAlive : GoodIn wsX5_lodger wsX5_isAlive := goodIn_sub (List.forall_mem_cons.mpr ⟨(List.mem_of_getElem? (i := 10) rfl), (List.forall_mem_append.mpr ⟨(List.forall_mem_cons.mpr ⟨(List.mem_of_getElem? (i := 11) rfl), (List.forall_mem_cons.mpr ⟨(List.mem_of_getElem? (i := 3) rfl), (fun _ h => absurd h List.not_mem_nil)⟩)⟩), (fun _ h => (List.mem_cons_of_mem _ (List.mem_append_right _ h)))⟩)⟩) gw_wsX5_isAlive
set_option maxRecDepth 20000 in
theorem gX5_lodger_X5_isAlive : GoodIn wsX5_lodger (wsV RX5 104 RX5 yX5_isAlive wsX5_isAlive) := goodIn_app (goodIn_sub (List.forall_mem_cons.mpr ⟨(List.mem_of_getElem? (i := 6) rfl), (List.forall_mem_cons.mpr ⟨(List.mem_of_getElem? (i := 7) rfl), (List.forall_mem_cons.mpr ⟨(List.mem_of_getElem? (i := 8) rfl), (List.forall_mem_cons.mpr ⟨(List.mem_of_getElem? (i := 9) rfl), (fun _ h => absurd h List.not_mem_nil)⟩)⟩)⟩)⟩) (by decide +kernel)) ggX5_lodger_X5_isAlive
set_option maxRecDepth 20000 in
theorem ggX5_lodger_X5_no : GoodIn wsX5_lodger wsX5_no := goodIn_sub (List.forall_mem_cons.mpr ⟨(List.mem_of_getElem? (i := 15) rfl), (List.forall_mem_append.mpr ⟨(List.forall_mem_cons.mpr ⟨(List.mem_of_getElem? (i := 16) rfl), (fun _ h => absurd h List.not_mem_nil)⟩), (fun _ h => (List.mem_cons_of_mem _ (List.mem_append_right _ h)))⟩)⟩) gw_wsX5_no
set_option maxRecDepth 20000 in
theorem gX5_lodger_X5_no : GoodIn wsX5_lodger (wsV RX5 68 RX5 yX5_no wsX5_no) := goodIn_app (goodIn_sub (List.forall_mem_cons.mpr ⟨(List.mem_of_getElem? (i := 12) rfl), (List.forall_mem_cons.mpr ⟨(List.mem_of_getElem? (i := 13) rfl), (List.forall_mem_cons.mpr ⟨(List.mem_of_getElem? (i := 14) rfl), (List.forall_mem_cons.mpr ⟨(List.mem_of_getElem? (i := 9) rfl), (fun _ h => absurd h List.not_mem_nil)⟩)⟩)⟩)⟩) (by decide +kernel)) ggX5_lodger_X5_no
set_option maxRecDepth 20000 in
theorem gw_wsX5_chanceOf : wsX5_chanceOf.all goodWord = true := by decide +kernel
set_option maxRecDepth 20000 in
theorem ggX5_lodger_X5_chanceOf : GoodIn wsX5_lodger wsX5_chanceOf := goodIn_sub (List.forall_mem_cons.mpr ⟨(List.mem_of_getElem? (i := 20) rfl), (List.forall_mem_append.mpr ⟨(List.forall_mem_cons.mpr ⟨(List.mem_of_getElem? (i := 2) rfl), (List.forall_mem_cons.mpr ⟨(List.mem_of_getElem? (i := 1) rfl), (List.forall_mem_cons.mpr ⟨(List.mem_of_getElem? (i := 21) rfl), (List.forall_mem_cons.mpr ⟨(List.mem_of_getElem? (i := 22) rfl), (List.forall_mem_cons.mpr ⟨(List.mem_of_getElem? (i := 9) rfl), (List.forall_mem_cons.mpr ⟨(List.mem_of_getElem? (i := 23) rfl), (fun _ h => absurd h List.not_mem_nil)⟩)⟩)⟩)⟩)⟩)⟩), (fun _ h => (List.mem_cons_of_mem _ (List.mem_append_right _ h)))⟩)⟩) gw_wsX5_chanceOf
set_option maxRecDepth 20000 in
theorem gX5_lodger_X5_chanceOf : GoodIn wsX5_lodger (wsV RX5 162 RX5 yX5_chanceOf wsX5_chanceOf) := goodIn_app (goodIn_sub (List.forall_mem_cons.mpr ⟨(List.mem_of_getElem? (i := 17) rfl), (List.forall_mem_cons.mpr ⟨(List.mem_of_getElem? (i := 18) rfl), (List.forall_mem_cons.mpr ⟨(List.mem_of_getElem? (i := 19) rfl), (List.forall_mem_cons.mpr ⟨(List.mem_of_getElem? (i := 9) rfl), (fun _ h => absurd h List.not_mem_nil)⟩)⟩)⟩)⟩) (by decide +kernel)) ggX5_lodger_X5_chanceOf
set_option maxRecDepth 20000 in
theorem gw_wsX5_climbs : wsX5_climbs.all goodWord = true := by decide +kernel
set_option maxRecDepth 20000 in
theorem ggX5_lodger_X5_climbs : GoodIn wsX5_lodger wsX5_climbs := goodIn_sub (List.forall_mem_cons.mpr ⟨(List.mem_of_getElem? (i := 26) rfl), (List.forall_mem_cons.mpr ⟨(List.mem_of_getElem? (i := 21) rfl), (List.forall_mem_cons.mpr ⟨(List.mem_of_getElem? (i := 22) rfl), (List.forall_mem_cons.mpr ⟨(List.mem_of_getElem? (i := 9) rfl), (List.forall_mem_cons.mpr ⟨(List.mem_of_getElem? (i := 23) rfl), (fun _ h => absurd h List.not_mem_nil)⟩)⟩)⟩)⟩)⟩) gw_wsX5_climbs
set_option maxRecDepth 20000 in
theorem gX5_lodger_X5_climbs : GoodIn wsX5_lodger (va_wsS RX5 165 yX5_climbs wsX5_climbs) := goodIn_app (goodIn_sub (List.forall_mem_cons.mpr ⟨(List.mem_of_getElem? (i := 24) rfl), (List.forall_mem_cons.mpr ⟨(List.mem_of_getElem? (i := 25) rfl), (List.forall_mem_cons.mpr ⟨(List.mem_of_getElem? (i := 9) rfl), (fun _ h => absurd h List.not_mem_nil)⟩)⟩)⟩) (by decide +kernel)) ggX5_lodger_X5_climbs
def dtX5_lodger_t0 : List (Nat × Instr × Nat) := [(0, .aload_n 0, 1), (1, .iload_n 1, 1), (2, .invokevirtual 104, 3), (5, .ifCond .ne 9, 3), (8, .aload_n 0, 1), (9, .iconst (-1), 1), (10, .invokevirtual 68, 3), (13, .ireturn, 1), (14, .iload_n 2, 1), (15, .tableswitch 98 0 6 #[41, 48, 55, 62, 69, 75, 91], 41), (56, .aload_n 0, 1), (57, .getfield 13, 3), (60, .iload_n 1, 1), (61, .iaload, 1), (62, .ireturn, 1), (63, .aload_n 0, 1), (64, .getfield 16, 3), (67, .iload_n 1, 1), (68, .iaload, 1), (69, .ireturn, 1)]
theorem daX5_lodger_t0 : dtX5_lodger_t0.all (dck cX5_lodger) = true := by decide +kernel
theorem dX5_lodger_0 : decode cX5_lodger 0 = .ok (.aload_n 0, 1) := dck_get daX5_lodger_t0 0 rfl
theorem dX5_lodger_1 : decode cX5_lodger 1 = .ok (.iload_n 1, 1) := dck_get daX5_lodger_t0 1 rfl
theorem dX5_lodger_2 : decode cX5_lodger 2 = .ok (.invokevirtual 104, 3) := dck_get daX5_lodger_t0 2 rfl
theorem dX5_lodger_5 : decode cX5_lodger 5 = .ok (.ifCond .ne 9, 3) := dck_get daX5_lodger_t0 3 rfl
theorem dX5_lodger_8 : decode cX5_lodger 8 = .ok (.aload_n 0, 1) := dck_get daX5_lodger_t0 4 rfl
theorem dX5_lodger_9 : decode cX5_lodger 9 = .ok (.iconst (-1), 1) := dck_get daX5_lodger_t0 5 rfl
theorem dX5_lodger_10 : decode cX5_lodger 10 = .ok (.invokevirtual 68, 3) := dck_get daX5_lodger_t0 6 rfl
theorem dX5_lodger_13 : decode cX5_lodger 13 = .ok (.ireturn, 1) := dck_get daX5_lodger_t0 7 rfl
theorem dX5_lodger_14 : decode cX5_lodger 14 = .ok (.iload_n 2, 1) := dck_get daX5_lodger_t0 8 rfl
theorem dX5_lodger_15 : decode cX5_lodger 15 = .ok (.tableswitch 98 0 6 #[41, 48, 55, 62, 69, 75, 91], 41) := dck_get daX5_lodger_t0 9 rfl
theorem dX5_lodger_56 : decode cX5_lodger 56 = .ok (.aload_n 0, 1) := dck_get daX5_lodger_t0 10 rfl
theorem dX5_lodger_57 : decode cX5_lodger 57 = .ok (.getfield 13, 3) := dck_get daX5_lodger_t0 11 rfl
theorem dX5_lodger_60 : decode cX5_lodger 60 = .ok (.iload_n 1, 1) := dck_get daX5_lodger_t0 12 rfl
theorem dX5_lodger_61 : decode cX5_lodger 61 = .ok (.iaload, 1) := dck_get daX5_lodger_t0 13 rfl
theorem dX5_lodger_62 : decode cX5_lodger 62 = .ok (.ireturn, 1) := dck_get daX5_lodger_t0 14 rfl
theorem dX5_lodger_63 : decode cX5_lodger 63 = .ok (.aload_n 0, 1) := dck_get daX5_lodger_t0 15 rfl
theorem dX5_lodger_64 : decode cX5_lodger 64 = .ok (.getfield 16, 3) := dck_get daX5_lodger_t0 16 rfl
theorem dX5_lodger_67 : decode cX5_lodger 67 = .ok (.iload_n 1, 1) := dck_get daX5_lodger_t0 17 rfl
theorem dX5_lodger_68 : decode cX5_lodger 68 = .ok (.iaload, 1) := dck_get daX5_lodger_t0 18 rfl
theorem dX5_lodger_69 : decode cX5_lodger 69 = .ok (.ireturn, 1) := dck_get daX5_lodger_t0 19 rfl
def dtX5_lodger_t1 : List (Nat × Instr × Nat) := [(70, .aload_n 0, 1), (71, .getfield 19, 3), (74, .iload_n 1, 1), (75, .iaload, 1), (76, .ireturn, 1), (77, .aload_n 0, 1), (78, .getfield 22, 3), (81, .iload_n 1, 1), (82, .iaload, 1), (83, .ireturn, 1), (84, .aload_n 0, 1), (85, .iload_n 1, 1), (86, .invokevirtual 162, 3), (89, .ireturn, 1), (90, .aload_n 0, 1), (91, .getfield 13, 3), (94, .iload_n 1, 1), (95, .iaload, 1), (96, .aload_n 0, 1), (97, .getfield 16, 3)]
theorem daX5_lodger_t1 : dtX5_lodger_t1.all (dck cX5_lodger) = true := by decide +kernel
theorem dX5_lodger_70 : decode cX5_lodger 70 = .ok (.aload_n 0, 1) := dck_get daX5_lodger_t1 0 rfl
theorem dX5_lodger_71 : decode cX5_lodger 71 = .ok (.getfield 19, 3) := dck_get daX5_lodger_t1 1 rfl
theorem dX5_lodger_74 : decode cX5_lodger 74 = .ok (.iload_n 1, 1) := dck_get daX5_lodger_t1 2 rfl
theorem dX5_lodger_75 : decode cX5_lodger 75 = .ok (.iaload, 1) := dck_get daX5_lodger_t1 3 rfl
theorem dX5_lodger_76 : decode cX5_lodger 76 = .ok (.ireturn, 1) := dck_get daX5_lodger_t1 4 rfl
theorem dX5_lodger_77 : decode cX5_lodger 77 = .ok (.aload_n 0, 1) := dck_get daX5_lodger_t1 5 rfl
theorem dX5_lodger_78 : decode cX5_lodger 78 = .ok (.getfield 22, 3) := dck_get daX5_lodger_t1 6 rfl
theorem dX5_lodger_81 : decode cX5_lodger 81 = .ok (.iload_n 1, 1) := dck_get daX5_lodger_t1 7 rfl
theorem dX5_lodger_82 : decode cX5_lodger 82 = .ok (.iaload, 1) := dck_get daX5_lodger_t1 8 rfl
theorem dX5_lodger_83 : decode cX5_lodger 83 = .ok (.ireturn, 1) := dck_get daX5_lodger_t1 9 rfl
theorem dX5_lodger_84 : decode cX5_lodger 84 = .ok (.aload_n 0, 1) := dck_get daX5_lodger_t1 10 rfl
theorem dX5_lodger_85 : decode cX5_lodger 85 = .ok (.iload_n 1, 1) := dck_get daX5_lodger_t1 11 rfl
theorem dX5_lodger_86 : decode cX5_lodger 86 = .ok (.invokevirtual 162, 3) := dck_get daX5_lodger_t1 12 rfl
theorem dX5_lodger_89 : decode cX5_lodger 89 = .ok (.ireturn, 1) := dck_get daX5_lodger_t1 13 rfl
theorem dX5_lodger_90 : decode cX5_lodger 90 = .ok (.aload_n 0, 1) := dck_get daX5_lodger_t1 14 rfl
theorem dX5_lodger_91 : decode cX5_lodger 91 = .ok (.getfield 13, 3) := dck_get daX5_lodger_t1 15 rfl
theorem dX5_lodger_94 : decode cX5_lodger 94 = .ok (.iload_n 1, 1) := dck_get daX5_lodger_t1 16 rfl
theorem dX5_lodger_95 : decode cX5_lodger 95 = .ok (.iaload, 1) := dck_get daX5_lodger_t1 17 rfl
theorem dX5_lodger_96 : decode cX5_lodger 96 = .ok (.aload_n 0, 1) := dck_get daX5_lodger_t1 18 rfl
theorem dX5_lodger_97 : decode cX5_lodger 97 = .ok (.getfield 16, 3) := dck_get daX5_lodger_t1 19 rfl
def dtX5_lodger_t2 : List (Nat × Instr × Nat) := [(100, .iload_n 1, 1), (101, .iaload, 1), (102, .invokestatic 165, 3), (105, .ireturn, 1), (106, .aload_n 0, 1), (107, .getfield 25, 3), (110, .iload_n 1, 1), (111, .iaload, 1), (112, .ireturn, 1), (113, .aload_n 0, 1), (114, .bipush (-2), 2), (116, .invokevirtual 68, 3), (119, .ireturn, 1)]
theorem daX5_lodger_t2 : dtX5_lodger_t2.all (dck cX5_lodger) = true := by decide +kernel
theorem dX5_lodger_100 : decode cX5_lodger 100 = .ok (.iload_n 1, 1) := dck_get daX5_lodger_t2 0 rfl
theorem dX5_lodger_101 : decode cX5_lodger 101 = .ok (.iaload, 1) := dck_get daX5_lodger_t2 1 rfl
theorem dX5_lodger_102 : decode cX5_lodger 102 = .ok (.invokestatic 165, 3) := dck_get daX5_lodger_t2 2 rfl
theorem dX5_lodger_105 : decode cX5_lodger 105 = .ok (.ireturn, 1) := dck_get daX5_lodger_t2 3 rfl
theorem dX5_lodger_106 : decode cX5_lodger 106 = .ok (.aload_n 0, 1) := dck_get daX5_lodger_t2 4 rfl
theorem dX5_lodger_107 : decode cX5_lodger 107 = .ok (.getfield 25, 3) := dck_get daX5_lodger_t2 5 rfl
theorem dX5_lodger_110 : decode cX5_lodger 110 = .ok (.iload_n 1, 1) := dck_get daX5_lodger_t2 6 rfl
theorem dX5_lodger_111 : decode cX5_lodger 111 = .ok (.iaload, 1) := dck_get daX5_lodger_t2 7 rfl
theorem dX5_lodger_112 : decode cX5_lodger 112 = .ok (.ireturn, 1) := dck_get daX5_lodger_t2 8 rfl
theorem dX5_lodger_113 : decode cX5_lodger 113 = .ok (.aload_n 0, 1) := dck_get daX5_lodger_t2 9 rfl
theorem dX5_lodger_114 : decode cX5_lodger 114 = .ok (.bipush (-2), 2) := dck_get daX5_lodger_t2 10 rfl
theorem dX5_lodger_116 : decode cX5_lodger 116 = .ok (.invokevirtual 68, 3) := dck_get daX5_lodger_t2 11 rfl
theorem dX5_lodger_119 : decode cX5_lodger 119 = .ok (.ireturn, 1) := dck_get daX5_lodger_t2 12 rfl
set_option maxRecDepth 20000 in
theorem ggX5_wish_X5_isAlive : GoodIn wsX5_wish wsX5_isAlive := goodIn_sub (List.forall_mem_cons.mpr ⟨(List.mem_of_getElem? (i := 6) rfl), (List.forall_mem_append.mpr ⟨(List.forall_mem_cons.mpr ⟨(List.mem_of_getElem? (i := 7) rfl), (List.forall_mem_cons.mpr ⟨(List.mem_of_getElem? (i := 8) rfl), (fun _ h => absurd h List.not_mem_nil)⟩)⟩), (fun _ h => (List.mem_cons_of_mem _ (List.mem_append_right _ h)))⟩)⟩) gw_wsX5_isAlive
set_option maxRecDepth 20000 in
theorem gX5_wish_X5_isAlive : GoodIn wsX5_wish (wsV RX5 104 RX5 yX5_isAlive wsX5_isAlive) := goodIn_app (goodIn_sub (List.forall_mem_cons.mpr ⟨(List.mem_of_getElem? (i := 2) rfl), (List.forall_mem_cons.mpr ⟨(List.mem_of_getElem? (i := 3) rfl), (List.forall_mem_cons.mpr ⟨(List.mem_of_getElem? (i := 4) rfl), (List.forall_mem_cons.mpr ⟨(List.mem_of_getElem? (i := 5) rfl), (fun _ h => absurd h List.not_mem_nil)⟩)⟩)⟩)⟩) (by decide +kernel)) ggX5_wish_X5_isAlive
set_option maxRecDepth 20000 in
theorem gw_wsX5_isFloor : wsX5_isFloor.all goodWord = true := by decide +kernel
set_option maxRecDepth 20000 in
theorem ggX5_wish_X5_isFloor : GoodIn wsX5_wish wsX5_isFloor := goodIn_sub (List.forall_mem_cons.mpr ⟨(List.mem_of_getElem? (i := 11) rfl), (fun _ h => absurd h List.not_mem_nil)⟩) gw_wsX5_isFloor
set_option maxRecDepth 20000 in
theorem gX5_wish_X5_isFloor : GoodIn wsX5_wish (va_wsS RX5 168 yX5_isFloor wsX5_isFloor) := goodIn_app (goodIn_sub (List.forall_mem_cons.mpr ⟨(List.mem_of_getElem? (i := 9) rfl), (List.forall_mem_cons.mpr ⟨(List.mem_of_getElem? (i := 10) rfl), (List.forall_mem_cons.mpr ⟨(List.mem_of_getElem? (i := 5) rfl), (fun _ h => absurd h List.not_mem_nil)⟩)⟩)⟩) (by decide +kernel)) ggX5_wish_X5_isFloor
set_option maxRecDepth 20000 in
theorem ggX5_wish_X5_no : GoodIn wsX5_wish wsX5_no := goodIn_sub (List.forall_mem_cons.mpr ⟨(List.mem_of_getElem? (i := 15) rfl), (List.forall_mem_append.mpr ⟨(List.forall_mem_cons.mpr ⟨(List.mem_of_getElem? (i := 16) rfl), (fun _ h => absurd h List.not_mem_nil)⟩), (fun _ h => (List.mem_cons_of_mem _ (List.mem_append_right _ h)))⟩)⟩) gw_wsX5_no
set_option maxRecDepth 20000 in
theorem gX5_wish_X5_no : GoodIn wsX5_wish (wsV RX5 68 RX5 yX5_no wsX5_no) := goodIn_app (goodIn_sub (List.forall_mem_cons.mpr ⟨(List.mem_of_getElem? (i := 12) rfl), (List.forall_mem_cons.mpr ⟨(List.mem_of_getElem? (i := 13) rfl), (List.forall_mem_cons.mpr ⟨(List.mem_of_getElem? (i := 14) rfl), (List.forall_mem_cons.mpr ⟨(List.mem_of_getElem? (i := 5) rfl), (fun _ h => absurd h List.not_mem_nil)⟩)⟩)⟩)⟩) (by decide +kernel)) ggX5_wish_X5_no
def dtX5_wish_t0 : List (Nat × Instr × Nat) := [(0, .aload_n 0, 1), (1, .iload_n 1, 1), (2, .invokevirtual 104, 3), (5, .ifCond .eq 15, 3), (8, .iload_n 2, 1), (9, .iconst (-1), 1), (10, .if_icmp .eq 16, 3), (13, .iload_n 2, 1), (14, .invokestatic 168, 3), (17, .ifCond .ne 9, 3), (20, .aload_n 0, 1), (21, .iconst (-1), 1), (22, .invokevirtual 68, 3), (25, .ireturn, 1), (26, .aload_n 0, 1), (27, .getfield 25, 3), (30, .iload_n 1, 1), (31, .iaload, 1), (32, .istore_n 3, 1), (33, .aload_n 0, 1)]
theorem daX5_wish_t0 : dtX5_wish_t0.all (dck cX5_wish) = true := by decide +kernel
theorem dX5_wish_0 : decode cX5_wish 0 = .ok (.aload_n 0, 1) := dck_get daX5_wish_t0 0 rfl
theorem dX5_wish_1 : decode cX5_wish 1 = .ok (.iload_n 1, 1) := dck_get daX5_wish_t0 1 rfl
theorem dX5_wish_2 : decode cX5_wish 2 = .ok (.invokevirtual 104, 3) := dck_get daX5_wish_t0 2 rfl
theorem dX5_wish_5 : decode cX5_wish 5 = .ok (.ifCond .eq 15, 3) := dck_get daX5_wish_t0 3 rfl
theorem dX5_wish_8 : decode cX5_wish 8 = .ok (.iload_n 2, 1) := dck_get daX5_wish_t0 4 rfl
theorem dX5_wish_9 : decode cX5_wish 9 = .ok (.iconst (-1), 1) := dck_get daX5_wish_t0 5 rfl
theorem dX5_wish_10 : decode cX5_wish 10 = .ok (.if_icmp .eq 16, 3) := dck_get daX5_wish_t0 6 rfl
theorem dX5_wish_13 : decode cX5_wish 13 = .ok (.iload_n 2, 1) := dck_get daX5_wish_t0 7 rfl
theorem dX5_wish_14 : decode cX5_wish 14 = .ok (.invokestatic 168, 3) := dck_get daX5_wish_t0 8 rfl
theorem dX5_wish_17 : decode cX5_wish 17 = .ok (.ifCond .ne 9, 3) := dck_get daX5_wish_t0 9 rfl
theorem dX5_wish_20 : decode cX5_wish 20 = .ok (.aload_n 0, 1) := dck_get daX5_wish_t0 10 rfl
theorem dX5_wish_21 : decode cX5_wish 21 = .ok (.iconst (-1), 1) := dck_get daX5_wish_t0 11 rfl
theorem dX5_wish_22 : decode cX5_wish 22 = .ok (.invokevirtual 68, 3) := dck_get daX5_wish_t0 12 rfl
theorem dX5_wish_25 : decode cX5_wish 25 = .ok (.ireturn, 1) := dck_get daX5_wish_t0 13 rfl
theorem dX5_wish_26 : decode cX5_wish 26 = .ok (.aload_n 0, 1) := dck_get daX5_wish_t0 14 rfl
theorem dX5_wish_27 : decode cX5_wish 27 = .ok (.getfield 25, 3) := dck_get daX5_wish_t0 15 rfl
theorem dX5_wish_30 : decode cX5_wish 30 = .ok (.iload_n 1, 1) := dck_get daX5_wish_t0 16 rfl
theorem dX5_wish_31 : decode cX5_wish 31 = .ok (.iaload, 1) := dck_get daX5_wish_t0 17 rfl
theorem dX5_wish_32 : decode cX5_wish 32 = .ok (.istore_n 3, 1) := dck_get daX5_wish_t0 18 rfl
theorem dX5_wish_33 : decode cX5_wish 33 = .ok (.aload_n 0, 1) := dck_get daX5_wish_t0 19 rfl
def dtX5_wish_t1 : List (Nat × Instr × Nat) := [(34, .getfield 25, 3), (37, .iload_n 1, 1), (38, .iload_n 2, 1), (39, .ifCond .ge 8, 3), (42, .bipush (-9), 2), (44, .goto 4, 3), (47, .iload_n 2, 1), (48, .iastore, 1), (49, .iload_n 3, 1), (50, .ireturn, 1)]
theorem daX5_wish_t1 : dtX5_wish_t1.all (dck cX5_wish) = true := by decide +kernel
theorem dX5_wish_34 : decode cX5_wish 34 = .ok (.getfield 25, 3) := dck_get daX5_wish_t1 0 rfl
theorem dX5_wish_37 : decode cX5_wish 37 = .ok (.iload_n 1, 1) := dck_get daX5_wish_t1 1 rfl
theorem dX5_wish_38 : decode cX5_wish 38 = .ok (.iload_n 2, 1) := dck_get daX5_wish_t1 2 rfl
theorem dX5_wish_39 : decode cX5_wish 39 = .ok (.ifCond .ge 8, 3) := dck_get daX5_wish_t1 3 rfl
theorem dX5_wish_42 : decode cX5_wish 42 = .ok (.bipush (-9), 2) := dck_get daX5_wish_t1 4 rfl
theorem dX5_wish_44 : decode cX5_wish 44 = .ok (.goto 4, 3) := dck_get daX5_wish_t1 5 rfl
theorem dX5_wish_47 : decode cX5_wish 47 = .ok (.iload_n 2, 1) := dck_get daX5_wish_t1 6 rfl
theorem dX5_wish_48 : decode cX5_wish 48 = .ok (.iastore, 1) := dck_get daX5_wish_t1 7 rfl
theorem dX5_wish_49 : decode cX5_wish 49 = .ok (.iload_n 3, 1) := dck_get daX5_wish_t1 8 rfl
theorem dX5_wish_50 : decode cX5_wish 50 = .ok (.ireturn, 1) := dck_get daX5_wish_t1 9 rfl
set_option maxRecDepth 20000 in
theorem gw_wsX5_areAlive : wsX5_areAlive.all goodWord = true := by decide +kernel
set_option maxRecDepth 20000 in
theorem ggX5_year_X5_areAlive : GoodIn wsX5_year wsX5_areAlive := goodIn_sub (List.forall_mem_cons.mpr ⟨(List.mem_of_getElem? (i := 6) rfl), (List.forall_mem_append.mpr ⟨(List.forall_mem_cons.mpr ⟨(List.mem_of_getElem? (i := 7) rfl), (List.forall_mem_cons.mpr ⟨(List.mem_of_getElem? (i := 8) rfl), (List.forall_mem_cons.mpr ⟨(List.mem_of_getElem? (i := 9) rfl), (List.forall_mem_cons.mpr ⟨(List.mem_of_getElem? (i := 5) rfl), (List.forall_mem_cons.mpr ⟨(List.mem_of_getElem? (i := 10) rfl), (List.forall_mem_cons.mpr ⟨(List.mem_of_getElem? (i := 11) rfl), (List.forall_mem_cons.mpr ⟨(List.mem_of_getElem? (i := 12) rfl), (fun _ h => absurd h List.not_mem_nil)⟩)⟩)⟩)⟩)⟩)⟩)⟩), (fun _ h => (List.mem_cons_of_mem _ (List.mem_append_right _ h)))⟩)⟩) gw_wsX5_areAlive
set_option maxRecDepth 20000 in
theorem gX5_year_X5_areAlive : GoodIn wsX5_year (wsV RX5 171 RX5 yX5_areAlive wsX5_areAlive) := goodIn_app (goodIn_sub (List.forall_mem_cons.mpr ⟨(List.mem_of_getElem? (i := 2) rfl), (List.forall_mem_cons.mpr ⟨(List.mem_of_getElem? (i := 3) rfl), (List.forall_mem_cons.mpr ⟨(List.mem_of_getElem? (i := 4) rfl), (List.forall_mem_cons.mpr ⟨(List.mem_of_getElem? (i := 5) rfl), (fun _ h => absurd h List.not_mem_nil)⟩)⟩)⟩)⟩) (by decide +kernel)) ggX5_year_X5_areAlive
set_option maxRecDepth 20000 in
theorem ggX5_year_X5_no : GoodIn wsX5_year wsX5_no := goodIn_sub (List.forall_mem_cons.mpr ⟨(List.mem_of_getElem? (i := 16) rfl), (List.forall_mem_append.mpr ⟨(List.forall_mem_cons.mpr ⟨(List.mem_of_getElem? (i := 17) rfl), (fun _ h => absurd h List.not_mem_nil)⟩), (fun _ h => (List.mem_cons_of_mem _ (List.mem_append_right _ h)))⟩)⟩) gw_wsX5_no
set_option maxRecDepth 20000 in
theorem gX5_year_X5_no : GoodIn wsX5_year (wsV RX5 68 RX5 yX5_no wsX5_no) := goodIn_app (goodIn_sub (List.forall_mem_cons.mpr ⟨(List.mem_of_getElem? (i := 13) rfl), (List.forall_mem_cons.mpr ⟨(List.mem_of_getElem? (i := 14) rfl), (List.forall_mem_cons.mpr ⟨(List.mem_of_getElem? (i := 15) rfl), (List.forall_mem_cons.mpr ⟨(List.mem_of_getElem? (i := 5) rfl), (fun _ h => absurd h List.not_mem_nil)⟩)⟩)⟩)⟩) (by decide +kernel)) ggX5_year_X5_no
set_option maxRecDepth 20000 in
theorem ggX5_year_X5_goesYear : GoodIn wsX5_year wsX5_goesYear := goodIn_sub (List.forall_mem_cons.mpr ⟨(List.mem_of_getElem? (i := 21) rfl), (List.forall_mem_append.mpr ⟨(List.forall_mem_cons.mpr ⟨(List.mem_of_getElem? (i := 11) rfl), (List.forall_mem_cons.mpr ⟨(List.mem_of_getElem? (i := 22) rfl), (List.forall_mem_cons.mpr ⟨(List.mem_of_getElem? (i := 12) rfl), (List.forall_mem_cons.mpr ⟨(List.mem_of_getElem? (i := 23) rfl), (List.forall_mem_cons.mpr ⟨(List.mem_of_getElem? (i := 1) rfl), (List.forall_mem_cons.mpr ⟨(List.mem_of_getElem? (i := 24) rfl), (List.forall_mem_cons.mpr ⟨(List.mem_of_getElem? (i := 25) rfl), (List.forall_mem_cons.mpr ⟨(List.mem_of_getElem? (i := 26) rfl), (List.forall_mem_cons.mpr ⟨(List.mem_of_getElem? (i := 5) rfl), (List.forall_mem_cons.mpr ⟨(List.mem_of_getElem? (i := 27) rfl), (List.forall_mem_cons.mpr ⟨(List.mem_of_getElem? (i := 28) rfl), (List.forall_mem_cons.mpr ⟨(List.mem_of_getElem? (i := 29) rfl), (List.forall_mem_cons.mpr ⟨(List.mem_of_getElem? (i := 30) rfl), (List.forall_mem_cons.mpr ⟨(List.mem_of_getElem? (i := 31) rfl), (fun _ h => absurd h List.not_mem_nil)⟩)⟩)⟩)⟩)⟩)⟩)⟩)⟩)⟩)⟩)⟩)⟩)⟩)⟩), (fun _ h => (List.mem_cons_of_mem _ (List.mem_append_right _ h)))⟩)⟩) gw_wsX5_goesYear
set_option maxRecDepth 20000 in
theorem gX5_year_X5_goesYear : GoodIn wsX5_year (wsV RX5 110 RX5 yX5_goesYear wsX5_goesYear) := goodIn_app (goodIn_sub (List.forall_mem_cons.mpr ⟨(List.mem_of_getElem? (i := 18) rfl), (List.forall_mem_cons.mpr ⟨(List.mem_of_getElem? (i := 19) rfl), (List.forall_mem_cons.mpr ⟨(List.mem_of_getElem? (i := 20) rfl), (List.forall_mem_cons.mpr ⟨(List.mem_of_getElem? (i := 5) rfl), (fun _ h => absurd h List.not_mem_nil)⟩)⟩)⟩)⟩) (by decide +kernel)) ggX5_year_X5_goesYear
def dtX5_year_t0 : List (Nat × Instr × Nat) := [(0, .aload_n 0, 1), (1, .iload_n 1, 1), (2, .invokevirtual 171, 3), (5, .ifCond .ne 9, 3), (8, .aload_n 0, 1), (9, .iconst (-1), 1), (10, .invokevirtual 68, 3), (13, .ireturn, 1), (14, .aload_n 0, 1), (15, .getfield 107, 3), (18, .bipush 99, 2), (20, .if_icmp .ne 12, 3), (23, .aload_n 0, 1), (24, .bipush (-6), 2), (26, .invokevirtual 68, 3), (29, .goto 8, 3), (32, .aload_n 0, 1), (33, .iload_n 1, 1), (34, .invokevirtual 110, 3), (37, .ireturn, 1)]
theorem daX5_year_t0 : dtX5_year_t0.all (dck cX5_year) = true := by decide +kernel
theorem dX5_year_0 : decode cX5_year 0 = .ok (.aload_n 0, 1) := dck_get daX5_year_t0 0 rfl
theorem dX5_year_1 : decode cX5_year 1 = .ok (.iload_n 1, 1) := dck_get daX5_year_t0 1 rfl
theorem dX5_year_2 : decode cX5_year 2 = .ok (.invokevirtual 171, 3) := dck_get daX5_year_t0 2 rfl
theorem dX5_year_5 : decode cX5_year 5 = .ok (.ifCond .ne 9, 3) := dck_get daX5_year_t0 3 rfl
theorem dX5_year_8 : decode cX5_year 8 = .ok (.aload_n 0, 1) := dck_get daX5_year_t0 4 rfl
theorem dX5_year_9 : decode cX5_year 9 = .ok (.iconst (-1), 1) := dck_get daX5_year_t0 5 rfl
theorem dX5_year_10 : decode cX5_year 10 = .ok (.invokevirtual 68, 3) := dck_get daX5_year_t0 6 rfl
theorem dX5_year_13 : decode cX5_year 13 = .ok (.ireturn, 1) := dck_get daX5_year_t0 7 rfl
theorem dX5_year_14 : decode cX5_year 14 = .ok (.aload_n 0, 1) := dck_get daX5_year_t0 8 rfl
theorem dX5_year_15 : decode cX5_year 15 = .ok (.getfield 107, 3) := dck_get daX5_year_t0 9 rfl
theorem dX5_year_18 : decode cX5_year 18 = .ok (.bipush 99, 2) := dck_get daX5_year_t0 10 rfl
theorem dX5_year_20 : decode cX5_year 20 = .ok (.if_icmp .ne 12, 3) := dck_get daX5_year_t0 11 rfl
theorem dX5_year_23 : decode cX5_year 23 = .ok (.aload_n 0, 1) := dck_get daX5_year_t0 12 rfl
theorem dX5_year_24 : decode cX5_year 24 = .ok (.bipush (-6), 2) := dck_get daX5_year_t0 13 rfl
theorem dX5_year_26 : decode cX5_year 26 = .ok (.invokevirtual 68, 3) := dck_get daX5_year_t0 14 rfl
theorem dX5_year_29 : decode cX5_year 29 = .ok (.goto 8, 3) := dck_get daX5_year_t0 15 rfl
theorem dX5_year_32 : decode cX5_year 32 = .ok (.aload_n 0, 1) := dck_get daX5_year_t0 16 rfl
theorem dX5_year_33 : decode cX5_year 33 = .ok (.iload_n 1, 1) := dck_get daX5_year_t0 17 rfl
theorem dX5_year_34 : decode cX5_year 34 = .ok (.invokevirtual 110, 3) := dck_get daX5_year_t0 18 rfl
theorem dX5_year_37 : decode cX5_year 37 = .ok (.ireturn, 1) := dck_get daX5_year_t0 19 rfl
set_option maxRecDepth 20000 in
theorem ggX5_on_X5_isFloor : GoodIn wsX5_on wsX5_isFloor := goodIn_sub (List.forall_mem_cons.mpr ⟨(List.mem_of_getElem? (i := 4) rfl), (fun _ h => absurd h List.not_mem_nil)⟩) gw_wsX5_isFloor
set_option maxRecDepth 20000 in
theorem gX5_on_X5_isFloor : GoodIn wsX5_on (va_wsS RX5 168 yX5_isFloor wsX5_isFloor) := goodIn_app (goodIn_sub (List.forall_mem_cons.mpr ⟨(List.mem_of_getElem? (i := 1) rfl), (List.forall_mem_cons.mpr ⟨(List.mem_of_getElem? (i := 2) rfl), (List.forall_mem_cons.mpr ⟨(List.mem_of_getElem? (i := 3) rfl), (fun _ h => absurd h List.not_mem_nil)⟩)⟩)⟩) (by decide +kernel)) ggX5_on_X5_isFloor
set_option maxRecDepth 20000 in
theorem ggX5_on_X5_whoOn : GoodIn wsX5_on wsX5_whoOn := goodIn_sub (List.forall_mem_cons.mpr ⟨(List.mem_of_getElem? (i := 8) rfl), (List.forall_mem_append.mpr ⟨(List.forall_mem_cons.mpr ⟨(List.mem_of_getElem? (i := 9) rfl), (List.forall_mem_cons.mpr ⟨(List.mem_of_getElem? (i := 10) rfl), (fun _ h => absurd h List.not_mem_nil)⟩)⟩), (fun _ h => (List.mem_cons_of_mem _ (List.mem_append_right _ h)))⟩)⟩) gw_wsX5_whoOn
set_option maxRecDepth 20000 in
theorem gX5_on_X5_whoOn : GoodIn wsX5_on (wsV RX5 117 RX5 yX5_whoOn wsX5_whoOn) := goodIn_app (goodIn_sub (List.forall_mem_cons.mpr ⟨(List.mem_of_getElem? (i := 5) rfl), (List.forall_mem_cons.mpr ⟨(List.mem_of_getElem? (i := 6) rfl), (List.forall_mem_cons.mpr ⟨(List.mem_of_getElem? (i := 7) rfl), (List.forall_mem_cons.mpr ⟨(List.mem_of_getElem? (i := 3) rfl), (fun _ h => absurd h List.not_mem_nil)⟩)⟩)⟩)⟩) (by decide +kernel)) ggX5_on_X5_whoOn
set_option maxRecDepth 20000 in
theorem ggX5_on_X5_no : GoodIn wsX5_on wsX5_no := goodIn_sub (List.forall_mem_cons.mpr ⟨(List.mem_of_getElem? (i := 14) rfl), (List.forall_mem_append.mpr ⟨(List.forall_mem_cons.mpr ⟨(List.mem_of_getElem? (i := 15) rfl), (fun _ h => absurd h List.not_mem_nil)⟩), (fun _ h => (List.mem_cons_of_mem _ (List.mem_append_right _ h)))⟩)⟩) gw_wsX5_no
set_option maxRecDepth 20000 in
theorem gX5_on_X5_no : GoodIn wsX5_on (wsV RX5 68 RX5 yX5_no wsX5_no) := goodIn_app (goodIn_sub (List.forall_mem_cons.mpr ⟨(List.mem_of_getElem? (i := 11) rfl), (List.forall_mem_cons.mpr ⟨(List.mem_of_getElem? (i := 12) rfl), (List.forall_mem_cons.mpr ⟨(List.mem_of_getElem? (i := 13) rfl), (List.forall_mem_cons.mpr ⟨(List.mem_of_getElem? (i := 3) rfl), (fun _ h => absurd h List.not_mem_nil)⟩)⟩)⟩)⟩) (by decide +kernel)) ggX5_on_X5_no
def dtX5_on_t0 : List (Nat × Instr × Nat) := [(0, .iload_n 1, 1), (1, .invokestatic 168, 3), (4, .ifCond .eq 11, 3), (7, .aload_n 0, 1), (8, .iload_n 1, 1), (9, .invokevirtual 117, 3), (12, .goto 8, 3), (15, .aload_n 0, 1), (16, .iconst (-1), 1), (17, .invokevirtual 68, 3), (20, .ireturn, 1)]
theorem daX5_on_t0 : dtX5_on_t0.all (dck cX5_on) = true := by decide +kernel
theorem dX5_on_0 : decode cX5_on 0 = .ok (.iload_n 1, 1) := dck_get daX5_on_t0 0 rfl
theorem dX5_on_1 : decode cX5_on 1 = .ok (.invokestatic 168, 3) := dck_get daX5_on_t0 1 rfl
theorem dX5_on_4 : decode cX5_on 4 = .ok (.ifCond .eq 11, 3) := dck_get daX5_on_t0 2 rfl
theorem dX5_on_7 : decode cX5_on 7 = .ok (.aload_n 0, 1) := dck_get daX5_on_t0 3 rfl
theorem dX5_on_8 : decode cX5_on 8 = .ok (.iload_n 1, 1) := dck_get daX5_on_t0 4 rfl
theorem dX5_on_9 : decode cX5_on 9 = .ok (.invokevirtual 117, 3) := dck_get daX5_on_t0 5 rfl
theorem dX5_on_12 : decode cX5_on 12 = .ok (.goto 8, 3) := dck_get daX5_on_t0 6 rfl
theorem dX5_on_15 : decode cX5_on 15 = .ok (.aload_n 0, 1) := dck_get daX5_on_t0 7 rfl
theorem dX5_on_16 : decode cX5_on 16 = .ok (.iconst (-1), 1) := dck_get daX5_on_t0 8 rfl
theorem dX5_on_17 : decode cX5_on 17 = .ok (.invokevirtual 68, 3) := dck_get daX5_on_t0 9 rfl
theorem dX5_on_20 : decode cX5_on 20 = .ok (.ireturn, 1) := dck_get daX5_on_t0 10 rfl
set_option maxRecDepth 20000 in
theorem ggX5_partsOf_X5_chanceOf : GoodIn wsX5_partsOf wsX5_chanceOf := goodIn_sub (List.forall_mem_cons.mpr ⟨(List.mem_of_getElem? (i := 8) rfl), (List.forall_mem_append.mpr ⟨(List.forall_mem_cons.mpr ⟨(List.mem_of_getElem? (i := 9) rfl), (List.forall_mem_cons.mpr ⟨(List.mem_of_getElem? (i := 10) rfl), (List.forall_mem_cons.mpr ⟨(List.mem_of_getElem? (i := 11) rfl), (List.forall_mem_cons.mpr ⟨(List.mem_of_getElem? (i := 12) rfl), (List.forall_mem_cons.mpr ⟨(List.mem_of_getElem? (i := 7) rfl), (List.forall_mem_cons.mpr ⟨(List.mem_of_getElem? (i := 13) rfl), (fun _ h => absurd h List.not_mem_nil)⟩)⟩)⟩)⟩)⟩)⟩), (fun _ h => (List.mem_cons_of_mem _ (List.mem_append_right _ h)))⟩)⟩) gw_wsX5_chanceOf
set_option maxRecDepth 20000 in
theorem gX5_partsOf_X5_chanceOf : GoodIn wsX5_partsOf (wsV RX5 162 RX5 yX5_chanceOf wsX5_chanceOf) := goodIn_app (goodIn_sub (List.forall_mem_cons.mpr ⟨(List.mem_of_getElem? (i := 4) rfl), (List.forall_mem_cons.mpr ⟨(List.mem_of_getElem? (i := 5) rfl), (List.forall_mem_cons.mpr ⟨(List.mem_of_getElem? (i := 6) rfl), (List.forall_mem_cons.mpr ⟨(List.mem_of_getElem? (i := 7) rfl), (fun _ h => absurd h List.not_mem_nil)⟩)⟩)⟩)⟩) (by decide +kernel)) ggX5_partsOf_X5_chanceOf
def dtX5_partsOf_t0 : List (Nat × Instr × Nat) := [(0, .lconst 1, 1), (1, .lstore_n 2, 1), (2, .iconst 0, 1), (3, .istore 4, 2), (5, .iload 4, 2), (7, .aload_n 0, 1), (8, .getfield 57, 3), (11, .if_icmp .ge 58, 3), (14, .lload_n 2, 1), (15, .aload_n 0, 1), (16, .getfield 19, 3), (19, .iload 4, 2), (21, .iaload, 1), (22, .ifCond .ge 9, 3), (25, .ldc2_w 174, 3), (28, .goto 33, 3), (31, .iload_n 1, 1), (32, .iload 4, 2), (34, .ishr, 1), (35, .iconst 1, 1)]
theorem daX5_partsOf_t0 : dtX5_partsOf_t0.all (dck cX5_partsOf) = true := by decide +kernel
theorem dX5_partsOf_0 : decode cX5_partsOf 0 = .ok (.lconst 1, 1) := dck_get daX5_partsOf_t0 0 rfl
theorem dX5_partsOf_1 : decode cX5_partsOf 1 = .ok (.lstore_n 2, 1) := dck_get daX5_partsOf_t0 1 rfl
theorem dX5_partsOf_2 : decode cX5_partsOf 2 = .ok (.iconst 0, 1) := dck_get daX5_partsOf_t0 2 rfl
theorem dX5_partsOf_3 : decode cX5_partsOf 3 = .ok (.istore 4, 2) := dck_get daX5_partsOf_t0 3 rfl
theorem dX5_partsOf_5 : decode cX5_partsOf 5 = .ok (.iload 4, 2) := dck_get daX5_partsOf_t0 4 rfl
theorem dX5_partsOf_7 : decode cX5_partsOf 7 = .ok (.aload_n 0, 1) := dck_get daX5_partsOf_t0 5 rfl
theorem dX5_partsOf_8 : decode cX5_partsOf 8 = .ok (.getfield 57, 3) := dck_get daX5_partsOf_t0 6 rfl
theorem dX5_partsOf_11 : decode cX5_partsOf 11 = .ok (.if_icmp .ge 58, 3) := dck_get daX5_partsOf_t0 7 rfl
theorem dX5_partsOf_14 : decode cX5_partsOf 14 = .ok (.lload_n 2, 1) := dck_get daX5_partsOf_t0 8 rfl
theorem dX5_partsOf_15 : decode cX5_partsOf 15 = .ok (.aload_n 0, 1) := dck_get daX5_partsOf_t0 9 rfl
theorem dX5_partsOf_16 : decode cX5_partsOf 16 = .ok (.getfield 19, 3) := dck_get daX5_partsOf_t0 10 rfl
theorem dX5_partsOf_19 : decode cX5_partsOf 19 = .ok (.iload 4, 2) := dck_get daX5_partsOf_t0 11 rfl
theorem dX5_partsOf_21 : decode cX5_partsOf 21 = .ok (.iaload, 1) := dck_get daX5_partsOf_t0 12 rfl
theorem dX5_partsOf_22 : decode cX5_partsOf 22 = .ok (.ifCond .ge 9, 3) := dck_get daX5_partsOf_t0 13 rfl
theorem dX5_partsOf_25 : decode cX5_partsOf 25 = .ok (.ldc2_w 174, 3) := dck_get daX5_partsOf_t0 14 rfl
theorem dX5_partsOf_28 : decode cX5_partsOf 28 = .ok (.goto 33, 3) := dck_get daX5_partsOf_t0 15 rfl
theorem dX5_partsOf_31 : decode cX5_partsOf 31 = .ok (.iload_n 1, 1) := dck_get daX5_partsOf_t0 16 rfl
theorem dX5_partsOf_32 : decode cX5_partsOf 32 = .ok (.iload 4, 2) := dck_get daX5_partsOf_t0 17 rfl
theorem dX5_partsOf_34 : decode cX5_partsOf 34 = .ok (.ishr, 1) := dck_get daX5_partsOf_t0 18 rfl
theorem dX5_partsOf_35 : decode cX5_partsOf 35 = .ok (.iconst 1, 1) := dck_get daX5_partsOf_t0 19 rfl
def dtX5_partsOf_t1 : List (Nat × Instr × Nat) := [(36, .iand, 1), (37, .iconst 1, 1), (38, .if_icmp .ne 13, 3), (41, .aload_n 0, 1), (42, .iload 4, 2), (44, .invokevirtual 162, 3), (47, .i2l, 1), (48, .goto 13, 3), (51, .bipush 10, 2), (53, .aload_n 0, 1), (54, .iload 4, 2), (56, .invokevirtual 162, 3), (59, .isub, 1), (60, .i2l, 1), (61, .lmul, 1), (62, .lstore_n 2, 1), (63, .iinc 4 1, 3), (66, .goto (-61), 3), (69, .lload_n 2, 1), (70, .lreturn, 1)]
theorem daX5_partsOf_t1 : dtX5_partsOf_t1.all (dck cX5_partsOf) = true := by decide +kernel
theorem dX5_partsOf_36 : decode cX5_partsOf 36 = .ok (.iand, 1) := dck_get daX5_partsOf_t1 0 rfl
theorem dX5_partsOf_37 : decode cX5_partsOf 37 = .ok (.iconst 1, 1) := dck_get daX5_partsOf_t1 1 rfl
theorem dX5_partsOf_38 : decode cX5_partsOf 38 = .ok (.if_icmp .ne 13, 3) := dck_get daX5_partsOf_t1 2 rfl
theorem dX5_partsOf_41 : decode cX5_partsOf 41 = .ok (.aload_n 0, 1) := dck_get daX5_partsOf_t1 3 rfl
theorem dX5_partsOf_42 : decode cX5_partsOf 42 = .ok (.iload 4, 2) := dck_get daX5_partsOf_t1 4 rfl
theorem dX5_partsOf_44 : decode cX5_partsOf 44 = .ok (.invokevirtual 162, 3) := dck_get daX5_partsOf_t1 5 rfl
theorem dX5_partsOf_47 : decode cX5_partsOf 47 = .ok (.i2l, 1) := dck_get daX5_partsOf_t1 6 rfl
theorem dX5_partsOf_48 : decode cX5_partsOf 48 = .ok (.goto 13, 3) := dck_get daX5_partsOf_t1 7 rfl
theorem dX5_partsOf_51 : decode cX5_partsOf 51 = .ok (.bipush 10, 2) := dck_get daX5_partsOf_t1 8 rfl
theorem dX5_partsOf_53 : decode cX5_partsOf 53 = .ok (.aload_n 0, 1) := dck_get daX5_partsOf_t1 9 rfl
theorem dX5_partsOf_54 : decode cX5_partsOf 54 = .ok (.iload 4, 2) := dck_get daX5_partsOf_t1 10 rfl
theorem dX5_partsOf_56 : decode cX5_partsOf 56 = .ok (.invokevirtual 162, 3) := dck_get daX5_partsOf_t1 11 rfl
theorem dX5_partsOf_59 : decode cX5_partsOf 59 = .ok (.isub, 1) := dck_get daX5_partsOf_t1 12 rfl
theorem dX5_partsOf_60 : decode cX5_partsOf 60 = .ok (.i2l, 1) := dck_get daX5_partsOf_t1 13 rfl
theorem dX5_partsOf_61 : decode cX5_partsOf 61 = .ok (.lmul, 1) := dck_get daX5_partsOf_t1 14 rfl
theorem dX5_partsOf_62 : decode cX5_partsOf 62 = .ok (.lstore_n 2, 1) := dck_get daX5_partsOf_t1 15 rfl
theorem dX5_partsOf_63 : decode cX5_partsOf 63 = .ok (.iinc 4 1, 3) := dck_get daX5_partsOf_t1 16 rfl
theorem dX5_partsOf_66 : decode cX5_partsOf 66 = .ok (.goto (-61), 3) := dck_get daX5_partsOf_t1 17 rfl
theorem dX5_partsOf_69 : decode cX5_partsOf 69 = .ok (.lload_n 2, 1) := dck_get daX5_partsOf_t1 18 rfl
theorem dX5_partsOf_70 : decode cX5_partsOf 70 = .ok (.lreturn, 1) := dck_get daX5_partsOf_t1 19 rfl
def dtX5_divisor_t0 : List (Nat × Instr × Nat) := [(0, .lload_n 0, 1), (1, .lstore 4, 2), (3, .lload_n 2, 1), (4, .lstore 6, 2), (6, .lload 6, 2), (8, .lconst 0, 1), (9, .lcmp, 1), (10, .ifCond .eq 21, 3), (13, .lload 4, 2), (15, .lload 6, 2), (17, .lrem, 1), (18, .lstore 8, 2), (20, .lload 6, 2), (22, .lstore 4, 2), (24, .lload 8, 2), (26, .lstore 6, 2), (28, .goto (-22), 3), (31, .lload 4, 2), (33, .lreturn, 1)]
theorem daX5_divisor_t0 : dtX5_divisor_t0.all (dck cX5_divisor) = true := by decide +kernel
theorem dX5_divisor_0 : decode cX5_divisor 0 = .ok (.lload_n 0, 1) := dck_get daX5_divisor_t0 0 rfl
theorem dX5_divisor_1 : decode cX5_divisor 1 = .ok (.lstore 4, 2) := dck_get daX5_divisor_t0 1 rfl
theorem dX5_divisor_3 : decode cX5_divisor 3 = .ok (.lload_n 2, 1) := dck_get daX5_divisor_t0 2 rfl
theorem dX5_divisor_4 : decode cX5_divisor 4 = .ok (.lstore 6, 2) := dck_get daX5_divisor_t0 3 rfl
theorem dX5_divisor_6 : decode cX5_divisor 6 = .ok (.lload 6, 2) := dck_get daX5_divisor_t0 4 rfl
theorem dX5_divisor_8 : decode cX5_divisor 8 = .ok (.lconst 0, 1) := dck_get daX5_divisor_t0 5 rfl
theorem dX5_divisor_9 : decode cX5_divisor 9 = .ok (.lcmp, 1) := dck_get daX5_divisor_t0 6 rfl
theorem dX5_divisor_10 : decode cX5_divisor 10 = .ok (.ifCond .eq 21, 3) := dck_get daX5_divisor_t0 7 rfl
theorem dX5_divisor_13 : decode cX5_divisor 13 = .ok (.lload 4, 2) := dck_get daX5_divisor_t0 8 rfl
theorem dX5_divisor_15 : decode cX5_divisor 15 = .ok (.lload 6, 2) := dck_get daX5_divisor_t0 9 rfl
theorem dX5_divisor_17 : decode cX5_divisor 17 = .ok (.lrem, 1) := dck_get daX5_divisor_t0 10 rfl
theorem dX5_divisor_18 : decode cX5_divisor 18 = .ok (.lstore 8, 2) := dck_get daX5_divisor_t0 11 rfl
theorem dX5_divisor_20 : decode cX5_divisor 20 = .ok (.lload 6, 2) := dck_get daX5_divisor_t0 12 rfl
theorem dX5_divisor_22 : decode cX5_divisor 22 = .ok (.lstore 4, 2) := dck_get daX5_divisor_t0 13 rfl
theorem dX5_divisor_24 : decode cX5_divisor 24 = .ok (.lload 8, 2) := dck_get daX5_divisor_t0 14 rfl
theorem dX5_divisor_26 : decode cX5_divisor 26 = .ok (.lstore 6, 2) := dck_get daX5_divisor_t0 15 rfl
theorem dX5_divisor_28 : decode cX5_divisor 28 = .ok (.goto (-22), 3) := dck_get daX5_divisor_t0 16 rfl
theorem dX5_divisor_31 : decode cX5_divisor 31 = .ok (.lload 4, 2) := dck_get daX5_divisor_t0 17 rfl
theorem dX5_divisor_33 : decode cX5_divisor 33 = .ok (.lreturn, 1) := dck_get daX5_divisor_t0 18 rfl
set_option maxRecDepth 20000 in
theorem ggX5_partsTo_X5_areAlive : GoodIn wsX5_partsTo wsX5_areAlive := goodIn_sub (List.forall_mem_cons.mpr ⟨(List.mem_of_getElem? (i := 7) rfl), (List.forall_mem_append.mpr ⟨(List.forall_mem_cons.mpr ⟨(List.mem_of_getElem? (i := 8) rfl), (List.forall_mem_cons.mpr ⟨(List.mem_of_getElem? (i := 9) rfl), (List.forall_mem_cons.mpr ⟨(List.mem_of_getElem? (i := 10) rfl), (List.forall_mem_cons.mpr ⟨(List.mem_of_getElem? (i := 6) rfl), (List.forall_mem_cons.mpr ⟨(List.mem_of_getElem? (i := 11) rfl), (List.forall_mem_cons.mpr ⟨(List.mem_of_getElem? (i := 1) rfl), (List.forall_mem_cons.mpr ⟨(List.mem_of_getElem? (i := 2) rfl), (fun _ h => absurd h List.not_mem_nil)⟩)⟩)⟩)⟩)⟩)⟩)⟩), (fun _ h => (List.mem_cons_of_mem _ (List.mem_append_right _ h)))⟩)⟩) gw_wsX5_areAlive
set_option maxRecDepth 20000 in
theorem gX5_partsTo_X5_areAlive : GoodIn wsX5_partsTo (wsV RX5 171 RX5 yX5_areAlive wsX5_areAlive) := goodIn_app (goodIn_sub (List.forall_mem_cons.mpr ⟨(List.mem_of_getElem? (i := 3) rfl), (List.forall_mem_cons.mpr ⟨(List.mem_of_getElem? (i := 4) rfl), (List.forall_mem_cons.mpr ⟨(List.mem_of_getElem? (i := 5) rfl), (List.forall_mem_cons.mpr ⟨(List.mem_of_getElem? (i := 6) rfl), (fun _ h => absurd h List.not_mem_nil)⟩)⟩)⟩)⟩) (by decide +kernel)) ggX5_partsTo_X5_areAlive
set_option maxRecDepth 20000 in
theorem gw_wsX5_partsOf : wsX5_partsOf.all goodWord = true := by decide +kernel
set_option maxRecDepth 20000 in
theorem ggX5_partsTo_X5_partsOf : GoodIn wsX5_partsTo wsX5_partsOf := goodIn_sub (List.forall_mem_cons.mpr ⟨(List.mem_of_getElem? (i := 15) rfl), (List.forall_mem_append.mpr ⟨(List.forall_mem_cons.mpr ⟨(List.mem_of_getElem? (i := 1) rfl), (List.forall_mem_cons.mpr ⟨(List.mem_of_getElem? (i := 2) rfl), (List.forall_mem_cons.mpr ⟨(List.mem_of_getElem? (i := 16) rfl), (List.forall_mem_cons.mpr ⟨(List.mem_of_getElem? (i := 17) rfl), (List.forall_mem_cons.mpr ⟨(List.mem_of_getElem? (i := 18) rfl), (List.forall_mem_cons.mpr ⟨(List.mem_of_getElem? (i := 19) rfl), (List.forall_mem_cons.mpr ⟨(List.mem_of_getElem? (i := 6) rfl), (List.forall_mem_cons.mpr ⟨(List.mem_of_getElem? (i := 20) rfl), (List.forall_mem_cons.mpr ⟨(List.mem_of_getElem? (i := 21) rfl), (List.forall_mem_cons.mpr ⟨(List.mem_of_getElem? (i := 22) rfl), (List.forall_mem_cons.mpr ⟨(List.mem_of_getElem? (i := 23) rfl), (List.forall_mem_cons.mpr ⟨(List.mem_of_getElem? (i := 24) rfl), (List.forall_mem_cons.mpr ⟨(List.mem_of_getElem? (i := 25) rfl), (fun _ h => absurd h List.not_mem_nil)⟩)⟩)⟩)⟩)⟩)⟩)⟩)⟩)⟩)⟩)⟩)⟩)⟩), (fun _ h => (List.mem_cons_of_mem _ (List.mem_append_right _ h)))⟩)⟩) gw_wsX5_partsOf
set_option maxRecDepth 20000 in
theorem gX5_partsTo_X5_partsOf : GoodIn wsX5_partsTo (wsV RX5 176 RX5 yX5_partsOf wsX5_partsOf) := goodIn_app (goodIn_sub (List.forall_mem_cons.mpr ⟨(List.mem_of_getElem? (i := 12) rfl), (List.forall_mem_cons.mpr ⟨(List.mem_of_getElem? (i := 13) rfl), (List.forall_mem_cons.mpr ⟨(List.mem_of_getElem? (i := 14) rfl), (List.forall_mem_cons.mpr ⟨(List.mem_of_getElem? (i := 6) rfl), (fun _ h => absurd h List.not_mem_nil)⟩)⟩)⟩)⟩) (by decide +kernel)) ggX5_partsTo_X5_partsOf
set_option maxRecDepth 20000 in
theorem ggX5_partsTo_X5_passesAll : GoodIn wsX5_partsTo wsX5_passesAll := goodIn_sub (List.forall_mem_cons.mpr ⟨(List.mem_of_getElem? (i := 29) rfl), (List.forall_mem_append.mpr ⟨(List.forall_mem_cons.mpr ⟨(List.mem_of_getElem? (i := 30) rfl), (List.forall_mem_cons.mpr ⟨(List.mem_of_getElem? (i := 31) rfl), (List.forall_mem_cons.mpr ⟨(List.mem_of_getElem? (i := 22) rfl), (List.forall_mem_cons.mpr ⟨(List.mem_of_getElem? (i := 21) rfl), (List.forall_mem_cons.mpr ⟨(List.mem_of_getElem? (i := 2) rfl), (List.forall_mem_cons.mpr ⟨(List.mem_of_getElem? (i := 32) rfl), (List.forall_mem_cons.mpr ⟨(List.mem_of_getElem? (i := 33) rfl), (List.forall_mem_cons.mpr ⟨(List.mem_of_getElem? (i := 1) rfl), (List.forall_mem_cons.mpr ⟨(List.mem_of_getElem? (i := 34) rfl), (List.forall_mem_cons.mpr ⟨(List.mem_of_getElem? (i := 35) rfl), (List.forall_mem_cons.mpr ⟨(List.mem_of_getElem? (i := 36) rfl), (List.forall_mem_cons.mpr ⟨(List.mem_of_getElem? (i := 37) rfl), (List.forall_mem_cons.mpr ⟨(List.mem_of_getElem? (i := 6) rfl), (List.forall_mem_cons.mpr ⟨(List.mem_of_getElem? (i := 38) rfl), (List.forall_mem_cons.mpr ⟨(List.mem_of_getElem? (i := 39) rfl), (List.forall_mem_cons.mpr ⟨(List.mem_of_getElem? (i := 40) rfl), (List.forall_mem_cons.mpr ⟨(List.mem_of_getElem? (i := 41) rfl), (List.forall_mem_cons.mpr ⟨(List.mem_of_getElem? (i := 42) rfl), (List.forall_mem_cons.mpr ⟨(List.mem_of_getElem? (i := 43) rfl), (fun _ h => absurd h List.not_mem_nil)⟩)⟩)⟩)⟩)⟩)⟩)⟩)⟩)⟩)⟩)⟩)⟩)⟩)⟩)⟩)⟩)⟩)⟩)⟩), (fun _ h => (List.mem_cons_of_mem _ (List.mem_append_right _ h)))⟩)⟩) gw_wsX5_passesAll
set_option maxRecDepth 20000 in
theorem gX5_partsTo_X5_passesAll : GoodIn wsX5_partsTo (wsV RX5 129 RX5 yX5_passesAll wsX5_passesAll) := goodIn_app (goodIn_sub (List.forall_mem_cons.mpr ⟨(List.mem_of_getElem? (i := 26) rfl), (List.forall_mem_cons.mpr ⟨(List.mem_of_getElem? (i := 27) rfl), (List.forall_mem_cons.mpr ⟨(List.mem_of_getElem? (i := 28) rfl), (List.forall_mem_cons.mpr ⟨(List.mem_of_getElem? (i := 6) rfl), (fun _ h => absurd h List.not_mem_nil)⟩)⟩)⟩)⟩) (by decide +kernel)) ggX5_partsTo_X5_passesAll
set_option maxRecDepth 20000 in
theorem ggX5_partsTo_X5_goesYear : GoodIn wsX5_partsTo wsX5_goesYear := goodIn_sub (List.forall_mem_cons.mpr ⟨(List.mem_of_getElem? (i := 47) rfl), (List.forall_mem_append.mpr ⟨(List.forall_mem_cons.mpr ⟨(List.mem_of_getElem? (i := 1) rfl), (List.forall_mem_cons.mpr ⟨(List.mem_of_getElem? (i := 48) rfl), (List.forall_mem_cons.mpr ⟨(List.mem_of_getElem? (i := 2) rfl), (List.forall_mem_cons.mpr ⟨(List.mem_of_getElem? (i := 21) rfl), (List.forall_mem_cons.mpr ⟨(List.mem_of_getElem? (i := 34) rfl), (List.forall_mem_cons.mpr ⟨(List.mem_of_getElem? (i := 49) rfl), (List.forall_mem_cons.mpr ⟨(List.mem_of_getElem? (i := 50) rfl), (List.forall_mem_cons.mpr ⟨(List.mem_of_getElem? (i := 51) rfl), (List.forall_mem_cons.mpr ⟨(List.mem_of_getElem? (i := 6) rfl), (List.forall_mem_cons.mpr ⟨(List.mem_of_getElem? (i := 52) rfl), (List.forall_mem_cons.mpr ⟨(List.mem_of_getElem? (i := 22) rfl), (List.forall_mem_cons.mpr ⟨(List.mem_of_getElem? (i := 23) rfl), (List.forall_mem_cons.mpr ⟨(List.mem_of_getElem? (i := 24) rfl), (List.forall_mem_cons.mpr ⟨(List.mem_of_getElem? (i := 25) rfl), (fun _ h => absurd h List.not_mem_nil)⟩)⟩)⟩)⟩)⟩)⟩)⟩)⟩)⟩)⟩)⟩)⟩)⟩)⟩), (fun _ h => (List.mem_cons_of_mem _ (List.mem_append_right _ h)))⟩)⟩) gw_wsX5_goesYear
set_option maxRecDepth 20000 in
theorem gX5_partsTo_X5_goesYear : GoodIn wsX5_partsTo (wsV RX5 110 RX5 yX5_goesYear wsX5_goesYear) := goodIn_app (goodIn_sub (List.forall_mem_cons.mpr ⟨(List.mem_of_getElem? (i := 44) rfl), (List.forall_mem_cons.mpr ⟨(List.mem_of_getElem? (i := 45) rfl), (List.forall_mem_cons.mpr ⟨(List.mem_of_getElem? (i := 46) rfl), (List.forall_mem_cons.mpr ⟨(List.mem_of_getElem? (i := 6) rfl), (fun _ h => absurd h List.not_mem_nil)⟩)⟩)⟩)⟩) (by decide +kernel)) ggX5_partsTo_X5_goesYear
def dtX5_partsTo_t0 : List (Nat × Instr × Nat) := [(0, .lconst 0, 1), (1, .lstore 4, 2), (3, .iconst 0, 1), (4, .istore 6, 2), (6, .iload 6, 2), (8, .iconst 1, 1), (9, .aload_n 0, 1), (10, .getfield 57, 3), (13, .ishl, 1), (14, .if_icmp .ge 75, 3), (17, .aload_n 0, 1), (18, .iload 6, 2), (20, .invokevirtual 171, 3), (23, .ifCond .ne 6, 3), (26, .goto 57, 3), (29, .aload_n 0, 1), (30, .iload 6, 2), (32, .invokevirtual 176, 3), (35, .lstore 7, 2), (37, .lload 7, 2)]
theorem daX5_partsTo_t0 : dtX5_partsTo_t0.all (dck cX5_partsTo) = true := by decide +kernel
theorem dX5_partsTo_0 : decode cX5_partsTo 0 = .ok (.lconst 0, 1) := dck_get daX5_partsTo_t0 0 rfl
theorem dX5_partsTo_1 : decode cX5_partsTo 1 = .ok (.lstore 4, 2) := dck_get daX5_partsTo_t0 1 rfl
theorem dX5_partsTo_3 : decode cX5_partsTo 3 = .ok (.iconst 0, 1) := dck_get daX5_partsTo_t0 2 rfl
theorem dX5_partsTo_4 : decode cX5_partsTo 4 = .ok (.istore 6, 2) := dck_get daX5_partsTo_t0 3 rfl
theorem dX5_partsTo_6 : decode cX5_partsTo 6 = .ok (.iload 6, 2) := dck_get daX5_partsTo_t0 4 rfl
theorem dX5_partsTo_8 : decode cX5_partsTo 8 = .ok (.iconst 1, 1) := dck_get daX5_partsTo_t0 5 rfl
theorem dX5_partsTo_9 : decode cX5_partsTo 9 = .ok (.aload_n 0, 1) := dck_get daX5_partsTo_t0 6 rfl
theorem dX5_partsTo_10 : decode cX5_partsTo 10 = .ok (.getfield 57, 3) := dck_get daX5_partsTo_t0 7 rfl
theorem dX5_partsTo_13 : decode cX5_partsTo 13 = .ok (.ishl, 1) := dck_get daX5_partsTo_t0 8 rfl
theorem dX5_partsTo_14 : decode cX5_partsTo 14 = .ok (.if_icmp .ge 75, 3) := dck_get daX5_partsTo_t0 9 rfl
theorem dX5_partsTo_17 : decode cX5_partsTo 17 = .ok (.aload_n 0, 1) := dck_get daX5_partsTo_t0 10 rfl
theorem dX5_partsTo_18 : decode cX5_partsTo 18 = .ok (.iload 6, 2) := dck_get daX5_partsTo_t0 11 rfl
theorem dX5_partsTo_20 : decode cX5_partsTo 20 = .ok (.invokevirtual 171, 3) := dck_get daX5_partsTo_t0 12 rfl
theorem dX5_partsTo_23 : decode cX5_partsTo 23 = .ok (.ifCond .ne 6, 3) := dck_get daX5_partsTo_t0 13 rfl
theorem dX5_partsTo_26 : decode cX5_partsTo 26 = .ok (.goto 57, 3) := dck_get daX5_partsTo_t0 14 rfl
theorem dX5_partsTo_29 : decode cX5_partsTo 29 = .ok (.aload_n 0, 1) := dck_get daX5_partsTo_t0 15 rfl
theorem dX5_partsTo_30 : decode cX5_partsTo 30 = .ok (.iload 6, 2) := dck_get daX5_partsTo_t0 16 rfl
theorem dX5_partsTo_32 : decode cX5_partsTo 32 = .ok (.invokevirtual 176, 3) := dck_get daX5_partsTo_t0 17 rfl
theorem dX5_partsTo_35 : decode cX5_partsTo 35 = .ok (.lstore 7, 2) := dck_get daX5_partsTo_t0 18 rfl
theorem dX5_partsTo_37 : decode cX5_partsTo 37 = .ok (.lload 7, 2) := dck_get daX5_partsTo_t0 19 rfl
def dtX5_partsTo_t1 : List (Nat × Instr × Nat) := [(39, .lconst 0, 1), (40, .lcmp, 1), (41, .ifCond .ne 6, 3), (44, .goto 39, 3), (47, .aload_n 0, 1), (48, .iload_n 3, 1), (49, .iconst 1, 1), (50, .invokevirtual 129, 3), (53, .aload_n 0, 1), (54, .iload 6, 2), (56, .invokevirtual 110, 3), (59, .pop, 1), (60, .aload_n 0, 1), (61, .getfield 19, 3), (64, .iload_n 1, 1), (65, .iaload, 1), (66, .iload_n 2, 1), (67, .if_icmp .lt 10, 3), (70, .lload 4, 2), (72, .lload 7, 2)]
theorem daX5_partsTo_t1 : dtX5_partsTo_t1.all (dck cX5_partsTo) = true := by decide +kernel
theorem dX5_partsTo_39 : decode cX5_partsTo 39 = .ok (.lconst 0, 1) := dck_get daX5_partsTo_t1 0 rfl
theorem dX5_partsTo_40 : decode cX5_partsTo 40 = .ok (.lcmp, 1) := dck_get daX5_partsTo_t1 1 rfl
theorem dX5_partsTo_41 : decode cX5_partsTo 41 = .ok (.ifCond .ne 6, 3) := dck_get daX5_partsTo_t1 2 rfl
theorem dX5_partsTo_44 : decode cX5_partsTo 44 = .ok (.goto 39, 3) := dck_get daX5_partsTo_t1 3 rfl
theorem dX5_partsTo_47 : decode cX5_partsTo 47 = .ok (.aload_n 0, 1) := dck_get daX5_partsTo_t1 4 rfl
theorem dX5_partsTo_48 : decode cX5_partsTo 48 = .ok (.iload_n 3, 1) := dck_get daX5_partsTo_t1 5 rfl
theorem dX5_partsTo_49 : decode cX5_partsTo 49 = .ok (.iconst 1, 1) := dck_get daX5_partsTo_t1 6 rfl
theorem dX5_partsTo_50 : decode cX5_partsTo 50 = .ok (.invokevirtual 129, 3) := dck_get daX5_partsTo_t1 7 rfl
theorem dX5_partsTo_53 : decode cX5_partsTo 53 = .ok (.aload_n 0, 1) := dck_get daX5_partsTo_t1 8 rfl
theorem dX5_partsTo_54 : decode cX5_partsTo 54 = .ok (.iload 6, 2) := dck_get daX5_partsTo_t1 9 rfl
theorem dX5_partsTo_56 : decode cX5_partsTo 56 = .ok (.invokevirtual 110, 3) := dck_get daX5_partsTo_t1 10 rfl
theorem dX5_partsTo_59 : decode cX5_partsTo 59 = .ok (.pop, 1) := dck_get daX5_partsTo_t1 11 rfl
theorem dX5_partsTo_60 : decode cX5_partsTo 60 = .ok (.aload_n 0, 1) := dck_get daX5_partsTo_t1 12 rfl
theorem dX5_partsTo_61 : decode cX5_partsTo 61 = .ok (.getfield 19, 3) := dck_get daX5_partsTo_t1 13 rfl
theorem dX5_partsTo_64 : decode cX5_partsTo 64 = .ok (.iload_n 1, 1) := dck_get daX5_partsTo_t1 14 rfl
theorem dX5_partsTo_65 : decode cX5_partsTo 65 = .ok (.iaload, 1) := dck_get daX5_partsTo_t1 15 rfl
theorem dX5_partsTo_66 : decode cX5_partsTo 66 = .ok (.iload_n 2, 1) := dck_get daX5_partsTo_t1 16 rfl
theorem dX5_partsTo_67 : decode cX5_partsTo 67 = .ok (.if_icmp .lt 10, 3) := dck_get daX5_partsTo_t1 17 rfl
theorem dX5_partsTo_70 : decode cX5_partsTo 70 = .ok (.lload 4, 2) := dck_get daX5_partsTo_t1 18 rfl
theorem dX5_partsTo_72 : decode cX5_partsTo 72 = .ok (.lload 7, 2) := dck_get daX5_partsTo_t1 19 rfl
def dtX5_partsTo_t2 : List (Nat × Instr × Nat) := [(74, .ladd, 1), (75, .lstore 4, 2), (77, .aload_n 0, 1), (78, .iload_n 3, 1), (79, .iconst 0, 1), (80, .invokevirtual 129, 3), (83, .iinc 6 1, 3), (86, .goto (-80), 3), (89, .lload 4, 2), (91, .lreturn, 1)]
theorem daX5_partsTo_t2 : dtX5_partsTo_t2.all (dck cX5_partsTo) = true := by decide +kernel
theorem dX5_partsTo_74 : decode cX5_partsTo 74 = .ok (.ladd, 1) := dck_get daX5_partsTo_t2 0 rfl
theorem dX5_partsTo_75 : decode cX5_partsTo 75 = .ok (.lstore 4, 2) := dck_get daX5_partsTo_t2 1 rfl
theorem dX5_partsTo_77 : decode cX5_partsTo 77 = .ok (.aload_n 0, 1) := dck_get daX5_partsTo_t2 2 rfl
theorem dX5_partsTo_78 : decode cX5_partsTo 78 = .ok (.iload_n 3, 1) := dck_get daX5_partsTo_t2 3 rfl
theorem dX5_partsTo_79 : decode cX5_partsTo 79 = .ok (.iconst 0, 1) := dck_get daX5_partsTo_t2 4 rfl
theorem dX5_partsTo_80 : decode cX5_partsTo 80 = .ok (.invokevirtual 129, 3) := dck_get daX5_partsTo_t2 5 rfl
theorem dX5_partsTo_83 : decode cX5_partsTo 83 = .ok (.iinc 6 1, 3) := dck_get daX5_partsTo_t2 6 rfl
theorem dX5_partsTo_86 : decode cX5_partsTo 86 = .ok (.goto (-80), 3) := dck_get daX5_partsTo_t2 7 rfl
theorem dX5_partsTo_89 : decode cX5_partsTo 89 = .ok (.lload 4, 2) := dck_get daX5_partsTo_t2 8 rfl
theorem dX5_partsTo_91 : decode cX5_partsTo 91 = .ok (.lreturn, 1) := dck_get daX5_partsTo_t2 9 rfl
set_option maxRecDepth 20000 in
theorem ggX5_partsInTwo_X5_areAlive : GoodIn wsX5_partsInTwo wsX5_areAlive := goodIn_sub (List.forall_mem_cons.mpr ⟨(List.mem_of_getElem? (i := 6) rfl), (List.forall_mem_append.mpr ⟨(List.forall_mem_cons.mpr ⟨(List.mem_of_getElem? (i := 7) rfl), (List.forall_mem_cons.mpr ⟨(List.mem_of_getElem? (i := 8) rfl), (List.forall_mem_cons.mpr ⟨(List.mem_of_getElem? (i := 9) rfl), (List.forall_mem_cons.mpr ⟨(List.mem_of_getElem? (i := 5) rfl), (List.forall_mem_cons.mpr ⟨(List.mem_of_getElem? (i := 10) rfl), (List.forall_mem_cons.mpr ⟨(List.mem_of_getElem? (i := 1) rfl), (List.forall_mem_cons.mpr ⟨(List.mem_of_getElem? (i := 11) rfl), (fun _ h => absurd h List.not_mem_nil)⟩)⟩)⟩)⟩)⟩)⟩)⟩), (fun _ h => (List.mem_cons_of_mem _ (List.mem_append_right _ h)))⟩)⟩) gw_wsX5_areAlive
set_option maxRecDepth 20000 in
theorem gX5_partsInTwo_X5_areAlive : GoodIn wsX5_partsInTwo (wsV RX5 171 RX5 yX5_areAlive wsX5_areAlive) := goodIn_app (goodIn_sub (List.forall_mem_cons.mpr ⟨(List.mem_of_getElem? (i := 2) rfl), (List.forall_mem_cons.mpr ⟨(List.mem_of_getElem? (i := 3) rfl), (List.forall_mem_cons.mpr ⟨(List.mem_of_getElem? (i := 4) rfl), (List.forall_mem_cons.mpr ⟨(List.mem_of_getElem? (i := 5) rfl), (fun _ h => absurd h List.not_mem_nil)⟩)⟩)⟩)⟩) (by decide +kernel)) ggX5_partsInTwo_X5_areAlive
set_option maxRecDepth 20000 in
theorem ggX5_partsInTwo_X5_partsOf : GoodIn wsX5_partsInTwo wsX5_partsOf := goodIn_sub (List.forall_mem_cons.mpr ⟨(List.mem_of_getElem? (i := 15) rfl), (List.forall_mem_append.mpr ⟨(List.forall_mem_cons.mpr ⟨(List.mem_of_getElem? (i := 1) rfl), (List.forall_mem_cons.mpr ⟨(List.mem_of_getElem? (i := 11) rfl), (List.forall_mem_cons.mpr ⟨(List.mem_of_getElem? (i := 16) rfl), (List.forall_mem_cons.mpr ⟨(List.mem_of_getElem? (i := 17) rfl), (List.forall_mem_cons.mpr ⟨(List.mem_of_getElem? (i := 18) rfl), (List.forall_mem_cons.mpr ⟨(List.mem_of_getElem? (i := 19) rfl), (List.forall_mem_cons.mpr ⟨(List.mem_of_getElem? (i := 5) rfl), (List.forall_mem_cons.mpr ⟨(List.mem_of_getElem? (i := 20) rfl), (List.forall_mem_cons.mpr ⟨(List.mem_of_getElem? (i := 21) rfl), (List.forall_mem_cons.mpr ⟨(List.mem_of_getElem? (i := 22) rfl), (List.forall_mem_cons.mpr ⟨(List.mem_of_getElem? (i := 23) rfl), (List.forall_mem_cons.mpr ⟨(List.mem_of_getElem? (i := 24) rfl), (List.forall_mem_cons.mpr ⟨(List.mem_of_getElem? (i := 25) rfl), (fun _ h => absurd h List.not_mem_nil)⟩)⟩)⟩)⟩)⟩)⟩)⟩)⟩)⟩)⟩)⟩)⟩)⟩), (fun _ h => (List.mem_cons_of_mem _ (List.mem_append_right _ h)))⟩)⟩) gw_wsX5_partsOf
set_option maxRecDepth 20000 in
theorem gX5_partsInTwo_X5_partsOf : GoodIn wsX5_partsInTwo (wsV RX5 176 RX5 yX5_partsOf wsX5_partsOf) := goodIn_app (goodIn_sub (List.forall_mem_cons.mpr ⟨(List.mem_of_getElem? (i := 12) rfl), (List.forall_mem_cons.mpr ⟨(List.mem_of_getElem? (i := 13) rfl), (List.forall_mem_cons.mpr ⟨(List.mem_of_getElem? (i := 14) rfl), (List.forall_mem_cons.mpr ⟨(List.mem_of_getElem? (i := 5) rfl), (fun _ h => absurd h List.not_mem_nil)⟩)⟩)⟩)⟩) (by decide +kernel)) ggX5_partsInTwo_X5_partsOf
set_option maxRecDepth 20000 in
theorem ggX5_partsInTwo_X5_passesAll : GoodIn wsX5_partsInTwo wsX5_passesAll := goodIn_sub (List.forall_mem_cons.mpr ⟨(List.mem_of_getElem? (i := 29) rfl), (List.forall_mem_append.mpr ⟨(List.forall_mem_cons.mpr ⟨(List.mem_of_getElem? (i := 30) rfl), (List.forall_mem_cons.mpr ⟨(List.mem_of_getElem? (i := 31) rfl), (List.forall_mem_cons.mpr ⟨(List.mem_of_getElem? (i := 22) rfl), (List.forall_mem_cons.mpr ⟨(List.mem_of_getElem? (i := 21) rfl), (List.forall_mem_cons.mpr ⟨(List.mem_of_getElem? (i := 11) rfl), (List.forall_mem_cons.mpr ⟨(List.mem_of_getElem? (i := 32) rfl), (List.forall_mem_cons.mpr ⟨(List.mem_of_getElem? (i := 33) rfl), (List.forall_mem_cons.mpr ⟨(List.mem_of_getElem? (i := 1) rfl), (List.forall_mem_cons.mpr ⟨(List.mem_of_getElem? (i := 34) rfl), (List.forall_mem_cons.mpr ⟨(List.mem_of_getElem? (i := 35) rfl), (List.forall_mem_cons.mpr ⟨(List.mem_of_getElem? (i := 36) rfl), (List.forall_mem_cons.mpr ⟨(List.mem_of_getElem? (i := 37) rfl), (List.forall_mem_cons.mpr ⟨(List.mem_of_getElem? (i := 5) rfl), (List.forall_mem_cons.mpr ⟨(List.mem_of_getElem? (i := 38) rfl), (List.forall_mem_cons.mpr ⟨(List.mem_of_getElem? (i := 39) rfl), (List.forall_mem_cons.mpr ⟨(List.mem_of_getElem? (i := 40) rfl), (List.forall_mem_cons.mpr ⟨(List.mem_of_getElem? (i := 41) rfl), (List.forall_mem_cons.mpr ⟨(List.mem_of_getElem? (i := 42) rfl), (List.forall_mem_cons.mpr ⟨(List.mem_of_getElem? (i := 43) rfl), (fun _ h => absurd h List.not_mem_nil)⟩)⟩)⟩)⟩)⟩)⟩)⟩)⟩)⟩)⟩)⟩)⟩)⟩)⟩)⟩)⟩)⟩)⟩)⟩), (fun _ h => (List.mem_cons_of_mem _ (List.mem_append_right _ h)))⟩)⟩) gw_wsX5_passesAll
set_option maxRecDepth 20000 in
theorem gX5_partsInTwo_X5_passesAll : GoodIn wsX5_partsInTwo (wsV RX5 129 RX5 yX5_passesAll wsX5_passesAll) := goodIn_app (goodIn_sub (List.forall_mem_cons.mpr ⟨(List.mem_of_getElem? (i := 26) rfl), (List.forall_mem_cons.mpr ⟨(List.mem_of_getElem? (i := 27) rfl), (List.forall_mem_cons.mpr ⟨(List.mem_of_getElem? (i := 28) rfl), (List.forall_mem_cons.mpr ⟨(List.mem_of_getElem? (i := 5) rfl), (fun _ h => absurd h List.not_mem_nil)⟩)⟩)⟩)⟩) (by decide +kernel)) ggX5_partsInTwo_X5_passesAll
set_option maxRecDepth 20000 in
theorem ggX5_partsInTwo_X5_goesYear : GoodIn wsX5_partsInTwo wsX5_goesYear := goodIn_sub (List.forall_mem_cons.mpr ⟨(List.mem_of_getElem? (i := 47) rfl), (List.forall_mem_append.mpr ⟨(List.forall_mem_cons.mpr ⟨(List.mem_of_getElem? (i := 1) rfl), (List.forall_mem_cons.mpr ⟨(List.mem_of_getElem? (i := 48) rfl), (List.forall_mem_cons.mpr ⟨(List.mem_of_getElem? (i := 11) rfl), (List.forall_mem_cons.mpr ⟨(List.mem_of_getElem? (i := 21) rfl), (List.forall_mem_cons.mpr ⟨(List.mem_of_getElem? (i := 34) rfl), (List.forall_mem_cons.mpr ⟨(List.mem_of_getElem? (i := 49) rfl), (List.forall_mem_cons.mpr ⟨(List.mem_of_getElem? (i := 50) rfl), (List.forall_mem_cons.mpr ⟨(List.mem_of_getElem? (i := 51) rfl), (List.forall_mem_cons.mpr ⟨(List.mem_of_getElem? (i := 5) rfl), (List.forall_mem_cons.mpr ⟨(List.mem_of_getElem? (i := 52) rfl), (List.forall_mem_cons.mpr ⟨(List.mem_of_getElem? (i := 22) rfl), (List.forall_mem_cons.mpr ⟨(List.mem_of_getElem? (i := 23) rfl), (List.forall_mem_cons.mpr ⟨(List.mem_of_getElem? (i := 24) rfl), (List.forall_mem_cons.mpr ⟨(List.mem_of_getElem? (i := 25) rfl), (fun _ h => absurd h List.not_mem_nil)⟩)⟩)⟩)⟩)⟩)⟩)⟩)⟩)⟩)⟩)⟩)⟩)⟩)⟩), (fun _ h => (List.mem_cons_of_mem _ (List.mem_append_right _ h)))⟩)⟩) gw_wsX5_goesYear
set_option maxRecDepth 20000 in
theorem gX5_partsInTwo_X5_goesYear : GoodIn wsX5_partsInTwo (wsV RX5 110 RX5 yX5_goesYear wsX5_goesYear) := goodIn_app (goodIn_sub (List.forall_mem_cons.mpr ⟨(List.mem_of_getElem? (i := 44) rfl), (List.forall_mem_cons.mpr ⟨(List.mem_of_getElem? (i := 45) rfl), (List.forall_mem_cons.mpr ⟨(List.mem_of_getElem? (i := 46) rfl), (List.forall_mem_cons.mpr ⟨(List.mem_of_getElem? (i := 5) rfl), (fun _ h => absurd h List.not_mem_nil)⟩)⟩)⟩)⟩) (by decide +kernel)) ggX5_partsInTwo_X5_goesYear
set_option maxRecDepth 20000 in
theorem gw_wsX5_partsTo : wsX5_partsTo.all goodWord = true := by decide +kernel
set_option maxRecDepth 20000 in
theorem ggX5_partsInTwo_X5_partsTo : GoodIn wsX5_partsInTwo wsX5_partsTo := goodIn_sub (List.forall_mem_cons.mpr ⟨(List.mem_of_getElem? (i := 56) rfl), (List.forall_mem_append.mpr ⟨(List.forall_mem_append.mpr ⟨(List.forall_mem_cons.mpr ⟨(List.mem_of_getElem? (i := 1) rfl), (List.forall_mem_cons.mpr ⟨(List.mem_of_getElem? (i := 11) rfl), (List.forall_mem_cons.mpr ⟨(List.mem_of_getElem? (i := 2) rfl), (List.forall_mem_cons.mpr ⟨(List.mem_of_getElem? (i := 3) rfl), (List.forall_mem_cons.mpr ⟨(List.mem_of_getElem? (i := 4) rfl), (List.forall_mem_cons.mpr ⟨(List.mem_of_getElem? (i := 5) rfl), (List.forall_mem_cons.mpr ⟨(List.mem_of_getElem? (i := 6) rfl), (List.forall_mem_cons.mpr ⟨(List.mem_of_getElem? (i := 7) rfl), (List.forall_mem_cons.mpr ⟨(List.mem_of_getElem? (i := 8) rfl), (List.forall_mem_cons.mpr ⟨(List.mem_of_getElem? (i := 9) rfl), (List.forall_mem_cons.mpr ⟨(List.mem_of_getElem? (i := 10) rfl), (List.forall_mem_cons.mpr ⟨(List.mem_of_getElem? (i := 12) rfl), (List.forall_mem_cons.mpr ⟨(List.mem_of_getElem? (i := 13) rfl), (List.forall_mem_cons.mpr ⟨(List.mem_of_getElem? (i := 14) rfl), (List.forall_mem_cons.mpr ⟨(List.mem_of_getElem? (i := 15) rfl), (List.forall_mem_cons.mpr ⟨(List.mem_of_getElem? (i := 16) rfl), (List.forall_mem_cons.mpr ⟨(List.mem_of_getElem? (i := 17) rfl), (List.forall_mem_cons.mpr ⟨(List.mem_of_getElem? (i := 18) rfl), (List.forall_mem_cons.mpr ⟨(List.mem_of_getElem? (i := 19) rfl), (List.forall_mem_cons.mpr ⟨(List.mem_of_getElem? (i := 20) rfl), (List.forall_mem_cons.mpr ⟨(List.mem_of_getElem? (i := 21) rfl), (List.forall_mem_cons.mpr ⟨(List.mem_of_getElem? (i := 22) rfl), (List.forall_mem_cons.mpr ⟨(List.mem_of_getElem? (i := 23) rfl), (List.forall_mem_cons.mpr ⟨(List.mem_of_getElem? (i := 24) rfl), (fun _ h => absurd h List.not_mem_nil)⟩)⟩)⟩)⟩)⟩)⟩)⟩)⟩)⟩)⟩)⟩)⟩)⟩)⟩)⟩)⟩)⟩)⟩)⟩)⟩)⟩)⟩)⟩)⟩), (List.forall_mem_append.mpr ⟨(List.forall_mem_cons.mpr ⟨(List.mem_of_getElem? (i := 25) rfl), (List.forall_mem_cons.mpr ⟨(List.mem_of_getElem? (i := 26) rfl), (List.forall_mem_cons.mpr ⟨(List.mem_of_getElem? (i := 27) rfl), (List.forall_mem_cons.mpr ⟨(List.mem_of_getElem? (i := 28) rfl), (List.forall_mem_cons.mpr ⟨(List.mem_of_getElem? (i := 29) rfl), (List.forall_mem_cons.mpr ⟨(List.mem_of_getElem? (i := 30) rfl), (List.forall_mem_cons.mpr ⟨(List.mem_of_getElem? (i := 31) rfl), (List.forall_mem_cons.mpr ⟨(List.mem_of_getElem? (i := 32) rfl), (List.forall_mem_cons.mpr ⟨(List.mem_of_getElem? (i := 33) rfl), (List.forall_mem_cons.mpr ⟨(List.mem_of_getElem? (i := 34) rfl), (List.forall_mem_cons.mpr ⟨(List.mem_of_getElem? (i := 35) rfl), (List.forall_mem_cons.mpr ⟨(List.mem_of_getElem? (i := 36) rfl), (List.forall_mem_cons.mpr ⟨(List.mem_of_getElem? (i := 37) rfl), (List.forall_mem_cons.mpr ⟨(List.mem_of_getElem? (i := 38) rfl), (List.forall_mem_cons.mpr ⟨(List.mem_of_getElem? (i := 39) rfl), (List.forall_mem_cons.mpr ⟨(List.mem_of_getElem? (i := 40) rfl), (List.forall_mem_cons.mpr ⟨(List.mem_of_getElem? (i := 41) rfl), (List.forall_mem_cons.mpr ⟨(List.mem_of_getElem? (i := 42) rfl), (List.forall_mem_cons.mpr ⟨(List.mem_of_getElem? (i := 43) rfl), (List.forall_mem_cons.mpr ⟨(List.mem_of_getElem? (i := 44) rfl), (List.forall_mem_cons.mpr ⟨(List.mem_of_getElem? (i := 45) rfl), (List.forall_mem_cons.mpr ⟨(List.mem_of_getElem? (i := 46) rfl), (List.forall_mem_cons.mpr ⟨(List.mem_of_getElem? (i := 47) rfl), (List.forall_mem_cons.mpr ⟨(List.mem_of_getElem? (i := 48) rfl), (fun _ h => absurd h List.not_mem_nil)⟩)⟩)⟩)⟩)⟩)⟩)⟩)⟩)⟩)⟩)⟩)⟩)⟩)⟩)⟩)⟩)⟩)⟩)⟩)⟩)⟩)⟩)⟩)⟩), (List.forall_mem_cons.mpr ⟨(List.mem_of_getElem? (i := 49) rfl), (List.forall_mem_cons.mpr ⟨(List.mem_of_getElem? (i := 50) rfl), (List.forall_mem_cons.mpr ⟨(List.mem_of_getElem? (i := 51) rfl), (List.forall_mem_cons.mpr ⟨(List.mem_of_getElem? (i := 52) rfl), (fun _ h => absurd h List.not_mem_nil)⟩)⟩)⟩)⟩)⟩)⟩), (fun _ h => (List.mem_cons_of_mem _ (List.mem_append_right _ h)))⟩)⟩) gw_wsX5_partsTo
set_option maxRecDepth 20000 in
theorem gX5_partsInTwo_X5_partsTo : GoodIn wsX5_partsInTwo (wsV RX5 180 RX5 yX5_partsTo wsX5_partsTo) := goodIn_app (goodIn_sub (List.forall_mem_cons.mpr ⟨(List.mem_of_getElem? (i := 53) rfl), (List.forall_mem_cons.mpr ⟨(List.mem_of_getElem? (i := 54) rfl), (List.forall_mem_cons.mpr ⟨(List.mem_of_getElem? (i := 55) rfl), (List.forall_mem_cons.mpr ⟨(List.mem_of_getElem? (i := 5) rfl), (fun _ h => absurd h List.not_mem_nil)⟩)⟩)⟩)⟩) (by decide +kernel)) ggX5_partsInTwo_X5_partsTo
def dtX5_partsInTwo_t0 : List (Nat × Instr × Nat) := [(0, .lconst 0, 1), (1, .lstore_n 3, 1), (2, .iconst 0, 1), (3, .istore 5, 2), (5, .iload 5, 2), (7, .iconst 1, 1), (8, .aload_n 0, 1), (9, .getfield 57, 3), (12, .ishl, 1), (13, .if_icmp .ge 71, 3), (16, .aload_n 0, 1), (17, .iload 5, 2), (19, .invokevirtual 171, 3), (22, .ifCond .ne 6, 3), (25, .goto 53, 3), (28, .aload_n 0, 1), (29, .iload 5, 2), (31, .invokevirtual 176, 3), (34, .lstore 6, 2), (36, .lload 6, 2)]
theorem daX5_partsInTwo_t0 : dtX5_partsInTwo_t0.all (dck cX5_partsInTwo) = true := by decide +kernel
theorem dX5_partsInTwo_0 : decode cX5_partsInTwo 0 = .ok (.lconst 0, 1) := dck_get daX5_partsInTwo_t0 0 rfl
theorem dX5_partsInTwo_1 : decode cX5_partsInTwo 1 = .ok (.lstore_n 3, 1) := dck_get daX5_partsInTwo_t0 1 rfl
theorem dX5_partsInTwo_2 : decode cX5_partsInTwo 2 = .ok (.iconst 0, 1) := dck_get daX5_partsInTwo_t0 2 rfl
theorem dX5_partsInTwo_3 : decode cX5_partsInTwo 3 = .ok (.istore 5, 2) := dck_get daX5_partsInTwo_t0 3 rfl
theorem dX5_partsInTwo_5 : decode cX5_partsInTwo 5 = .ok (.iload 5, 2) := dck_get daX5_partsInTwo_t0 4 rfl
theorem dX5_partsInTwo_7 : decode cX5_partsInTwo 7 = .ok (.iconst 1, 1) := dck_get daX5_partsInTwo_t0 5 rfl
theorem dX5_partsInTwo_8 : decode cX5_partsInTwo 8 = .ok (.aload_n 0, 1) := dck_get daX5_partsInTwo_t0 6 rfl
theorem dX5_partsInTwo_9 : decode cX5_partsInTwo 9 = .ok (.getfield 57, 3) := dck_get daX5_partsInTwo_t0 7 rfl
theorem dX5_partsInTwo_12 : decode cX5_partsInTwo 12 = .ok (.ishl, 1) := dck_get daX5_partsInTwo_t0 8 rfl
theorem dX5_partsInTwo_13 : decode cX5_partsInTwo 13 = .ok (.if_icmp .ge 71, 3) := dck_get daX5_partsInTwo_t0 9 rfl
theorem dX5_partsInTwo_16 : decode cX5_partsInTwo 16 = .ok (.aload_n 0, 1) := dck_get daX5_partsInTwo_t0 10 rfl
theorem dX5_partsInTwo_17 : decode cX5_partsInTwo 17 = .ok (.iload 5, 2) := dck_get daX5_partsInTwo_t0 11 rfl
theorem dX5_partsInTwo_19 : decode cX5_partsInTwo 19 = .ok (.invokevirtual 171, 3) := dck_get daX5_partsInTwo_t0 12 rfl
theorem dX5_partsInTwo_22 : decode cX5_partsInTwo 22 = .ok (.ifCond .ne 6, 3) := dck_get daX5_partsInTwo_t0 13 rfl
theorem dX5_partsInTwo_25 : decode cX5_partsInTwo 25 = .ok (.goto 53, 3) := dck_get daX5_partsInTwo_t0 14 rfl
theorem dX5_partsInTwo_28 : decode cX5_partsInTwo 28 = .ok (.aload_n 0, 1) := dck_get daX5_partsInTwo_t0 15 rfl
theorem dX5_partsInTwo_29 : decode cX5_partsInTwo 29 = .ok (.iload 5, 2) := dck_get daX5_partsInTwo_t0 16 rfl
theorem dX5_partsInTwo_31 : decode cX5_partsInTwo 31 = .ok (.invokevirtual 176, 3) := dck_get daX5_partsInTwo_t0 17 rfl
theorem dX5_partsInTwo_34 : decode cX5_partsInTwo 34 = .ok (.lstore 6, 2) := dck_get daX5_partsInTwo_t0 18 rfl
theorem dX5_partsInTwo_36 : decode cX5_partsInTwo 36 = .ok (.lload 6, 2) := dck_get daX5_partsInTwo_t0 19 rfl
def dtX5_partsInTwo_t1 : List (Nat × Instr × Nat) := [(38, .lconst 0, 1), (39, .lcmp, 1), (40, .ifCond .ne 6, 3), (43, .goto 35, 3), (46, .aload_n 0, 1), (47, .iconst 1, 1), (48, .iconst 1, 1), (49, .invokevirtual 129, 3), (52, .aload_n 0, 1), (53, .iload 5, 2), (55, .invokevirtual 110, 3), (58, .pop, 1), (59, .lload_n 3, 1), (60, .lload 6, 2), (62, .aload_n 0, 1), (63, .iload_n 1, 1), (64, .iload_n 2, 1), (65, .iconst 2, 1), (66, .invokevirtual 180, 3), (69, .lmul, 1)]
theorem daX5_partsInTwo_t1 : dtX5_partsInTwo_t1.all (dck cX5_partsInTwo) = true := by decide +kernel
theorem dX5_partsInTwo_38 : decode cX5_partsInTwo 38 = .ok (.lconst 0, 1) := dck_get daX5_partsInTwo_t1 0 rfl
theorem dX5_partsInTwo_39 : decode cX5_partsInTwo 39 = .ok (.lcmp, 1) := dck_get daX5_partsInTwo_t1 1 rfl
theorem dX5_partsInTwo_40 : decode cX5_partsInTwo 40 = .ok (.ifCond .ne 6, 3) := dck_get daX5_partsInTwo_t1 2 rfl
theorem dX5_partsInTwo_43 : decode cX5_partsInTwo 43 = .ok (.goto 35, 3) := dck_get daX5_partsInTwo_t1 3 rfl
theorem dX5_partsInTwo_46 : decode cX5_partsInTwo 46 = .ok (.aload_n 0, 1) := dck_get daX5_partsInTwo_t1 4 rfl
theorem dX5_partsInTwo_47 : decode cX5_partsInTwo 47 = .ok (.iconst 1, 1) := dck_get daX5_partsInTwo_t1 5 rfl
theorem dX5_partsInTwo_48 : decode cX5_partsInTwo 48 = .ok (.iconst 1, 1) := dck_get daX5_partsInTwo_t1 6 rfl
theorem dX5_partsInTwo_49 : decode cX5_partsInTwo 49 = .ok (.invokevirtual 129, 3) := dck_get daX5_partsInTwo_t1 7 rfl
theorem dX5_partsInTwo_52 : decode cX5_partsInTwo 52 = .ok (.aload_n 0, 1) := dck_get daX5_partsInTwo_t1 8 rfl
theorem dX5_partsInTwo_53 : decode cX5_partsInTwo 53 = .ok (.iload 5, 2) := dck_get daX5_partsInTwo_t1 9 rfl
theorem dX5_partsInTwo_55 : decode cX5_partsInTwo 55 = .ok (.invokevirtual 110, 3) := dck_get daX5_partsInTwo_t1 10 rfl
theorem dX5_partsInTwo_58 : decode cX5_partsInTwo 58 = .ok (.pop, 1) := dck_get daX5_partsInTwo_t1 11 rfl
theorem dX5_partsInTwo_59 : decode cX5_partsInTwo 59 = .ok (.lload_n 3, 1) := dck_get daX5_partsInTwo_t1 12 rfl
theorem dX5_partsInTwo_60 : decode cX5_partsInTwo 60 = .ok (.lload 6, 2) := dck_get daX5_partsInTwo_t1 13 rfl
theorem dX5_partsInTwo_62 : decode cX5_partsInTwo 62 = .ok (.aload_n 0, 1) := dck_get daX5_partsInTwo_t1 14 rfl
theorem dX5_partsInTwo_63 : decode cX5_partsInTwo 63 = .ok (.iload_n 1, 1) := dck_get daX5_partsInTwo_t1 15 rfl
theorem dX5_partsInTwo_64 : decode cX5_partsInTwo 64 = .ok (.iload_n 2, 1) := dck_get daX5_partsInTwo_t1 16 rfl
theorem dX5_partsInTwo_65 : decode cX5_partsInTwo 65 = .ok (.iconst 2, 1) := dck_get daX5_partsInTwo_t1 17 rfl
theorem dX5_partsInTwo_66 : decode cX5_partsInTwo 66 = .ok (.invokevirtual 180, 3) := dck_get daX5_partsInTwo_t1 18 rfl
theorem dX5_partsInTwo_69 : decode cX5_partsInTwo 69 = .ok (.lmul, 1) := dck_get daX5_partsInTwo_t1 19 rfl
def dtX5_partsInTwo_t2 : List (Nat × Instr × Nat) := [(70, .ladd, 1), (71, .lstore_n 3, 1), (72, .aload_n 0, 1), (73, .iconst 1, 1), (74, .iconst 0, 1), (75, .invokevirtual 129, 3), (78, .iinc 5 1, 3), (81, .goto (-76), 3), (84, .lload_n 3, 1), (85, .lreturn, 1)]
theorem daX5_partsInTwo_t2 : dtX5_partsInTwo_t2.all (dck cX5_partsInTwo) = true := by decide +kernel
theorem dX5_partsInTwo_70 : decode cX5_partsInTwo 70 = .ok (.ladd, 1) := dck_get daX5_partsInTwo_t2 0 rfl
theorem dX5_partsInTwo_71 : decode cX5_partsInTwo 71 = .ok (.lstore_n 3, 1) := dck_get daX5_partsInTwo_t2 1 rfl
theorem dX5_partsInTwo_72 : decode cX5_partsInTwo 72 = .ok (.aload_n 0, 1) := dck_get daX5_partsInTwo_t2 2 rfl
theorem dX5_partsInTwo_73 : decode cX5_partsInTwo 73 = .ok (.iconst 1, 1) := dck_get daX5_partsInTwo_t2 3 rfl
theorem dX5_partsInTwo_74 : decode cX5_partsInTwo 74 = .ok (.iconst 0, 1) := dck_get daX5_partsInTwo_t2 4 rfl
theorem dX5_partsInTwo_75 : decode cX5_partsInTwo 75 = .ok (.invokevirtual 129, 3) := dck_get daX5_partsInTwo_t2 5 rfl
theorem dX5_partsInTwo_78 : decode cX5_partsInTwo 78 = .ok (.iinc 5 1, 3) := dck_get daX5_partsInTwo_t2 6 rfl
theorem dX5_partsInTwo_81 : decode cX5_partsInTwo 81 = .ok (.goto (-76), 3) := dck_get daX5_partsInTwo_t2 7 rfl
theorem dX5_partsInTwo_84 : decode cX5_partsInTwo 84 = .ok (.lload_n 3, 1) := dck_get daX5_partsInTwo_t2 8 rfl
theorem dX5_partsInTwo_85 : decode cX5_partsInTwo 85 = .ok (.lreturn, 1) := dck_get daX5_partsInTwo_t2 9 rfl
set_option maxRecDepth 20000 in
theorem ggX5_likely_X5_isAlive : GoodIn wsX5_likely wsX5_isAlive := goodIn_sub (List.forall_mem_cons.mpr ⟨(List.mem_of_getElem? (i := 7) rfl), (List.forall_mem_append.mpr ⟨(List.forall_mem_cons.mpr ⟨(List.mem_of_getElem? (i := 1) rfl), (List.forall_mem_cons.mpr ⟨(List.mem_of_getElem? (i := 8) rfl), (fun _ h => absurd h List.not_mem_nil)⟩)⟩), (fun _ h => (List.mem_cons_of_mem _ (List.mem_append_right _ h)))⟩)⟩) gw_wsX5_isAlive
set_option maxRecDepth 20000 in
theorem gX5_likely_X5_isAlive : GoodIn wsX5_likely (wsV RX5 104 RX5 yX5_isAlive wsX5_isAlive) := goodIn_app (goodIn_sub (List.forall_mem_cons.mpr ⟨(List.mem_of_getElem? (i := 3) rfl), (List.forall_mem_cons.mpr ⟨(List.mem_of_getElem? (i := 4) rfl), (List.forall_mem_cons.mpr ⟨(List.mem_of_getElem? (i := 5) rfl), (List.forall_mem_cons.mpr ⟨(List.mem_of_getElem? (i := 6) rfl), (fun _ h => absurd h List.not_mem_nil)⟩)⟩)⟩)⟩) (by decide +kernel)) ggX5_likely_X5_isAlive
set_option maxRecDepth 20000 in
theorem ggX5_likely_X5_isFloor : GoodIn wsX5_likely wsX5_isFloor := goodIn_sub (List.forall_mem_cons.mpr ⟨(List.mem_of_getElem? (i := 11) rfl), (fun _ h => absurd h List.not_mem_nil)⟩) gw_wsX5_isFloor
set_option maxRecDepth 20000 in
theorem gX5_likely_X5_isFloor : GoodIn wsX5_likely (va_wsS RX5 168 yX5_isFloor wsX5_isFloor) := goodIn_app (goodIn_sub (List.forall_mem_cons.mpr ⟨(List.mem_of_getElem? (i := 9) rfl), (List.forall_mem_cons.mpr ⟨(List.mem_of_getElem? (i := 10) rfl), (List.forall_mem_cons.mpr ⟨(List.mem_of_getElem? (i := 6) rfl), (fun _ h => absurd h List.not_mem_nil)⟩)⟩)⟩) (by decide +kernel)) ggX5_likely_X5_isFloor
set_option maxRecDepth 20000 in
theorem gw_wsX5_lowest : wsX5_lowest.all goodWord = true := by decide +kernel
set_option maxRecDepth 20000 in
theorem ggX5_likely_X5_lowest : GoodIn wsX5_likely wsX5_lowest := goodIn_sub (List.forall_mem_cons.mpr ⟨(List.mem_of_getElem? (i := 15) rfl), (List.forall_mem_append.mpr ⟨(List.forall_mem_cons.mpr ⟨(List.mem_of_getElem? (i := 16) rfl), (List.forall_mem_cons.mpr ⟨(List.mem_of_getElem? (i := 17) rfl), (fun _ h => absurd h List.not_mem_nil)⟩)⟩), (fun _ h => (List.mem_cons_of_mem _ (List.mem_append_right _ h)))⟩)⟩) gw_wsX5_lowest
set_option maxRecDepth 20000 in
theorem gX5_likely_X5_lowest : GoodIn wsX5_likely (wsV RX5 184 RX5 yX5_lowest wsX5_lowest) := goodIn_app (goodIn_sub (List.forall_mem_cons.mpr ⟨(List.mem_of_getElem? (i := 12) rfl), (List.forall_mem_cons.mpr ⟨(List.mem_of_getElem? (i := 13) rfl), (List.forall_mem_cons.mpr ⟨(List.mem_of_getElem? (i := 14) rfl), (List.forall_mem_cons.mpr ⟨(List.mem_of_getElem? (i := 6) rfl), (fun _ h => absurd h List.not_mem_nil)⟩)⟩)⟩)⟩) (by decide +kernel)) ggX5_likely_X5_lowest
set_option maxRecDepth 20000 in
theorem ggX5_likely_X5_bound : GoodIn wsX5_likely wsX5_bound := goodIn_sub (List.forall_mem_cons.mpr ⟨(List.mem_of_getElem? (i := 20) rfl), (fun _ h => absurd h List.not_mem_nil)⟩) gw_wsX5_bound
set_option maxRecDepth 20000 in
theorem gX5_likely_X5_bound : GoodIn wsX5_likely (va_wsS RX5 61 yX5_bound wsX5_bound) := goodIn_app (goodIn_sub (List.forall_mem_cons.mpr ⟨(List.mem_of_getElem? (i := 18) rfl), (List.forall_mem_cons.mpr ⟨(List.mem_of_getElem? (i := 19) rfl), (List.forall_mem_cons.mpr ⟨(List.mem_of_getElem? (i := 6) rfl), (fun _ h => absurd h List.not_mem_nil)⟩)⟩)⟩) (by decide +kernel)) ggX5_likely_X5_bound
set_option maxRecDepth 20000 in
theorem ggX5_likely_X5_isIn : GoodIn wsX5_likely wsX5_isIn := goodIn_sub (List.forall_mem_cons.mpr ⟨(List.mem_of_getElem? (i := 23) rfl), (fun _ h => absurd h List.not_mem_nil)⟩) gw_wsX5_isIn
set_option maxRecDepth 20000 in
theorem gX5_likely_X5_isIn : GoodIn wsX5_likely (va_wsS RX5 79 yX5_isIn wsX5_isIn) := goodIn_app (goodIn_sub (List.forall_mem_cons.mpr ⟨(List.mem_of_getElem? (i := 21) rfl), (List.forall_mem_cons.mpr ⟨(List.mem_of_getElem? (i := 22) rfl), (List.forall_mem_cons.mpr ⟨(List.mem_of_getElem? (i := 6) rfl), (fun _ h => absurd h List.not_mem_nil)⟩)⟩)⟩) (by decide +kernel)) ggX5_likely_X5_isIn
set_option maxRecDepth 20000 in
theorem ggX5_likely_X5_partsTo : GoodIn wsX5_likely wsX5_partsTo := goodIn_sub (List.forall_mem_cons.mpr ⟨(List.mem_of_getElem? (i := 27) rfl), (List.forall_mem_append.mpr ⟨(List.forall_mem_append.mpr ⟨(List.forall_mem_cons.mpr ⟨(List.mem_of_getElem? (i := 1) rfl), (List.forall_mem_cons.mpr ⟨(List.mem_of_getElem? (i := 8) rfl), (List.forall_mem_cons.mpr ⟨(List.mem_of_getElem? (i := 28) rfl), (List.forall_mem_cons.mpr ⟨(List.mem_of_getElem? (i := 29) rfl), (List.forall_mem_cons.mpr ⟨(List.mem_of_getElem? (i := 30) rfl), (List.forall_mem_cons.mpr ⟨(List.mem_of_getElem? (i := 6) rfl), (List.forall_mem_cons.mpr ⟨(List.mem_of_getElem? (i := 31) rfl), (List.forall_mem_cons.mpr ⟨(List.mem_of_getElem? (i := 32) rfl), (List.forall_mem_cons.mpr ⟨(List.mem_of_getElem? (i := 33) rfl), (List.forall_mem_cons.mpr ⟨(List.mem_of_getElem? (i := 34) rfl), (List.forall_mem_cons.mpr ⟨(List.mem_of_getElem? (i := 35) rfl), (List.forall_mem_cons.mpr ⟨(List.mem_of_getElem? (i := 36) rfl), (List.forall_mem_cons.mpr ⟨(List.mem_of_getElem? (i := 37) rfl), (List.forall_mem_cons.mpr ⟨(List.mem_of_getElem? (i := 38) rfl), (List.forall_mem_cons.mpr ⟨(List.mem_of_getElem? (i := 39) rfl), (List.forall_mem_cons.mpr ⟨(List.mem_of_getElem? (i := 2) rfl), (List.forall_mem_cons.mpr ⟨(List.mem_of_getElem? (i := 40) rfl), (List.forall_mem_cons.mpr ⟨(List.mem_of_getElem? (i := 41) rfl), (List.forall_mem_cons.mpr ⟨(List.mem_of_getElem? (i := 42) rfl), (List.forall_mem_cons.mpr ⟨(List.mem_of_getElem? (i := 43) rfl), (List.forall_mem_cons.mpr ⟨(List.mem_of_getElem? (i := 44) rfl), (List.forall_mem_cons.mpr ⟨(List.mem_of_getElem? (i := 45) rfl), (List.forall_mem_cons.mpr ⟨(List.mem_of_getElem? (i := 46) rfl), (List.forall_mem_cons.mpr ⟨(List.mem_of_getElem? (i := 47) rfl), (fun _ h => absurd h List.not_mem_nil)⟩)⟩)⟩)⟩)⟩)⟩)⟩)⟩)⟩)⟩)⟩)⟩)⟩)⟩)⟩)⟩)⟩)⟩)⟩)⟩)⟩)⟩)⟩)⟩), (List.forall_mem_append.mpr ⟨(List.forall_mem_cons.mpr ⟨(List.mem_of_getElem? (i := 48) rfl), (List.forall_mem_cons.mpr ⟨(List.mem_of_getElem? (i := 49) rfl), (List.forall_mem_cons.mpr ⟨(List.mem_of_getElem? (i := 50) rfl), (List.forall_mem_cons.mpr ⟨(List.mem_of_getElem? (i := 51) rfl), (List.forall_mem_cons.mpr ⟨(List.mem_of_getElem? (i := 52) rfl), (List.forall_mem_cons.mpr ⟨(List.mem_of_getElem? (i := 53) rfl), (List.forall_mem_cons.mpr ⟨(List.mem_of_getElem? (i := 54) rfl), (List.forall_mem_cons.mpr ⟨(List.mem_of_getElem? (i := 55) rfl), (List.forall_mem_cons.mpr ⟨(List.mem_of_getElem? (i := 56) rfl), (List.forall_mem_cons.mpr ⟨(List.mem_of_getElem? (i := 57) rfl), (List.forall_mem_cons.mpr ⟨(List.mem_of_getElem? (i := 58) rfl), (List.forall_mem_cons.mpr ⟨(List.mem_of_getElem? (i := 59) rfl), (List.forall_mem_cons.mpr ⟨(List.mem_of_getElem? (i := 60) rfl), (List.forall_mem_cons.mpr ⟨(List.mem_of_getElem? (i := 61) rfl), (List.forall_mem_cons.mpr ⟨(List.mem_of_getElem? (i := 62) rfl), (List.forall_mem_cons.mpr ⟨(List.mem_of_getElem? (i := 63) rfl), (List.forall_mem_cons.mpr ⟨(List.mem_of_getElem? (i := 64) rfl), (List.forall_mem_cons.mpr ⟨(List.mem_of_getElem? (i := 65) rfl), (List.forall_mem_cons.mpr ⟨(List.mem_of_getElem? (i := 66) rfl), (List.forall_mem_cons.mpr ⟨(List.mem_of_getElem? (i := 67) rfl), (List.forall_mem_cons.mpr ⟨(List.mem_of_getElem? (i := 68) rfl), (List.forall_mem_cons.mpr ⟨(List.mem_of_getElem? (i := 69) rfl), (List.forall_mem_cons.mpr ⟨(List.mem_of_getElem? (i := 70) rfl), (List.forall_mem_cons.mpr ⟨(List.mem_of_getElem? (i := 71) rfl), (fun _ h => absurd h List.not_mem_nil)⟩)⟩)⟩)⟩)⟩)⟩)⟩)⟩)⟩)⟩)⟩)⟩)⟩)⟩)⟩)⟩)⟩)⟩)⟩)⟩)⟩)⟩)⟩)⟩), (List.forall_mem_cons.mpr ⟨(List.mem_of_getElem? (i := 72) rfl), (List.forall_mem_cons.mpr ⟨(List.mem_of_getElem? (i := 73) rfl), (List.forall_mem_cons.mpr ⟨(List.mem_of_getElem? (i := 74) rfl), (List.forall_mem_cons.mpr ⟨(List.mem_of_getElem? (i := 75) rfl), (fun _ h => absurd h List.not_mem_nil)⟩)⟩)⟩)⟩)⟩)⟩), (fun _ h => (List.mem_cons_of_mem _ (List.mem_append_right _ h)))⟩)⟩) gw_wsX5_partsTo
set_option maxRecDepth 20000 in
theorem gX5_likely_X5_partsTo : GoodIn wsX5_likely (wsV RX5 180 RX5 yX5_partsTo wsX5_partsTo) := goodIn_app (goodIn_sub (List.forall_mem_cons.mpr ⟨(List.mem_of_getElem? (i := 24) rfl), (List.forall_mem_cons.mpr ⟨(List.mem_of_getElem? (i := 25) rfl), (List.forall_mem_cons.mpr ⟨(List.mem_of_getElem? (i := 26) rfl), (List.forall_mem_cons.mpr ⟨(List.mem_of_getElem? (i := 6) rfl), (fun _ h => absurd h List.not_mem_nil)⟩)⟩)⟩)⟩) (by decide +kernel)) ggX5_likely_X5_partsTo
set_option maxRecDepth 20000 in
theorem gw_wsX5_partsInTwo : wsX5_partsInTwo.all goodWord = true := by decide +kernel
set_option maxRecDepth 20000 in
theorem ggX5_likely_X5_partsInTwo : GoodIn wsX5_likely wsX5_partsInTwo := goodIn_sub (List.forall_mem_cons.mpr ⟨(List.mem_of_getElem? (i := 79) rfl), (List.forall_mem_append.mpr ⟨(List.forall_mem_append.mpr ⟨(List.forall_mem_cons.mpr ⟨(List.mem_of_getElem? (i := 1) rfl), (List.forall_mem_cons.mpr ⟨(List.mem_of_getElem? (i := 28) rfl), (List.forall_mem_cons.mpr ⟨(List.mem_of_getElem? (i := 29) rfl), (List.forall_mem_cons.mpr ⟨(List.mem_of_getElem? (i := 30) rfl), (List.forall_mem_cons.mpr ⟨(List.mem_of_getElem? (i := 6) rfl), (List.forall_mem_cons.mpr ⟨(List.mem_of_getElem? (i := 31) rfl), (List.forall_mem_cons.mpr ⟨(List.mem_of_getElem? (i := 32) rfl), (List.forall_mem_cons.mpr ⟨(List.mem_of_getElem? (i := 33) rfl), (List.forall_mem_cons.mpr ⟨(List.mem_of_getElem? (i := 34) rfl), (List.forall_mem_cons.mpr ⟨(List.mem_of_getElem? (i := 35) rfl), (List.forall_mem_cons.mpr ⟨(List.mem_of_getElem? (i := 8) rfl), (List.forall_mem_cons.mpr ⟨(List.mem_of_getElem? (i := 36) rfl), (List.forall_mem_cons.mpr ⟨(List.mem_of_getElem? (i := 37) rfl), (List.forall_mem_cons.mpr ⟨(List.mem_of_getElem? (i := 38) rfl), (List.forall_mem_cons.mpr ⟨(List.mem_of_getElem? (i := 39) rfl), (List.forall_mem_cons.mpr ⟨(List.mem_of_getElem? (i := 2) rfl), (List.forall_mem_cons.mpr ⟨(List.mem_of_getElem? (i := 40) rfl), (List.forall_mem_cons.mpr ⟨(List.mem_of_getElem? (i := 41) rfl), (List.forall_mem_cons.mpr ⟨(List.mem_of_getElem? (i := 42) rfl), (List.forall_mem_cons.mpr ⟨(List.mem_of_getElem? (i := 43) rfl), (List.forall_mem_cons.mpr ⟨(List.mem_of_getElem? (i := 44) rfl), (List.forall_mem_cons.mpr ⟨(List.mem_of_getElem? (i := 45) rfl), (List.forall_mem_cons.mpr ⟨(List.mem_of_getElem? (i := 46) rfl), (List.forall_mem_cons.mpr ⟨(List.mem_of_getElem? (i := 47) rfl), (fun _ h => absurd h List.not_mem_nil)⟩)⟩)⟩)⟩)⟩)⟩)⟩)⟩)⟩)⟩)⟩)⟩)⟩)⟩)⟩)⟩)⟩)⟩)⟩)⟩)⟩)⟩)⟩)⟩), (List.forall_mem_append.mpr ⟨(List.forall_mem_cons.mpr ⟨(List.mem_of_getElem? (i := 48) rfl), (List.forall_mem_cons.mpr ⟨(List.mem_of_getElem? (i := 49) rfl), (List.forall_mem_cons.mpr ⟨(List.mem_of_getElem? (i := 50) rfl), (List.forall_mem_cons.mpr ⟨(List.mem_of_getElem? (i := 51) rfl), (List.forall_mem_cons.mpr ⟨(List.mem_of_getElem? (i := 52) rfl), (List.forall_mem_cons.mpr ⟨(List.mem_of_getElem? (i := 53) rfl), (List.forall_mem_cons.mpr ⟨(List.mem_of_getElem? (i := 54) rfl), (List.forall_mem_cons.mpr ⟨(List.mem_of_getElem? (i := 55) rfl), (List.forall_mem_cons.mpr ⟨(List.mem_of_getElem? (i := 56) rfl), (List.forall_mem_cons.mpr ⟨(List.mem_of_getElem? (i := 57) rfl), (List.forall_mem_cons.mpr ⟨(List.mem_of_getElem? (i := 58) rfl), (List.forall_mem_cons.mpr ⟨(List.mem_of_getElem? (i := 59) rfl), (List.forall_mem_cons.mpr ⟨(List.mem_of_getElem? (i := 60) rfl), (List.forall_mem_cons.mpr ⟨(List.mem_of_getElem? (i := 61) rfl), (List.forall_mem_cons.mpr ⟨(List.mem_of_getElem? (i := 62) rfl), (List.forall_mem_cons.mpr ⟨(List.mem_of_getElem? (i := 63) rfl), (List.forall_mem_cons.mpr ⟨(List.mem_of_getElem? (i := 64) rfl), (List.forall_mem_cons.mpr ⟨(List.mem_of_getElem? (i := 65) rfl), (List.forall_mem_cons.mpr ⟨(List.mem_of_getElem? (i := 66) rfl), (List.forall_mem_cons.mpr ⟨(List.mem_of_getElem? (i := 67) rfl), (List.forall_mem_cons.mpr ⟨(List.mem_of_getElem? (i := 68) rfl), (List.forall_mem_cons.mpr ⟨(List.mem_of_getElem? (i := 69) rfl), (List.forall_mem_cons.mpr ⟨(List.mem_of_getElem? (i := 70) rfl), (List.forall_mem_cons.mpr ⟨(List.mem_of_getElem? (i := 71) rfl), (fun _ h => absurd h List.not_mem_nil)⟩)⟩)⟩)⟩)⟩)⟩)⟩)⟩)⟩)⟩)⟩)⟩)⟩)⟩)⟩)⟩)⟩)⟩)⟩)⟩)⟩)⟩)⟩)⟩), (List.forall_mem_cons.mpr ⟨(List.mem_of_getElem? (i := 72) rfl), (List.forall_mem_cons.mpr ⟨(List.mem_of_getElem? (i := 73) rfl), (List.forall_mem_cons.mpr ⟨(List.mem_of_getElem? (i := 74) rfl), (List.forall_mem_cons.mpr ⟨(List.mem_of_getElem? (i := 75) rfl), (List.forall_mem_cons.mpr ⟨(List.mem_of_getElem? (i := 24) rfl), (List.forall_mem_cons.mpr ⟨(List.mem_of_getElem? (i := 25) rfl), (List.forall_mem_cons.mpr ⟨(List.mem_of_getElem? (i := 26) rfl), (List.forall_mem_cons.mpr ⟨(List.mem_of_getElem? (i := 27) rfl), (fun _ h => absurd h List.not_mem_nil)⟩)⟩)⟩)⟩)⟩)⟩)⟩)⟩)⟩)⟩), (fun _ h => (List.mem_cons_of_mem _ (List.mem_append_right _ h)))⟩)⟩) gw_wsX5_partsInTwo
set_option maxRecDepth 20000 in
theorem gX5_likely_X5_partsInTwo : GoodIn wsX5_likely (wsV RX5 187 RX5 yX5_partsInTwo wsX5_partsInTwo) := goodIn_app (goodIn_sub (List.forall_mem_cons.mpr ⟨(List.mem_of_getElem? (i := 76) rfl), (List.forall_mem_cons.mpr ⟨(List.mem_of_getElem? (i := 77) rfl), (List.forall_mem_cons.mpr ⟨(List.mem_of_getElem? (i := 78) rfl), (List.forall_mem_cons.mpr ⟨(List.mem_of_getElem? (i := 6) rfl), (fun _ h => absurd h List.not_mem_nil)⟩)⟩)⟩)⟩) (by decide +kernel)) ggX5_likely_X5_partsInTwo
set_option maxRecDepth 20000 in
theorem gw_wsX5_divisor : wsX5_divisor.all goodWord = true := by decide +kernel
set_option maxRecDepth 20000 in
theorem ggX5_likely_X5_divisor : GoodIn wsX5_likely wsX5_divisor := goodIn_sub (List.forall_mem_cons.mpr ⟨(List.mem_of_getElem? (i := 82) rfl), (fun _ h => absurd h List.not_mem_nil)⟩) gw_wsX5_divisor
set_option maxRecDepth 20000 in
theorem gX5_likely_X5_divisor : GoodIn wsX5_likely (va_wsS RX5 191 yX5_divisor wsX5_divisor) := goodIn_app (goodIn_sub (List.forall_mem_cons.mpr ⟨(List.mem_of_getElem? (i := 80) rfl), (List.forall_mem_cons.mpr ⟨(List.mem_of_getElem? (i := 81) rfl), (List.forall_mem_cons.mpr ⟨(List.mem_of_getElem? (i := 6) rfl), (fun _ h => absurd h List.not_mem_nil)⟩)⟩)⟩) (by decide +kernel)) ggX5_likely_X5_divisor
def dtX5_likely_t0 : List (Nat × Instr × Nat) := [(0, .aload_n 0, 1), (1, .iload_n 1, 1), (2, .invokevirtual 104, 3), (5, .ifCond .eq 10, 3), (8, .iload_n 2, 1), (9, .invokestatic 168, 3), (12, .ifCond .ne 9, 3), (15, .aload_n 0, 1), (16, .iconst (-1), 1), (17, .invokevirtual 184, 3), (20, .lreturn, 1), (21, .iload_n 3, 1), (22, .iconst 1, 1), (23, .iconst 2, 1), (24, .invokestatic 61, 3), (27, .istore 5, 2), (29, .iload 5, 2), (31, .ifCond .ne 17, 3), (34, .iload 4, 2), (36, .iconst 0, 1)]
theorem daX5_likely_t0 : dtX5_likely_t0.all (dck cX5_likely) = true := by decide +kernel
theorem dX5_likely_0 : decode cX5_likely 0 = .ok (.aload_n 0, 1) := dck_get daX5_likely_t0 0 rfl
theorem dX5_likely_1 : decode cX5_likely 1 = .ok (.iload_n 1, 1) := dck_get daX5_likely_t0 1 rfl
theorem dX5_likely_2 : decode cX5_likely 2 = .ok (.invokevirtual 104, 3) := dck_get daX5_likely_t0 2 rfl
theorem dX5_likely_5 : decode cX5_likely 5 = .ok (.ifCond .eq 10, 3) := dck_get daX5_likely_t0 3 rfl
theorem dX5_likely_8 : decode cX5_likely 8 = .ok (.iload_n 2, 1) := dck_get daX5_likely_t0 4 rfl
theorem dX5_likely_9 : decode cX5_likely 9 = .ok (.invokestatic 168, 3) := dck_get daX5_likely_t0 5 rfl
theorem dX5_likely_12 : decode cX5_likely 12 = .ok (.ifCond .ne 9, 3) := dck_get daX5_likely_t0 6 rfl
theorem dX5_likely_15 : decode cX5_likely 15 = .ok (.aload_n 0, 1) := dck_get daX5_likely_t0 7 rfl
theorem dX5_likely_16 : decode cX5_likely 16 = .ok (.iconst (-1), 1) := dck_get daX5_likely_t0 8 rfl
theorem dX5_likely_17 : decode cX5_likely 17 = .ok (.invokevirtual 184, 3) := dck_get daX5_likely_t0 9 rfl
theorem dX5_likely_20 : decode cX5_likely 20 = .ok (.lreturn, 1) := dck_get daX5_likely_t0 10 rfl
theorem dX5_likely_21 : decode cX5_likely 21 = .ok (.iload_n 3, 1) := dck_get daX5_likely_t0 11 rfl
theorem dX5_likely_22 : decode cX5_likely 22 = .ok (.iconst 1, 1) := dck_get daX5_likely_t0 12 rfl
theorem dX5_likely_23 : decode cX5_likely 23 = .ok (.iconst 2, 1) := dck_get daX5_likely_t0 13 rfl
theorem dX5_likely_24 : decode cX5_likely 24 = .ok (.invokestatic 61, 3) := dck_get daX5_likely_t0 14 rfl
theorem dX5_likely_27 : decode cX5_likely 27 = .ok (.istore 5, 2) := dck_get daX5_likely_t0 15 rfl
