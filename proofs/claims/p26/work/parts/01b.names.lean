def dtX0_ofLetter_t0 : List (Nat × Instr × Nat) := [(0, .iload_n 0, 1), (1, .lookupswitch 71 #[(99, 65), (100, 67), (105, 63), (108, 59), (115, 61), (121, 69)], 59), (60, .iconst 0, 1), (61, .ireturn, 1), (62, .iconst 1, 1), (63, .ireturn, 1), (64, .iconst 2, 1), (65, .ireturn, 1), (66, .iconst 3, 1), (67, .ireturn, 1), (68, .iconst 4, 1), (69, .ireturn, 1), (70, .iconst 5, 1), (71, .ireturn, 1), (72, .iconst (-1), 1), (73, .ireturn, 1)]
theorem daX0_ofLetter_t0 : dtX0_ofLetter_t0.all (dck cX0_ofLetter) = true := by decide +kernel
theorem dX0_ofLetter_0 : decode cX0_ofLetter 0 = .ok (.iload_n 0, 1) := dck_get daX0_ofLetter_t0 0 rfl
theorem dX0_ofLetter_1 : decode cX0_ofLetter 1 = .ok (.lookupswitch 71 #[(99, 65), (100, 67), (105, 63), (108, 59), (115, 61), (121, 69)], 59) := dck_get daX0_ofLetter_t0 1 rfl
theorem dX0_ofLetter_60 : decode cX0_ofLetter 60 = .ok (.iconst 0, 1) := dck_get daX0_ofLetter_t0 2 rfl
theorem dX0_ofLetter_61 : decode cX0_ofLetter 61 = .ok (.ireturn, 1) := dck_get daX0_ofLetter_t0 3 rfl
theorem dX0_ofLetter_62 : decode cX0_ofLetter 62 = .ok (.iconst 1, 1) := dck_get daX0_ofLetter_t0 4 rfl
theorem dX0_ofLetter_63 : decode cX0_ofLetter 63 = .ok (.ireturn, 1) := dck_get daX0_ofLetter_t0 5 rfl
theorem dX0_ofLetter_64 : decode cX0_ofLetter 64 = .ok (.iconst 2, 1) := dck_get daX0_ofLetter_t0 6 rfl
theorem dX0_ofLetter_65 : decode cX0_ofLetter 65 = .ok (.ireturn, 1) := dck_get daX0_ofLetter_t0 7 rfl
theorem dX0_ofLetter_66 : decode cX0_ofLetter 66 = .ok (.iconst 3, 1) := dck_get daX0_ofLetter_t0 8 rfl
theorem dX0_ofLetter_67 : decode cX0_ofLetter 67 = .ok (.ireturn, 1) := dck_get daX0_ofLetter_t0 9 rfl
theorem dX0_ofLetter_68 : decode cX0_ofLetter 68 = .ok (.iconst 4, 1) := dck_get daX0_ofLetter_t0 10 rfl
theorem dX0_ofLetter_69 : decode cX0_ofLetter 69 = .ok (.ireturn, 1) := dck_get daX0_ofLetter_t0 11 rfl
theorem dX0_ofLetter_70 : decode cX0_ofLetter 70 = .ok (.iconst 5, 1) := dck_get daX0_ofLetter_t0 12 rfl
theorem dX0_ofLetter_71 : decode cX0_ofLetter 71 = .ok (.ireturn, 1) := dck_get daX0_ofLetter_t0 13 rfl
theorem dX0_ofLetter_72 : decode cX0_ofLetter 72 = .ok (.iconst (-1), 1) := dck_get daX0_ofLetter_t0 14 rfl
theorem dX0_ofLetter_73 : decode cX0_ofLetter 73 = .ok (.ireturn, 1) := dck_get daX0_ofLetter_t0 15 rfl
def dtX0_entryFloor_t0 : List (Nat × Instr × Nat) := [(0, .iload_n 1, 1), (1, .bipush 10, 2), (3, .idiv, 1), (4, .istore_n 2, 1), (5, .iload_n 0, 1), (6, .lookupswitch 36 #[(3, 26), (5, 28)], 26), (32, .iconst 0, 1), (33, .ireturn, 1), (34, .iconst 0, 1), (35, .iload_n 2, 1), (36, .iconst 1, 1), (37, .isub, 1), (38, .invokestatic 11, 3), (41, .ireturn, 1), (42, .iload_n 2, 1), (43, .ireturn, 1)]
theorem daX0_entryFloor_t0 : dtX0_entryFloor_t0.all (dck cX0_entryFloor) = true := by decide +kernel
theorem dX0_entryFloor_0 : decode cX0_entryFloor 0 = .ok (.iload_n 1, 1) := dck_get daX0_entryFloor_t0 0 rfl
theorem dX0_entryFloor_1 : decode cX0_entryFloor 1 = .ok (.bipush 10, 2) := dck_get daX0_entryFloor_t0 1 rfl
theorem dX0_entryFloor_3 : decode cX0_entryFloor 3 = .ok (.idiv, 1) := dck_get daX0_entryFloor_t0 2 rfl
theorem dX0_entryFloor_4 : decode cX0_entryFloor 4 = .ok (.istore_n 2, 1) := dck_get daX0_entryFloor_t0 3 rfl
theorem dX0_entryFloor_5 : decode cX0_entryFloor 5 = .ok (.iload_n 0, 1) := dck_get daX0_entryFloor_t0 4 rfl
theorem dX0_entryFloor_6 : decode cX0_entryFloor 6 = .ok (.lookupswitch 36 #[(3, 26), (5, 28)], 26) := dck_get daX0_entryFloor_t0 5 rfl
theorem dX0_entryFloor_32 : decode cX0_entryFloor 32 = .ok (.iconst 0, 1) := dck_get daX0_entryFloor_t0 6 rfl
theorem dX0_entryFloor_33 : decode cX0_entryFloor 33 = .ok (.ireturn, 1) := dck_get daX0_entryFloor_t0 7 rfl
theorem dX0_entryFloor_34 : decode cX0_entryFloor 34 = .ok (.iconst 0, 1) := dck_get daX0_entryFloor_t0 8 rfl
theorem dX0_entryFloor_35 : decode cX0_entryFloor 35 = .ok (.iload_n 2, 1) := dck_get daX0_entryFloor_t0 9 rfl
theorem dX0_entryFloor_36 : decode cX0_entryFloor 36 = .ok (.iconst 1, 1) := dck_get daX0_entryFloor_t0 10 rfl
theorem dX0_entryFloor_37 : decode cX0_entryFloor 37 = .ok (.isub, 1) := dck_get daX0_entryFloor_t0 11 rfl
theorem dX0_entryFloor_38 : decode cX0_entryFloor 38 = .ok (.invokestatic 11, 3) := dck_get daX0_entryFloor_t0 12 rfl
theorem dX0_entryFloor_41 : decode cX0_entryFloor 41 = .ok (.ireturn, 1) := dck_get daX0_entryFloor_t0 13 rfl
theorem dX0_entryFloor_42 : decode cX0_entryFloor 42 = .ok (.iload_n 2, 1) := dck_get daX0_entryFloor_t0 14 rfl
theorem dX0_entryFloor_43 : decode cX0_entryFloor 43 = .ok (.ireturn, 1) := dck_get daX0_entryFloor_t0 15 rfl
set_option maxRecDepth 20000 in
theorem gw_wsX0_strongChance : wsX0_strongChance.all goodWord = true := by decide +kernel
set_option maxRecDepth 20000 in
theorem ggX0_chance_X0_strongChance : GoodIn wsX0_chance wsX0_strongChance := goodIn_sub (List.forall_mem_cons.mpr ⟨(List.mem_of_getElem? (i := 8) rfl), (fun _ h => absurd h List.not_mem_nil)⟩) gw_wsX0_strongChance
set_option maxRecDepth 20000 in
theorem gX0_chance_X0_strongChance : GoodIn wsX0_chance (va_wsS RX0 17 yX0_strongChance wsX0_strongChance) := goodIn_app (goodIn_sub (List.forall_mem_cons.mpr ⟨(List.mem_of_getElem? (i := 5) rfl), (List.forall_mem_cons.mpr ⟨(List.mem_of_getElem? (i := 6) rfl), (List.forall_mem_cons.mpr ⟨(List.mem_of_getElem? (i := 7) rfl), (fun _ h => absurd h List.not_mem_nil)⟩)⟩)⟩) (by decide +kernel)) ggX0_chance_X0_strongChance
set_option maxRecDepth 20000 in
theorem gw_wsX0_illChance : wsX0_illChance.all goodWord = true := by decide +kernel
set_option maxRecDepth 20000 in
theorem ggX0_chance_X0_illChance : GoodIn wsX0_chance wsX0_illChance := goodIn_sub (List.forall_mem_cons.mpr ⟨(List.mem_of_getElem? (i := 11) rfl), (List.forall_mem_cons.mpr ⟨(List.mem_of_getElem? (i := 12) rfl), (List.forall_mem_cons.mpr ⟨(List.mem_of_getElem? (i := 13) rfl), (List.forall_mem_cons.mpr ⟨(List.mem_of_getElem? (i := 3) rfl), (List.forall_mem_cons.mpr ⟨(List.mem_of_getElem? (i := 14) rfl), (fun _ h => absurd h List.not_mem_nil)⟩)⟩)⟩)⟩)⟩) gw_wsX0_illChance
set_option maxRecDepth 20000 in
theorem gX0_chance_X0_illChance : GoodIn wsX0_chance (va_wsS RX0 21 yX0_illChance wsX0_illChance) := goodIn_app (goodIn_sub (List.forall_mem_cons.mpr ⟨(List.mem_of_getElem? (i := 9) rfl), (List.forall_mem_cons.mpr ⟨(List.mem_of_getElem? (i := 10) rfl), (List.forall_mem_cons.mpr ⟨(List.mem_of_getElem? (i := 7) rfl), (fun _ h => absurd h List.not_mem_nil)⟩)⟩)⟩) (by decide +kernel)) ggX0_chance_X0_illChance
def dtX0_chance_t0 : List (Nat × Instr × Nat) := [(0, .iload_n 1, 1), (1, .bipush 10, 2), (3, .idiv, 1), (4, .istore_n 2, 1), (5, .iload_n 0, 1), (6, .tableswitch 70 1 5 #[34, 39, 70, 44, 55], 34), (40, .iload_n 2, 1), (41, .invokestatic 17, 3), (44, .ireturn, 1), (45, .iload_n 2, 1), (46, .invokestatic 21, 3), (49, .ireturn, 1), (50, .iconst 0, 1), (51, .iload_n 2, 1), (52, .invokestatic 21, 3), (55, .iconst 2, 1), (56, .isub, 1), (57, .invokestatic 11, 3), (60, .ireturn, 1), (61, .iload_n 1, 1)]
theorem daX0_chance_t0 : dtX0_chance_t0.all (dck cX0_chance) = true := by decide +kernel
theorem dX0_chance_0 : decode cX0_chance 0 = .ok (.iload_n 1, 1) := dck_get daX0_chance_t0 0 rfl
theorem dX0_chance_1 : decode cX0_chance 1 = .ok (.bipush 10, 2) := dck_get daX0_chance_t0 1 rfl
theorem dX0_chance_3 : decode cX0_chance 3 = .ok (.idiv, 1) := dck_get daX0_chance_t0 2 rfl
theorem dX0_chance_4 : decode cX0_chance 4 = .ok (.istore_n 2, 1) := dck_get daX0_chance_t0 3 rfl
theorem dX0_chance_5 : decode cX0_chance 5 = .ok (.iload_n 0, 1) := dck_get daX0_chance_t0 4 rfl
theorem dX0_chance_6 : decode cX0_chance 6 = .ok (.tableswitch 70 1 5 #[34, 39, 70, 44, 55], 34) := dck_get daX0_chance_t0 5 rfl
theorem dX0_chance_40 : decode cX0_chance 40 = .ok (.iload_n 2, 1) := dck_get daX0_chance_t0 6 rfl
theorem dX0_chance_41 : decode cX0_chance 41 = .ok (.invokestatic 17, 3) := dck_get daX0_chance_t0 7 rfl
theorem dX0_chance_44 : decode cX0_chance 44 = .ok (.ireturn, 1) := dck_get daX0_chance_t0 8 rfl
theorem dX0_chance_45 : decode cX0_chance 45 = .ok (.iload_n 2, 1) := dck_get daX0_chance_t0 9 rfl
theorem dX0_chance_46 : decode cX0_chance 46 = .ok (.invokestatic 21, 3) := dck_get daX0_chance_t0 10 rfl
theorem dX0_chance_49 : decode cX0_chance 49 = .ok (.ireturn, 1) := dck_get daX0_chance_t0 11 rfl
theorem dX0_chance_50 : decode cX0_chance 50 = .ok (.iconst 0, 1) := dck_get daX0_chance_t0 12 rfl
theorem dX0_chance_51 : decode cX0_chance 51 = .ok (.iload_n 2, 1) := dck_get daX0_chance_t0 13 rfl
theorem dX0_chance_52 : decode cX0_chance 52 = .ok (.invokestatic 21, 3) := dck_get daX0_chance_t0 14 rfl
theorem dX0_chance_55 : decode cX0_chance 55 = .ok (.iconst 2, 1) := dck_get daX0_chance_t0 15 rfl
theorem dX0_chance_56 : decode cX0_chance 56 = .ok (.isub, 1) := dck_get daX0_chance_t0 16 rfl
theorem dX0_chance_57 : decode cX0_chance 57 = .ok (.invokestatic 11, 3) := dck_get daX0_chance_t0 17 rfl
theorem dX0_chance_60 : decode cX0_chance 60 = .ok (.ireturn, 1) := dck_get daX0_chance_t0 18 rfl
theorem dX0_chance_61 : decode cX0_chance 61 = .ok (.iload_n 1, 1) := dck_get daX0_chance_t0 19 rfl
def dtX0_chance_t1 : List (Nat × Instr × Nat) := [(62, .bipush 50, 2), (64, .if_icmp .ge 7, 3), (67, .iconst 0, 1), (68, .goto 7, 3), (71, .iload_n 2, 1), (72, .invokestatic 17, 3), (75, .ireturn, 1), (76, .iload_n 2, 1), (77, .ireturn, 1)]
theorem daX0_chance_t1 : dtX0_chance_t1.all (dck cX0_chance) = true := by decide +kernel
theorem dX0_chance_62 : decode cX0_chance 62 = .ok (.bipush 50, 2) := dck_get daX0_chance_t1 0 rfl
theorem dX0_chance_64 : decode cX0_chance 64 = .ok (.if_icmp .ge 7, 3) := dck_get daX0_chance_t1 1 rfl
theorem dX0_chance_67 : decode cX0_chance 67 = .ok (.iconst 0, 1) := dck_get daX0_chance_t1 2 rfl
theorem dX0_chance_68 : decode cX0_chance 68 = .ok (.goto 7, 3) := dck_get daX0_chance_t1 3 rfl
theorem dX0_chance_71 : decode cX0_chance 71 = .ok (.iload_n 2, 1) := dck_get daX0_chance_t1 4 rfl
theorem dX0_chance_72 : decode cX0_chance 72 = .ok (.invokestatic 17, 3) := dck_get daX0_chance_t1 5 rfl
theorem dX0_chance_75 : decode cX0_chance 75 = .ok (.ireturn, 1) := dck_get daX0_chance_t1 6 rfl
theorem dX0_chance_76 : decode cX0_chance 76 = .ok (.iload_n 2, 1) := dck_get daX0_chance_t1 7 rfl
theorem dX0_chance_77 : decode cX0_chance 77 = .ok (.ireturn, 1) := dck_get daX0_chance_t1 8 rfl
def dtX0_climb_t0 : List (Nat × Instr × Nat) := [(0, .bipush 9, 2), (2, .iload_n 1, 1), (3, .bipush 12, 2), (5, .idiv, 1), (6, .isub, 1), (7, .istore_n 2, 1), (8, .iload_n 0, 1), (9, .iconst 1, 1), (10, .if_icmp .eq 8, 3), (13, .iload_n 0, 1), (14, .iconst 5, 1), (15, .if_icmp .ne 14, 3), (18, .bipush 9, 2), (20, .iload_n 2, 1), (21, .iconst 2, 1), (22, .iadd, 1), (23, .invokestatic 24, 3), (26, .goto 4, 3), (29, .iload_n 2, 1), (30, .ireturn, 1)]
theorem daX0_climb_t0 : dtX0_climb_t0.all (dck cX0_climb) = true := by decide +kernel
theorem dX0_climb_0 : decode cX0_climb 0 = .ok (.bipush 9, 2) := dck_get daX0_climb_t0 0 rfl
theorem dX0_climb_2 : decode cX0_climb 2 = .ok (.iload_n 1, 1) := dck_get daX0_climb_t0 1 rfl
theorem dX0_climb_3 : decode cX0_climb 3 = .ok (.bipush 12, 2) := dck_get daX0_climb_t0 2 rfl
theorem dX0_climb_5 : decode cX0_climb 5 = .ok (.idiv, 1) := dck_get daX0_climb_t0 3 rfl
theorem dX0_climb_6 : decode cX0_climb 6 = .ok (.isub, 1) := dck_get daX0_climb_t0 4 rfl
theorem dX0_climb_7 : decode cX0_climb 7 = .ok (.istore_n 2, 1) := dck_get daX0_climb_t0 5 rfl
theorem dX0_climb_8 : decode cX0_climb 8 = .ok (.iload_n 0, 1) := dck_get daX0_climb_t0 6 rfl
theorem dX0_climb_9 : decode cX0_climb 9 = .ok (.iconst 1, 1) := dck_get daX0_climb_t0 7 rfl
theorem dX0_climb_10 : decode cX0_climb 10 = .ok (.if_icmp .eq 8, 3) := dck_get daX0_climb_t0 8 rfl
theorem dX0_climb_13 : decode cX0_climb 13 = .ok (.iload_n 0, 1) := dck_get daX0_climb_t0 9 rfl
theorem dX0_climb_14 : decode cX0_climb 14 = .ok (.iconst 5, 1) := dck_get daX0_climb_t0 10 rfl
theorem dX0_climb_15 : decode cX0_climb 15 = .ok (.if_icmp .ne 14, 3) := dck_get daX0_climb_t0 11 rfl
theorem dX0_climb_18 : decode cX0_climb 18 = .ok (.bipush 9, 2) := dck_get daX0_climb_t0 12 rfl
theorem dX0_climb_20 : decode cX0_climb 20 = .ok (.iload_n 2, 1) := dck_get daX0_climb_t0 13 rfl
theorem dX0_climb_21 : decode cX0_climb 21 = .ok (.iconst 2, 1) := dck_get daX0_climb_t0 14 rfl
theorem dX0_climb_22 : decode cX0_climb 22 = .ok (.iadd, 1) := dck_get daX0_climb_t0 15 rfl
theorem dX0_climb_23 : decode cX0_climb 23 = .ok (.invokestatic 24, 3) := dck_get daX0_climb_t0 16 rfl
theorem dX0_climb_26 : decode cX0_climb 26 = .ok (.goto 4, 3) := dck_get daX0_climb_t0 17 rfl
theorem dX0_climb_29 : decode cX0_climb 29 = .ok (.iload_n 2, 1) := dck_get daX0_climb_t0 18 rfl
theorem dX0_climb_30 : decode cX0_climb 30 = .ok (.ireturn, 1) := dck_get daX0_climb_t0 19 rfl
def dtX0_strongChance_t0 : List (Nat × Instr × Nat) := [(0, .iload_n 0, 1), (1, .iconst 2, 1), (2, .idiv, 1), (3, .ireturn, 1)]
theorem daX0_strongChance_t0 : dtX0_strongChance_t0.all (dck cX0_strongChance) = true := by decide +kernel
theorem dX0_strongChance_0 : decode cX0_strongChance 0 = .ok (.iload_n 0, 1) := dck_get daX0_strongChance_t0 0 rfl
theorem dX0_strongChance_1 : decode cX0_strongChance 1 = .ok (.iconst 2, 1) := dck_get daX0_strongChance_t0 1 rfl
theorem dX0_strongChance_2 : decode cX0_strongChance 2 = .ok (.idiv, 1) := dck_get daX0_strongChance_t0 2 rfl
theorem dX0_strongChance_3 : decode cX0_strongChance 3 = .ok (.ireturn, 1) := dck_get daX0_strongChance_t0 3 rfl
def dtX0_illChance_t0 : List (Nat × Instr × Nat) := [(0, .bipush 10, 2), (2, .iload_n 0, 1), (3, .iconst 3, 1), (4, .iadd, 1), (5, .invokestatic 24, 3), (8, .ireturn, 1)]
theorem daX0_illChance_t0 : dtX0_illChance_t0.all (dck cX0_illChance) = true := by decide +kernel
theorem dX0_illChance_0 : decode cX0_illChance 0 = .ok (.bipush 10, 2) := dck_get daX0_illChance_t0 0 rfl
theorem dX0_illChance_2 : decode cX0_illChance 2 = .ok (.iload_n 0, 1) := dck_get daX0_illChance_t0 1 rfl
theorem dX0_illChance_3 : decode cX0_illChance 3 = .ok (.iconst 3, 1) := dck_get daX0_illChance_t0 2 rfl
theorem dX0_illChance_4 : decode cX0_illChance 4 = .ok (.iadd, 1) := dck_get daX0_illChance_t0 3 rfl
theorem dX0_illChance_5 : decode cX0_illChance 5 = .ok (.invokestatic 24, 3) := dck_get daX0_illChance_t0 4 rfl
theorem dX0_illChance_8 : decode cX0_illChance 8 = .ok (.ireturn, 1) := dck_get daX0_illChance_t0 5 rfl
def dtX1_init_t0 : List (Nat × Instr × Nat) := [(0, .aload_n 0, 1), (1, .invokespecial 3, 3), (4, .aload_n 0, 1), (5, .bipush 9, 2), (7, .newarray .long, 2), (9, .putfield 9, 3), (12, .return_, 1)]
theorem daX1_init_t0 : dtX1_init_t0.all (dck cX1_init) = true := by decide +kernel
theorem dX1_init_0 : decode cX1_init 0 = .ok (.aload_n 0, 1) := dck_get daX1_init_t0 0 rfl
theorem dX1_init_1 : decode cX1_init 1 = .ok (.invokespecial 3, 3) := dck_get daX1_init_t0 1 rfl
theorem dX1_init_4 : decode cX1_init 4 = .ok (.aload_n 0, 1) := dck_get daX1_init_t0 2 rfl
theorem dX1_init_5 : decode cX1_init 5 = .ok (.bipush 9, 2) := dck_get daX1_init_t0 3 rfl
theorem dX1_init_7 : decode cX1_init 7 = .ok (.newarray .long, 2) := dck_get daX1_init_t0 4 rfl
theorem dX1_init_9 : decode cX1_init 9 = .ok (.putfield 9, 3) := dck_get daX1_init_t0 5 rfl
theorem dX1_init_12 : decode cX1_init 12 = .ok (.return_, 1) := dck_get daX1_init_t0 6 rfl
set_option maxRecDepth 20000 in
theorem gw_wsX1_clear : wsX1_clear.all goodWord = true := by decide +kernel
set_option maxRecDepth 20000 in
theorem ggX1_reckon_X1_clear : GoodIn wsX1_reckon wsX1_clear := goodIn_sub (List.forall_mem_cons.mpr ⟨(List.mem_of_getElem? (i := 14) rfl), (List.forall_mem_append.mpr ⟨(List.forall_mem_cons.mpr ⟨(List.mem_of_getElem? (i := 15) rfl), (List.forall_mem_cons.mpr ⟨(List.mem_of_getElem? (i := 9) rfl), (fun _ h => absurd h List.not_mem_nil)⟩)⟩), (fun _ h => (List.mem_cons_of_mem _ (List.mem_append_right _ h)))⟩)⟩) gw_wsX1_clear
set_option maxRecDepth 20000 in
theorem gX1_reckon_X1_clear : GoodIn wsX1_reckon (wsV RX1 19 RX1 yX1_clear wsX1_clear) := goodIn_app (goodIn_sub (List.forall_mem_cons.mpr ⟨(List.mem_of_getElem? (i := 10) rfl), (List.forall_mem_cons.mpr ⟨(List.mem_of_getElem? (i := 11) rfl), (List.forall_mem_cons.mpr ⟨(List.mem_of_getElem? (i := 12) rfl), (List.forall_mem_cons.mpr ⟨(List.mem_of_getElem? (i := 13) rfl), (fun _ h => absurd h List.not_mem_nil)⟩)⟩)⟩)⟩) (by decide +kernel)) ggX1_reckon_X1_clear
set_option maxRecDepth 20000 in
theorem gw_wsX3_isAlive : wsX3_isAlive.all goodWord = true := by decide +kernel
set_option maxRecDepth 20000 in
theorem ggX1_reckon_X3_isAlive : GoodIn wsX1_reckon wsX3_isAlive := goodIn_sub (List.forall_mem_cons.mpr ⟨(List.mem_of_getElem? (i := 20) rfl), (List.forall_mem_append.mpr ⟨(List.forall_mem_cons.mpr ⟨(List.mem_of_getElem? (i := 21) rfl), (List.forall_mem_cons.mpr ⟨(List.mem_of_getElem? (i := 22) rfl), (fun _ h => absurd h List.not_mem_nil)⟩)⟩), (fun _ h => (List.mem_cons_of_mem _ (List.mem_append_left _ (List.mem_append_right _ h))))⟩)⟩) gw_wsX3_isAlive
set_option maxRecDepth 20000 in
theorem gX1_reckon_X3_isAlive : GoodIn wsX1_reckon (wsV RX1 22 RX3 yX3_isAlive wsX3_isAlive) := goodIn_app (goodIn_sub (List.forall_mem_cons.mpr ⟨(List.mem_of_getElem? (i := 16) rfl), (List.forall_mem_cons.mpr ⟨(List.mem_of_getElem? (i := 17) rfl), (List.forall_mem_cons.mpr ⟨(List.mem_of_getElem? (i := 18) rfl), (List.forall_mem_cons.mpr ⟨(List.mem_of_getElem? (i := 19) rfl), (fun _ h => absurd h List.not_mem_nil)⟩)⟩)⟩)⟩) (by decide +kernel)) ggX1_reckon_X3_isAlive
set_option maxRecDepth 20000 in
theorem gw_wsX1_survival : wsX1_survival.all goodWord = true := by decide +kernel
set_option maxRecDepth 20000 in
theorem ggX1_reckon_X1_survival : GoodIn wsX1_reckon wsX1_survival := goodIn_sub (List.forall_mem_cons.mpr ⟨(List.mem_of_getElem? (i := 25) rfl), (List.forall_mem_append.mpr ⟨(List.forall_mem_append.mpr ⟨(List.forall_mem_cons.mpr ⟨(List.mem_of_getElem? (i := 26) rfl), (List.forall_mem_cons.mpr ⟨(List.mem_of_getElem? (i := 27) rfl), (List.forall_mem_cons.mpr ⟨(List.mem_of_getElem? (i := 28) rfl), (List.forall_mem_cons.mpr ⟨(List.mem_of_getElem? (i := 19) rfl), (List.forall_mem_cons.mpr ⟨(List.mem_of_getElem? (i := 29) rfl), (List.forall_mem_cons.mpr ⟨(List.mem_of_getElem? (i := 30) rfl), (List.forall_mem_cons.mpr ⟨(List.mem_of_getElem? (i := 31) rfl), (List.forall_mem_cons.mpr ⟨(List.mem_of_getElem? (i := 32) rfl), (List.forall_mem_cons.mpr ⟨(List.mem_of_getElem? (i := 33) rfl), (List.forall_mem_cons.mpr ⟨(List.mem_of_getElem? (i := 34) rfl), (List.forall_mem_cons.mpr ⟨(List.mem_of_getElem? (i := 35) rfl), (List.forall_mem_cons.mpr ⟨(List.mem_of_getElem? (i := 36) rfl), (List.forall_mem_cons.mpr ⟨(List.mem_of_getElem? (i := 37) rfl), (List.forall_mem_cons.mpr ⟨(List.mem_of_getElem? (i := 6) rfl), (List.forall_mem_cons.mpr ⟨(List.mem_of_getElem? (i := 38) rfl), (List.forall_mem_cons.mpr ⟨(List.mem_of_getElem? (i := 39) rfl), (List.forall_mem_cons.mpr ⟨(List.mem_of_getElem? (i := 40) rfl), (List.forall_mem_cons.mpr ⟨(List.mem_of_getElem? (i := 41) rfl), (List.forall_mem_cons.mpr ⟨(List.mem_of_getElem? (i := 42) rfl), (List.forall_mem_cons.mpr ⟨(List.mem_of_getElem? (i := 43) rfl), (List.forall_mem_cons.mpr ⟨(List.mem_of_getElem? (i := 5) rfl), (List.forall_mem_cons.mpr ⟨(List.mem_of_getElem? (i := 7) rfl), (List.forall_mem_cons.mpr ⟨(List.mem_of_getElem? (i := 44) rfl), (List.forall_mem_cons.mpr ⟨(List.mem_of_getElem? (i := 45) rfl), (fun _ h => absurd h List.not_mem_nil)⟩)⟩)⟩)⟩)⟩)⟩)⟩)⟩)⟩)⟩)⟩)⟩)⟩)⟩)⟩)⟩)⟩)⟩)⟩)⟩)⟩)⟩)⟩)⟩), (List.forall_mem_cons.mpr ⟨(List.mem_of_getElem? (i := 46) rfl), (List.forall_mem_cons.mpr ⟨(List.mem_of_getElem? (i := 47) rfl), (List.forall_mem_cons.mpr ⟨(List.mem_of_getElem? (i := 48) rfl), (List.forall_mem_cons.mpr ⟨(List.mem_of_getElem? (i := 49) rfl), (List.forall_mem_cons.mpr ⟨(List.mem_of_getElem? (i := 50) rfl), (fun _ h => absurd h List.not_mem_nil)⟩)⟩)⟩)⟩)⟩)⟩), (fun _ h => (List.mem_cons_of_mem _ (List.mem_append_left _ (List.mem_append_right _ h))))⟩)⟩) gw_wsX1_survival
set_option maxRecDepth 20000 in
theorem gX1_reckon_X1_survival : GoodIn wsX1_reckon (va_wsS RX1 32 yX1_survival wsX1_survival) := goodIn_app (goodIn_sub (List.forall_mem_cons.mpr ⟨(List.mem_of_getElem? (i := 23) rfl), (List.forall_mem_cons.mpr ⟨(List.mem_of_getElem? (i := 24) rfl), (List.forall_mem_cons.mpr ⟨(List.mem_of_getElem? (i := 13) rfl), (fun _ h => absurd h List.not_mem_nil)⟩)⟩)⟩) (by decide +kernel)) ggX1_reckon_X1_survival
set_option maxRecDepth 20000 in
theorem gw_wsX1_addOneAbove : wsX1_addOneAbove.all goodWord = true := by decide +kernel
set_option maxRecDepth 20000 in
theorem ggX1_reckon_X1_addOneAbove : GoodIn wsX1_reckon wsX1_addOneAbove := goodIn_sub (List.forall_mem_cons.mpr ⟨(List.mem_of_getElem? (i := 54) rfl), (List.forall_mem_append.mpr ⟨(List.forall_mem_cons.mpr ⟨(List.mem_of_getElem? (i := 15) rfl), (List.forall_mem_cons.mpr ⟨(List.mem_of_getElem? (i := 9) rfl), (fun _ h => absurd h List.not_mem_nil)⟩)⟩), (fun _ h => (List.mem_cons_of_mem _ (List.mem_append_right _ h)))⟩)⟩) gw_wsX1_addOneAbove
set_option maxRecDepth 20000 in
theorem gX1_reckon_X1_addOneAbove : GoodIn wsX1_reckon (wsV RX1 36 RX1 yX1_addOneAbove wsX1_addOneAbove) := goodIn_app (goodIn_sub (List.forall_mem_cons.mpr ⟨(List.mem_of_getElem? (i := 51) rfl), (List.forall_mem_cons.mpr ⟨(List.mem_of_getElem? (i := 52) rfl), (List.forall_mem_cons.mpr ⟨(List.mem_of_getElem? (i := 53) rfl), (List.forall_mem_cons.mpr ⟨(List.mem_of_getElem? (i := 13) rfl), (fun _ h => absurd h List.not_mem_nil)⟩)⟩)⟩)⟩) (by decide +kernel)) ggX1_reckon_X1_addOneAbove
set_option maxRecDepth 20000 in
theorem gw_wsX3_staysDown : wsX3_staysDown.all goodWord = true := by decide +kernel
set_option maxRecDepth 20000 in
theorem ggX1_reckon_X3_staysDown : GoodIn wsX1_reckon wsX3_staysDown := goodIn_sub (List.forall_mem_cons.mpr ⟨(List.mem_of_getElem? (i := 58) rfl), (List.forall_mem_append.mpr ⟨(List.forall_mem_cons.mpr ⟨(List.mem_of_getElem? (i := 30) rfl), (List.forall_mem_cons.mpr ⟨(List.mem_of_getElem? (i := 22) rfl), (fun _ h => absurd h List.not_mem_nil)⟩)⟩), (fun _ h => (List.mem_cons_of_mem _ (List.mem_append_left _ (List.mem_append_right _ h))))⟩)⟩) gw_wsX3_staysDown
set_option maxRecDepth 20000 in
theorem gX1_reckon_X3_staysDown : GoodIn wsX1_reckon (wsV RX1 46 RX3 yX3_staysDown wsX3_staysDown) := goodIn_app (goodIn_sub (List.forall_mem_cons.mpr ⟨(List.mem_of_getElem? (i := 55) rfl), (List.forall_mem_cons.mpr ⟨(List.mem_of_getElem? (i := 56) rfl), (List.forall_mem_cons.mpr ⟨(List.mem_of_getElem? (i := 57) rfl), (List.forall_mem_cons.mpr ⟨(List.mem_of_getElem? (i := 19) rfl), (fun _ h => absurd h List.not_mem_nil)⟩)⟩)⟩)⟩) (by decide +kernel)) ggX1_reckon_X3_staysDown
set_option maxRecDepth 20000 in
theorem gw_wsX1_atLeast : wsX1_atLeast.all goodWord = true := by decide +kernel
set_option maxRecDepth 20000 in
theorem ggX1_reckon_X1_atLeast : GoodIn wsX1_reckon wsX1_atLeast := goodIn_sub (List.forall_mem_cons.mpr ⟨(List.mem_of_getElem? (i := 62) rfl), (List.forall_mem_append.mpr ⟨(List.forall_mem_cons.mpr ⟨(List.mem_of_getElem? (i := 15) rfl), (fun _ h => absurd h List.not_mem_nil)⟩), (fun _ h => (List.mem_cons_of_mem _ (List.mem_append_right _ h)))⟩)⟩) gw_wsX1_atLeast
set_option maxRecDepth 20000 in
theorem gX1_reckon_X1_atLeast : GoodIn wsX1_reckon (wsV RX1 49 RX1 yX1_atLeast wsX1_atLeast) := goodIn_app (goodIn_sub (List.forall_mem_cons.mpr ⟨(List.mem_of_getElem? (i := 59) rfl), (List.forall_mem_cons.mpr ⟨(List.mem_of_getElem? (i := 60) rfl), (List.forall_mem_cons.mpr ⟨(List.mem_of_getElem? (i := 61) rfl), (List.forall_mem_cons.mpr ⟨(List.mem_of_getElem? (i := 13) rfl), (fun _ h => absurd h List.not_mem_nil)⟩)⟩)⟩)⟩) (by decide +kernel)) ggX1_reckon_X1_atLeast
set_option maxRecDepth 20000 in
theorem gw_wsX1_shorten : wsX1_shorten.all goodWord = true := by decide +kernel
set_option maxRecDepth 20000 in
theorem ggX1_reckon_X1_shorten : GoodIn wsX1_reckon wsX1_shorten := goodIn_sub (List.forall_mem_cons.mpr ⟨(List.mem_of_getElem? (i := 66) rfl), (List.forall_mem_append.mpr ⟨(List.forall_mem_cons.mpr ⟨(List.mem_of_getElem? (i := 9) rfl), (List.forall_mem_cons.mpr ⟨(List.mem_of_getElem? (i := 8) rfl), (fun _ h => absurd h List.not_mem_nil)⟩)⟩), (fun _ h => (List.mem_cons_of_mem _ (List.mem_append_right _ h)))⟩)⟩) gw_wsX1_shorten
set_option maxRecDepth 20000 in
theorem gX1_reckon_X1_shorten : GoodIn wsX1_reckon (wsV RX1 60 RX1 yX1_shorten wsX1_shorten) := goodIn_app (goodIn_sub (List.forall_mem_cons.mpr ⟨(List.mem_of_getElem? (i := 63) rfl), (List.forall_mem_cons.mpr ⟨(List.mem_of_getElem? (i := 64) rfl), (List.forall_mem_cons.mpr ⟨(List.mem_of_getElem? (i := 65) rfl), (List.forall_mem_cons.mpr ⟨(List.mem_of_getElem? (i := 13) rfl), (fun _ h => absurd h List.not_mem_nil)⟩)⟩)⟩)⟩) (by decide +kernel)) ggX1_reckon_X1_shorten
def dtX1_reckon_t0 : List (Nat × Instr × Nat) := [(0, .iload 4, 2), (2, .iconst 1, 1), (3, .if_icmp .ne 9, 3), (6, .ldc2_w 15, 3), (9, .goto 6, 3), (12, .ldc2_w 17, 3), (15, .lstore 5, 2), (17, .aload_n 0, 1), (18, .invokevirtual 19, 3), (21, .iconst 0, 1), (22, .istore 7, 2), (24, .iload 7, 2), (26, .bipush 8, 2), (28, .if_icmp .ge 48, 3), (31, .aload_n 1, 1), (32, .iload 7, 2), (34, .invokevirtual 22, 3), (37, .ifCond .eq 33, 3), (40, .aload_n 1, 1), (41, .getfield 28, 3)]
theorem daX1_reckon_t0 : dtX1_reckon_t0.all (dck cX1_reckon) = true := by decide +kernel
theorem dX1_reckon_0 : decode cX1_reckon 0 = .ok (.iload 4, 2) := dck_get daX1_reckon_t0 0 rfl
theorem dX1_reckon_2 : decode cX1_reckon 2 = .ok (.iconst 1, 1) := dck_get daX1_reckon_t0 1 rfl
theorem dX1_reckon_3 : decode cX1_reckon 3 = .ok (.if_icmp .ne 9, 3) := dck_get daX1_reckon_t0 2 rfl
theorem dX1_reckon_6 : decode cX1_reckon 6 = .ok (.ldc2_w 15, 3) := dck_get daX1_reckon_t0 3 rfl
theorem dX1_reckon_9 : decode cX1_reckon 9 = .ok (.goto 6, 3) := dck_get daX1_reckon_t0 4 rfl
theorem dX1_reckon_12 : decode cX1_reckon 12 = .ok (.ldc2_w 17, 3) := dck_get daX1_reckon_t0 5 rfl
theorem dX1_reckon_15 : decode cX1_reckon 15 = .ok (.lstore 5, 2) := dck_get daX1_reckon_t0 6 rfl
theorem dX1_reckon_17 : decode cX1_reckon 17 = .ok (.aload_n 0, 1) := dck_get daX1_reckon_t0 7 rfl
theorem dX1_reckon_18 : decode cX1_reckon 18 = .ok (.invokevirtual 19, 3) := dck_get daX1_reckon_t0 8 rfl
theorem dX1_reckon_21 : decode cX1_reckon 21 = .ok (.iconst 0, 1) := dck_get daX1_reckon_t0 9 rfl
theorem dX1_reckon_22 : decode cX1_reckon 22 = .ok (.istore 7, 2) := dck_get daX1_reckon_t0 10 rfl
theorem dX1_reckon_24 : decode cX1_reckon 24 = .ok (.iload 7, 2) := dck_get daX1_reckon_t0 11 rfl
theorem dX1_reckon_26 : decode cX1_reckon 26 = .ok (.bipush 8, 2) := dck_get daX1_reckon_t0 12 rfl
theorem dX1_reckon_28 : decode cX1_reckon 28 = .ok (.if_icmp .ge 48, 3) := dck_get daX1_reckon_t0 13 rfl
theorem dX1_reckon_31 : decode cX1_reckon 31 = .ok (.aload_n 1, 1) := dck_get daX1_reckon_t0 14 rfl
theorem dX1_reckon_32 : decode cX1_reckon 32 = .ok (.iload 7, 2) := dck_get daX1_reckon_t0 15 rfl
theorem dX1_reckon_34 : decode cX1_reckon 34 = .ok (.invokevirtual 22, 3) := dck_get daX1_reckon_t0 16 rfl
theorem dX1_reckon_37 : decode cX1_reckon 37 = .ok (.ifCond .eq 33, 3) := dck_get daX1_reckon_t0 17 rfl
theorem dX1_reckon_40 : decode cX1_reckon 40 = .ok (.aload_n 1, 1) := dck_get daX1_reckon_t0 18 rfl
theorem dX1_reckon_41 : decode cX1_reckon 41 = .ok (.getfield 28, 3) := dck_get daX1_reckon_t0 19 rfl
def dtX1_reckon_t1 : List (Nat × Instr × Nat) := [(44, .iload 7, 2), (46, .iaload, 1), (47, .aload_n 1, 1), (48, .getfield 28, 3), (51, .iload_n 2, 1), (52, .iaload, 1), (53, .if_icmp .le 17, 3), (56, .aload_n 0, 1), (57, .aload_n 1, 1), (58, .iload 7, 2), (60, .iload 4, 2), (62, .invokestatic 32, 3), (65, .lload 5, 2), (67, .invokevirtual 36, 3), (70, .iinc 7 1, 3), (73, .goto (-49), 3), (76, .iconst 0, 1), (77, .iload_n 3, 1), (78, .aload_n 1, 1), (79, .getfield 28, 3)]
theorem daX1_reckon_t1 : dtX1_reckon_t1.all (dck cX1_reckon) = true := by decide +kernel
theorem dX1_reckon_44 : decode cX1_reckon 44 = .ok (.iload 7, 2) := dck_get daX1_reckon_t1 0 rfl
theorem dX1_reckon_46 : decode cX1_reckon 46 = .ok (.iaload, 1) := dck_get daX1_reckon_t1 1 rfl
theorem dX1_reckon_47 : decode cX1_reckon 47 = .ok (.aload_n 1, 1) := dck_get daX1_reckon_t1 2 rfl
theorem dX1_reckon_48 : decode cX1_reckon 48 = .ok (.getfield 28, 3) := dck_get daX1_reckon_t1 3 rfl
theorem dX1_reckon_51 : decode cX1_reckon 51 = .ok (.iload_n 2, 1) := dck_get daX1_reckon_t1 4 rfl
theorem dX1_reckon_52 : decode cX1_reckon 52 = .ok (.iaload, 1) := dck_get daX1_reckon_t1 5 rfl
theorem dX1_reckon_53 : decode cX1_reckon 53 = .ok (.if_icmp .le 17, 3) := dck_get daX1_reckon_t1 6 rfl
theorem dX1_reckon_56 : decode cX1_reckon 56 = .ok (.aload_n 0, 1) := dck_get daX1_reckon_t1 7 rfl
theorem dX1_reckon_57 : decode cX1_reckon 57 = .ok (.aload_n 1, 1) := dck_get daX1_reckon_t1 8 rfl
theorem dX1_reckon_58 : decode cX1_reckon 58 = .ok (.iload 7, 2) := dck_get daX1_reckon_t1 9 rfl
theorem dX1_reckon_60 : decode cX1_reckon 60 = .ok (.iload 4, 2) := dck_get daX1_reckon_t1 10 rfl
theorem dX1_reckon_62 : decode cX1_reckon 62 = .ok (.invokestatic 32, 3) := dck_get daX1_reckon_t1 11 rfl
theorem dX1_reckon_65 : decode cX1_reckon 65 = .ok (.lload 5, 2) := dck_get daX1_reckon_t1 12 rfl
theorem dX1_reckon_67 : decode cX1_reckon 67 = .ok (.invokevirtual 36, 3) := dck_get daX1_reckon_t1 13 rfl
theorem dX1_reckon_70 : decode cX1_reckon 70 = .ok (.iinc 7 1, 3) := dck_get daX1_reckon_t1 14 rfl
theorem dX1_reckon_73 : decode cX1_reckon 73 = .ok (.goto (-49), 3) := dck_get daX1_reckon_t1 15 rfl
theorem dX1_reckon_76 : decode cX1_reckon 76 = .ok (.iconst 0, 1) := dck_get daX1_reckon_t1 16 rfl
theorem dX1_reckon_77 : decode cX1_reckon 77 = .ok (.iload_n 3, 1) := dck_get daX1_reckon_t1 17 rfl
theorem dX1_reckon_78 : decode cX1_reckon 78 = .ok (.aload_n 1, 1) := dck_get daX1_reckon_t1 18 rfl
theorem dX1_reckon_79 : decode cX1_reckon 79 = .ok (.getfield 28, 3) := dck_get daX1_reckon_t1 19 rfl
def dtX1_reckon_t2 : List (Nat × Instr × Nat) := [(82, .iload_n 2, 1), (83, .iaload, 1), (84, .isub, 1), (85, .invokestatic 40, 3), (88, .istore 7, 2), (90, .aload_n 0, 1), (91, .iload 7, 2), (93, .ifCond .le 15, 3), (96, .aload_n 1, 1), (97, .iload_n 2, 1), (98, .invokevirtual 46, 3), (101, .ifCond .eq 7, 3), (104, .lconst 0, 1), (105, .goto 9, 3), (108, .aload_n 0, 1), (109, .iload 7, 2), (111, .invokevirtual 49, 3), (114, .putfield 53, 3), (117, .aload_n 0, 1), (118, .dup, 1)]
theorem daX1_reckon_t2 : dtX1_reckon_t2.all (dck cX1_reckon) = true := by decide +kernel
theorem dX1_reckon_82 : decode cX1_reckon 82 = .ok (.iload_n 2, 1) := dck_get daX1_reckon_t2 0 rfl
theorem dX1_reckon_83 : decode cX1_reckon 83 = .ok (.iaload, 1) := dck_get daX1_reckon_t2 1 rfl
theorem dX1_reckon_84 : decode cX1_reckon 84 = .ok (.isub, 1) := dck_get daX1_reckon_t2 2 rfl
theorem dX1_reckon_85 : decode cX1_reckon 85 = .ok (.invokestatic 40, 3) := dck_get daX1_reckon_t2 3 rfl
theorem dX1_reckon_88 : decode cX1_reckon 88 = .ok (.istore 7, 2) := dck_get daX1_reckon_t2 4 rfl
theorem dX1_reckon_90 : decode cX1_reckon 90 = .ok (.aload_n 0, 1) := dck_get daX1_reckon_t2 5 rfl
theorem dX1_reckon_91 : decode cX1_reckon 91 = .ok (.iload 7, 2) := dck_get daX1_reckon_t2 6 rfl
theorem dX1_reckon_93 : decode cX1_reckon 93 = .ok (.ifCond .le 15, 3) := dck_get daX1_reckon_t2 7 rfl
theorem dX1_reckon_96 : decode cX1_reckon 96 = .ok (.aload_n 1, 1) := dck_get daX1_reckon_t2 8 rfl
theorem dX1_reckon_97 : decode cX1_reckon 97 = .ok (.iload_n 2, 1) := dck_get daX1_reckon_t2 9 rfl
theorem dX1_reckon_98 : decode cX1_reckon 98 = .ok (.invokevirtual 46, 3) := dck_get daX1_reckon_t2 10 rfl
theorem dX1_reckon_101 : decode cX1_reckon 101 = .ok (.ifCond .eq 7, 3) := dck_get daX1_reckon_t2 11 rfl
theorem dX1_reckon_104 : decode cX1_reckon 104 = .ok (.lconst 0, 1) := dck_get daX1_reckon_t2 12 rfl
theorem dX1_reckon_105 : decode cX1_reckon 105 = .ok (.goto 9, 3) := dck_get daX1_reckon_t2 13 rfl
theorem dX1_reckon_108 : decode cX1_reckon 108 = .ok (.aload_n 0, 1) := dck_get daX1_reckon_t2 14 rfl
theorem dX1_reckon_109 : decode cX1_reckon 109 = .ok (.iload 7, 2) := dck_get daX1_reckon_t2 15 rfl
theorem dX1_reckon_111 : decode cX1_reckon 111 = .ok (.invokevirtual 49, 3) := dck_get daX1_reckon_t2 16 rfl
theorem dX1_reckon_114 : decode cX1_reckon 114 = .ok (.putfield 53, 3) := dck_get daX1_reckon_t2 17 rfl
theorem dX1_reckon_117 : decode cX1_reckon 117 = .ok (.aload_n 0, 1) := dck_get daX1_reckon_t2 18 rfl
theorem dX1_reckon_118 : decode cX1_reckon 118 = .ok (.dup, 1) := dck_get daX1_reckon_t2 19 rfl
def dtX1_reckon_t3 : List (Nat × Instr × Nat) := [(119, .getfield 53, 3), (122, .aload_n 1, 1), (123, .iload_n 2, 1), (124, .iload 4, 2), (126, .invokestatic 32, 3), (129, .lmul, 1), (130, .putfield 53, 3), (133, .aload_n 0, 1), (134, .dup, 1), (135, .getfield 57, 3), (138, .lload 5, 2), (140, .lmul, 1), (141, .putfield 57, 3), (144, .aload_n 0, 1), (145, .invokevirtual 60, 3), (148, .return_, 1)]
theorem daX1_reckon_t3 : dtX1_reckon_t3.all (dck cX1_reckon) = true := by decide +kernel
theorem dX1_reckon_119 : decode cX1_reckon 119 = .ok (.getfield 53, 3) := dck_get daX1_reckon_t3 0 rfl
theorem dX1_reckon_122 : decode cX1_reckon 122 = .ok (.aload_n 1, 1) := dck_get daX1_reckon_t3 1 rfl
theorem dX1_reckon_123 : decode cX1_reckon 123 = .ok (.iload_n 2, 1) := dck_get daX1_reckon_t3 2 rfl
theorem dX1_reckon_124 : decode cX1_reckon 124 = .ok (.iload 4, 2) := dck_get daX1_reckon_t3 3 rfl
theorem dX1_reckon_126 : decode cX1_reckon 126 = .ok (.invokestatic 32, 3) := dck_get daX1_reckon_t3 4 rfl
theorem dX1_reckon_129 : decode cX1_reckon 129 = .ok (.lmul, 1) := dck_get daX1_reckon_t3 5 rfl
theorem dX1_reckon_130 : decode cX1_reckon 130 = .ok (.putfield 53, 3) := dck_get daX1_reckon_t3 6 rfl
theorem dX1_reckon_133 : decode cX1_reckon 133 = .ok (.aload_n 0, 1) := dck_get daX1_reckon_t3 7 rfl
theorem dX1_reckon_134 : decode cX1_reckon 134 = .ok (.dup, 1) := dck_get daX1_reckon_t3 8 rfl
theorem dX1_reckon_135 : decode cX1_reckon 135 = .ok (.getfield 57, 3) := dck_get daX1_reckon_t3 9 rfl
theorem dX1_reckon_138 : decode cX1_reckon 138 = .ok (.lload 5, 2) := dck_get daX1_reckon_t3 10 rfl
theorem dX1_reckon_140 : decode cX1_reckon 140 = .ok (.lmul, 1) := dck_get daX1_reckon_t3 11 rfl
theorem dX1_reckon_141 : decode cX1_reckon 141 = .ok (.putfield 57, 3) := dck_get daX1_reckon_t3 12 rfl
theorem dX1_reckon_144 : decode cX1_reckon 144 = .ok (.aload_n 0, 1) := dck_get daX1_reckon_t3 13 rfl
theorem dX1_reckon_145 : decode cX1_reckon 145 = .ok (.invokevirtual 60, 3) := dck_get daX1_reckon_t3 14 rfl
theorem dX1_reckon_148 : decode cX1_reckon 148 = .ok (.return_, 1) := dck_get daX1_reckon_t3 15 rfl
def dtX1_clear_t0 : List (Nat × Instr × Nat) := [(0, .iconst 0, 1), (1, .istore_n 1, 1), (2, .iload_n 1, 1), (3, .bipush 8, 2), (5, .if_icmp .gt 16, 3), (8, .aload_n 0, 1), (9, .getfield 9, 3), (12, .iload_n 1, 1), (13, .lconst 0, 1), (14, .lastore, 1), (15, .iinc 1 1, 3), (18, .goto (-16), 3), (21, .aload_n 0, 1), (22, .getfield 9, 3), (25, .iconst 0, 1), (26, .lconst 1, 1), (27, .lastore, 1), (28, .aload_n 0, 1), (29, .lconst 1, 1), (30, .putfield 57, 3)]
theorem daX1_clear_t0 : dtX1_clear_t0.all (dck cX1_clear) = true := by decide +kernel
theorem dX1_clear_0 : decode cX1_clear 0 = .ok (.iconst 0, 1) := dck_get daX1_clear_t0 0 rfl
theorem dX1_clear_1 : decode cX1_clear 1 = .ok (.istore_n 1, 1) := dck_get daX1_clear_t0 1 rfl
theorem dX1_clear_2 : decode cX1_clear 2 = .ok (.iload_n 1, 1) := dck_get daX1_clear_t0 2 rfl
theorem dX1_clear_3 : decode cX1_clear 3 = .ok (.bipush 8, 2) := dck_get daX1_clear_t0 3 rfl
theorem dX1_clear_5 : decode cX1_clear 5 = .ok (.if_icmp .gt 16, 3) := dck_get daX1_clear_t0 4 rfl
theorem dX1_clear_8 : decode cX1_clear 8 = .ok (.aload_n 0, 1) := dck_get daX1_clear_t0 5 rfl
theorem dX1_clear_9 : decode cX1_clear 9 = .ok (.getfield 9, 3) := dck_get daX1_clear_t0 6 rfl
theorem dX1_clear_12 : decode cX1_clear 12 = .ok (.iload_n 1, 1) := dck_get daX1_clear_t0 7 rfl
theorem dX1_clear_13 : decode cX1_clear 13 = .ok (.lconst 0, 1) := dck_get daX1_clear_t0 8 rfl
theorem dX1_clear_14 : decode cX1_clear 14 = .ok (.lastore, 1) := dck_get daX1_clear_t0 9 rfl
theorem dX1_clear_15 : decode cX1_clear 15 = .ok (.iinc 1 1, 3) := dck_get daX1_clear_t0 10 rfl
theorem dX1_clear_18 : decode cX1_clear 18 = .ok (.goto (-16), 3) := dck_get daX1_clear_t0 11 rfl
theorem dX1_clear_21 : decode cX1_clear 21 = .ok (.aload_n 0, 1) := dck_get daX1_clear_t0 12 rfl
theorem dX1_clear_22 : decode cX1_clear 22 = .ok (.getfield 9, 3) := dck_get daX1_clear_t0 13 rfl
theorem dX1_clear_25 : decode cX1_clear 25 = .ok (.iconst 0, 1) := dck_get daX1_clear_t0 14 rfl
theorem dX1_clear_26 : decode cX1_clear 26 = .ok (.lconst 1, 1) := dck_get daX1_clear_t0 15 rfl
theorem dX1_clear_27 : decode cX1_clear 27 = .ok (.lastore, 1) := dck_get daX1_clear_t0 16 rfl
theorem dX1_clear_28 : decode cX1_clear 28 = .ok (.aload_n 0, 1) := dck_get daX1_clear_t0 17 rfl
theorem dX1_clear_29 : decode cX1_clear 29 = .ok (.lconst 1, 1) := dck_get daX1_clear_t0 18 rfl
theorem dX1_clear_30 : decode cX1_clear 30 = .ok (.putfield 57, 3) := dck_get daX1_clear_t0 19 rfl
def dtX1_clear_t1 : List (Nat × Instr × Nat) := [(33, .return_, 1)]
theorem daX1_clear_t1 : dtX1_clear_t1.all (dck cX1_clear) = true := by decide +kernel
theorem dX1_clear_33 : decode cX1_clear 33 = .ok (.return_, 1) := dck_get daX1_clear_t1 0 rfl
set_option maxRecDepth 20000 in
theorem gw_wsX3_chanceAfter : wsX3_chanceAfter.all goodWord = true := by decide +kernel
set_option maxRecDepth 20000 in
theorem ggX1_survival_X3_chanceAfter : GoodIn wsX1_survival wsX3_chanceAfter := goodIn_sub (List.forall_mem_cons.mpr ⟨(List.mem_of_getElem? (i := 5) rfl), (List.forall_mem_append.mpr ⟨(List.forall_mem_append.mpr ⟨(List.forall_mem_cons.mpr ⟨(List.mem_of_getElem? (i := 6) rfl), (List.forall_mem_cons.mpr ⟨(List.mem_of_getElem? (i := 7) rfl), (List.forall_mem_cons.mpr ⟨(List.mem_of_getElem? (i := 8) rfl), (List.forall_mem_cons.mpr ⟨(List.mem_of_getElem? (i := 9) rfl), (List.forall_mem_cons.mpr ⟨(List.mem_of_getElem? (i := 4) rfl), (List.forall_mem_cons.mpr ⟨(List.mem_of_getElem? (i := 10) rfl), (List.forall_mem_cons.mpr ⟨(List.mem_of_getElem? (i := 11) rfl), (List.forall_mem_cons.mpr ⟨(List.mem_of_getElem? (i := 12) rfl), (List.forall_mem_cons.mpr ⟨(List.mem_of_getElem? (i := 13) rfl), (List.forall_mem_cons.mpr ⟨(List.mem_of_getElem? (i := 14) rfl), (List.forall_mem_cons.mpr ⟨(List.mem_of_getElem? (i := 15) rfl), (List.forall_mem_cons.mpr ⟨(List.mem_of_getElem? (i := 16) rfl), (List.forall_mem_cons.mpr ⟨(List.mem_of_getElem? (i := 17) rfl), (List.forall_mem_cons.mpr ⟨(List.mem_of_getElem? (i := 18) rfl), (List.forall_mem_cons.mpr ⟨(List.mem_of_getElem? (i := 19) rfl), (List.forall_mem_cons.mpr ⟨(List.mem_of_getElem? (i := 20) rfl), (List.forall_mem_cons.mpr ⟨(List.mem_of_getElem? (i := 21) rfl), (List.forall_mem_cons.mpr ⟨(List.mem_of_getElem? (i := 22) rfl), (List.forall_mem_cons.mpr ⟨(List.mem_of_getElem? (i := 23) rfl), (List.forall_mem_cons.mpr ⟨(List.mem_of_getElem? (i := 24) rfl), (List.forall_mem_cons.mpr ⟨(List.mem_of_getElem? (i := 25) rfl), (List.forall_mem_cons.mpr ⟨(List.mem_of_getElem? (i := 26) rfl), (List.forall_mem_cons.mpr ⟨(List.mem_of_getElem? (i := 27) rfl), (List.forall_mem_cons.mpr ⟨(List.mem_of_getElem? (i := 28) rfl), (fun _ h => absurd h List.not_mem_nil)⟩)⟩)⟩)⟩)⟩)⟩)⟩)⟩)⟩)⟩)⟩)⟩)⟩)⟩)⟩)⟩)⟩)⟩)⟩)⟩)⟩)⟩)⟩)⟩), (List.forall_mem_cons.mpr ⟨(List.mem_of_getElem? (i := 29) rfl), (fun _ h => absurd h List.not_mem_nil)⟩)⟩), (fun _ h => (List.mem_cons_of_mem _ (List.mem_append_right _ h)))⟩)⟩) gw_wsX3_chanceAfter
set_option maxRecDepth 20000 in
theorem gX1_survival_X3_chanceAfter : GoodIn wsX1_survival (wsV RX1 63 RX3 yX3_chanceAfter wsX3_chanceAfter) := goodIn_app (goodIn_sub (List.forall_mem_cons.mpr ⟨(List.mem_of_getElem? (i := 1) rfl), (List.forall_mem_cons.mpr ⟨(List.mem_of_getElem? (i := 2) rfl), (List.forall_mem_cons.mpr ⟨(List.mem_of_getElem? (i := 3) rfl), (List.forall_mem_cons.mpr ⟨(List.mem_of_getElem? (i := 4) rfl), (fun _ h => absurd h List.not_mem_nil)⟩)⟩)⟩)⟩) (by decide +kernel)) ggX1_survival_X3_chanceAfter
def dtX1_survival_t0 : List (Nat × Instr × Nat) := [(0, .lconst 1, 1), (1, .lstore_n 3, 1), (2, .iconst 0, 1), (3, .istore 5, 2), (5, .iload 5, 2), (7, .iload_n 2, 1), (8, .if_icmp .ge 23, 3), (11, .lload_n 3, 1), (12, .bipush 10, 2), (14, .aload_n 0, 1), (15, .iload_n 1, 1), (16, .iload 5, 2), (18, .invokevirtual 63, 3), (21, .isub, 1), (22, .i2l, 1), (23, .lmul, 1), (24, .lstore_n 3, 1), (25, .iinc 5 1, 3), (28, .goto (-23), 3), (31, .lload_n 3, 1)]
theorem daX1_survival_t0 : dtX1_survival_t0.all (dck cX1_survival) = true := by decide +kernel
theorem dX1_survival_0 : decode cX1_survival 0 = .ok (.lconst 1, 1) := dck_get daX1_survival_t0 0 rfl
theorem dX1_survival_1 : decode cX1_survival 1 = .ok (.lstore_n 3, 1) := dck_get daX1_survival_t0 1 rfl
theorem dX1_survival_2 : decode cX1_survival 2 = .ok (.iconst 0, 1) := dck_get daX1_survival_t0 2 rfl
theorem dX1_survival_3 : decode cX1_survival 3 = .ok (.istore 5, 2) := dck_get daX1_survival_t0 3 rfl
theorem dX1_survival_5 : decode cX1_survival 5 = .ok (.iload 5, 2) := dck_get daX1_survival_t0 4 rfl
theorem dX1_survival_7 : decode cX1_survival 7 = .ok (.iload_n 2, 1) := dck_get daX1_survival_t0 5 rfl
theorem dX1_survival_8 : decode cX1_survival 8 = .ok (.if_icmp .ge 23, 3) := dck_get daX1_survival_t0 6 rfl
theorem dX1_survival_11 : decode cX1_survival 11 = .ok (.lload_n 3, 1) := dck_get daX1_survival_t0 7 rfl
theorem dX1_survival_12 : decode cX1_survival 12 = .ok (.bipush 10, 2) := dck_get daX1_survival_t0 8 rfl
theorem dX1_survival_14 : decode cX1_survival 14 = .ok (.aload_n 0, 1) := dck_get daX1_survival_t0 9 rfl
theorem dX1_survival_15 : decode cX1_survival 15 = .ok (.iload_n 1, 1) := dck_get daX1_survival_t0 10 rfl
theorem dX1_survival_16 : decode cX1_survival 16 = .ok (.iload 5, 2) := dck_get daX1_survival_t0 11 rfl
theorem dX1_survival_18 : decode cX1_survival 18 = .ok (.invokevirtual 63, 3) := dck_get daX1_survival_t0 12 rfl
theorem dX1_survival_21 : decode cX1_survival 21 = .ok (.isub, 1) := dck_get daX1_survival_t0 13 rfl
theorem dX1_survival_22 : decode cX1_survival 22 = .ok (.i2l, 1) := dck_get daX1_survival_t0 14 rfl
theorem dX1_survival_23 : decode cX1_survival 23 = .ok (.lmul, 1) := dck_get daX1_survival_t0 15 rfl
theorem dX1_survival_24 : decode cX1_survival 24 = .ok (.lstore_n 3, 1) := dck_get daX1_survival_t0 16 rfl
theorem dX1_survival_25 : decode cX1_survival 25 = .ok (.iinc 5 1, 3) := dck_get daX1_survival_t0 17 rfl
theorem dX1_survival_28 : decode cX1_survival 28 = .ok (.goto (-23), 3) := dck_get daX1_survival_t0 18 rfl
theorem dX1_survival_31 : decode cX1_survival 31 = .ok (.lload_n 3, 1) := dck_get daX1_survival_t0 19 rfl
def dtX1_survival_t1 : List (Nat × Instr × Nat) := [(32, .lreturn, 1)]
theorem daX1_survival_t1 : dtX1_survival_t1.all (dck cX1_survival) = true := by decide +kernel
theorem dX1_survival_32 : decode cX1_survival 32 = .ok (.lreturn, 1) := dck_get daX1_survival_t1 0 rfl
def dtX1_addOneAbove_t0 : List (Nat × Instr × Nat) := [(0, .bipush 8, 2), (2, .istore 5, 2), (4, .iload 5, 2), (6, .ifCond .le 39, 3), (9, .aload_n 0, 1), (10, .getfield 9, 3), (13, .iload 5, 2), (15, .aload_n 0, 1), (16, .getfield 9, 3), (19, .iload 5, 2), (21, .laload, 1), (22, .lload_n 1, 1), (23, .lmul, 1), (24, .aload_n 0, 1), (25, .getfield 9, 3), (28, .iload 5, 2), (30, .iconst 1, 1), (31, .isub, 1), (32, .laload, 1), (33, .lload_n 3, 1)]
theorem daX1_addOneAbove_t0 : dtX1_addOneAbove_t0.all (dck cX1_addOneAbove) = true := by decide +kernel
theorem dX1_addOneAbove_0 : decode cX1_addOneAbove 0 = .ok (.bipush 8, 2) := dck_get daX1_addOneAbove_t0 0 rfl
theorem dX1_addOneAbove_2 : decode cX1_addOneAbove 2 = .ok (.istore 5, 2) := dck_get daX1_addOneAbove_t0 1 rfl
theorem dX1_addOneAbove_4 : decode cX1_addOneAbove 4 = .ok (.iload 5, 2) := dck_get daX1_addOneAbove_t0 2 rfl
theorem dX1_addOneAbove_6 : decode cX1_addOneAbove 6 = .ok (.ifCond .le 39, 3) := dck_get daX1_addOneAbove_t0 3 rfl
theorem dX1_addOneAbove_9 : decode cX1_addOneAbove 9 = .ok (.aload_n 0, 1) := dck_get daX1_addOneAbove_t0 4 rfl
theorem dX1_addOneAbove_10 : decode cX1_addOneAbove 10 = .ok (.getfield 9, 3) := dck_get daX1_addOneAbove_t0 5 rfl
theorem dX1_addOneAbove_13 : decode cX1_addOneAbove 13 = .ok (.iload 5, 2) := dck_get daX1_addOneAbove_t0 6 rfl
theorem dX1_addOneAbove_15 : decode cX1_addOneAbove 15 = .ok (.aload_n 0, 1) := dck_get daX1_addOneAbove_t0 7 rfl
theorem dX1_addOneAbove_16 : decode cX1_addOneAbove 16 = .ok (.getfield 9, 3) := dck_get daX1_addOneAbove_t0 8 rfl
theorem dX1_addOneAbove_19 : decode cX1_addOneAbove 19 = .ok (.iload 5, 2) := dck_get daX1_addOneAbove_t0 9 rfl
theorem dX1_addOneAbove_21 : decode cX1_addOneAbove 21 = .ok (.laload, 1) := dck_get daX1_addOneAbove_t0 10 rfl
theorem dX1_addOneAbove_22 : decode cX1_addOneAbove 22 = .ok (.lload_n 1, 1) := dck_get daX1_addOneAbove_t0 11 rfl
theorem dX1_addOneAbove_23 : decode cX1_addOneAbove 23 = .ok (.lmul, 1) := dck_get daX1_addOneAbove_t0 12 rfl
theorem dX1_addOneAbove_24 : decode cX1_addOneAbove 24 = .ok (.aload_n 0, 1) := dck_get daX1_addOneAbove_t0 13 rfl
theorem dX1_addOneAbove_25 : decode cX1_addOneAbove 25 = .ok (.getfield 9, 3) := dck_get daX1_addOneAbove_t0 14 rfl
theorem dX1_addOneAbove_28 : decode cX1_addOneAbove 28 = .ok (.iload 5, 2) := dck_get daX1_addOneAbove_t0 15 rfl
theorem dX1_addOneAbove_30 : decode cX1_addOneAbove 30 = .ok (.iconst 1, 1) := dck_get daX1_addOneAbove_t0 16 rfl
theorem dX1_addOneAbove_31 : decode cX1_addOneAbove 31 = .ok (.isub, 1) := dck_get daX1_addOneAbove_t0 17 rfl
theorem dX1_addOneAbove_32 : decode cX1_addOneAbove 32 = .ok (.laload, 1) := dck_get daX1_addOneAbove_t0 18 rfl
theorem dX1_addOneAbove_33 : decode cX1_addOneAbove 33 = .ok (.lload_n 3, 1) := dck_get daX1_addOneAbove_t0 19 rfl
def dtX1_addOneAbove_t1 : List (Nat × Instr × Nat) := [(34, .lload_n 1, 1), (35, .lsub, 1), (36, .lmul, 1), (37, .ladd, 1), (38, .lastore, 1), (39, .iinc 5 (-1), 3), (42, .goto (-38), 3), (45, .aload_n 0, 1), (46, .getfield 9, 3), (49, .iconst 0, 1), (50, .dup2, 1), (51, .laload, 1), (52, .lload_n 1, 1), (53, .lmul, 1), (54, .lastore, 1), (55, .aload_n 0, 1), (56, .dup, 1), (57, .getfield 57, 3), (60, .lload_n 3, 1), (61, .lmul, 1)]
theorem daX1_addOneAbove_t1 : dtX1_addOneAbove_t1.all (dck cX1_addOneAbove) = true := by decide +kernel
theorem dX1_addOneAbove_34 : decode cX1_addOneAbove 34 = .ok (.lload_n 1, 1) := dck_get daX1_addOneAbove_t1 0 rfl
theorem dX1_addOneAbove_35 : decode cX1_addOneAbove 35 = .ok (.lsub, 1) := dck_get daX1_addOneAbove_t1 1 rfl
theorem dX1_addOneAbove_36 : decode cX1_addOneAbove 36 = .ok (.lmul, 1) := dck_get daX1_addOneAbove_t1 2 rfl
theorem dX1_addOneAbove_37 : decode cX1_addOneAbove 37 = .ok (.ladd, 1) := dck_get daX1_addOneAbove_t1 3 rfl
theorem dX1_addOneAbove_38 : decode cX1_addOneAbove 38 = .ok (.lastore, 1) := dck_get daX1_addOneAbove_t1 4 rfl
theorem dX1_addOneAbove_39 : decode cX1_addOneAbove 39 = .ok (.iinc 5 (-1), 3) := dck_get daX1_addOneAbove_t1 5 rfl
theorem dX1_addOneAbove_42 : decode cX1_addOneAbove 42 = .ok (.goto (-38), 3) := dck_get daX1_addOneAbove_t1 6 rfl
theorem dX1_addOneAbove_45 : decode cX1_addOneAbove 45 = .ok (.aload_n 0, 1) := dck_get daX1_addOneAbove_t1 7 rfl
theorem dX1_addOneAbove_46 : decode cX1_addOneAbove 46 = .ok (.getfield 9, 3) := dck_get daX1_addOneAbove_t1 8 rfl
theorem dX1_addOneAbove_49 : decode cX1_addOneAbove 49 = .ok (.iconst 0, 1) := dck_get daX1_addOneAbove_t1 9 rfl
theorem dX1_addOneAbove_50 : decode cX1_addOneAbove 50 = .ok (.dup2, 1) := dck_get daX1_addOneAbove_t1 10 rfl
theorem dX1_addOneAbove_51 : decode cX1_addOneAbove 51 = .ok (.laload, 1) := dck_get daX1_addOneAbove_t1 11 rfl
theorem dX1_addOneAbove_52 : decode cX1_addOneAbove 52 = .ok (.lload_n 1, 1) := dck_get daX1_addOneAbove_t1 12 rfl
theorem dX1_addOneAbove_53 : decode cX1_addOneAbove 53 = .ok (.lmul, 1) := dck_get daX1_addOneAbove_t1 13 rfl
theorem dX1_addOneAbove_54 : decode cX1_addOneAbove 54 = .ok (.lastore, 1) := dck_get daX1_addOneAbove_t1 14 rfl
theorem dX1_addOneAbove_55 : decode cX1_addOneAbove 55 = .ok (.aload_n 0, 1) := dck_get daX1_addOneAbove_t1 15 rfl
theorem dX1_addOneAbove_56 : decode cX1_addOneAbove 56 = .ok (.dup, 1) := dck_get daX1_addOneAbove_t1 16 rfl
theorem dX1_addOneAbove_57 : decode cX1_addOneAbove 57 = .ok (.getfield 57, 3) := dck_get daX1_addOneAbove_t1 17 rfl
theorem dX1_addOneAbove_60 : decode cX1_addOneAbove 60 = .ok (.lload_n 3, 1) := dck_get daX1_addOneAbove_t1 18 rfl
theorem dX1_addOneAbove_61 : decode cX1_addOneAbove 61 = .ok (.lmul, 1) := dck_get daX1_addOneAbove_t1 19 rfl
def dtX1_addOneAbove_t2 : List (Nat × Instr × Nat) := [(62, .putfield 57, 3), (65, .return_, 1)]
theorem daX1_addOneAbove_t2 : dtX1_addOneAbove_t2.all (dck cX1_addOneAbove) = true := by decide +kernel
theorem dX1_addOneAbove_62 : decode cX1_addOneAbove 62 = .ok (.putfield 57, 3) := dck_get daX1_addOneAbove_t2 0 rfl
theorem dX1_addOneAbove_65 : decode cX1_addOneAbove 65 = .ok (.return_, 1) := dck_get daX1_addOneAbove_t2 1 rfl
def dtX1_atLeast_t0 : List (Nat × Instr × Nat) := [(0, .lconst 0, 1), (1, .lstore_n 2, 1), (2, .iload_n 1, 1), (3, .istore 4, 2), (5, .iload 4, 2), (7, .ifCond .lt 26, 3), (10, .iload 4, 2), (12, .bipush 8, 2), (14, .if_icmp .gt 19, 3), (17, .lload_n 2, 1), (18, .aload_n 0, 1), (19, .getfield 9, 3), (22, .iload 4, 2), (24, .laload, 1), (25, .ladd, 1), (26, .lstore_n 2, 1), (27, .iinc 4 1, 3), (30, .goto (-25), 3), (33, .lload_n 2, 1), (34, .lreturn, 1)]
theorem daX1_atLeast_t0 : dtX1_atLeast_t0.all (dck cX1_atLeast) = true := by decide +kernel
theorem dX1_atLeast_0 : decode cX1_atLeast 0 = .ok (.lconst 0, 1) := dck_get daX1_atLeast_t0 0 rfl
theorem dX1_atLeast_1 : decode cX1_atLeast 1 = .ok (.lstore_n 2, 1) := dck_get daX1_atLeast_t0 1 rfl
theorem dX1_atLeast_2 : decode cX1_atLeast 2 = .ok (.iload_n 1, 1) := dck_get daX1_atLeast_t0 2 rfl
theorem dX1_atLeast_3 : decode cX1_atLeast 3 = .ok (.istore 4, 2) := dck_get daX1_atLeast_t0 3 rfl
theorem dX1_atLeast_5 : decode cX1_atLeast 5 = .ok (.iload 4, 2) := dck_get daX1_atLeast_t0 4 rfl
theorem dX1_atLeast_7 : decode cX1_atLeast 7 = .ok (.ifCond .lt 26, 3) := dck_get daX1_atLeast_t0 5 rfl
theorem dX1_atLeast_10 : decode cX1_atLeast 10 = .ok (.iload 4, 2) := dck_get daX1_atLeast_t0 6 rfl
theorem dX1_atLeast_12 : decode cX1_atLeast 12 = .ok (.bipush 8, 2) := dck_get daX1_atLeast_t0 7 rfl
theorem dX1_atLeast_14 : decode cX1_atLeast 14 = .ok (.if_icmp .gt 19, 3) := dck_get daX1_atLeast_t0 8 rfl
theorem dX1_atLeast_17 : decode cX1_atLeast 17 = .ok (.lload_n 2, 1) := dck_get daX1_atLeast_t0 9 rfl
theorem dX1_atLeast_18 : decode cX1_atLeast 18 = .ok (.aload_n 0, 1) := dck_get daX1_atLeast_t0 10 rfl
theorem dX1_atLeast_19 : decode cX1_atLeast 19 = .ok (.getfield 9, 3) := dck_get daX1_atLeast_t0 11 rfl
theorem dX1_atLeast_22 : decode cX1_atLeast 22 = .ok (.iload 4, 2) := dck_get daX1_atLeast_t0 12 rfl
theorem dX1_atLeast_24 : decode cX1_atLeast 24 = .ok (.laload, 1) := dck_get daX1_atLeast_t0 13 rfl
theorem dX1_atLeast_25 : decode cX1_atLeast 25 = .ok (.ladd, 1) := dck_get daX1_atLeast_t0 14 rfl
theorem dX1_atLeast_26 : decode cX1_atLeast 26 = .ok (.lstore_n 2, 1) := dck_get daX1_atLeast_t0 15 rfl
theorem dX1_atLeast_27 : decode cX1_atLeast 27 = .ok (.iinc 4 1, 3) := dck_get daX1_atLeast_t0 16 rfl
theorem dX1_atLeast_30 : decode cX1_atLeast 30 = .ok (.goto (-25), 3) := dck_get daX1_atLeast_t0 17 rfl
theorem dX1_atLeast_33 : decode cX1_atLeast 33 = .ok (.lload_n 2, 1) := dck_get daX1_atLeast_t0 18 rfl
theorem dX1_atLeast_34 : decode cX1_atLeast 34 = .ok (.lreturn, 1) := dck_get daX1_atLeast_t0 19 rfl
def dtX1_shorten_t0 : List (Nat × Instr × Nat) := [(0, .aload_n 0, 1), (1, .getfield 57, 3), (4, .lstore_n 1, 1), (5, .aload_n 0, 1), (6, .getfield 53, 3), (9, .lstore_n 3, 1), (10, .iconst 0, 1), (11, .istore 5, 2), (13, .iload 5, 2), (15, .sipush 200, 3), (18, .if_icmp .ge 25, 3), (21, .lload_n 3, 1), (22, .lconst 0, 1), (23, .lcmp, 1), (24, .ifCond .eq 19, 3), (27, .lload_n 1, 1), (28, .lload_n 3, 1), (29, .lrem, 1), (30, .lstore 6, 2), (32, .lload_n 3, 1)]
theorem daX1_shorten_t0 : dtX1_shorten_t0.all (dck cX1_shorten) = true := by decide +kernel
theorem dX1_shorten_0 : decode cX1_shorten 0 = .ok (.aload_n 0, 1) := dck_get daX1_shorten_t0 0 rfl
theorem dX1_shorten_1 : decode cX1_shorten 1 = .ok (.getfield 57, 3) := dck_get daX1_shorten_t0 1 rfl
theorem dX1_shorten_4 : decode cX1_shorten 4 = .ok (.lstore_n 1, 1) := dck_get daX1_shorten_t0 2 rfl
theorem dX1_shorten_5 : decode cX1_shorten 5 = .ok (.aload_n 0, 1) := dck_get daX1_shorten_t0 3 rfl
theorem dX1_shorten_6 : decode cX1_shorten 6 = .ok (.getfield 53, 3) := dck_get daX1_shorten_t0 4 rfl
theorem dX1_shorten_9 : decode cX1_shorten 9 = .ok (.lstore_n 3, 1) := dck_get daX1_shorten_t0 5 rfl
theorem dX1_shorten_10 : decode cX1_shorten 10 = .ok (.iconst 0, 1) := dck_get daX1_shorten_t0 6 rfl
theorem dX1_shorten_11 : decode cX1_shorten 11 = .ok (.istore 5, 2) := dck_get daX1_shorten_t0 7 rfl
theorem dX1_shorten_13 : decode cX1_shorten 13 = .ok (.iload 5, 2) := dck_get daX1_shorten_t0 8 rfl
theorem dX1_shorten_15 : decode cX1_shorten 15 = .ok (.sipush 200, 3) := dck_get daX1_shorten_t0 9 rfl
theorem dX1_shorten_18 : decode cX1_shorten 18 = .ok (.if_icmp .ge 25, 3) := dck_get daX1_shorten_t0 10 rfl
theorem dX1_shorten_21 : decode cX1_shorten 21 = .ok (.lload_n 3, 1) := dck_get daX1_shorten_t0 11 rfl
theorem dX1_shorten_22 : decode cX1_shorten 22 = .ok (.lconst 0, 1) := dck_get daX1_shorten_t0 12 rfl
theorem dX1_shorten_23 : decode cX1_shorten 23 = .ok (.lcmp, 1) := dck_get daX1_shorten_t0 13 rfl
theorem dX1_shorten_24 : decode cX1_shorten 24 = .ok (.ifCond .eq 19, 3) := dck_get daX1_shorten_t0 14 rfl
theorem dX1_shorten_27 : decode cX1_shorten 27 = .ok (.lload_n 1, 1) := dck_get daX1_shorten_t0 15 rfl
theorem dX1_shorten_28 : decode cX1_shorten 28 = .ok (.lload_n 3, 1) := dck_get daX1_shorten_t0 16 rfl
theorem dX1_shorten_29 : decode cX1_shorten 29 = .ok (.lrem, 1) := dck_get daX1_shorten_t0 17 rfl
theorem dX1_shorten_30 : decode cX1_shorten 30 = .ok (.lstore 6, 2) := dck_get daX1_shorten_t0 18 rfl
theorem dX1_shorten_32 : decode cX1_shorten 32 = .ok (.lload_n 3, 1) := dck_get daX1_shorten_t0 19 rfl
def dtX1_shorten_t1 : List (Nat × Instr × Nat) := [(33, .lstore_n 1, 1), (34, .lload 6, 2), (36, .lstore_n 3, 1), (37, .iinc 5 1, 3), (40, .goto (-27), 3), (43, .lload_n 1, 1), (44, .lconst 1, 1), (45, .lcmp, 1), (46, .ifCond .le 23, 3), (49, .aload_n 0, 1), (50, .dup, 1), (51, .getfield 53, 3), (54, .lload_n 1, 1), (55, .ldiv, 1), (56, .putfield 53, 3), (59, .aload_n 0, 1), (60, .dup, 1), (61, .getfield 57, 3), (64, .lload_n 1, 1), (65, .ldiv, 1)]
theorem daX1_shorten_t1 : dtX1_shorten_t1.all (dck cX1_shorten) = true := by decide +kernel
theorem dX1_shorten_33 : decode cX1_shorten 33 = .ok (.lstore_n 1, 1) := dck_get daX1_shorten_t1 0 rfl
theorem dX1_shorten_34 : decode cX1_shorten 34 = .ok (.lload 6, 2) := dck_get daX1_shorten_t1 1 rfl
theorem dX1_shorten_36 : decode cX1_shorten 36 = .ok (.lstore_n 3, 1) := dck_get daX1_shorten_t1 2 rfl
theorem dX1_shorten_37 : decode cX1_shorten 37 = .ok (.iinc 5 1, 3) := dck_get daX1_shorten_t1 3 rfl
theorem dX1_shorten_40 : decode cX1_shorten 40 = .ok (.goto (-27), 3) := dck_get daX1_shorten_t1 4 rfl
theorem dX1_shorten_43 : decode cX1_shorten 43 = .ok (.lload_n 1, 1) := dck_get daX1_shorten_t1 5 rfl
theorem dX1_shorten_44 : decode cX1_shorten 44 = .ok (.lconst 1, 1) := dck_get daX1_shorten_t1 6 rfl
theorem dX1_shorten_45 : decode cX1_shorten 45 = .ok (.lcmp, 1) := dck_get daX1_shorten_t1 7 rfl
theorem dX1_shorten_46 : decode cX1_shorten 46 = .ok (.ifCond .le 23, 3) := dck_get daX1_shorten_t1 8 rfl
theorem dX1_shorten_49 : decode cX1_shorten 49 = .ok (.aload_n 0, 1) := dck_get daX1_shorten_t1 9 rfl
theorem dX1_shorten_50 : decode cX1_shorten 50 = .ok (.dup, 1) := dck_get daX1_shorten_t1 10 rfl
theorem dX1_shorten_51 : decode cX1_shorten 51 = .ok (.getfield 53, 3) := dck_get daX1_shorten_t1 11 rfl
theorem dX1_shorten_54 : decode cX1_shorten 54 = .ok (.lload_n 1, 1) := dck_get daX1_shorten_t1 12 rfl
theorem dX1_shorten_55 : decode cX1_shorten 55 = .ok (.ldiv, 1) := dck_get daX1_shorten_t1 13 rfl
theorem dX1_shorten_56 : decode cX1_shorten 56 = .ok (.putfield 53, 3) := dck_get daX1_shorten_t1 14 rfl
theorem dX1_shorten_59 : decode cX1_shorten 59 = .ok (.aload_n 0, 1) := dck_get daX1_shorten_t1 15 rfl
theorem dX1_shorten_60 : decode cX1_shorten 60 = .ok (.dup, 1) := dck_get daX1_shorten_t1 16 rfl
theorem dX1_shorten_61 : decode cX1_shorten 61 = .ok (.getfield 57, 3) := dck_get daX1_shorten_t1 17 rfl
theorem dX1_shorten_64 : decode cX1_shorten 64 = .ok (.lload_n 1, 1) := dck_get daX1_shorten_t1 18 rfl
theorem dX1_shorten_65 : decode cX1_shorten 65 = .ok (.ldiv, 1) := dck_get daX1_shorten_t1 19 rfl
def dtX1_shorten_t2 : List (Nat × Instr × Nat) := [(66, .putfield 57, 3), (69, .return_, 1)]
theorem daX1_shorten_t2 : dtX1_shorten_t2.all (dck cX1_shorten) = true := by decide +kernel
theorem dX1_shorten_66 : decode cX1_shorten 66 = .ok (.putfield 57, 3) := dck_get daX1_shorten_t2 0 rfl
theorem dX1_shorten_69 : decode cX1_shorten 69 = .ok (.return_, 1) := dck_get daX1_shorten_t2 1 rfl
def dtX2_init_t0 : List (Nat × Instr × Nat) := [(0, .aload_n 0, 1), (1, .invokespecial 3, 3), (4, .aload_n 0, 1), (5, .bipush 80, 2), (7, .newarray .int, 2), (9, .putfield 9, 3), (12, .return_, 1)]
theorem daX2_init_t0 : dtX2_init_t0.all (dck cX2_init) = true := by decide +kernel
theorem dX2_init_0 : decode cX2_init 0 = .ok (.aload_n 0, 1) := dck_get daX2_init_t0 0 rfl
theorem dX2_init_1 : decode cX2_init 1 = .ok (.invokespecial 3, 3) := dck_get daX2_init_t0 1 rfl
theorem dX2_init_4 : decode cX2_init 4 = .ok (.aload_n 0, 1) := dck_get daX2_init_t0 2 rfl
theorem dX2_init_5 : decode cX2_init 5 = .ok (.bipush 80, 2) := dck_get daX2_init_t0 3 rfl
theorem dX2_init_7 : decode cX2_init 7 = .ok (.newarray .int, 2) := dck_get daX2_init_t0 4 rfl
theorem dX2_init_9 : decode cX2_init 9 = .ok (.putfield 9, 3) := dck_get daX2_init_t0 5 rfl
theorem dX2_init_12 : decode cX2_init 12 = .ok (.return_, 1) := dck_get daX2_init_t0 6 rfl
def dtX2_isFull_t0 : List (Nat × Instr × Nat) := [(0, .aload_n 0, 1), (1, .getfield 15, 3), (4, .bipush 80, 2), (6, .if_icmp .lt 7, 3), (9, .iconst 1, 1), (10, .goto 4, 3), (13, .iconst 0, 1), (14, .ireturn, 1)]
theorem daX2_isFull_t0 : dtX2_isFull_t0.all (dck cX2_isFull) = true := by decide +kernel
theorem dX2_isFull_0 : decode cX2_isFull 0 = .ok (.aload_n 0, 1) := dck_get daX2_isFull_t0 0 rfl
theorem dX2_isFull_1 : decode cX2_isFull 1 = .ok (.getfield 15, 3) := dck_get daX2_isFull_t0 1 rfl
theorem dX2_isFull_4 : decode cX2_isFull 4 = .ok (.bipush 80, 2) := dck_get daX2_isFull_t0 2 rfl
theorem dX2_isFull_6 : decode cX2_isFull 6 = .ok (.if_icmp .lt 7, 3) := dck_get daX2_isFull_t0 3 rfl
theorem dX2_isFull_9 : decode cX2_isFull 9 = .ok (.iconst 1, 1) := dck_get daX2_isFull_t0 4 rfl
theorem dX2_isFull_10 : decode cX2_isFull 10 = .ok (.goto 4, 3) := dck_get daX2_isFull_t0 5 rfl
theorem dX2_isFull_13 : decode cX2_isFull 13 = .ok (.iconst 0, 1) := dck_get daX2_isFull_t0 6 rfl
theorem dX2_isFull_14 : decode cX2_isFull 14 = .ok (.ireturn, 1) := dck_get daX2_isFull_t0 7 rfl
def dtX2_add_t0 : List (Nat × Instr × Nat) := [(0, .aload_n 0, 1), (1, .getfield 15, 3), (4, .ifCond .lt 32, 3), (7, .aload_n 0, 1), (8, .getfield 15, 3), (11, .bipush 80, 2), (13, .if_icmp .ge 23, 3), (16, .aload_n 0, 1), (17, .getfield 9, 3), (20, .aload_n 0, 1), (21, .getfield 15, 3), (24, .iload_n 1, 1), (25, .iastore, 1), (26, .aload_n 0, 1), (27, .dup, 1), (28, .getfield 15, 3), (31, .iconst 1, 1), (32, .iadd, 1), (33, .putfield 15, 3), (36, .aload_n 0, 1)]
theorem daX2_add_t0 : dtX2_add_t0.all (dck cX2_add) = true := by decide +kernel
theorem dX2_add_0 : decode cX2_add 0 = .ok (.aload_n 0, 1) := dck_get daX2_add_t0 0 rfl
theorem dX2_add_1 : decode cX2_add 1 = .ok (.getfield 15, 3) := dck_get daX2_add_t0 1 rfl
theorem dX2_add_4 : decode cX2_add 4 = .ok (.ifCond .lt 32, 3) := dck_get daX2_add_t0 2 rfl
theorem dX2_add_7 : decode cX2_add 7 = .ok (.aload_n 0, 1) := dck_get daX2_add_t0 3 rfl
theorem dX2_add_8 : decode cX2_add 8 = .ok (.getfield 15, 3) := dck_get daX2_add_t0 4 rfl
theorem dX2_add_11 : decode cX2_add 11 = .ok (.bipush 80, 2) := dck_get daX2_add_t0 5 rfl
theorem dX2_add_13 : decode cX2_add 13 = .ok (.if_icmp .ge 23, 3) := dck_get daX2_add_t0 6 rfl
theorem dX2_add_16 : decode cX2_add 16 = .ok (.aload_n 0, 1) := dck_get daX2_add_t0 7 rfl
theorem dX2_add_17 : decode cX2_add 17 = .ok (.getfield 9, 3) := dck_get daX2_add_t0 8 rfl
theorem dX2_add_20 : decode cX2_add 20 = .ok (.aload_n 0, 1) := dck_get daX2_add_t0 9 rfl
theorem dX2_add_21 : decode cX2_add 21 = .ok (.getfield 15, 3) := dck_get daX2_add_t0 10 rfl
theorem dX2_add_24 : decode cX2_add 24 = .ok (.iload_n 1, 1) := dck_get daX2_add_t0 11 rfl
theorem dX2_add_25 : decode cX2_add 25 = .ok (.iastore, 1) := dck_get daX2_add_t0 12 rfl
theorem dX2_add_26 : decode cX2_add 26 = .ok (.aload_n 0, 1) := dck_get daX2_add_t0 13 rfl
theorem dX2_add_27 : decode cX2_add 27 = .ok (.dup, 1) := dck_get daX2_add_t0 14 rfl
theorem dX2_add_28 : decode cX2_add 28 = .ok (.getfield 15, 3) := dck_get daX2_add_t0 15 rfl
theorem dX2_add_31 : decode cX2_add 31 = .ok (.iconst 1, 1) := dck_get daX2_add_t0 16 rfl
theorem dX2_add_32 : decode cX2_add 32 = .ok (.iadd, 1) := dck_get daX2_add_t0 17 rfl
theorem dX2_add_33 : decode cX2_add 33 = .ok (.putfield 15, 3) := dck_get daX2_add_t0 18 rfl
theorem dX2_add_36 : decode cX2_add 36 = .ok (.aload_n 0, 1) := dck_get daX2_add_t0 19 rfl
def dtX2_add_t1 : List (Nat × Instr × Nat) := [(37, .getfield 15, 3), (40, .ireturn, 1)]
theorem daX2_add_t1 : dtX2_add_t1.all (dck cX2_add) = true := by decide +kernel
theorem dX2_add_37 : decode cX2_add 37 = .ok (.getfield 15, 3) := dck_get daX2_add_t1 0 rfl
theorem dX2_add_40 : decode cX2_add 40 = .ok (.ireturn, 1) := dck_get daX2_add_t1 1 rfl
def dtX2_forget_t0 : List (Nat × Instr × Nat) := [(0, .aload_n 0, 1), (1, .iconst 0, 1), (2, .putfield 15, 3), (5, .return_, 1)]
theorem daX2_forget_t0 : dtX2_forget_t0.all (dck cX2_forget) = true := by decide +kernel
theorem dX2_forget_0 : decode cX2_forget 0 = .ok (.aload_n 0, 1) := dck_get daX2_forget_t0 0 rfl
theorem dX2_forget_1 : decode cX2_forget 1 = .ok (.iconst 0, 1) := dck_get daX2_forget_t0 1 rfl
theorem dX2_forget_2 : decode cX2_forget 2 = .ok (.putfield 15, 3) := dck_get daX2_forget_t0 2 rfl
theorem dX2_forget_5 : decode cX2_forget 5 = .ok (.return_, 1) := dck_get daX2_forget_t0 3 rfl
set_option maxRecDepth 20000 in
theorem gw_wsX2_letterAt : wsX2_letterAt.all goodWord = true := by decide +kernel
set_option maxRecDepth 20000 in
theorem ggX2_statements_X2_letterAt : GoodIn wsX2_statements wsX2_letterAt := goodIn_sub (List.forall_mem_cons.mpr ⟨(List.mem_of_getElem? (i := 6) rfl), (List.forall_mem_append.mpr ⟨(List.forall_mem_cons.mpr ⟨(List.mem_of_getElem? (i := 1) rfl), (List.forall_mem_cons.mpr ⟨(List.mem_of_getElem? (i := 7) rfl), (fun _ h => absurd h List.not_mem_nil)⟩)⟩), (fun _ h => (List.mem_cons_of_mem _ (List.mem_append_right _ h)))⟩)⟩) gw_wsX2_letterAt
set_option maxRecDepth 20000 in
theorem gX2_statements_X2_letterAt : GoodIn wsX2_statements (wsV RX2 19 RX2 yX2_letterAt wsX2_letterAt) := goodIn_app (goodIn_sub (List.forall_mem_cons.mpr ⟨(List.mem_of_getElem? (i := 2) rfl), (List.forall_mem_cons.mpr ⟨(List.mem_of_getElem? (i := 3) rfl), (List.forall_mem_cons.mpr ⟨(List.mem_of_getElem? (i := 4) rfl), (List.forall_mem_cons.mpr ⟨(List.mem_of_getElem? (i := 5) rfl), (fun _ h => absurd h List.not_mem_nil)⟩)⟩)⟩)⟩) (by decide +kernel)) ggX2_statements_X2_letterAt
def dtX2_statements_t0 : List (Nat × Instr × Nat) := [(0, .iconst 0, 1), (1, .istore_n 1, 1), (2, .iconst 0, 1), (3, .istore_n 2, 1), (4, .iload_n 2, 1), (5, .aload_n 0, 1), (6, .getfield 15, 3), (9, .if_icmp .ge 22, 3), (12, .aload_n 0, 1), (13, .iload_n 2, 1), (14, .invokevirtual 19, 3), (17, .bipush 59, 2), (19, .if_icmp .ne 6, 3), (22, .iinc 1 1, 3), (25, .iinc 2 1, 3), (28, .goto (-24), 3), (31, .iload_n 1, 1), (32, .ireturn, 1)]
theorem daX2_statements_t0 : dtX2_statements_t0.all (dck cX2_statements) = true := by decide +kernel
theorem dX2_statements_0 : decode cX2_statements 0 = .ok (.iconst 0, 1) := dck_get daX2_statements_t0 0 rfl
theorem dX2_statements_1 : decode cX2_statements 1 = .ok (.istore_n 1, 1) := dck_get daX2_statements_t0 1 rfl
theorem dX2_statements_2 : decode cX2_statements 2 = .ok (.iconst 0, 1) := dck_get daX2_statements_t0 2 rfl
theorem dX2_statements_3 : decode cX2_statements 3 = .ok (.istore_n 2, 1) := dck_get daX2_statements_t0 3 rfl
theorem dX2_statements_4 : decode cX2_statements 4 = .ok (.iload_n 2, 1) := dck_get daX2_statements_t0 4 rfl
theorem dX2_statements_5 : decode cX2_statements 5 = .ok (.aload_n 0, 1) := dck_get daX2_statements_t0 5 rfl
theorem dX2_statements_6 : decode cX2_statements 6 = .ok (.getfield 15, 3) := dck_get daX2_statements_t0 6 rfl
theorem dX2_statements_9 : decode cX2_statements 9 = .ok (.if_icmp .ge 22, 3) := dck_get daX2_statements_t0 7 rfl
theorem dX2_statements_12 : decode cX2_statements 12 = .ok (.aload_n 0, 1) := dck_get daX2_statements_t0 8 rfl
theorem dX2_statements_13 : decode cX2_statements 13 = .ok (.iload_n 2, 1) := dck_get daX2_statements_t0 9 rfl
theorem dX2_statements_14 : decode cX2_statements 14 = .ok (.invokevirtual 19, 3) := dck_get daX2_statements_t0 10 rfl
theorem dX2_statements_17 : decode cX2_statements 17 = .ok (.bipush 59, 2) := dck_get daX2_statements_t0 11 rfl
theorem dX2_statements_19 : decode cX2_statements 19 = .ok (.if_icmp .ne 6, 3) := dck_get daX2_statements_t0 12 rfl
theorem dX2_statements_22 : decode cX2_statements 22 = .ok (.iinc 1 1, 3) := dck_get daX2_statements_t0 13 rfl
theorem dX2_statements_25 : decode cX2_statements 25 = .ok (.iinc 2 1, 3) := dck_get daX2_statements_t0 14 rfl
theorem dX2_statements_28 : decode cX2_statements 28 = .ok (.goto (-24), 3) := dck_get daX2_statements_t0 15 rfl
theorem dX2_statements_31 : decode cX2_statements 31 = .ok (.iload_n 1, 1) := dck_get daX2_statements_t0 16 rfl
theorem dX2_statements_32 : decode cX2_statements 32 = .ok (.ireturn, 1) := dck_get daX2_statements_t0 17 rfl
set_option maxRecDepth 20000 in
theorem ggX2_firstMisfit_X2_letterAt : GoodIn wsX2_firstMisfit wsX2_letterAt := goodIn_sub (List.forall_mem_cons.mpr ⟨(List.mem_of_getElem? (i := 6) rfl), (List.forall_mem_append.mpr ⟨(List.forall_mem_cons.mpr ⟨(List.mem_of_getElem? (i := 1) rfl), (List.forall_mem_cons.mpr ⟨(List.mem_of_getElem? (i := 7) rfl), (fun _ h => absurd h List.not_mem_nil)⟩)⟩), (fun _ h => (List.mem_cons_of_mem _ (List.mem_append_right _ h)))⟩)⟩) gw_wsX2_letterAt
set_option maxRecDepth 20000 in
theorem gX2_firstMisfit_X2_letterAt : GoodIn wsX2_firstMisfit (wsV RX2 19 RX2 yX2_letterAt wsX2_letterAt) := goodIn_app (goodIn_sub (List.forall_mem_cons.mpr ⟨(List.mem_of_getElem? (i := 2) rfl), (List.forall_mem_cons.mpr ⟨(List.mem_of_getElem? (i := 3) rfl), (List.forall_mem_cons.mpr ⟨(List.mem_of_getElem? (i := 4) rfl), (List.forall_mem_cons.mpr ⟨(List.mem_of_getElem? (i := 5) rfl), (fun _ h => absurd h List.not_mem_nil)⟩)⟩)⟩)⟩) (by decide +kernel)) ggX2_firstMisfit_X2_letterAt
set_option maxRecDepth 20000 in
theorem gw_wsX2_behind : wsX2_behind.all goodWord = true := by decide +kernel
set_option maxRecDepth 20000 in
theorem ggX2_firstMisfit_X2_behind : GoodIn wsX2_firstMisfit wsX2_behind := goodIn_sub (List.forall_mem_cons.mpr ⟨(List.mem_of_getElem? (i := 10) rfl), (List.forall_mem_cons.mpr ⟨(List.mem_of_getElem? (i := 11) rfl), (List.forall_mem_cons.mpr ⟨(List.mem_of_getElem? (i := 12) rfl), (List.forall_mem_cons.mpr ⟨(List.mem_of_getElem? (i := 5) rfl), (List.forall_mem_cons.mpr ⟨(List.mem_of_getElem? (i := 13) rfl), (List.forall_mem_cons.mpr ⟨(List.mem_of_getElem? (i := 14) rfl), (List.forall_mem_cons.mpr ⟨(List.mem_of_getElem? (i := 15) rfl), (List.forall_mem_cons.mpr ⟨(List.mem_of_getElem? (i := 16) rfl), (List.forall_mem_cons.mpr ⟨(List.mem_of_getElem? (i := 17) rfl), (List.forall_mem_cons.mpr ⟨(List.mem_of_getElem? (i := 18) rfl), (List.forall_mem_cons.mpr ⟨(List.mem_of_getElem? (i := 19) rfl), (List.forall_mem_cons.mpr ⟨(List.mem_of_getElem? (i := 20) rfl), (List.forall_mem_cons.mpr ⟨(List.mem_of_getElem? (i := 21) rfl), (List.forall_mem_cons.mpr ⟨(List.mem_of_getElem? (i := 22) rfl), (List.forall_mem_cons.mpr ⟨(List.mem_of_getElem? (i := 23) rfl), (List.forall_mem_cons.mpr ⟨(List.mem_of_getElem? (i := 24) rfl), (List.forall_mem_cons.mpr ⟨(List.mem_of_getElem? (i := 25) rfl), (List.forall_mem_cons.mpr ⟨(List.mem_of_getElem? (i := 26) rfl), (fun _ h => absurd h List.not_mem_nil)⟩)⟩)⟩)⟩)⟩)⟩)⟩)⟩)⟩)⟩)⟩)⟩)⟩)⟩)⟩)⟩)⟩)⟩) gw_wsX2_behind
set_option maxRecDepth 20000 in
theorem gX2_firstMisfit_X2_behind : GoodIn wsX2_firstMisfit (va_wsS RX2 23 yX2_behind wsX2_behind) := goodIn_app (goodIn_sub (List.forall_mem_cons.mpr ⟨(List.mem_of_getElem? (i := 8) rfl), (List.forall_mem_cons.mpr ⟨(List.mem_of_getElem? (i := 9) rfl), (List.forall_mem_cons.mpr ⟨(List.mem_of_getElem? (i := 5) rfl), (fun _ h => absurd h List.not_mem_nil)⟩)⟩)⟩) (by decide +kernel)) ggX2_firstMisfit_X2_behind
def dtX2_firstMisfit_t0 : List (Nat × Instr × Nat) := [(0, .iconst 0, 1), (1, .istore_n 1, 1), (2, .iconst 0, 1), (3, .istore_n 2, 1), (4, .iload_n 2, 1), (5, .aload_n 0, 1), (6, .getfield 15, 3), (9, .if_icmp .ge 26, 3), (12, .iload_n 1, 1), (13, .aload_n 0, 1), (14, .iload_n 2, 1), (15, .invokevirtual 19, 3), (18, .invokestatic 23, 3), (21, .istore_n 1, 1), (22, .iload_n 1, 1), (23, .iconst (-1), 1), (24, .if_icmp .ne 5, 3), (27, .iload_n 2, 1), (28, .ireturn, 1), (29, .iinc 2 1, 3)]
theorem daX2_firstMisfit_t0 : dtX2_firstMisfit_t0.all (dck cX2_firstMisfit) = true := by decide +kernel
theorem dX2_firstMisfit_0 : decode cX2_firstMisfit 0 = .ok (.iconst 0, 1) := dck_get daX2_firstMisfit_t0 0 rfl
theorem dX2_firstMisfit_1 : decode cX2_firstMisfit 1 = .ok (.istore_n 1, 1) := dck_get daX2_firstMisfit_t0 1 rfl
theorem dX2_firstMisfit_2 : decode cX2_firstMisfit 2 = .ok (.iconst 0, 1) := dck_get daX2_firstMisfit_t0 2 rfl
theorem dX2_firstMisfit_3 : decode cX2_firstMisfit 3 = .ok (.istore_n 2, 1) := dck_get daX2_firstMisfit_t0 3 rfl
theorem dX2_firstMisfit_4 : decode cX2_firstMisfit 4 = .ok (.iload_n 2, 1) := dck_get daX2_firstMisfit_t0 4 rfl
theorem dX2_firstMisfit_5 : decode cX2_firstMisfit 5 = .ok (.aload_n 0, 1) := dck_get daX2_firstMisfit_t0 5 rfl
theorem dX2_firstMisfit_6 : decode cX2_firstMisfit 6 = .ok (.getfield 15, 3) := dck_get daX2_firstMisfit_t0 6 rfl
theorem dX2_firstMisfit_9 : decode cX2_firstMisfit 9 = .ok (.if_icmp .ge 26, 3) := dck_get daX2_firstMisfit_t0 7 rfl
theorem dX2_firstMisfit_12 : decode cX2_firstMisfit 12 = .ok (.iload_n 1, 1) := dck_get daX2_firstMisfit_t0 8 rfl
theorem dX2_firstMisfit_13 : decode cX2_firstMisfit 13 = .ok (.aload_n 0, 1) := dck_get daX2_firstMisfit_t0 9 rfl
theorem dX2_firstMisfit_14 : decode cX2_firstMisfit 14 = .ok (.iload_n 2, 1) := dck_get daX2_firstMisfit_t0 10 rfl
theorem dX2_firstMisfit_15 : decode cX2_firstMisfit 15 = .ok (.invokevirtual 19, 3) := dck_get daX2_firstMisfit_t0 11 rfl
theorem dX2_firstMisfit_18 : decode cX2_firstMisfit 18 = .ok (.invokestatic 23, 3) := dck_get daX2_firstMisfit_t0 12 rfl
theorem dX2_firstMisfit_21 : decode cX2_firstMisfit 21 = .ok (.istore_n 1, 1) := dck_get daX2_firstMisfit_t0 13 rfl
theorem dX2_firstMisfit_22 : decode cX2_firstMisfit 22 = .ok (.iload_n 1, 1) := dck_get daX2_firstMisfit_t0 14 rfl
theorem dX2_firstMisfit_23 : decode cX2_firstMisfit 23 = .ok (.iconst (-1), 1) := dck_get daX2_firstMisfit_t0 15 rfl
theorem dX2_firstMisfit_24 : decode cX2_firstMisfit 24 = .ok (.if_icmp .ne 5, 3) := dck_get daX2_firstMisfit_t0 16 rfl
theorem dX2_firstMisfit_27 : decode cX2_firstMisfit 27 = .ok (.iload_n 2, 1) := dck_get daX2_firstMisfit_t0 17 rfl
theorem dX2_firstMisfit_28 : decode cX2_firstMisfit 28 = .ok (.ireturn, 1) := dck_get daX2_firstMisfit_t0 18 rfl
theorem dX2_firstMisfit_29 : decode cX2_firstMisfit 29 = .ok (.iinc 2 1, 3) := dck_get daX2_firstMisfit_t0 19 rfl
def dtX2_firstMisfit_t1 : List (Nat × Instr × Nat) := [(32, .goto (-28), 3), (35, .aload_n 0, 1), (36, .getfield 15, 3), (39, .ifCond .le 11, 3), (42, .iload_n 1, 1), (43, .ifCond .ne 7, 3), (46, .iconst (-1), 1), (47, .goto 7, 3), (50, .aload_n 0, 1), (51, .getfield 15, 3), (54, .ireturn, 1)]
theorem daX2_firstMisfit_t1 : dtX2_firstMisfit_t1.all (dck cX2_firstMisfit) = true := by decide +kernel
theorem dX2_firstMisfit_32 : decode cX2_firstMisfit 32 = .ok (.goto (-28), 3) := dck_get daX2_firstMisfit_t1 0 rfl
theorem dX2_firstMisfit_35 : decode cX2_firstMisfit 35 = .ok (.aload_n 0, 1) := dck_get daX2_firstMisfit_t1 1 rfl
theorem dX2_firstMisfit_36 : decode cX2_firstMisfit 36 = .ok (.getfield 15, 3) := dck_get daX2_firstMisfit_t1 2 rfl
theorem dX2_firstMisfit_39 : decode cX2_firstMisfit 39 = .ok (.ifCond .le 11, 3) := dck_get daX2_firstMisfit_t1 3 rfl
theorem dX2_firstMisfit_42 : decode cX2_firstMisfit 42 = .ok (.iload_n 1, 1) := dck_get daX2_firstMisfit_t1 4 rfl
theorem dX2_firstMisfit_43 : decode cX2_firstMisfit 43 = .ok (.ifCond .ne 7, 3) := dck_get daX2_firstMisfit_t1 5 rfl
theorem dX2_firstMisfit_46 : decode cX2_firstMisfit 46 = .ok (.iconst (-1), 1) := dck_get daX2_firstMisfit_t1 6 rfl
theorem dX2_firstMisfit_47 : decode cX2_firstMisfit 47 = .ok (.goto 7, 3) := dck_get daX2_firstMisfit_t1 7 rfl
theorem dX2_firstMisfit_50 : decode cX2_firstMisfit 50 = .ok (.aload_n 0, 1) := dck_get daX2_firstMisfit_t1 8 rfl
theorem dX2_firstMisfit_51 : decode cX2_firstMisfit 51 = .ok (.getfield 15, 3) := dck_get daX2_firstMisfit_t1 9 rfl
theorem dX2_firstMisfit_54 : decode cX2_firstMisfit 54 = .ok (.ireturn, 1) := dck_get daX2_firstMisfit_t1 10 rfl
set_option maxRecDepth 20000 in
theorem ggX2_playOn_X2_letterAt : GoodIn wsX2_playOn wsX2_letterAt := goodIn_sub (List.forall_mem_cons.mpr ⟨(List.mem_of_getElem? (i := 6) rfl), (List.forall_mem_append.mpr ⟨(List.forall_mem_cons.mpr ⟨(List.mem_of_getElem? (i := 1) rfl), (List.forall_mem_cons.mpr ⟨(List.mem_of_getElem? (i := 7) rfl), (fun _ h => absurd h List.not_mem_nil)⟩)⟩), (fun _ h => (List.mem_cons_of_mem _ (List.mem_append_left _ (List.mem_append_right _ h))))⟩)⟩) gw_wsX2_letterAt
set_option maxRecDepth 20000 in
theorem gX2_playOn_X2_letterAt : GoodIn wsX2_playOn (wsV RX2 19 RX2 yX2_letterAt wsX2_letterAt) := goodIn_app (goodIn_sub (List.forall_mem_cons.mpr ⟨(List.mem_of_getElem? (i := 2) rfl), (List.forall_mem_cons.mpr ⟨(List.mem_of_getElem? (i := 3) rfl), (List.forall_mem_cons.mpr ⟨(List.mem_of_getElem? (i := 4) rfl), (List.forall_mem_cons.mpr ⟨(List.mem_of_getElem? (i := 5) rfl), (fun _ h => absurd h List.not_mem_nil)⟩)⟩)⟩)⟩) (by decide +kernel)) ggX2_playOn_X2_letterAt
set_option maxRecDepth 20000 in
theorem gw_wsX2_playLodger : wsX2_playLodger.all goodWord = true := by decide +kernel
set_option maxRecDepth 20000 in
theorem ggX2_playOn_X2_playLodger : GoodIn wsX2_playOn wsX2_playLodger := goodIn_sub (List.forall_mem_cons.mpr ⟨(List.mem_of_getElem? (i := 11) rfl), (List.forall_mem_append.mpr ⟨(List.forall_mem_append.mpr ⟨(List.forall_mem_append.mpr ⟨(List.forall_mem_cons.mpr ⟨(List.mem_of_getElem? (i := 2) rfl), (List.forall_mem_cons.mpr ⟨(List.mem_of_getElem? (i := 3) rfl), (List.forall_mem_cons.mpr ⟨(List.mem_of_getElem? (i := 4) rfl), (List.forall_mem_cons.mpr ⟨(List.mem_of_getElem? (i := 5) rfl), (List.forall_mem_cons.mpr ⟨(List.mem_of_getElem? (i := 6) rfl), (List.forall_mem_cons.mpr ⟨(List.mem_of_getElem? (i := 1) rfl), (List.forall_mem_cons.mpr ⟨(List.mem_of_getElem? (i := 7) rfl), (List.forall_mem_cons.mpr ⟨(List.mem_of_getElem? (i := 12) rfl), (List.forall_mem_cons.mpr ⟨(List.mem_of_getElem? (i := 13) rfl), (List.forall_mem_cons.mpr ⟨(List.mem_of_getElem? (i := 14) rfl), (List.forall_mem_cons.mpr ⟨(List.mem_of_getElem? (i := 15) rfl), (List.forall_mem_cons.mpr ⟨(List.mem_of_getElem? (i := 16) rfl), (List.forall_mem_cons.mpr ⟨(List.mem_of_getElem? (i := 17) rfl), (List.forall_mem_cons.mpr ⟨(List.mem_of_getElem? (i := 18) rfl), (List.forall_mem_cons.mpr ⟨(List.mem_of_getElem? (i := 19) rfl), (List.forall_mem_cons.mpr ⟨(List.mem_of_getElem? (i := 20) rfl), (List.forall_mem_cons.mpr ⟨(List.mem_of_getElem? (i := 21) rfl), (List.forall_mem_cons.mpr ⟨(List.mem_of_getElem? (i := 22) rfl), (List.forall_mem_cons.mpr ⟨(List.mem_of_getElem? (i := 23) rfl), (List.forall_mem_cons.mpr ⟨(List.mem_of_getElem? (i := 24) rfl), (List.forall_mem_cons.mpr ⟨(List.mem_of_getElem? (i := 25) rfl), (List.forall_mem_cons.mpr ⟨(List.mem_of_getElem? (i := 26) rfl), (List.forall_mem_cons.mpr ⟨(List.mem_of_getElem? (i := 27) rfl), (List.forall_mem_cons.mpr ⟨(List.mem_of_getElem? (i := 28) rfl), (fun _ h => absurd h List.not_mem_nil)⟩)⟩)⟩)⟩)⟩)⟩)⟩)⟩)⟩)⟩)⟩)⟩)⟩)⟩)⟩)⟩)⟩)⟩)⟩)⟩)⟩)⟩)⟩)⟩), (List.forall_mem_append.mpr ⟨(List.forall_mem_cons.mpr ⟨(List.mem_of_getElem? (i := 29) rfl), (List.forall_mem_cons.mpr ⟨(List.mem_of_getElem? (i := 30) rfl), (List.forall_mem_cons.mpr ⟨(List.mem_of_getElem? (i := 31) rfl), (List.forall_mem_cons.mpr ⟨(List.mem_of_getElem? (i := 32) rfl), (List.forall_mem_cons.mpr ⟨(List.mem_of_getElem? (i := 33) rfl), (List.forall_mem_cons.mpr ⟨(List.mem_of_getElem? (i := 34) rfl), (List.forall_mem_cons.mpr ⟨(List.mem_of_getElem? (i := 35) rfl), (List.forall_mem_cons.mpr ⟨(List.mem_of_getElem? (i := 36) rfl), (List.forall_mem_cons.mpr ⟨(List.mem_of_getElem? (i := 37) rfl), (List.forall_mem_cons.mpr ⟨(List.mem_of_getElem? (i := 38) rfl), (List.forall_mem_cons.mpr ⟨(List.mem_of_getElem? (i := 39) rfl), (List.forall_mem_cons.mpr ⟨(List.mem_of_getElem? (i := 40) rfl), (List.forall_mem_cons.mpr ⟨(List.mem_of_getElem? (i := 41) rfl), (List.forall_mem_cons.mpr ⟨(List.mem_of_getElem? (i := 42) rfl), (List.forall_mem_cons.mpr ⟨(List.mem_of_getElem? (i := 43) rfl), (List.forall_mem_cons.mpr ⟨(List.mem_of_getElem? (i := 44) rfl), (List.forall_mem_cons.mpr ⟨(List.mem_of_getElem? (i := 45) rfl), (List.forall_mem_cons.mpr ⟨(List.mem_of_getElem? (i := 46) rfl), (List.forall_mem_cons.mpr ⟨(List.mem_of_getElem? (i := 47) rfl), (List.forall_mem_cons.mpr ⟨(List.mem_of_getElem? (i := 48) rfl), (List.forall_mem_cons.mpr ⟨(List.mem_of_getElem? (i := 49) rfl), (List.forall_mem_cons.mpr ⟨(List.mem_of_getElem? (i := 50) rfl), (List.forall_mem_cons.mpr ⟨(List.mem_of_getElem? (i := 51) rfl), (List.forall_mem_cons.mpr ⟨(List.mem_of_getElem? (i := 52) rfl), (fun _ h => absurd h List.not_mem_nil)⟩)⟩)⟩)⟩)⟩)⟩)⟩)⟩)⟩)⟩)⟩)⟩)⟩)⟩)⟩)⟩)⟩)⟩)⟩)⟩)⟩)⟩)⟩)⟩), (List.forall_mem_cons.mpr ⟨(List.mem_of_getElem? (i := 53) rfl), (fun _ h => absurd h List.not_mem_nil)⟩)⟩)⟩), (fun _ h => (List.mem_cons_of_mem _ (List.mem_append_left _ (List.mem_append_right _ h))))⟩), (fun _ h => (List.mem_cons_of_mem _ (List.mem_append_right _ h)))⟩)⟩) gw_wsX2_playLodger
set_option maxRecDepth 20000 in
theorem gX2_playOn_X2_playLodger : GoodIn wsX2_playOn (wsV RX2 27 RX2 yX2_playLodger wsX2_playLodger) := goodIn_app (goodIn_sub (List.forall_mem_cons.mpr ⟨(List.mem_of_getElem? (i := 8) rfl), (List.forall_mem_cons.mpr ⟨(List.mem_of_getElem? (i := 9) rfl), (List.forall_mem_cons.mpr ⟨(List.mem_of_getElem? (i := 10) rfl), (List.forall_mem_cons.mpr ⟨(List.mem_of_getElem? (i := 5) rfl), (fun _ h => absurd h List.not_mem_nil)⟩)⟩)⟩)⟩) (by decide +kernel)) ggX2_playOn_X2_playLodger
set_option maxRecDepth 20000 in
theorem gw_wsX2_playWish : wsX2_playWish.all goodWord = true := by decide +kernel
set_option maxRecDepth 20000 in
theorem ggX2_playOn_X2_playWish : GoodIn wsX2_playOn wsX2_playWish := goodIn_sub (List.forall_mem_cons.mpr ⟨(List.mem_of_getElem? (i := 57) rfl), (List.forall_mem_append.mpr ⟨(List.forall_mem_append.mpr ⟨(List.forall_mem_cons.mpr ⟨(List.mem_of_getElem? (i := 58) rfl), (List.forall_mem_cons.mpr ⟨(List.mem_of_getElem? (i := 16) rfl), (List.forall_mem_cons.mpr ⟨(List.mem_of_getElem? (i := 17) rfl), (List.forall_mem_cons.mpr ⟨(List.mem_of_getElem? (i := 18) rfl), (List.forall_mem_cons.mpr ⟨(List.mem_of_getElem? (i := 5) rfl), (List.forall_mem_cons.mpr ⟨(List.mem_of_getElem? (i := 19) rfl), (List.forall_mem_cons.mpr ⟨(List.mem_of_getElem? (i := 2) rfl), (List.forall_mem_cons.mpr ⟨(List.mem_of_getElem? (i := 3) rfl), (List.forall_mem_cons.mpr ⟨(List.mem_of_getElem? (i := 4) rfl), (List.forall_mem_cons.mpr ⟨(List.mem_of_getElem? (i := 6) rfl), (List.forall_mem_cons.mpr ⟨(List.mem_of_getElem? (i := 1) rfl), (List.forall_mem_cons.mpr ⟨(List.mem_of_getElem? (i := 7) rfl), (List.forall_mem_cons.mpr ⟨(List.mem_of_getElem? (i := 59) rfl), (List.forall_mem_cons.mpr ⟨(List.mem_of_getElem? (i := 43) rfl), (List.forall_mem_cons.mpr ⟨(List.mem_of_getElem? (i := 44) rfl), (List.forall_mem_cons.mpr ⟨(List.mem_of_getElem? (i := 23) rfl), (List.forall_mem_cons.mpr ⟨(List.mem_of_getElem? (i := 45) rfl), (List.forall_mem_cons.mpr ⟨(List.mem_of_getElem? (i := 29) rfl), (List.forall_mem_cons.mpr ⟨(List.mem_of_getElem? (i := 41) rfl), (fun _ h => absurd h List.not_mem_nil)⟩)⟩)⟩)⟩)⟩)⟩)⟩)⟩)⟩)⟩)⟩)⟩)⟩)⟩)⟩)⟩)⟩)⟩)⟩), (fun _ h => (List.mem_cons_of_mem _ (List.mem_append_right _ h)))⟩), (fun _ h => (List.mem_cons_of_mem _ (List.mem_append_left _ (List.mem_append_right _ h))))⟩)⟩) gw_wsX2_playWish
set_option maxRecDepth 20000 in
theorem gX2_playOn_X2_playWish : GoodIn wsX2_playOn (wsV RX2 31 RX2 yX2_playWish wsX2_playWish) := goodIn_app (goodIn_sub (List.forall_mem_cons.mpr ⟨(List.mem_of_getElem? (i := 54) rfl), (List.forall_mem_cons.mpr ⟨(List.mem_of_getElem? (i := 55) rfl), (List.forall_mem_cons.mpr ⟨(List.mem_of_getElem? (i := 56) rfl), (List.forall_mem_cons.mpr ⟨(List.mem_of_getElem? (i := 5) rfl), (fun _ h => absurd h List.not_mem_nil)⟩)⟩)⟩)⟩) (by decide +kernel)) ggX2_playOn_X2_playWish
set_option maxRecDepth 20000 in
theorem gw_wsX2_playYear : wsX2_playYear.all goodWord = true := by decide +kernel
set_option maxRecDepth 20000 in
theorem ggX2_playOn_X2_playYear : GoodIn wsX2_playOn wsX2_playYear := goodIn_sub (List.forall_mem_cons.mpr ⟨(List.mem_of_getElem? (i := 63) rfl), (List.forall_mem_append.mpr ⟨(List.forall_mem_append.mpr ⟨(List.forall_mem_append.mpr ⟨(List.forall_mem_cons.mpr ⟨(List.mem_of_getElem? (i := 64) rfl), (List.forall_mem_cons.mpr ⟨(List.mem_of_getElem? (i := 16) rfl), (List.forall_mem_cons.mpr ⟨(List.mem_of_getElem? (i := 17) rfl), (List.forall_mem_cons.mpr ⟨(List.mem_of_getElem? (i := 18) rfl), (List.forall_mem_cons.mpr ⟨(List.mem_of_getElem? (i := 5) rfl), (List.forall_mem_cons.mpr ⟨(List.mem_of_getElem? (i := 19) rfl), (List.forall_mem_cons.mpr ⟨(List.mem_of_getElem? (i := 2) rfl), (List.forall_mem_cons.mpr ⟨(List.mem_of_getElem? (i := 3) rfl), (List.forall_mem_cons.mpr ⟨(List.mem_of_getElem? (i := 4) rfl), (List.forall_mem_cons.mpr ⟨(List.mem_of_getElem? (i := 6) rfl), (List.forall_mem_cons.mpr ⟨(List.mem_of_getElem? (i := 1) rfl), (List.forall_mem_cons.mpr ⟨(List.mem_of_getElem? (i := 7) rfl), (List.forall_mem_cons.mpr ⟨(List.mem_of_getElem? (i := 59) rfl), (List.forall_mem_cons.mpr ⟨(List.mem_of_getElem? (i := 43) rfl), (List.forall_mem_cons.mpr ⟨(List.mem_of_getElem? (i := 44) rfl), (List.forall_mem_cons.mpr ⟨(List.mem_of_getElem? (i := 23) rfl), (List.forall_mem_cons.mpr ⟨(List.mem_of_getElem? (i := 45) rfl), (List.forall_mem_cons.mpr ⟨(List.mem_of_getElem? (i := 29) rfl), (List.forall_mem_cons.mpr ⟨(List.mem_of_getElem? (i := 41) rfl), (List.forall_mem_cons.mpr ⟨(List.mem_of_getElem? (i := 65) rfl), (List.forall_mem_cons.mpr ⟨(List.mem_of_getElem? (i := 66) rfl), (List.forall_mem_cons.mpr ⟨(List.mem_of_getElem? (i := 67) rfl), (List.forall_mem_cons.mpr ⟨(List.mem_of_getElem? (i := 68) rfl), (List.forall_mem_cons.mpr ⟨(List.mem_of_getElem? (i := 69) rfl), (fun _ h => absurd h List.not_mem_nil)⟩)⟩)⟩)⟩)⟩)⟩)⟩)⟩)⟩)⟩)⟩)⟩)⟩)⟩)⟩)⟩)⟩)⟩)⟩)⟩)⟩)⟩)⟩)⟩), (List.forall_mem_append.mpr ⟨(List.forall_mem_cons.mpr ⟨(List.mem_of_getElem? (i := 70) rfl), (List.forall_mem_cons.mpr ⟨(List.mem_of_getElem? (i := 71) rfl), (List.forall_mem_cons.mpr ⟨(List.mem_of_getElem? (i := 51) rfl), (List.forall_mem_cons.mpr ⟨(List.mem_of_getElem? (i := 72) rfl), (List.forall_mem_cons.mpr ⟨(List.mem_of_getElem? (i := 73) rfl), (List.forall_mem_cons.mpr ⟨(List.mem_of_getElem? (i := 74) rfl), (List.forall_mem_cons.mpr ⟨(List.mem_of_getElem? (i := 75) rfl), (List.forall_mem_cons.mpr ⟨(List.mem_of_getElem? (i := 76) rfl), (List.forall_mem_cons.mpr ⟨(List.mem_of_getElem? (i := 77) rfl), (List.forall_mem_cons.mpr ⟨(List.mem_of_getElem? (i := 78) rfl), (List.forall_mem_cons.mpr ⟨(List.mem_of_getElem? (i := 79) rfl), (List.forall_mem_cons.mpr ⟨(List.mem_of_getElem? (i := 80) rfl), (List.forall_mem_cons.mpr ⟨(List.mem_of_getElem? (i := 81) rfl), (List.forall_mem_cons.mpr ⟨(List.mem_of_getElem? (i := 42) rfl), (List.forall_mem_cons.mpr ⟨(List.mem_of_getElem? (i := 82) rfl), (List.forall_mem_cons.mpr ⟨(List.mem_of_getElem? (i := 83) rfl), (List.forall_mem_cons.mpr ⟨(List.mem_of_getElem? (i := 84) rfl), (List.forall_mem_cons.mpr ⟨(List.mem_of_getElem? (i := 85) rfl), (List.forall_mem_cons.mpr ⟨(List.mem_of_getElem? (i := 86) rfl), (List.forall_mem_cons.mpr ⟨(List.mem_of_getElem? (i := 87) rfl), (List.forall_mem_cons.mpr ⟨(List.mem_of_getElem? (i := 88) rfl), (List.forall_mem_cons.mpr ⟨(List.mem_of_getElem? (i := 89) rfl), (List.forall_mem_cons.mpr ⟨(List.mem_of_getElem? (i := 50) rfl), (List.forall_mem_cons.mpr ⟨(List.mem_of_getElem? (i := 90) rfl), (fun _ h => absurd h List.not_mem_nil)⟩)⟩)⟩)⟩)⟩)⟩)⟩)⟩)⟩)⟩)⟩)⟩)⟩)⟩)⟩)⟩)⟩)⟩)⟩)⟩)⟩)⟩)⟩)⟩), (List.forall_mem_cons.mpr ⟨(List.mem_of_getElem? (i := 91) rfl), (List.forall_mem_cons.mpr ⟨(List.mem_of_getElem? (i := 92) rfl), (List.forall_mem_cons.mpr ⟨(List.mem_of_getElem? (i := 93) rfl), (List.forall_mem_cons.mpr ⟨(List.mem_of_getElem? (i := 94) rfl), (List.forall_mem_cons.mpr ⟨(List.mem_of_getElem? (i := 95) rfl), (List.forall_mem_cons.mpr ⟨(List.mem_of_getElem? (i := 96) rfl), (List.forall_mem_cons.mpr ⟨(List.mem_of_getElem? (i := 97) rfl), (List.forall_mem_cons.mpr ⟨(List.mem_of_getElem? (i := 98) rfl), (List.forall_mem_cons.mpr ⟨(List.mem_of_getElem? (i := 99) rfl), (List.forall_mem_cons.mpr ⟨(List.mem_of_getElem? (i := 100) rfl), (List.forall_mem_cons.mpr ⟨(List.mem_of_getElem? (i := 101) rfl), (List.forall_mem_cons.mpr ⟨(List.mem_of_getElem? (i := 102) rfl), (List.forall_mem_cons.mpr ⟨(List.mem_of_getElem? (i := 35) rfl), (List.forall_mem_cons.mpr ⟨(List.mem_of_getElem? (i := 103) rfl), (fun _ h => absurd h List.not_mem_nil)⟩)⟩)⟩)⟩)⟩)⟩)⟩)⟩)⟩)⟩)⟩)⟩)⟩)⟩)⟩)⟩), (fun _ h => (List.mem_cons_of_mem _ (List.mem_append_right _ h)))⟩), (fun _ h => (List.mem_cons_of_mem _ (List.mem_append_left _ (List.mem_append_right _ h))))⟩)⟩) gw_wsX2_playYear
set_option maxRecDepth 20000 in
theorem gX2_playOn_X2_playYear : GoodIn wsX2_playOn (wsV RX2 35 RX2 yX2_playYear wsX2_playYear) := goodIn_app (goodIn_sub (List.forall_mem_cons.mpr ⟨(List.mem_of_getElem? (i := 60) rfl), (List.forall_mem_cons.mpr ⟨(List.mem_of_getElem? (i := 61) rfl), (List.forall_mem_cons.mpr ⟨(List.mem_of_getElem? (i := 62) rfl), (List.forall_mem_cons.mpr ⟨(List.mem_of_getElem? (i := 5) rfl), (fun _ h => absurd h List.not_mem_nil)⟩)⟩)⟩)⟩) (by decide +kernel)) ggX2_playOn_X2_playYear
def dtX2_playOn_t0 : List (Nat × Instr × Nat) := [(0, .iconst 0, 1), (1, .istore_n 2, 1), (2, .iconst 0, 1), (3, .istore_n 3, 1), (4, .iload_n 3, 1), (5, .aload_n 0, 1), (6, .getfield 15, 3), (9, .if_icmp .ge 96, 3), (12, .aload_n 0, 1), (13, .iload_n 3, 1), (14, .invokevirtual 19, 3), (17, .bipush 59, 2), (19, .if_icmp .eq 6, 3), (22, .goto 77, 3), (25, .aload_n 0, 1), (26, .iload_n 2, 1), (27, .invokevirtual 19, 3), (30, .lookupswitch 49 #[(108, 26), (119, 38)], 26), (56, .aload_n 0, 1), (57, .aload_n 1, 1)]
theorem daX2_playOn_t0 : dtX2_playOn_t0.all (dck cX2_playOn) = true := by decide +kernel
theorem dX2_playOn_0 : decode cX2_playOn 0 = .ok (.iconst 0, 1) := dck_get daX2_playOn_t0 0 rfl
theorem dX2_playOn_1 : decode cX2_playOn 1 = .ok (.istore_n 2, 1) := dck_get daX2_playOn_t0 1 rfl
theorem dX2_playOn_2 : decode cX2_playOn 2 = .ok (.iconst 0, 1) := dck_get daX2_playOn_t0 2 rfl
theorem dX2_playOn_3 : decode cX2_playOn 3 = .ok (.istore_n 3, 1) := dck_get daX2_playOn_t0 3 rfl
theorem dX2_playOn_4 : decode cX2_playOn 4 = .ok (.iload_n 3, 1) := dck_get daX2_playOn_t0 4 rfl
theorem dX2_playOn_5 : decode cX2_playOn 5 = .ok (.aload_n 0, 1) := dck_get daX2_playOn_t0 5 rfl
theorem dX2_playOn_6 : decode cX2_playOn 6 = .ok (.getfield 15, 3) := dck_get daX2_playOn_t0 6 rfl
theorem dX2_playOn_9 : decode cX2_playOn 9 = .ok (.if_icmp .ge 96, 3) := dck_get daX2_playOn_t0 7 rfl
theorem dX2_playOn_12 : decode cX2_playOn 12 = .ok (.aload_n 0, 1) := dck_get daX2_playOn_t0 8 rfl
theorem dX2_playOn_13 : decode cX2_playOn 13 = .ok (.iload_n 3, 1) := dck_get daX2_playOn_t0 9 rfl
theorem dX2_playOn_14 : decode cX2_playOn 14 = .ok (.invokevirtual 19, 3) := dck_get daX2_playOn_t0 10 rfl
theorem dX2_playOn_17 : decode cX2_playOn 17 = .ok (.bipush 59, 2) := dck_get daX2_playOn_t0 11 rfl
theorem dX2_playOn_19 : decode cX2_playOn 19 = .ok (.if_icmp .eq 6, 3) := dck_get daX2_playOn_t0 12 rfl
theorem dX2_playOn_22 : decode cX2_playOn 22 = .ok (.goto 77, 3) := dck_get daX2_playOn_t0 13 rfl
theorem dX2_playOn_25 : decode cX2_playOn 25 = .ok (.aload_n 0, 1) := dck_get daX2_playOn_t0 14 rfl
theorem dX2_playOn_26 : decode cX2_playOn 26 = .ok (.iload_n 2, 1) := dck_get daX2_playOn_t0 15 rfl
theorem dX2_playOn_27 : decode cX2_playOn 27 = .ok (.invokevirtual 19, 3) := dck_get daX2_playOn_t0 16 rfl
theorem dX2_playOn_30 : decode cX2_playOn 30 = .ok (.lookupswitch 49 #[(108, 26), (119, 38)], 26) := dck_get daX2_playOn_t0 17 rfl
theorem dX2_playOn_56 : decode cX2_playOn 56 = .ok (.aload_n 0, 1) := dck_get daX2_playOn_t0 18 rfl
theorem dX2_playOn_57 : decode cX2_playOn 57 = .ok (.aload_n 1, 1) := dck_get daX2_playOn_t0 19 rfl
def dtX2_playOn_t1 : List (Nat × Instr × Nat) := [(58, .iload_n 2, 1), (59, .iload_n 3, 1), (60, .invokevirtual 27, 3), (63, .istore 4, 2), (65, .goto 23, 3), (68, .aload_n 0, 1), (69, .aload_n 1, 1), (70, .iload_n 2, 1), (71, .invokevirtual 31, 3), (74, .istore 4, 2), (76, .goto 12, 3), (79, .aload_n 0, 1), (80, .aload_n 1, 1), (81, .iload_n 2, 1), (82, .iload_n 3, 1), (83, .invokevirtual 35, 3), (86, .istore 4, 2), (88, .iload 4, 2), (90, .ifCond .ne 5, 3), (93, .iload_n 2, 1)]
theorem daX2_playOn_t1 : dtX2_playOn_t1.all (dck cX2_playOn) = true := by decide +kernel
theorem dX2_playOn_58 : decode cX2_playOn 58 = .ok (.iload_n 2, 1) := dck_get daX2_playOn_t1 0 rfl
theorem dX2_playOn_59 : decode cX2_playOn 59 = .ok (.iload_n 3, 1) := dck_get daX2_playOn_t1 1 rfl
theorem dX2_playOn_60 : decode cX2_playOn 60 = .ok (.invokevirtual 27, 3) := dck_get daX2_playOn_t1 2 rfl
theorem dX2_playOn_63 : decode cX2_playOn 63 = .ok (.istore 4, 2) := dck_get daX2_playOn_t1 3 rfl
theorem dX2_playOn_65 : decode cX2_playOn 65 = .ok (.goto 23, 3) := dck_get daX2_playOn_t1 4 rfl
theorem dX2_playOn_68 : decode cX2_playOn 68 = .ok (.aload_n 0, 1) := dck_get daX2_playOn_t1 5 rfl
theorem dX2_playOn_69 : decode cX2_playOn 69 = .ok (.aload_n 1, 1) := dck_get daX2_playOn_t1 6 rfl
theorem dX2_playOn_70 : decode cX2_playOn 70 = .ok (.iload_n 2, 1) := dck_get daX2_playOn_t1 7 rfl
theorem dX2_playOn_71 : decode cX2_playOn 71 = .ok (.invokevirtual 31, 3) := dck_get daX2_playOn_t1 8 rfl
theorem dX2_playOn_74 : decode cX2_playOn 74 = .ok (.istore 4, 2) := dck_get daX2_playOn_t1 9 rfl
theorem dX2_playOn_76 : decode cX2_playOn 76 = .ok (.goto 12, 3) := dck_get daX2_playOn_t1 10 rfl
theorem dX2_playOn_79 : decode cX2_playOn 79 = .ok (.aload_n 0, 1) := dck_get daX2_playOn_t1 11 rfl
theorem dX2_playOn_80 : decode cX2_playOn 80 = .ok (.aload_n 1, 1) := dck_get daX2_playOn_t1 12 rfl
theorem dX2_playOn_81 : decode cX2_playOn 81 = .ok (.iload_n 2, 1) := dck_get daX2_playOn_t1 13 rfl
theorem dX2_playOn_82 : decode cX2_playOn 82 = .ok (.iload_n 3, 1) := dck_get daX2_playOn_t1 14 rfl
theorem dX2_playOn_83 : decode cX2_playOn 83 = .ok (.invokevirtual 35, 3) := dck_get daX2_playOn_t1 15 rfl
theorem dX2_playOn_86 : decode cX2_playOn 86 = .ok (.istore 4, 2) := dck_get daX2_playOn_t1 16 rfl
theorem dX2_playOn_88 : decode cX2_playOn 88 = .ok (.iload 4, 2) := dck_get daX2_playOn_t1 17 rfl
theorem dX2_playOn_90 : decode cX2_playOn 90 = .ok (.ifCond .ne 5, 3) := dck_get daX2_playOn_t1 18 rfl
theorem dX2_playOn_93 : decode cX2_playOn 93 = .ok (.iload_n 2, 1) := dck_get daX2_playOn_t1 19 rfl
def dtX2_playOn_t2 : List (Nat × Instr × Nat) := [(94, .ireturn, 1), (95, .iload_n 3, 1), (96, .iconst 1, 1), (97, .iadd, 1), (98, .istore_n 2, 1), (99, .iinc 3 1, 3), (102, .goto (-98), 3), (105, .iconst (-1), 1), (106, .ireturn, 1)]
theorem daX2_playOn_t2 : dtX2_playOn_t2.all (dck cX2_playOn) = true := by decide +kernel
theorem dX2_playOn_94 : decode cX2_playOn 94 = .ok (.ireturn, 1) := dck_get daX2_playOn_t2 0 rfl
theorem dX2_playOn_95 : decode cX2_playOn 95 = .ok (.iload_n 3, 1) := dck_get daX2_playOn_t2 1 rfl
theorem dX2_playOn_96 : decode cX2_playOn 96 = .ok (.iconst 1, 1) := dck_get daX2_playOn_t2 2 rfl
theorem dX2_playOn_97 : decode cX2_playOn 97 = .ok (.iadd, 1) := dck_get daX2_playOn_t2 3 rfl
theorem dX2_playOn_98 : decode cX2_playOn 98 = .ok (.istore_n 2, 1) := dck_get daX2_playOn_t2 4 rfl
theorem dX2_playOn_99 : decode cX2_playOn 99 = .ok (.iinc 3 1, 3) := dck_get daX2_playOn_t2 5 rfl
theorem dX2_playOn_102 : decode cX2_playOn 102 = .ok (.goto (-98), 3) := dck_get daX2_playOn_t2 6 rfl
theorem dX2_playOn_105 : decode cX2_playOn 105 = .ok (.iconst (-1), 1) := dck_get daX2_playOn_t2 7 rfl
theorem dX2_playOn_106 : decode cX2_playOn 106 = .ok (.ireturn, 1) := dck_get daX2_playOn_t2 8 rfl
set_option maxRecDepth 20000 in
theorem gw_wsX2_behindStart : wsX2_behindStart.all goodWord = true := by decide +kernel
set_option maxRecDepth 20000 in
theorem ggX2_behind_X2_behindStart : GoodIn wsX2_behind wsX2_behindStart := goodIn_sub (List.forall_mem_cons.mpr ⟨(List.mem_of_getElem? (i := 4) rfl), (fun _ h => absurd h List.not_mem_nil)⟩) gw_wsX2_behindStart
set_option maxRecDepth 20000 in
theorem gX2_behind_X2_behindStart : GoodIn wsX2_behind (va_wsS RX2 38 yX2_behindStart wsX2_behindStart) := goodIn_app (goodIn_sub (List.forall_mem_cons.mpr ⟨(List.mem_of_getElem? (i := 1) rfl), (List.forall_mem_cons.mpr ⟨(List.mem_of_getElem? (i := 2) rfl), (List.forall_mem_cons.mpr ⟨(List.mem_of_getElem? (i := 3) rfl), (fun _ h => absurd h List.not_mem_nil)⟩)⟩)⟩) (by decide +kernel)) ggX2_behind_X2_behindStart
set_option maxRecDepth 20000 in
theorem gw_wsX0_ofLetter : wsX0_ofLetter.all goodWord = true := by decide +kernel
set_option maxRecDepth 20000 in
theorem ggX2_behind_X0_ofLetter : GoodIn wsX2_behind wsX0_ofLetter := goodIn_sub (List.forall_mem_cons.mpr ⟨(List.mem_of_getElem? (i := 8) rfl), (fun _ h => absurd h List.not_mem_nil)⟩) gw_wsX0_ofLetter
set_option maxRecDepth 20000 in
theorem gX2_behind_X0_ofLetter : GoodIn wsX2_behind (va_wsS RX2 41 yX0_ofLetter wsX0_ofLetter) := goodIn_app (goodIn_sub (List.forall_mem_cons.mpr ⟨(List.mem_of_getElem? (i := 5) rfl), (List.forall_mem_cons.mpr ⟨(List.mem_of_getElem? (i := 6) rfl), (List.forall_mem_cons.mpr ⟨(List.mem_of_getElem? (i := 7) rfl), (fun _ h => absurd h List.not_mem_nil)⟩)⟩)⟩) (by decide +kernel)) ggX2_behind_X0_ofLetter
set_option maxRecDepth 20000 in
theorem gw_wsX2_isDigit : wsX2_isDigit.all goodWord = true := by decide +kernel
set_option maxRecDepth 20000 in
theorem ggX2_behind_X2_isDigit : GoodIn wsX2_behind wsX2_isDigit := goodIn_sub (List.forall_mem_cons.mpr ⟨(List.mem_of_getElem? (i := 11) rfl), (fun _ h => absurd h List.not_mem_nil)⟩) gw_wsX2_isDigit
set_option maxRecDepth 20000 in
theorem gX2_behind_X2_isDigit : GoodIn wsX2_behind (va_wsS RX2 46 yX2_isDigit wsX2_isDigit) := goodIn_app (goodIn_sub (List.forall_mem_cons.mpr ⟨(List.mem_of_getElem? (i := 9) rfl), (List.forall_mem_cons.mpr ⟨(List.mem_of_getElem? (i := 10) rfl), (List.forall_mem_cons.mpr ⟨(List.mem_of_getElem? (i := 3) rfl), (fun _ h => absurd h List.not_mem_nil)⟩)⟩)⟩) (by decide +kernel)) ggX2_behind_X2_isDigit
set_option maxRecDepth 20000 in
theorem gw_wsX2_behindAge : wsX2_behindAge.all goodWord = true := by decide +kernel
set_option maxRecDepth 20000 in
theorem ggX2_behind_X2_behindAge : GoodIn wsX2_behind wsX2_behindAge := goodIn_sub (List.forall_mem_cons.mpr ⟨(List.mem_of_getElem? (i := 14) rfl), (fun _ h => absurd h List.not_mem_nil)⟩) gw_wsX2_behindAge
set_option maxRecDepth 20000 in
theorem gX2_behind_X2_behindAge : GoodIn wsX2_behind (va_wsS RX2 50 yX2_behindAge wsX2_behindAge) := goodIn_app (goodIn_sub (List.forall_mem_cons.mpr ⟨(List.mem_of_getElem? (i := 12) rfl), (List.forall_mem_cons.mpr ⟨(List.mem_of_getElem? (i := 13) rfl), (List.forall_mem_cons.mpr ⟨(List.mem_of_getElem? (i := 3) rfl), (fun _ h => absurd h List.not_mem_nil)⟩)⟩)⟩) (by decide +kernel)) ggX2_behind_X2_behindAge
set_option maxRecDepth 20000 in
theorem gw_wsX2_behindDead : wsX2_behindDead.all goodWord = true := by decide +kernel
set_option maxRecDepth 20000 in
theorem ggX2_behind_X2_behindDead : GoodIn wsX2_behind wsX2_behindDead := goodIn_sub (List.forall_mem_cons.mpr ⟨(List.mem_of_getElem? (i := 17) rfl), (List.forall_mem_cons.mpr ⟨(List.mem_of_getElem? (i := 9) rfl), (List.forall_mem_cons.mpr ⟨(List.mem_of_getElem? (i := 10) rfl), (List.forall_mem_cons.mpr ⟨(List.mem_of_getElem? (i := 3) rfl), (List.forall_mem_cons.mpr ⟨(List.mem_of_getElem? (i := 11) rfl), (fun _ h => absurd h List.not_mem_nil)⟩)⟩)⟩)⟩)⟩) gw_wsX2_behindDead
set_option maxRecDepth 20000 in
theorem gX2_behind_X2_behindDead : GoodIn wsX2_behind (va_wsS RX2 53 yX2_behindDead wsX2_behindDead) := goodIn_app (goodIn_sub (List.forall_mem_cons.mpr ⟨(List.mem_of_getElem? (i := 15) rfl), (List.forall_mem_cons.mpr ⟨(List.mem_of_getElem? (i := 16) rfl), (List.forall_mem_cons.mpr ⟨(List.mem_of_getElem? (i := 3) rfl), (fun _ h => absurd h List.not_mem_nil)⟩)⟩)⟩) (by decide +kernel)) ggX2_behind_X2_behindDead
def dtX2_behind_t0 : List (Nat × Instr × Nat) := [(0, .iload_n 0, 1), (1, .tableswitch 157 0 8 #[51, 56, 69, 82, 98, 103, 117, 131, 145], 51), (52, .iload_n 1, 1), (53, .invokestatic 38, 3), (56, .ireturn, 1), (57, .iload_n 1, 1), (58, .invokestatic 41, 3), (61, .ifCond .lt 7, 3), (64, .iconst 2, 1), (65, .goto 4, 3), (68, .iconst (-1), 1), (69, .ireturn, 1), (70, .iload_n 1, 1), (71, .invokestatic 46, 3), (74, .ifCond .eq 7, 3), (77, .iconst 3, 1), (78, .goto 4, 3), (81, .iconst (-1), 1), (82, .ireturn, 1), (83, .iload_n 1, 1)]
theorem daX2_behind_t0 : dtX2_behind_t0.all (dck cX2_behind) = true := by decide +kernel
theorem dX2_behind_0 : decode cX2_behind 0 = .ok (.iload_n 0, 1) := dck_get daX2_behind_t0 0 rfl
theorem dX2_behind_1 : decode cX2_behind 1 = .ok (.tableswitch 157 0 8 #[51, 56, 69, 82, 98, 103, 117, 131, 145], 51) := dck_get daX2_behind_t0 1 rfl
theorem dX2_behind_52 : decode cX2_behind 52 = .ok (.iload_n 1, 1) := dck_get daX2_behind_t0 2 rfl
theorem dX2_behind_53 : decode cX2_behind 53 = .ok (.invokestatic 38, 3) := dck_get daX2_behind_t0 3 rfl
theorem dX2_behind_56 : decode cX2_behind 56 = .ok (.ireturn, 1) := dck_get daX2_behind_t0 4 rfl
theorem dX2_behind_57 : decode cX2_behind 57 = .ok (.iload_n 1, 1) := dck_get daX2_behind_t0 5 rfl
theorem dX2_behind_58 : decode cX2_behind 58 = .ok (.invokestatic 41, 3) := dck_get daX2_behind_t0 6 rfl
theorem dX2_behind_61 : decode cX2_behind 61 = .ok (.ifCond .lt 7, 3) := dck_get daX2_behind_t0 7 rfl
theorem dX2_behind_64 : decode cX2_behind 64 = .ok (.iconst 2, 1) := dck_get daX2_behind_t0 8 rfl
theorem dX2_behind_65 : decode cX2_behind 65 = .ok (.goto 4, 3) := dck_get daX2_behind_t0 9 rfl
theorem dX2_behind_68 : decode cX2_behind 68 = .ok (.iconst (-1), 1) := dck_get daX2_behind_t0 10 rfl
theorem dX2_behind_69 : decode cX2_behind 69 = .ok (.ireturn, 1) := dck_get daX2_behind_t0 11 rfl
theorem dX2_behind_70 : decode cX2_behind 70 = .ok (.iload_n 1, 1) := dck_get daX2_behind_t0 12 rfl
theorem dX2_behind_71 : decode cX2_behind 71 = .ok (.invokestatic 46, 3) := dck_get daX2_behind_t0 13 rfl
theorem dX2_behind_74 : decode cX2_behind 74 = .ok (.ifCond .eq 7, 3) := dck_get daX2_behind_t0 14 rfl
theorem dX2_behind_77 : decode cX2_behind 77 = .ok (.iconst 3, 1) := dck_get daX2_behind_t0 15 rfl
theorem dX2_behind_78 : decode cX2_behind 78 = .ok (.goto 4, 3) := dck_get daX2_behind_t0 16 rfl
theorem dX2_behind_81 : decode cX2_behind 81 = .ok (.iconst (-1), 1) := dck_get daX2_behind_t0 17 rfl
theorem dX2_behind_82 : decode cX2_behind 82 = .ok (.ireturn, 1) := dck_get daX2_behind_t0 18 rfl
theorem dX2_behind_83 : decode cX2_behind 83 = .ok (.iload_n 1, 1) := dck_get daX2_behind_t0 19 rfl
def dtX2_behind_t1 : List (Nat × Instr × Nat) := [(84, .invokestatic 46, 3), (87, .ifCond .eq 7, 3), (90, .iconst 4, 1), (91, .goto 7, 3), (94, .iload_n 1, 1), (95, .invokestatic 50, 3), (98, .ireturn, 1), (99, .iload_n 1, 1), (100, .invokestatic 50, 3), (103, .ireturn, 1), (104, .iload_n 1, 1), (105, .invokestatic 46, 3), (108, .ifCond .eq 8, 3), (111, .bipush 8, 2), (113, .goto 4, 3), (116, .iconst (-1), 1), (117, .ireturn, 1), (118, .iload_n 1, 1), (119, .invokestatic 46, 3), (122, .ifCond .eq 8, 3)]
theorem daX2_behind_t1 : dtX2_behind_t1.all (dck cX2_behind) = true := by decide +kernel
theorem dX2_behind_84 : decode cX2_behind 84 = .ok (.invokestatic 46, 3) := dck_get daX2_behind_t1 0 rfl
theorem dX2_behind_87 : decode cX2_behind 87 = .ok (.ifCond .eq 7, 3) := dck_get daX2_behind_t1 1 rfl
theorem dX2_behind_90 : decode cX2_behind 90 = .ok (.iconst 4, 1) := dck_get daX2_behind_t1 2 rfl
theorem dX2_behind_91 : decode cX2_behind 91 = .ok (.goto 7, 3) := dck_get daX2_behind_t1 3 rfl
theorem dX2_behind_94 : decode cX2_behind 94 = .ok (.iload_n 1, 1) := dck_get daX2_behind_t1 4 rfl
theorem dX2_behind_95 : decode cX2_behind 95 = .ok (.invokestatic 50, 3) := dck_get daX2_behind_t1 5 rfl
theorem dX2_behind_98 : decode cX2_behind 98 = .ok (.ireturn, 1) := dck_get daX2_behind_t1 6 rfl
theorem dX2_behind_99 : decode cX2_behind 99 = .ok (.iload_n 1, 1) := dck_get daX2_behind_t1 7 rfl
theorem dX2_behind_100 : decode cX2_behind 100 = .ok (.invokestatic 50, 3) := dck_get daX2_behind_t1 8 rfl
theorem dX2_behind_103 : decode cX2_behind 103 = .ok (.ireturn, 1) := dck_get daX2_behind_t1 9 rfl
theorem dX2_behind_104 : decode cX2_behind 104 = .ok (.iload_n 1, 1) := dck_get daX2_behind_t1 10 rfl
theorem dX2_behind_105 : decode cX2_behind 105 = .ok (.invokestatic 46, 3) := dck_get daX2_behind_t1 11 rfl
theorem dX2_behind_108 : decode cX2_behind 108 = .ok (.ifCond .eq 8, 3) := dck_get daX2_behind_t1 12 rfl
theorem dX2_behind_111 : decode cX2_behind 111 = .ok (.bipush 8, 2) := dck_get daX2_behind_t1 13 rfl
theorem dX2_behind_113 : decode cX2_behind 113 = .ok (.goto 4, 3) := dck_get daX2_behind_t1 14 rfl
theorem dX2_behind_116 : decode cX2_behind 116 = .ok (.iconst (-1), 1) := dck_get daX2_behind_t1 15 rfl
theorem dX2_behind_117 : decode cX2_behind 117 = .ok (.ireturn, 1) := dck_get daX2_behind_t1 16 rfl
theorem dX2_behind_118 : decode cX2_behind 118 = .ok (.iload_n 1, 1) := dck_get daX2_behind_t1 17 rfl
theorem dX2_behind_119 : decode cX2_behind 119 = .ok (.invokestatic 46, 3) := dck_get daX2_behind_t1 18 rfl
theorem dX2_behind_122 : decode cX2_behind 122 = .ok (.ifCond .eq 8, 3) := dck_get daX2_behind_t1 19 rfl
def dtX2_behind_t2 : List (Nat × Instr × Nat) := [(125, .bipush 7, 2), (127, .goto 4, 3), (130, .iconst (-1), 1), (131, .ireturn, 1), (132, .iload_n 1, 1), (133, .invokestatic 46, 3), (136, .ifCond .eq 8, 3), (139, .bipush 8, 2), (141, .goto 4, 3), (144, .iconst (-1), 1), (145, .ireturn, 1), (146, .iload_n 1, 1), (147, .bipush 59, 2), (149, .if_icmp .ne 7, 3), (152, .iconst 0, 1), (153, .goto 4, 3), (156, .iconst (-1), 1), (157, .ireturn, 1), (158, .iload_n 0, 1), (159, .iload_n 1, 1)]
theorem daX2_behind_t2 : dtX2_behind_t2.all (dck cX2_behind) = true := by decide +kernel
theorem dX2_behind_125 : decode cX2_behind 125 = .ok (.bipush 7, 2) := dck_get daX2_behind_t2 0 rfl
theorem dX2_behind_127 : decode cX2_behind 127 = .ok (.goto 4, 3) := dck_get daX2_behind_t2 1 rfl
theorem dX2_behind_130 : decode cX2_behind 130 = .ok (.iconst (-1), 1) := dck_get daX2_behind_t2 2 rfl
theorem dX2_behind_131 : decode cX2_behind 131 = .ok (.ireturn, 1) := dck_get daX2_behind_t2 3 rfl
theorem dX2_behind_132 : decode cX2_behind 132 = .ok (.iload_n 1, 1) := dck_get daX2_behind_t2 4 rfl
theorem dX2_behind_133 : decode cX2_behind 133 = .ok (.invokestatic 46, 3) := dck_get daX2_behind_t2 5 rfl
theorem dX2_behind_136 : decode cX2_behind 136 = .ok (.ifCond .eq 8, 3) := dck_get daX2_behind_t2 6 rfl
theorem dX2_behind_139 : decode cX2_behind 139 = .ok (.bipush 8, 2) := dck_get daX2_behind_t2 7 rfl
theorem dX2_behind_141 : decode cX2_behind 141 = .ok (.goto 4, 3) := dck_get daX2_behind_t2 8 rfl
theorem dX2_behind_144 : decode cX2_behind 144 = .ok (.iconst (-1), 1) := dck_get daX2_behind_t2 9 rfl
theorem dX2_behind_145 : decode cX2_behind 145 = .ok (.ireturn, 1) := dck_get daX2_behind_t2 10 rfl
theorem dX2_behind_146 : decode cX2_behind 146 = .ok (.iload_n 1, 1) := dck_get daX2_behind_t2 11 rfl
theorem dX2_behind_147 : decode cX2_behind 147 = .ok (.bipush 59, 2) := dck_get daX2_behind_t2 12 rfl
theorem dX2_behind_149 : decode cX2_behind 149 = .ok (.if_icmp .ne 7, 3) := dck_get daX2_behind_t2 13 rfl
theorem dX2_behind_152 : decode cX2_behind 152 = .ok (.iconst 0, 1) := dck_get daX2_behind_t2 14 rfl
theorem dX2_behind_153 : decode cX2_behind 153 = .ok (.goto 4, 3) := dck_get daX2_behind_t2 15 rfl
theorem dX2_behind_156 : decode cX2_behind 156 = .ok (.iconst (-1), 1) := dck_get daX2_behind_t2 16 rfl
theorem dX2_behind_157 : decode cX2_behind 157 = .ok (.ireturn, 1) := dck_get daX2_behind_t2 17 rfl
theorem dX2_behind_158 : decode cX2_behind 158 = .ok (.iload_n 0, 1) := dck_get daX2_behind_t2 18 rfl
theorem dX2_behind_159 : decode cX2_behind 159 = .ok (.iload_n 1, 1) := dck_get daX2_behind_t2 19 rfl
def dtX2_behind_t3 : List (Nat × Instr × Nat) := [(160, .invokestatic 53, 3), (163, .ireturn, 1)]
theorem daX2_behind_t3 : dtX2_behind_t3.all (dck cX2_behind) = true := by decide +kernel
theorem dX2_behind_160 : decode cX2_behind 160 = .ok (.invokestatic 53, 3) := dck_get daX2_behind_t3 0 rfl
theorem dX2_behind_163 : decode cX2_behind 163 = .ok (.ireturn, 1) := dck_get daX2_behind_t3 1 rfl
def dtX2_behindStart_t0 : List (Nat × Instr × Nat) := [(0, .iload_n 0, 1), (1, .lookupswitch 43 #[(108, 35), (119, 37), (121, 40)], 35), (36, .iconst 1, 1), (37, .ireturn, 1), (38, .bipush 6, 2), (40, .ireturn, 1), (41, .bipush 9, 2), (43, .ireturn, 1), (44, .iconst (-1), 1), (45, .ireturn, 1)]
theorem daX2_behindStart_t0 : dtX2_behindStart_t0.all (dck cX2_behindStart) = true := by decide +kernel
theorem dX2_behindStart_0 : decode cX2_behindStart 0 = .ok (.iload_n 0, 1) := dck_get daX2_behindStart_t0 0 rfl
theorem dX2_behindStart_1 : decode cX2_behindStart 1 = .ok (.lookupswitch 43 #[(108, 35), (119, 37), (121, 40)], 35) := dck_get daX2_behindStart_t0 1 rfl
theorem dX2_behindStart_36 : decode cX2_behindStart 36 = .ok (.iconst 1, 1) := dck_get daX2_behindStart_t0 2 rfl
theorem dX2_behindStart_37 : decode cX2_behindStart 37 = .ok (.ireturn, 1) := dck_get daX2_behindStart_t0 3 rfl
theorem dX2_behindStart_38 : decode cX2_behindStart 38 = .ok (.bipush 6, 2) := dck_get daX2_behindStart_t0 4 rfl
theorem dX2_behindStart_40 : decode cX2_behindStart 40 = .ok (.ireturn, 1) := dck_get daX2_behindStart_t0 5 rfl
theorem dX2_behindStart_41 : decode cX2_behindStart 41 = .ok (.bipush 9, 2) := dck_get daX2_behindStart_t0 6 rfl
theorem dX2_behindStart_43 : decode cX2_behindStart 43 = .ok (.ireturn, 1) := dck_get daX2_behindStart_t0 7 rfl
theorem dX2_behindStart_44 : decode cX2_behindStart 44 = .ok (.iconst (-1), 1) := dck_get daX2_behindStart_t0 8 rfl
theorem dX2_behindStart_45 : decode cX2_behindStart 45 = .ok (.ireturn, 1) := dck_get daX2_behindStart_t0 9 rfl
def dtX2_behindAge_t0 : List (Nat × Instr × Nat) := [(0, .iload_n 0, 1), (1, .bipush 44, 2), (3, .if_icmp .ne 7, 3), (6, .iconst 5, 1), (7, .goto 4, 3), (10, .iconst (-1), 1), (11, .ireturn, 1)]
theorem daX2_behindAge_t0 : dtX2_behindAge_t0.all (dck cX2_behindAge) = true := by decide +kernel
theorem dX2_behindAge_0 : decode cX2_behindAge 0 = .ok (.iload_n 0, 1) := dck_get daX2_behindAge_t0 0 rfl
theorem dX2_behindAge_1 : decode cX2_behindAge 1 = .ok (.bipush 44, 2) := dck_get daX2_behindAge_t0 1 rfl
theorem dX2_behindAge_3 : decode cX2_behindAge 3 = .ok (.if_icmp .ne 7, 3) := dck_get daX2_behindAge_t0 2 rfl
theorem dX2_behindAge_6 : decode cX2_behindAge 6 = .ok (.iconst 5, 1) := dck_get daX2_behindAge_t0 3 rfl
theorem dX2_behindAge_7 : decode cX2_behindAge 7 = .ok (.goto 4, 3) := dck_get daX2_behindAge_t0 4 rfl
theorem dX2_behindAge_10 : decode cX2_behindAge 10 = .ok (.iconst (-1), 1) := dck_get daX2_behindAge_t0 5 rfl
theorem dX2_behindAge_11 : decode cX2_behindAge 11 = .ok (.ireturn, 1) := dck_get daX2_behindAge_t0 6 rfl
set_option maxRecDepth 20000 in
theorem ggX2_behindDead_X2_isDigit : GoodIn wsX2_behindDead wsX2_isDigit := goodIn_sub (List.forall_mem_cons.mpr ⟨(List.mem_of_getElem? (i := 4) rfl), (fun _ h => absurd h List.not_mem_nil)⟩) gw_wsX2_isDigit
set_option maxRecDepth 20000 in
theorem gX2_behindDead_X2_isDigit : GoodIn wsX2_behindDead (va_wsS RX2 46 yX2_isDigit wsX2_isDigit) := goodIn_app (goodIn_sub (List.forall_mem_cons.mpr ⟨(List.mem_of_getElem? (i := 1) rfl), (List.forall_mem_cons.mpr ⟨(List.mem_of_getElem? (i := 2) rfl), (List.forall_mem_cons.mpr ⟨(List.mem_of_getElem? (i := 3) rfl), (fun _ h => absurd h List.not_mem_nil)⟩)⟩)⟩) (by decide +kernel)) ggX2_behindDead_X2_isDigit
def dtX2_behindDead_t0 : List (Nat × Instr × Nat) := [(0, .iload_n 1, 1), (1, .bipush 59, 2), (3, .if_icmp .ne 5, 3), (6, .iconst 0, 1), (7, .ireturn, 1), (8, .iload_n 1, 1), (9, .invokestatic 46, 3), (12, .ifCond .eq 15, 3), (15, .iload_n 0, 1), (16, .bipush 17, 2), (18, .if_icmp .ge 9, 3), (21, .iload_n 0, 1), (22, .iconst 1, 1), (23, .iadd, 1), (24, .goto 4, 3), (27, .iconst (-1), 1), (28, .ireturn, 1)]
theorem daX2_behindDead_t0 : dtX2_behindDead_t0.all (dck cX2_behindDead) = true := by decide +kernel
theorem dX2_behindDead_0 : decode cX2_behindDead 0 = .ok (.iload_n 1, 1) := dck_get daX2_behindDead_t0 0 rfl
theorem dX2_behindDead_1 : decode cX2_behindDead 1 = .ok (.bipush 59, 2) := dck_get daX2_behindDead_t0 1 rfl
theorem dX2_behindDead_3 : decode cX2_behindDead 3 = .ok (.if_icmp .ne 5, 3) := dck_get daX2_behindDead_t0 2 rfl
theorem dX2_behindDead_6 : decode cX2_behindDead 6 = .ok (.iconst 0, 1) := dck_get daX2_behindDead_t0 3 rfl
theorem dX2_behindDead_7 : decode cX2_behindDead 7 = .ok (.ireturn, 1) := dck_get daX2_behindDead_t0 4 rfl
theorem dX2_behindDead_8 : decode cX2_behindDead 8 = .ok (.iload_n 1, 1) := dck_get daX2_behindDead_t0 5 rfl
theorem dX2_behindDead_9 : decode cX2_behindDead 9 = .ok (.invokestatic 46, 3) := dck_get daX2_behindDead_t0 6 rfl
theorem dX2_behindDead_12 : decode cX2_behindDead 12 = .ok (.ifCond .eq 15, 3) := dck_get daX2_behindDead_t0 7 rfl
theorem dX2_behindDead_15 : decode cX2_behindDead 15 = .ok (.iload_n 0, 1) := dck_get daX2_behindDead_t0 8 rfl
theorem dX2_behindDead_16 : decode cX2_behindDead 16 = .ok (.bipush 17, 2) := dck_get daX2_behindDead_t0 9 rfl
theorem dX2_behindDead_18 : decode cX2_behindDead 18 = .ok (.if_icmp .ge 9, 3) := dck_get daX2_behindDead_t0 10 rfl
theorem dX2_behindDead_21 : decode cX2_behindDead 21 = .ok (.iload_n 0, 1) := dck_get daX2_behindDead_t0 11 rfl
theorem dX2_behindDead_22 : decode cX2_behindDead 22 = .ok (.iconst 1, 1) := dck_get daX2_behindDead_t0 12 rfl
theorem dX2_behindDead_23 : decode cX2_behindDead 23 = .ok (.iadd, 1) := dck_get daX2_behindDead_t0 13 rfl
theorem dX2_behindDead_24 : decode cX2_behindDead 24 = .ok (.goto 4, 3) := dck_get daX2_behindDead_t0 14 rfl
theorem dX2_behindDead_27 : decode cX2_behindDead 27 = .ok (.iconst (-1), 1) := dck_get daX2_behindDead_t0 15 rfl
theorem dX2_behindDead_28 : decode cX2_behindDead 28 = .ok (.ireturn, 1) := dck_get daX2_behindDead_t0 16 rfl
set_option maxRecDepth 20000 in
theorem ggX2_playLodger_X2_letterAt : GoodIn wsX2_playLodger wsX2_letterAt := goodIn_sub (List.forall_mem_cons.mpr ⟨(List.mem_of_getElem? (i := 5) rfl), (List.forall_mem_append.mpr ⟨(List.forall_mem_cons.mpr ⟨(List.mem_of_getElem? (i := 6) rfl), (List.forall_mem_cons.mpr ⟨(List.mem_of_getElem? (i := 7) rfl), (fun _ h => absurd h List.not_mem_nil)⟩)⟩), (fun _ h => (List.mem_cons_of_mem _ (List.mem_append_left _ (List.mem_append_right _ h))))⟩)⟩) gw_wsX2_letterAt
set_option maxRecDepth 20000 in
theorem gX2_playLodger_X2_letterAt : GoodIn wsX2_playLodger (wsV RX2 19 RX2 yX2_letterAt wsX2_letterAt) := goodIn_app (goodIn_sub (List.forall_mem_cons.mpr ⟨(List.mem_of_getElem? (i := 1) rfl), (List.forall_mem_cons.mpr ⟨(List.mem_of_getElem? (i := 2) rfl), (List.forall_mem_cons.mpr ⟨(List.mem_of_getElem? (i := 3) rfl), (List.forall_mem_cons.mpr ⟨(List.mem_of_getElem? (i := 4) rfl), (fun _ h => absurd h List.not_mem_nil)⟩)⟩)⟩)⟩) (by decide +kernel)) ggX2_playLodger_X2_letterAt
set_option maxRecDepth 20000 in
theorem ggX2_playLodger_X0_ofLetter : GoodIn wsX2_playLodger wsX0_ofLetter := goodIn_sub (List.forall_mem_cons.mpr ⟨(List.mem_of_getElem? (i := 11) rfl), (fun _ h => absurd h List.not_mem_nil)⟩) gw_wsX0_ofLetter
set_option maxRecDepth 20000 in
theorem gX2_playLodger_X0_ofLetter : GoodIn wsX2_playLodger (va_wsS RX2 41 yX0_ofLetter wsX0_ofLetter) := goodIn_app (goodIn_sub (List.forall_mem_cons.mpr ⟨(List.mem_of_getElem? (i := 8) rfl), (List.forall_mem_cons.mpr ⟨(List.mem_of_getElem? (i := 9) rfl), (List.forall_mem_cons.mpr ⟨(List.mem_of_getElem? (i := 10) rfl), (fun _ h => absurd h List.not_mem_nil)⟩)⟩)⟩) (by decide +kernel)) ggX2_playLodger_X0_ofLetter
set_option maxRecDepth 20000 in
theorem gw_wsX2_digitAt : wsX2_digitAt.all goodWord = true := by decide +kernel
set_option maxRecDepth 20000 in
theorem ggX2_playLodger_X2_digitAt : GoodIn wsX2_playLodger wsX2_digitAt := goodIn_sub (List.forall_mem_cons.mpr ⟨(List.mem_of_getElem? (i := 15) rfl), (List.forall_mem_append.mpr ⟨(List.forall_mem_cons.mpr ⟨(List.mem_of_getElem? (i := 1) rfl), (List.forall_mem_cons.mpr ⟨(List.mem_of_getElem? (i := 2) rfl), (List.forall_mem_cons.mpr ⟨(List.mem_of_getElem? (i := 3) rfl), (List.forall_mem_cons.mpr ⟨(List.mem_of_getElem? (i := 4) rfl), (List.forall_mem_cons.mpr ⟨(List.mem_of_getElem? (i := 5) rfl), (List.forall_mem_cons.mpr ⟨(List.mem_of_getElem? (i := 6) rfl), (List.forall_mem_cons.mpr ⟨(List.mem_of_getElem? (i := 7) rfl), (fun _ h => absurd h List.not_mem_nil)⟩)⟩)⟩)⟩)⟩)⟩)⟩), (fun _ h => (List.mem_cons_of_mem _ (List.mem_append_left _ (List.mem_append_right _ h))))⟩)⟩) gw_wsX2_digitAt
set_option maxRecDepth 20000 in
theorem gX2_playLodger_X2_digitAt : GoodIn wsX2_playLodger (wsV RX2 56 RX2 yX2_digitAt wsX2_digitAt) := goodIn_app (goodIn_sub (List.forall_mem_cons.mpr ⟨(List.mem_of_getElem? (i := 12) rfl), (List.forall_mem_cons.mpr ⟨(List.mem_of_getElem? (i := 13) rfl), (List.forall_mem_cons.mpr ⟨(List.mem_of_getElem? (i := 14) rfl), (List.forall_mem_cons.mpr ⟨(List.mem_of_getElem? (i := 4) rfl), (fun _ h => absurd h List.not_mem_nil)⟩)⟩)⟩)⟩) (by decide +kernel)) ggX2_playLodger_X2_digitAt
set_option maxRecDepth 20000 in
theorem gw_wsX3_couldComeIn : wsX3_couldComeIn.all goodWord = true := by decide +kernel
set_option maxRecDepth 20000 in
theorem ggX2_playLodger_X3_couldComeIn : GoodIn wsX2_playLodger wsX3_couldComeIn := goodIn_sub (List.forall_mem_cons.mpr ⟨(List.mem_of_getElem? (i := 20) rfl), (List.forall_mem_append.mpr ⟨(List.forall_mem_cons.mpr ⟨(List.mem_of_getElem? (i := 21) rfl), (List.forall_mem_cons.mpr ⟨(List.mem_of_getElem? (i := 22) rfl), (List.forall_mem_cons.mpr ⟨(List.mem_of_getElem? (i := 23) rfl), (List.forall_mem_cons.mpr ⟨(List.mem_of_getElem? (i := 19) rfl), (List.forall_mem_cons.mpr ⟨(List.mem_of_getElem? (i := 24) rfl), (List.forall_mem_cons.mpr ⟨(List.mem_of_getElem? (i := 25) rfl), (List.forall_mem_cons.mpr ⟨(List.mem_of_getElem? (i := 26) rfl), (List.forall_mem_cons.mpr ⟨(List.mem_of_getElem? (i := 27) rfl), (List.forall_mem_cons.mpr ⟨(List.mem_of_getElem? (i := 10) rfl), (List.forall_mem_cons.mpr ⟨(List.mem_of_getElem? (i := 28) rfl), (List.forall_mem_cons.mpr ⟨(List.mem_of_getElem? (i := 29) rfl), (List.forall_mem_cons.mpr ⟨(List.mem_of_getElem? (i := 30) rfl), (List.forall_mem_cons.mpr ⟨(List.mem_of_getElem? (i := 31) rfl), (List.forall_mem_cons.mpr ⟨(List.mem_of_getElem? (i := 32) rfl), (List.forall_mem_cons.mpr ⟨(List.mem_of_getElem? (i := 33) rfl), (List.forall_mem_cons.mpr ⟨(List.mem_of_getElem? (i := 34) rfl), (List.forall_mem_cons.mpr ⟨(List.mem_of_getElem? (i := 35) rfl), (List.forall_mem_cons.mpr ⟨(List.mem_of_getElem? (i := 36) rfl), (List.forall_mem_cons.mpr ⟨(List.mem_of_getElem? (i := 37) rfl), (List.forall_mem_cons.mpr ⟨(List.mem_of_getElem? (i := 38) rfl), (List.forall_mem_cons.mpr ⟨(List.mem_of_getElem? (i := 39) rfl), (List.forall_mem_cons.mpr ⟨(List.mem_of_getElem? (i := 40) rfl), (List.forall_mem_cons.mpr ⟨(List.mem_of_getElem? (i := 41) rfl), (fun _ h => absurd h List.not_mem_nil)⟩)⟩)⟩)⟩)⟩)⟩)⟩)⟩)⟩)⟩)⟩)⟩)⟩)⟩)⟩)⟩)⟩)⟩)⟩)⟩)⟩)⟩)⟩), (fun _ h => (List.mem_cons_of_mem _ (List.mem_append_right _ h)))⟩)⟩) gw_wsX3_couldComeIn
set_option maxRecDepth 20000 in
theorem gX2_playLodger_X3_couldComeIn : GoodIn wsX2_playLodger (wsV RX2 59 RX3 yX3_couldComeIn wsX3_couldComeIn) := goodIn_app (goodIn_sub (List.forall_mem_cons.mpr ⟨(List.mem_of_getElem? (i := 16) rfl), (List.forall_mem_cons.mpr ⟨(List.mem_of_getElem? (i := 17) rfl), (List.forall_mem_cons.mpr ⟨(List.mem_of_getElem? (i := 18) rfl), (List.forall_mem_cons.mpr ⟨(List.mem_of_getElem? (i := 19) rfl), (fun _ h => absurd h List.not_mem_nil)⟩)⟩)⟩)⟩) (by decide +kernel)) ggX2_playLodger_X3_couldComeIn
set_option maxRecDepth 20000 in
theorem gw_wsX3_admit : wsX3_admit.all goodWord = true := by decide +kernel
set_option maxRecDepth 20000 in
theorem ggX2_playLodger_X3_admit : GoodIn wsX2_playLodger wsX3_admit := goodIn_sub (List.forall_mem_cons.mpr ⟨(List.mem_of_getElem? (i := 45) rfl), (List.forall_mem_append.mpr ⟨(List.forall_mem_cons.mpr ⟨(List.mem_of_getElem? (i := 25) rfl), (List.forall_mem_cons.mpr ⟨(List.mem_of_getElem? (i := 46) rfl), (List.forall_mem_cons.mpr ⟨(List.mem_of_getElem? (i := 47) rfl), (List.forall_mem_cons.mpr ⟨(List.mem_of_getElem? (i := 37) rfl), (List.forall_mem_cons.mpr ⟨(List.mem_of_getElem? (i := 48) rfl), (List.forall_mem_cons.mpr ⟨(List.mem_of_getElem? (i := 49) rfl), (List.forall_mem_cons.mpr ⟨(List.mem_of_getElem? (i := 26) rfl), (List.forall_mem_cons.mpr ⟨(List.mem_of_getElem? (i := 27) rfl), (List.forall_mem_cons.mpr ⟨(List.mem_of_getElem? (i := 10) rfl), (List.forall_mem_cons.mpr ⟨(List.mem_of_getElem? (i := 28) rfl), (List.forall_mem_cons.mpr ⟨(List.mem_of_getElem? (i := 29) rfl), (List.forall_mem_cons.mpr ⟨(List.mem_of_getElem? (i := 30) rfl), (List.forall_mem_cons.mpr ⟨(List.mem_of_getElem? (i := 31) rfl), (List.forall_mem_cons.mpr ⟨(List.mem_of_getElem? (i := 32) rfl), (fun _ h => absurd h List.not_mem_nil)⟩)⟩)⟩)⟩)⟩)⟩)⟩)⟩)⟩)⟩)⟩)⟩)⟩)⟩), (fun _ h => (List.mem_cons_of_mem _ (List.mem_append_right _ h)))⟩)⟩) gw_wsX3_admit
set_option maxRecDepth 20000 in
theorem gX2_playLodger_X3_admit : GoodIn wsX2_playLodger (wsV RX2 65 RX3 yX3_admit wsX3_admit) := goodIn_app (goodIn_sub (List.forall_mem_cons.mpr ⟨(List.mem_of_getElem? (i := 42) rfl), (List.forall_mem_cons.mpr ⟨(List.mem_of_getElem? (i := 43) rfl), (List.forall_mem_cons.mpr ⟨(List.mem_of_getElem? (i := 44) rfl), (List.forall_mem_cons.mpr ⟨(List.mem_of_getElem? (i := 19) rfl), (fun _ h => absurd h List.not_mem_nil)⟩)⟩)⟩)⟩) (by decide +kernel)) ggX2_playLodger_X3_admit
def dtX2_playLodger_t0 : List (Nat × Instr × Nat) := [(0, .aload_n 0, 1), (1, .iload_n 2, 1), (2, .iconst 1, 1), (3, .iadd, 1), (4, .invokevirtual 19, 3), (7, .invokestatic 41, 3), (10, .istore 4, 2), (12, .iconst 0, 1), (13, .istore 5, 2), (15, .iload_n 2, 1), (16, .iconst 2, 1), (17, .iadd, 1), (18, .istore 6, 2), (20, .iload 6, 2), (22, .iload_n 3, 1), (23, .iconst 2, 1), (24, .isub, 1), (25, .if_icmp .ge 23, 3), (28, .iload 5, 2), (30, .bipush 10, 2)]
theorem daX2_playLodger_t0 : dtX2_playLodger_t0.all (dck cX2_playLodger) = true := by decide +kernel
theorem dX2_playLodger_0 : decode cX2_playLodger 0 = .ok (.aload_n 0, 1) := dck_get daX2_playLodger_t0 0 rfl
theorem dX2_playLodger_1 : decode cX2_playLodger 1 = .ok (.iload_n 2, 1) := dck_get daX2_playLodger_t0 1 rfl
theorem dX2_playLodger_2 : decode cX2_playLodger 2 = .ok (.iconst 1, 1) := dck_get daX2_playLodger_t0 2 rfl
theorem dX2_playLodger_3 : decode cX2_playLodger 3 = .ok (.iadd, 1) := dck_get daX2_playLodger_t0 3 rfl
theorem dX2_playLodger_4 : decode cX2_playLodger 4 = .ok (.invokevirtual 19, 3) := dck_get daX2_playLodger_t0 4 rfl
theorem dX2_playLodger_7 : decode cX2_playLodger 7 = .ok (.invokestatic 41, 3) := dck_get daX2_playLodger_t0 5 rfl
theorem dX2_playLodger_10 : decode cX2_playLodger 10 = .ok (.istore 4, 2) := dck_get daX2_playLodger_t0 6 rfl
theorem dX2_playLodger_12 : decode cX2_playLodger 12 = .ok (.iconst 0, 1) := dck_get daX2_playLodger_t0 7 rfl
theorem dX2_playLodger_13 : decode cX2_playLodger 13 = .ok (.istore 5, 2) := dck_get daX2_playLodger_t0 8 rfl
theorem dX2_playLodger_15 : decode cX2_playLodger 15 = .ok (.iload_n 2, 1) := dck_get daX2_playLodger_t0 9 rfl
theorem dX2_playLodger_16 : decode cX2_playLodger 16 = .ok (.iconst 2, 1) := dck_get daX2_playLodger_t0 10 rfl
theorem dX2_playLodger_17 : decode cX2_playLodger 17 = .ok (.iadd, 1) := dck_get daX2_playLodger_t0 11 rfl
theorem dX2_playLodger_18 : decode cX2_playLodger 18 = .ok (.istore 6, 2) := dck_get daX2_playLodger_t0 12 rfl
theorem dX2_playLodger_20 : decode cX2_playLodger 20 = .ok (.iload 6, 2) := dck_get daX2_playLodger_t0 13 rfl
theorem dX2_playLodger_22 : decode cX2_playLodger 22 = .ok (.iload_n 3, 1) := dck_get daX2_playLodger_t0 14 rfl
theorem dX2_playLodger_23 : decode cX2_playLodger 23 = .ok (.iconst 2, 1) := dck_get daX2_playLodger_t0 15 rfl
theorem dX2_playLodger_24 : decode cX2_playLodger 24 = .ok (.isub, 1) := dck_get daX2_playLodger_t0 16 rfl
theorem dX2_playLodger_25 : decode cX2_playLodger 25 = .ok (.if_icmp .ge 23, 3) := dck_get daX2_playLodger_t0 17 rfl
theorem dX2_playLodger_28 : decode cX2_playLodger 28 = .ok (.iload 5, 2) := dck_get daX2_playLodger_t0 18 rfl
theorem dX2_playLodger_30 : decode cX2_playLodger 30 = .ok (.bipush 10, 2) := dck_get daX2_playLodger_t0 19 rfl
def dtX2_playLodger_t1 : List (Nat × Instr × Nat) := [(32, .imul, 1), (33, .aload_n 0, 1), (34, .iload 6, 2), (36, .invokevirtual 56, 3), (39, .iadd, 1), (40, .istore 5, 2), (42, .iinc 6 1, 3), (45, .goto (-25), 3), (48, .aload_n 1, 1), (49, .iload 4, 2), (51, .iload 5, 2), (53, .invokevirtual 59, 3), (56, .ifCond .eq 25, 3), (59, .aload_n 1, 1), (60, .iload 4, 2), (62, .iload 5, 2), (64, .aload_n 0, 1), (65, .iload_n 3, 1), (66, .iconst 1, 1), (67, .isub, 1)]
theorem daX2_playLodger_t1 : dtX2_playLodger_t1.all (dck cX2_playLodger) = true := by decide +kernel
theorem dX2_playLodger_32 : decode cX2_playLodger 32 = .ok (.imul, 1) := dck_get daX2_playLodger_t1 0 rfl
theorem dX2_playLodger_33 : decode cX2_playLodger 33 = .ok (.aload_n 0, 1) := dck_get daX2_playLodger_t1 1 rfl
theorem dX2_playLodger_34 : decode cX2_playLodger 34 = .ok (.iload 6, 2) := dck_get daX2_playLodger_t1 2 rfl
theorem dX2_playLodger_36 : decode cX2_playLodger 36 = .ok (.invokevirtual 56, 3) := dck_get daX2_playLodger_t1 3 rfl
theorem dX2_playLodger_39 : decode cX2_playLodger 39 = .ok (.iadd, 1) := dck_get daX2_playLodger_t1 4 rfl
theorem dX2_playLodger_40 : decode cX2_playLodger 40 = .ok (.istore 5, 2) := dck_get daX2_playLodger_t1 5 rfl
theorem dX2_playLodger_42 : decode cX2_playLodger 42 = .ok (.iinc 6 1, 3) := dck_get daX2_playLodger_t1 6 rfl
theorem dX2_playLodger_45 : decode cX2_playLodger 45 = .ok (.goto (-25), 3) := dck_get daX2_playLodger_t1 7 rfl
theorem dX2_playLodger_48 : decode cX2_playLodger 48 = .ok (.aload_n 1, 1) := dck_get daX2_playLodger_t1 8 rfl
theorem dX2_playLodger_49 : decode cX2_playLodger 49 = .ok (.iload 4, 2) := dck_get daX2_playLodger_t1 9 rfl
theorem dX2_playLodger_51 : decode cX2_playLodger 51 = .ok (.iload 5, 2) := dck_get daX2_playLodger_t1 10 rfl
theorem dX2_playLodger_53 : decode cX2_playLodger 53 = .ok (.invokevirtual 59, 3) := dck_get daX2_playLodger_t1 11 rfl
theorem dX2_playLodger_56 : decode cX2_playLodger 56 = .ok (.ifCond .eq 25, 3) := dck_get daX2_playLodger_t1 12 rfl
theorem dX2_playLodger_59 : decode cX2_playLodger 59 = .ok (.aload_n 1, 1) := dck_get daX2_playLodger_t1 13 rfl
theorem dX2_playLodger_60 : decode cX2_playLodger 60 = .ok (.iload 4, 2) := dck_get daX2_playLodger_t1 14 rfl
theorem dX2_playLodger_62 : decode cX2_playLodger 62 = .ok (.iload 5, 2) := dck_get daX2_playLodger_t1 15 rfl
theorem dX2_playLodger_64 : decode cX2_playLodger 64 = .ok (.aload_n 0, 1) := dck_get daX2_playLodger_t1 16 rfl
theorem dX2_playLodger_65 : decode cX2_playLodger 65 = .ok (.iload_n 3, 1) := dck_get daX2_playLodger_t1 17 rfl
theorem dX2_playLodger_66 : decode cX2_playLodger 66 = .ok (.iconst 1, 1) := dck_get daX2_playLodger_t1 18 rfl
theorem dX2_playLodger_67 : decode cX2_playLodger 67 = .ok (.isub, 1) := dck_get daX2_playLodger_t1 19 rfl
def dtX2_playLodger_t2 : List (Nat × Instr × Nat) := [(68, .invokevirtual 56, 3), (71, .invokevirtual 65, 3), (74, .ifCond .lt 7, 3), (77, .iconst 1, 1), (78, .goto 4, 3), (81, .iconst 0, 1), (82, .ireturn, 1)]
theorem daX2_playLodger_t2 : dtX2_playLodger_t2.all (dck cX2_playLodger) = true := by decide +kernel
theorem dX2_playLodger_68 : decode cX2_playLodger 68 = .ok (.invokevirtual 56, 3) := dck_get daX2_playLodger_t2 0 rfl
theorem dX2_playLodger_71 : decode cX2_playLodger 71 = .ok (.invokevirtual 65, 3) := dck_get daX2_playLodger_t2 1 rfl
theorem dX2_playLodger_74 : decode cX2_playLodger 74 = .ok (.ifCond .lt 7, 3) := dck_get daX2_playLodger_t2 2 rfl
theorem dX2_playLodger_77 : decode cX2_playLodger 77 = .ok (.iconst 1, 1) := dck_get daX2_playLodger_t2 3 rfl
theorem dX2_playLodger_78 : decode cX2_playLodger 78 = .ok (.goto 4, 3) := dck_get daX2_playLodger_t2 4 rfl
theorem dX2_playLodger_81 : decode cX2_playLodger 81 = .ok (.iconst 0, 1) := dck_get daX2_playLodger_t2 5 rfl
theorem dX2_playLodger_82 : decode cX2_playLodger 82 = .ok (.ireturn, 1) := dck_get daX2_playLodger_t2 6 rfl
set_option maxRecDepth 20000 in
theorem ggX2_playWish_X2_digitAt : GoodIn wsX2_playWish wsX2_digitAt := goodIn_sub (List.forall_mem_cons.mpr ⟨(List.mem_of_getElem? (i := 6) rfl), (List.forall_mem_append.mpr ⟨(List.forall_mem_cons.mpr ⟨(List.mem_of_getElem? (i := 7) rfl), (List.forall_mem_cons.mpr ⟨(List.mem_of_getElem? (i := 8) rfl), (List.forall_mem_cons.mpr ⟨(List.mem_of_getElem? (i := 9) rfl), (List.forall_mem_cons.mpr ⟨(List.mem_of_getElem? (i := 5) rfl), (List.forall_mem_cons.mpr ⟨(List.mem_of_getElem? (i := 10) rfl), (List.forall_mem_cons.mpr ⟨(List.mem_of_getElem? (i := 11) rfl), (List.forall_mem_cons.mpr ⟨(List.mem_of_getElem? (i := 12) rfl), (fun _ h => absurd h List.not_mem_nil)⟩)⟩)⟩)⟩)⟩)⟩)⟩), (fun _ h => (List.mem_cons_of_mem _ (List.mem_append_right _ h)))⟩)⟩) gw_wsX2_digitAt
set_option maxRecDepth 20000 in
theorem gX2_playWish_X2_digitAt : GoodIn wsX2_playWish (wsV RX2 56 RX2 yX2_digitAt wsX2_digitAt) := goodIn_app (goodIn_sub (List.forall_mem_cons.mpr ⟨(List.mem_of_getElem? (i := 2) rfl), (List.forall_mem_cons.mpr ⟨(List.mem_of_getElem? (i := 3) rfl), (List.forall_mem_cons.mpr ⟨(List.mem_of_getElem? (i := 4) rfl), (List.forall_mem_cons.mpr ⟨(List.mem_of_getElem? (i := 5) rfl), (fun _ h => absurd h List.not_mem_nil)⟩)⟩)⟩)⟩) (by decide +kernel)) ggX2_playWish_X2_digitAt
set_option maxRecDepth 20000 in
theorem ggX2_playWish_X3_isAlive : GoodIn wsX2_playWish wsX3_isAlive := goodIn_sub (List.forall_mem_cons.mpr ⟨(List.mem_of_getElem? (i := 17) rfl), (List.forall_mem_append.mpr ⟨(List.forall_mem_cons.mpr ⟨(List.mem_of_getElem? (i := 18) rfl), (List.forall_mem_cons.mpr ⟨(List.mem_of_getElem? (i := 19) rfl), (fun _ h => absurd h List.not_mem_nil)⟩)⟩), (fun _ h => (List.mem_cons_of_mem _ (List.mem_append_left _ (List.mem_append_right _ h))))⟩)⟩) gw_wsX3_isAlive
set_option maxRecDepth 20000 in
theorem gX2_playWish_X3_isAlive : GoodIn wsX2_playWish (wsV RX2 69 RX3 yX3_isAlive wsX3_isAlive) := goodIn_app (goodIn_sub (List.forall_mem_cons.mpr ⟨(List.mem_of_getElem? (i := 13) rfl), (List.forall_mem_cons.mpr ⟨(List.mem_of_getElem? (i := 14) rfl), (List.forall_mem_cons.mpr ⟨(List.mem_of_getElem? (i := 15) rfl), (List.forall_mem_cons.mpr ⟨(List.mem_of_getElem? (i := 16) rfl), (fun _ h => absurd h List.not_mem_nil)⟩)⟩)⟩)⟩) (by decide +kernel)) ggX2_playWish_X3_isAlive
def dtX2_playWish_t0 : List (Nat × Instr × Nat) := [(0, .aload_n 0, 1), (1, .iload_n 2, 1), (2, .iconst 1, 1), (3, .iadd, 1), (4, .invokevirtual 56, 3), (7, .istore_n 3, 1), (8, .aload_n 1, 1), (9, .iload_n 3, 1), (10, .invokevirtual 69, 3), (13, .ifCond .ne 5, 3), (16, .iconst 0, 1), (17, .ireturn, 1), (18, .aload_n 1, 1), (19, .getfield 72, 3), (22, .iload_n 3, 1), (23, .aload_n 0, 1), (24, .iload_n 2, 1), (25, .iconst 2, 1), (26, .iadd, 1), (27, .invokevirtual 56, 3)]
theorem daX2_playWish_t0 : dtX2_playWish_t0.all (dck cX2_playWish) = true := by decide +kernel
theorem dX2_playWish_0 : decode cX2_playWish 0 = .ok (.aload_n 0, 1) := dck_get daX2_playWish_t0 0 rfl
theorem dX2_playWish_1 : decode cX2_playWish 1 = .ok (.iload_n 2, 1) := dck_get daX2_playWish_t0 1 rfl
theorem dX2_playWish_2 : decode cX2_playWish 2 = .ok (.iconst 1, 1) := dck_get daX2_playWish_t0 2 rfl
theorem dX2_playWish_3 : decode cX2_playWish 3 = .ok (.iadd, 1) := dck_get daX2_playWish_t0 3 rfl
theorem dX2_playWish_4 : decode cX2_playWish 4 = .ok (.invokevirtual 56, 3) := dck_get daX2_playWish_t0 4 rfl
theorem dX2_playWish_7 : decode cX2_playWish 7 = .ok (.istore_n 3, 1) := dck_get daX2_playWish_t0 5 rfl
theorem dX2_playWish_8 : decode cX2_playWish 8 = .ok (.aload_n 1, 1) := dck_get daX2_playWish_t0 6 rfl
theorem dX2_playWish_9 : decode cX2_playWish 9 = .ok (.iload_n 3, 1) := dck_get daX2_playWish_t0 7 rfl
theorem dX2_playWish_10 : decode cX2_playWish 10 = .ok (.invokevirtual 69, 3) := dck_get daX2_playWish_t0 8 rfl
theorem dX2_playWish_13 : decode cX2_playWish 13 = .ok (.ifCond .ne 5, 3) := dck_get daX2_playWish_t0 9 rfl
theorem dX2_playWish_16 : decode cX2_playWish 16 = .ok (.iconst 0, 1) := dck_get daX2_playWish_t0 10 rfl
theorem dX2_playWish_17 : decode cX2_playWish 17 = .ok (.ireturn, 1) := dck_get daX2_playWish_t0 11 rfl
theorem dX2_playWish_18 : decode cX2_playWish 18 = .ok (.aload_n 1, 1) := dck_get daX2_playWish_t0 12 rfl
theorem dX2_playWish_19 : decode cX2_playWish 19 = .ok (.getfield 72, 3) := dck_get daX2_playWish_t0 13 rfl
theorem dX2_playWish_22 : decode cX2_playWish 22 = .ok (.iload_n 3, 1) := dck_get daX2_playWish_t0 14 rfl
theorem dX2_playWish_23 : decode cX2_playWish 23 = .ok (.aload_n 0, 1) := dck_get daX2_playWish_t0 15 rfl
theorem dX2_playWish_24 : decode cX2_playWish 24 = .ok (.iload_n 2, 1) := dck_get daX2_playWish_t0 16 rfl
theorem dX2_playWish_25 : decode cX2_playWish 25 = .ok (.iconst 2, 1) := dck_get daX2_playWish_t0 17 rfl
theorem dX2_playWish_26 : decode cX2_playWish 26 = .ok (.iadd, 1) := dck_get daX2_playWish_t0 18 rfl
theorem dX2_playWish_27 : decode cX2_playWish 27 = .ok (.invokevirtual 56, 3) := dck_get daX2_playWish_t0 19 rfl
def dtX2_playWish_t1 : List (Nat × Instr × Nat) := [(30, .iastore, 1), (31, .iconst 1, 1), (32, .ireturn, 1)]
theorem daX2_playWish_t1 : dtX2_playWish_t1.all (dck cX2_playWish) = true := by decide +kernel
theorem dX2_playWish_30 : decode cX2_playWish 30 = .ok (.iastore, 1) := dck_get daX2_playWish_t1 0 rfl
theorem dX2_playWish_31 : decode cX2_playWish 31 = .ok (.iconst 1, 1) := dck_get daX2_playWish_t1 1 rfl
theorem dX2_playWish_32 : decode cX2_playWish 32 = .ok (.ireturn, 1) := dck_get daX2_playWish_t1 2 rfl
set_option maxRecDepth 20000 in
theorem ggX2_playYear_X2_digitAt : GoodIn wsX2_playYear wsX2_digitAt := goodIn_sub (List.forall_mem_cons.mpr ⟨(List.mem_of_getElem? (i := 6) rfl), (List.forall_mem_append.mpr ⟨(List.forall_mem_cons.mpr ⟨(List.mem_of_getElem? (i := 7) rfl), (List.forall_mem_cons.mpr ⟨(List.mem_of_getElem? (i := 8) rfl), (List.forall_mem_cons.mpr ⟨(List.mem_of_getElem? (i := 9) rfl), (List.forall_mem_cons.mpr ⟨(List.mem_of_getElem? (i := 5) rfl), (List.forall_mem_cons.mpr ⟨(List.mem_of_getElem? (i := 10) rfl), (List.forall_mem_cons.mpr ⟨(List.mem_of_getElem? (i := 11) rfl), (List.forall_mem_cons.mpr ⟨(List.mem_of_getElem? (i := 12) rfl), (fun _ h => absurd h List.not_mem_nil)⟩)⟩)⟩)⟩)⟩)⟩)⟩), (fun _ h => (List.mem_cons_of_mem _ (List.mem_append_right _ h)))⟩)⟩) gw_wsX2_digitAt
set_option maxRecDepth 20000 in
theorem gX2_playYear_X2_digitAt : GoodIn wsX2_playYear (wsV RX2 56 RX2 yX2_digitAt wsX2_digitAt) := goodIn_app (goodIn_sub (List.forall_mem_cons.mpr ⟨(List.mem_of_getElem? (i := 2) rfl), (List.forall_mem_cons.mpr ⟨(List.mem_of_getElem? (i := 3) rfl), (List.forall_mem_cons.mpr ⟨(List.mem_of_getElem? (i := 4) rfl), (List.forall_mem_cons.mpr ⟨(List.mem_of_getElem? (i := 5) rfl), (fun _ h => absurd h List.not_mem_nil)⟩)⟩)⟩)⟩) (by decide +kernel)) ggX2_playYear_X2_digitAt
set_option maxRecDepth 20000 in
theorem ggX2_playYear_X3_isAlive : GoodIn wsX2_playYear wsX3_isAlive := goodIn_sub (List.forall_mem_cons.mpr ⟨(List.mem_of_getElem? (i := 17) rfl), (List.forall_mem_append.mpr ⟨(List.forall_mem_cons.mpr ⟨(List.mem_of_getElem? (i := 18) rfl), (List.forall_mem_cons.mpr ⟨(List.mem_of_getElem? (i := 19) rfl), (fun _ h => absurd h List.not_mem_nil)⟩)⟩), (fun _ h => (List.mem_cons_of_mem _ (List.mem_append_left _ (List.mem_append_right _ h))))⟩)⟩) gw_wsX3_isAlive
set_option maxRecDepth 20000 in
theorem gX2_playYear_X3_isAlive : GoodIn wsX2_playYear (wsV RX2 69 RX3 yX3_isAlive wsX3_isAlive) := goodIn_app (goodIn_sub (List.forall_mem_cons.mpr ⟨(List.mem_of_getElem? (i := 13) rfl), (List.forall_mem_cons.mpr ⟨(List.mem_of_getElem? (i := 14) rfl), (List.forall_mem_cons.mpr ⟨(List.mem_of_getElem? (i := 15) rfl), (List.forall_mem_cons.mpr ⟨(List.mem_of_getElem? (i := 16) rfl), (fun _ h => absurd h List.not_mem_nil)⟩)⟩)⟩)⟩) (by decide +kernel)) ggX2_playYear_X3_isAlive
set_option maxRecDepth 20000 in
theorem gw_wsX3_holds : wsX3_holds.all goodWord = true := by decide +kernel
set_option maxRecDepth 20000 in
theorem ggX2_playYear_X3_holds : GoodIn wsX2_playYear wsX3_holds := goodIn_sub (List.forall_mem_cons.mpr ⟨(List.mem_of_getElem? (i := 22) rfl), (fun _ h => absurd h List.not_mem_nil)⟩) gw_wsX3_holds
set_option maxRecDepth 20000 in
theorem gX2_playYear_X3_holds : GoodIn wsX2_playYear (va_wsS RX2 75 yX3_holds wsX3_holds) := goodIn_app (goodIn_sub (List.forall_mem_cons.mpr ⟨(List.mem_of_getElem? (i := 20) rfl), (List.forall_mem_cons.mpr ⟨(List.mem_of_getElem? (i := 21) rfl), (List.forall_mem_cons.mpr ⟨(List.mem_of_getElem? (i := 16) rfl), (fun _ h => absurd h List.not_mem_nil)⟩)⟩)⟩) (by decide +kernel)) ggX2_playYear_X3_holds
set_option maxRecDepth 20000 in
theorem gw_wsX3_passYear : wsX3_passYear.all goodWord = true := by decide +kernel
set_option maxRecDepth 20000 in
theorem ggX2_playYear_X3_passYear : GoodIn wsX2_playYear wsX3_passYear := goodIn_sub (List.forall_mem_cons.mpr ⟨(List.mem_of_getElem? (i := 26) rfl), (List.forall_mem_append.mpr ⟨(List.forall_mem_append.mpr ⟨(List.forall_mem_cons.mpr ⟨(List.mem_of_getElem? (i := 19) rfl), (List.forall_mem_cons.mpr ⟨(List.mem_of_getElem? (i := 27) rfl), (List.forall_mem_cons.mpr ⟨(List.mem_of_getElem? (i := 28) rfl), (List.forall_mem_cons.mpr ⟨(List.mem_of_getElem? (i := 29) rfl), (List.forall_mem_cons.mpr ⟨(List.mem_of_getElem? (i := 30) rfl), (List.forall_mem_cons.mpr ⟨(List.mem_of_getElem? (i := 31) rfl), (List.forall_mem_cons.mpr ⟨(List.mem_of_getElem? (i := 16) rfl), (List.forall_mem_cons.mpr ⟨(List.mem_of_getElem? (i := 32) rfl), (List.forall_mem_cons.mpr ⟨(List.mem_of_getElem? (i := 33) rfl), (List.forall_mem_cons.mpr ⟨(List.mem_of_getElem? (i := 21) rfl), (List.forall_mem_cons.mpr ⟨(List.mem_of_getElem? (i := 22) rfl), (List.forall_mem_cons.mpr ⟨(List.mem_of_getElem? (i := 34) rfl), (List.forall_mem_cons.mpr ⟨(List.mem_of_getElem? (i := 35) rfl), (List.forall_mem_cons.mpr ⟨(List.mem_of_getElem? (i := 36) rfl), (List.forall_mem_cons.mpr ⟨(List.mem_of_getElem? (i := 37) rfl), (List.forall_mem_cons.mpr ⟨(List.mem_of_getElem? (i := 38) rfl), (List.forall_mem_cons.mpr ⟨(List.mem_of_getElem? (i := 14) rfl), (List.forall_mem_cons.mpr ⟨(List.mem_of_getElem? (i := 15) rfl), (List.forall_mem_cons.mpr ⟨(List.mem_of_getElem? (i := 17) rfl), (List.forall_mem_cons.mpr ⟨(List.mem_of_getElem? (i := 18) rfl), (List.forall_mem_cons.mpr ⟨(List.mem_of_getElem? (i := 39) rfl), (List.forall_mem_cons.mpr ⟨(List.mem_of_getElem? (i := 40) rfl), (List.forall_mem_cons.mpr ⟨(List.mem_of_getElem? (i := 41) rfl), (List.forall_mem_cons.mpr ⟨(List.mem_of_getElem? (i := 42) rfl), (fun _ h => absurd h List.not_mem_nil)⟩)⟩)⟩)⟩)⟩)⟩)⟩)⟩)⟩)⟩)⟩)⟩)⟩)⟩)⟩)⟩)⟩)⟩)⟩)⟩)⟩)⟩)⟩)⟩), (List.forall_mem_cons.mpr ⟨(List.mem_of_getElem? (i := 43) rfl), (List.forall_mem_cons.mpr ⟨(List.mem_of_getElem? (i := 44) rfl), (List.forall_mem_cons.mpr ⟨(List.mem_of_getElem? (i := 45) rfl), (List.forall_mem_cons.mpr ⟨(List.mem_of_getElem? (i := 46) rfl), (List.forall_mem_cons.mpr ⟨(List.mem_of_getElem? (i := 47) rfl), (List.forall_mem_cons.mpr ⟨(List.mem_of_getElem? (i := 48) rfl), (List.forall_mem_cons.mpr ⟨(List.mem_of_getElem? (i := 49) rfl), (List.forall_mem_cons.mpr ⟨(List.mem_of_getElem? (i := 50) rfl), (List.forall_mem_cons.mpr ⟨(List.mem_of_getElem? (i := 51) rfl), (List.forall_mem_cons.mpr ⟨(List.mem_of_getElem? (i := 52) rfl), (List.forall_mem_cons.mpr ⟨(List.mem_of_getElem? (i := 53) rfl), (List.forall_mem_cons.mpr ⟨(List.mem_of_getElem? (i := 54) rfl), (List.forall_mem_cons.mpr ⟨(List.mem_of_getElem? (i := 55) rfl), (List.forall_mem_cons.mpr ⟨(List.mem_of_getElem? (i := 56) rfl), (List.forall_mem_cons.mpr ⟨(List.mem_of_getElem? (i := 57) rfl), (List.forall_mem_cons.mpr ⟨(List.mem_of_getElem? (i := 58) rfl), (List.forall_mem_cons.mpr ⟨(List.mem_of_getElem? (i := 59) rfl), (List.forall_mem_cons.mpr ⟨(List.mem_of_getElem? (i := 60) rfl), (List.forall_mem_cons.mpr ⟨(List.mem_of_getElem? (i := 61) rfl), (List.forall_mem_cons.mpr ⟨(List.mem_of_getElem? (i := 62) rfl), (fun _ h => absurd h List.not_mem_nil)⟩)⟩)⟩)⟩)⟩)⟩)⟩)⟩)⟩)⟩)⟩)⟩)⟩)⟩)⟩)⟩)⟩)⟩)⟩)⟩)⟩), (fun _ h => (List.mem_cons_of_mem _ (List.mem_append_left _ (List.mem_append_right _ h))))⟩)⟩) gw_wsX3_passYear
set_option maxRecDepth 20000 in
theorem gX2_playYear_X3_passYear : GoodIn wsX2_playYear (wsV RX2 81 RX3 yX3_passYear wsX3_passYear) := goodIn_app (goodIn_sub (List.forall_mem_cons.mpr ⟨(List.mem_of_getElem? (i := 23) rfl), (List.forall_mem_cons.mpr ⟨(List.mem_of_getElem? (i := 24) rfl), (List.forall_mem_cons.mpr ⟨(List.mem_of_getElem? (i := 25) rfl), (List.forall_mem_cons.mpr ⟨(List.mem_of_getElem? (i := 16) rfl), (fun _ h => absurd h List.not_mem_nil)⟩)⟩)⟩)⟩) (by decide +kernel)) ggX2_playYear_X3_passYear
def dtX2_playYear_t0 : List (Nat × Instr × Nat) := [(0, .iconst 0, 1), (1, .istore 4, 2), (3, .iload_n 2, 1), (4, .iconst 1, 1), (5, .iadd, 1), (6, .istore 5, 2), (8, .iload 5, 2), (10, .iload_n 3, 1), (11, .if_icmp .ge 47, 3), (14, .aload_n 0, 1), (15, .iload 5, 2), (17, .invokevirtual 56, 3), (20, .istore 6, 2), (22, .aload_n 1, 1), (23, .iload 6, 2), (25, .invokevirtual 69, 3), (28, .ifCond .eq 13, 3), (31, .iload 4, 2), (33, .iload 6, 2), (35, .invokestatic 75, 3)]
theorem daX2_playYear_t0 : dtX2_playYear_t0.all (dck cX2_playYear) = true := by decide +kernel
theorem dX2_playYear_0 : decode cX2_playYear 0 = .ok (.iconst 0, 1) := dck_get daX2_playYear_t0 0 rfl
theorem dX2_playYear_1 : decode cX2_playYear 1 = .ok (.istore 4, 2) := dck_get daX2_playYear_t0 1 rfl
theorem dX2_playYear_3 : decode cX2_playYear 3 = .ok (.iload_n 2, 1) := dck_get daX2_playYear_t0 2 rfl
theorem dX2_playYear_4 : decode cX2_playYear 4 = .ok (.iconst 1, 1) := dck_get daX2_playYear_t0 3 rfl
theorem dX2_playYear_5 : decode cX2_playYear 5 = .ok (.iadd, 1) := dck_get daX2_playYear_t0 4 rfl
theorem dX2_playYear_6 : decode cX2_playYear 6 = .ok (.istore 5, 2) := dck_get daX2_playYear_t0 5 rfl
theorem dX2_playYear_8 : decode cX2_playYear 8 = .ok (.iload 5, 2) := dck_get daX2_playYear_t0 6 rfl
theorem dX2_playYear_10 : decode cX2_playYear 10 = .ok (.iload_n 3, 1) := dck_get daX2_playYear_t0 7 rfl
theorem dX2_playYear_11 : decode cX2_playYear 11 = .ok (.if_icmp .ge 47, 3) := dck_get daX2_playYear_t0 8 rfl
theorem dX2_playYear_14 : decode cX2_playYear 14 = .ok (.aload_n 0, 1) := dck_get daX2_playYear_t0 9 rfl
theorem dX2_playYear_15 : decode cX2_playYear 15 = .ok (.iload 5, 2) := dck_get daX2_playYear_t0 10 rfl
theorem dX2_playYear_17 : decode cX2_playYear 17 = .ok (.invokevirtual 56, 3) := dck_get daX2_playYear_t0 11 rfl
theorem dX2_playYear_20 : decode cX2_playYear 20 = .ok (.istore 6, 2) := dck_get daX2_playYear_t0 12 rfl
theorem dX2_playYear_22 : decode cX2_playYear 22 = .ok (.aload_n 1, 1) := dck_get daX2_playYear_t0 13 rfl
theorem dX2_playYear_23 : decode cX2_playYear 23 = .ok (.iload 6, 2) := dck_get daX2_playYear_t0 14 rfl
theorem dX2_playYear_25 : decode cX2_playYear 25 = .ok (.invokevirtual 69, 3) := dck_get daX2_playYear_t0 15 rfl
theorem dX2_playYear_28 : decode cX2_playYear 28 = .ok (.ifCond .eq 13, 3) := dck_get daX2_playYear_t0 16 rfl
theorem dX2_playYear_31 : decode cX2_playYear 31 = .ok (.iload 4, 2) := dck_get daX2_playYear_t0 17 rfl
theorem dX2_playYear_33 : decode cX2_playYear 33 = .ok (.iload 6, 2) := dck_get daX2_playYear_t0 18 rfl
theorem dX2_playYear_35 : decode cX2_playYear 35 = .ok (.invokestatic 75, 3) := dck_get daX2_playYear_t0 19 rfl
def dtX2_playYear_t1 : List (Nat × Instr × Nat) := [(38, .ifCond .eq 5, 3), (41, .iconst 0, 1), (42, .ireturn, 1), (43, .iload 4, 2), (45, .iconst 1, 1), (46, .iload 6, 2), (48, .ishl, 1), (49, .ior, 1), (50, .istore 4, 2), (52, .iinc 5 1, 3), (55, .goto (-47), 3), (58, .aload_n 1, 1), (59, .getfield 78, 3), (62, .bipush 99, 2), (64, .if_icmp .lt 5, 3), (67, .iconst 0, 1), (68, .ireturn, 1), (69, .aload_n 1, 1), (70, .iload 4, 2), (72, .invokevirtual 81, 3)]
theorem daX2_playYear_t1 : dtX2_playYear_t1.all (dck cX2_playYear) = true := by decide +kernel
theorem dX2_playYear_38 : decode cX2_playYear 38 = .ok (.ifCond .eq 5, 3) := dck_get daX2_playYear_t1 0 rfl
theorem dX2_playYear_41 : decode cX2_playYear 41 = .ok (.iconst 0, 1) := dck_get daX2_playYear_t1 1 rfl
theorem dX2_playYear_42 : decode cX2_playYear 42 = .ok (.ireturn, 1) := dck_get daX2_playYear_t1 2 rfl
theorem dX2_playYear_43 : decode cX2_playYear 43 = .ok (.iload 4, 2) := dck_get daX2_playYear_t1 3 rfl
theorem dX2_playYear_45 : decode cX2_playYear 45 = .ok (.iconst 1, 1) := dck_get daX2_playYear_t1 4 rfl
theorem dX2_playYear_46 : decode cX2_playYear 46 = .ok (.iload 6, 2) := dck_get daX2_playYear_t1 5 rfl
theorem dX2_playYear_48 : decode cX2_playYear 48 = .ok (.ishl, 1) := dck_get daX2_playYear_t1 6 rfl
theorem dX2_playYear_49 : decode cX2_playYear 49 = .ok (.ior, 1) := dck_get daX2_playYear_t1 7 rfl
theorem dX2_playYear_50 : decode cX2_playYear 50 = .ok (.istore 4, 2) := dck_get daX2_playYear_t1 8 rfl
theorem dX2_playYear_52 : decode cX2_playYear 52 = .ok (.iinc 5 1, 3) := dck_get daX2_playYear_t1 9 rfl
theorem dX2_playYear_55 : decode cX2_playYear 55 = .ok (.goto (-47), 3) := dck_get daX2_playYear_t1 10 rfl
theorem dX2_playYear_58 : decode cX2_playYear 58 = .ok (.aload_n 1, 1) := dck_get daX2_playYear_t1 11 rfl
theorem dX2_playYear_59 : decode cX2_playYear 59 = .ok (.getfield 78, 3) := dck_get daX2_playYear_t1 12 rfl
theorem dX2_playYear_62 : decode cX2_playYear 62 = .ok (.bipush 99, 2) := dck_get daX2_playYear_t1 13 rfl
theorem dX2_playYear_64 : decode cX2_playYear 64 = .ok (.if_icmp .lt 5, 3) := dck_get daX2_playYear_t1 14 rfl
theorem dX2_playYear_67 : decode cX2_playYear 67 = .ok (.iconst 0, 1) := dck_get daX2_playYear_t1 15 rfl
theorem dX2_playYear_68 : decode cX2_playYear 68 = .ok (.ireturn, 1) := dck_get daX2_playYear_t1 16 rfl
theorem dX2_playYear_69 : decode cX2_playYear 69 = .ok (.aload_n 1, 1) := dck_get daX2_playYear_t1 17 rfl
theorem dX2_playYear_70 : decode cX2_playYear 70 = .ok (.iload 4, 2) := dck_get daX2_playYear_t1 18 rfl
theorem dX2_playYear_72 : decode cX2_playYear 72 = .ok (.invokevirtual 81, 3) := dck_get daX2_playYear_t1 19 rfl
def dtX2_playYear_t2 : List (Nat × Instr × Nat) := [(75, .pop, 1), (76, .iconst 1, 1), (77, .ireturn, 1)]
theorem daX2_playYear_t2 : dtX2_playYear_t2.all (dck cX2_playYear) = true := by decide +kernel
theorem dX2_playYear_75 : decode cX2_playYear 75 = .ok (.pop, 1) := dck_get daX2_playYear_t2 0 rfl
theorem dX2_playYear_76 : decode cX2_playYear 76 = .ok (.iconst 1, 1) := dck_get daX2_playYear_t2 1 rfl
theorem dX2_playYear_77 : decode cX2_playYear 77 = .ok (.ireturn, 1) := dck_get daX2_playYear_t2 2 rfl
def dtX2_letterAt_t0 : List (Nat × Instr × Nat) := [(0, .iload_n 1, 1), (1, .ifCond .lt 26, 3), (4, .iload_n 1, 1), (5, .aload_n 0, 1), (6, .getfield 15, 3), (9, .if_icmp .ge 18, 3), (12, .iload_n 1, 1), (13, .bipush 80, 2), (15, .if_icmp .ge 12, 3), (18, .aload_n 0, 1), (19, .getfield 9, 3), (22, .iload_n 1, 1), (23, .iaload, 1), (24, .goto 4, 3), (27, .iconst (-1), 1), (28, .ireturn, 1)]
theorem daX2_letterAt_t0 : dtX2_letterAt_t0.all (dck cX2_letterAt) = true := by decide +kernel
theorem dX2_letterAt_0 : decode cX2_letterAt 0 = .ok (.iload_n 1, 1) := dck_get daX2_letterAt_t0 0 rfl
theorem dX2_letterAt_1 : decode cX2_letterAt 1 = .ok (.ifCond .lt 26, 3) := dck_get daX2_letterAt_t0 1 rfl
theorem dX2_letterAt_4 : decode cX2_letterAt 4 = .ok (.iload_n 1, 1) := dck_get daX2_letterAt_t0 2 rfl
theorem dX2_letterAt_5 : decode cX2_letterAt 5 = .ok (.aload_n 0, 1) := dck_get daX2_letterAt_t0 3 rfl
theorem dX2_letterAt_6 : decode cX2_letterAt 6 = .ok (.getfield 15, 3) := dck_get daX2_letterAt_t0 4 rfl
theorem dX2_letterAt_9 : decode cX2_letterAt 9 = .ok (.if_icmp .ge 18, 3) := dck_get daX2_letterAt_t0 5 rfl
theorem dX2_letterAt_12 : decode cX2_letterAt 12 = .ok (.iload_n 1, 1) := dck_get daX2_letterAt_t0 6 rfl
theorem dX2_letterAt_13 : decode cX2_letterAt 13 = .ok (.bipush 80, 2) := dck_get daX2_letterAt_t0 7 rfl
theorem dX2_letterAt_15 : decode cX2_letterAt 15 = .ok (.if_icmp .ge 12, 3) := dck_get daX2_letterAt_t0 8 rfl
theorem dX2_letterAt_18 : decode cX2_letterAt 18 = .ok (.aload_n 0, 1) := dck_get daX2_letterAt_t0 9 rfl
theorem dX2_letterAt_19 : decode cX2_letterAt 19 = .ok (.getfield 9, 3) := dck_get daX2_letterAt_t0 10 rfl
theorem dX2_letterAt_22 : decode cX2_letterAt 22 = .ok (.iload_n 1, 1) := dck_get daX2_letterAt_t0 11 rfl
theorem dX2_letterAt_23 : decode cX2_letterAt 23 = .ok (.iaload, 1) := dck_get daX2_letterAt_t0 12 rfl
theorem dX2_letterAt_24 : decode cX2_letterAt 24 = .ok (.goto 4, 3) := dck_get daX2_letterAt_t0 13 rfl
theorem dX2_letterAt_27 : decode cX2_letterAt 27 = .ok (.iconst (-1), 1) := dck_get daX2_letterAt_t0 14 rfl
theorem dX2_letterAt_28 : decode cX2_letterAt 28 = .ok (.ireturn, 1) := dck_get daX2_letterAt_t0 15 rfl
set_option maxRecDepth 20000 in
theorem ggX2_digitAt_X2_letterAt : GoodIn wsX2_digitAt wsX2_letterAt := goodIn_sub (List.forall_mem_cons.mpr ⟨(List.mem_of_getElem? (i := 5) rfl), (List.forall_mem_append.mpr ⟨(List.forall_mem_cons.mpr ⟨(List.mem_of_getElem? (i := 6) rfl), (List.forall_mem_cons.mpr ⟨(List.mem_of_getElem? (i := 7) rfl), (fun _ h => absurd h List.not_mem_nil)⟩)⟩), (fun _ h => (List.mem_cons_of_mem _ (List.mem_append_right _ h)))⟩)⟩) gw_wsX2_letterAt
set_option maxRecDepth 20000 in
theorem gX2_digitAt_X2_letterAt : GoodIn wsX2_digitAt (wsV RX2 19 RX2 yX2_letterAt wsX2_letterAt) := goodIn_app (goodIn_sub (List.forall_mem_cons.mpr ⟨(List.mem_of_getElem? (i := 1) rfl), (List.forall_mem_cons.mpr ⟨(List.mem_of_getElem? (i := 2) rfl), (List.forall_mem_cons.mpr ⟨(List.mem_of_getElem? (i := 3) rfl), (List.forall_mem_cons.mpr ⟨(List.mem_of_getElem? (i := 4) rfl), (fun _ h => absurd h List.not_mem_nil)⟩)⟩)⟩)⟩) (by decide +kernel)) ggX2_digitAt_X2_letterAt
def dtX2_digitAt_t0 : List (Nat × Instr × Nat) := [(0, .aload_n 0, 1), (1, .iload_n 1, 1), (2, .invokevirtual 19, 3), (5, .bipush 48, 2), (7, .isub, 1), (8, .ireturn, 1)]
theorem daX2_digitAt_t0 : dtX2_digitAt_t0.all (dck cX2_digitAt) = true := by decide +kernel
theorem dX2_digitAt_0 : decode cX2_digitAt 0 = .ok (.aload_n 0, 1) := dck_get daX2_digitAt_t0 0 rfl
theorem dX2_digitAt_1 : decode cX2_digitAt 1 = .ok (.iload_n 1, 1) := dck_get daX2_digitAt_t0 1 rfl
theorem dX2_digitAt_2 : decode cX2_digitAt 2 = .ok (.invokevirtual 19, 3) := dck_get daX2_digitAt_t0 2 rfl
theorem dX2_digitAt_5 : decode cX2_digitAt 5 = .ok (.bipush 48, 2) := dck_get daX2_digitAt_t0 3 rfl
theorem dX2_digitAt_7 : decode cX2_digitAt 7 = .ok (.isub, 1) := dck_get daX2_digitAt_t0 4 rfl
theorem dX2_digitAt_8 : decode cX2_digitAt 8 = .ok (.ireturn, 1) := dck_get daX2_digitAt_t0 5 rfl
def dtX2_isDigit_t0 : List (Nat × Instr × Nat) := [(0, .iload_n 0, 1), (1, .bipush 48, 2), (3, .if_icmp .lt 13, 3), (6, .iload_n 0, 1), (7, .bipush 57, 2), (9, .if_icmp .gt 7, 3), (12, .iconst 1, 1), (13, .goto 4, 3), (16, .iconst 0, 1), (17, .ireturn, 1)]
theorem daX2_isDigit_t0 : dtX2_isDigit_t0.all (dck cX2_isDigit) = true := by decide +kernel
theorem dX2_isDigit_0 : decode cX2_isDigit 0 = .ok (.iload_n 0, 1) := dck_get daX2_isDigit_t0 0 rfl
theorem dX2_isDigit_1 : decode cX2_isDigit 1 = .ok (.bipush 48, 2) := dck_get daX2_isDigit_t0 1 rfl
theorem dX2_isDigit_3 : decode cX2_isDigit 3 = .ok (.if_icmp .lt 13, 3) := dck_get daX2_isDigit_t0 2 rfl
theorem dX2_isDigit_6 : decode cX2_isDigit 6 = .ok (.iload_n 0, 1) := dck_get daX2_isDigit_t0 3 rfl
theorem dX2_isDigit_7 : decode cX2_isDigit 7 = .ok (.bipush 57, 2) := dck_get daX2_isDigit_t0 4 rfl
theorem dX2_isDigit_9 : decode cX2_isDigit 9 = .ok (.if_icmp .gt 7, 3) := dck_get daX2_isDigit_t0 5 rfl
theorem dX2_isDigit_12 : decode cX2_isDigit 12 = .ok (.iconst 1, 1) := dck_get daX2_isDigit_t0 6 rfl
theorem dX2_isDigit_13 : decode cX2_isDigit 13 = .ok (.goto 4, 3) := dck_get daX2_isDigit_t0 7 rfl
theorem dX2_isDigit_16 : decode cX2_isDigit 16 = .ok (.iconst 0, 1) := dck_get daX2_isDigit_t0 8 rfl
theorem dX2_isDigit_17 : decode cX2_isDigit 17 = .ok (.ireturn, 1) := dck_get daX2_isDigit_t0 9 rfl
def dtX3_init_t0 : List (Nat × Instr × Nat) := [(0, .aload_n 0, 1), (1, .invokespecial 3, 3), (4, .aload_n 0, 1), (5, .bipush 8, 2), (7, .newarray .int, 2), (9, .putfield 9, 3), (12, .aload_n 0, 1), (13, .bipush 8, 2), (15, .newarray .int, 2), (17, .putfield 15, 3), (20, .aload_n 0, 1), (21, .bipush 8, 2), (23, .newarray .int, 2), (25, .putfield 18, 3), (28, .aload_n 0, 1), (29, .bipush 8, 2), (31, .newarray .int, 2), (33, .putfield 21, 3), (36, .aload_n 0, 1), (37, .bipush 8, 2)]
theorem daX3_init_t0 : dtX3_init_t0.all (dck cX3_init) = true := by decide +kernel
theorem dX3_init_0 : decode cX3_init 0 = .ok (.aload_n 0, 1) := dck_get daX3_init_t0 0 rfl
theorem dX3_init_1 : decode cX3_init 1 = .ok (.invokespecial 3, 3) := dck_get daX3_init_t0 1 rfl
theorem dX3_init_4 : decode cX3_init 4 = .ok (.aload_n 0, 1) := dck_get daX3_init_t0 2 rfl
theorem dX3_init_5 : decode cX3_init 5 = .ok (.bipush 8, 2) := dck_get daX3_init_t0 3 rfl
theorem dX3_init_7 : decode cX3_init 7 = .ok (.newarray .int, 2) := dck_get daX3_init_t0 4 rfl
theorem dX3_init_9 : decode cX3_init 9 = .ok (.putfield 9, 3) := dck_get daX3_init_t0 5 rfl
theorem dX3_init_12 : decode cX3_init 12 = .ok (.aload_n 0, 1) := dck_get daX3_init_t0 6 rfl
theorem dX3_init_13 : decode cX3_init 13 = .ok (.bipush 8, 2) := dck_get daX3_init_t0 7 rfl
theorem dX3_init_15 : decode cX3_init 15 = .ok (.newarray .int, 2) := dck_get daX3_init_t0 8 rfl
theorem dX3_init_17 : decode cX3_init 17 = .ok (.putfield 15, 3) := dck_get daX3_init_t0 9 rfl
theorem dX3_init_20 : decode cX3_init 20 = .ok (.aload_n 0, 1) := dck_get daX3_init_t0 10 rfl
theorem dX3_init_21 : decode cX3_init 21 = .ok (.bipush 8, 2) := dck_get daX3_init_t0 11 rfl
theorem dX3_init_23 : decode cX3_init 23 = .ok (.newarray .int, 2) := dck_get daX3_init_t0 12 rfl
theorem dX3_init_25 : decode cX3_init 25 = .ok (.putfield 18, 3) := dck_get daX3_init_t0 13 rfl
theorem dX3_init_28 : decode cX3_init 28 = .ok (.aload_n 0, 1) := dck_get daX3_init_t0 14 rfl
theorem dX3_init_29 : decode cX3_init 29 = .ok (.bipush 8, 2) := dck_get daX3_init_t0 15 rfl
theorem dX3_init_31 : decode cX3_init 31 = .ok (.newarray .int, 2) := dck_get daX3_init_t0 16 rfl
theorem dX3_init_33 : decode cX3_init 33 = .ok (.putfield 21, 3) := dck_get daX3_init_t0 17 rfl
theorem dX3_init_36 : decode cX3_init 36 = .ok (.aload_n 0, 1) := dck_get daX3_init_t0 18 rfl
theorem dX3_init_37 : decode cX3_init 37 = .ok (.bipush 8, 2) := dck_get daX3_init_t0 19 rfl
def dtX3_init_t1 : List (Nat × Instr × Nat) := [(39, .newarray .int, 2), (41, .putfield 24, 3), (44, .return_, 1)]
theorem daX3_init_t1 : dtX3_init_t1.all (dck cX3_init) = true := by decide +kernel
theorem dX3_init_39 : decode cX3_init 39 = .ok (.newarray .int, 2) := dck_get daX3_init_t1 0 rfl
theorem dX3_init_41 : decode cX3_init 41 = .ok (.putfield 24, 3) := dck_get daX3_init_t1 1 rfl
theorem dX3_init_44 : decode cX3_init 44 = .ok (.return_, 1) := dck_get daX3_init_t1 2 rfl
def dtX3_becomeLike_t0 : List (Nat × Instr × Nat) := [(0, .iconst 0, 1), (1, .istore_n 2, 1), (2, .iload_n 2, 1), (3, .bipush 8, 2), (5, .if_icmp .ge 69, 3), (8, .aload_n 0, 1), (9, .getfield 9, 3), (12, .iload_n 2, 1), (13, .aload_n 1, 1), (14, .getfield 9, 3), (17, .iload_n 2, 1), (18, .iaload, 1), (19, .iastore, 1), (20, .aload_n 0, 1), (21, .getfield 15, 3), (24, .iload_n 2, 1), (25, .aload_n 1, 1), (26, .getfield 15, 3), (29, .iload_n 2, 1), (30, .iaload, 1)]
theorem daX3_becomeLike_t0 : dtX3_becomeLike_t0.all (dck cX3_becomeLike) = true := by decide +kernel
theorem dX3_becomeLike_0 : decode cX3_becomeLike 0 = .ok (.iconst 0, 1) := dck_get daX3_becomeLike_t0 0 rfl
theorem dX3_becomeLike_1 : decode cX3_becomeLike 1 = .ok (.istore_n 2, 1) := dck_get daX3_becomeLike_t0 1 rfl
theorem dX3_becomeLike_2 : decode cX3_becomeLike 2 = .ok (.iload_n 2, 1) := dck_get daX3_becomeLike_t0 2 rfl
theorem dX3_becomeLike_3 : decode cX3_becomeLike 3 = .ok (.bipush 8, 2) := dck_get daX3_becomeLike_t0 3 rfl
theorem dX3_becomeLike_5 : decode cX3_becomeLike 5 = .ok (.if_icmp .ge 69, 3) := dck_get daX3_becomeLike_t0 4 rfl
theorem dX3_becomeLike_8 : decode cX3_becomeLike 8 = .ok (.aload_n 0, 1) := dck_get daX3_becomeLike_t0 5 rfl
theorem dX3_becomeLike_9 : decode cX3_becomeLike 9 = .ok (.getfield 9, 3) := dck_get daX3_becomeLike_t0 6 rfl
theorem dX3_becomeLike_12 : decode cX3_becomeLike 12 = .ok (.iload_n 2, 1) := dck_get daX3_becomeLike_t0 7 rfl
theorem dX3_becomeLike_13 : decode cX3_becomeLike 13 = .ok (.aload_n 1, 1) := dck_get daX3_becomeLike_t0 8 rfl
theorem dX3_becomeLike_14 : decode cX3_becomeLike 14 = .ok (.getfield 9, 3) := dck_get daX3_becomeLike_t0 9 rfl
theorem dX3_becomeLike_17 : decode cX3_becomeLike 17 = .ok (.iload_n 2, 1) := dck_get daX3_becomeLike_t0 10 rfl
theorem dX3_becomeLike_18 : decode cX3_becomeLike 18 = .ok (.iaload, 1) := dck_get daX3_becomeLike_t0 11 rfl
theorem dX3_becomeLike_19 : decode cX3_becomeLike 19 = .ok (.iastore, 1) := dck_get daX3_becomeLike_t0 12 rfl
theorem dX3_becomeLike_20 : decode cX3_becomeLike 20 = .ok (.aload_n 0, 1) := dck_get daX3_becomeLike_t0 13 rfl
theorem dX3_becomeLike_21 : decode cX3_becomeLike 21 = .ok (.getfield 15, 3) := dck_get daX3_becomeLike_t0 14 rfl
theorem dX3_becomeLike_24 : decode cX3_becomeLike 24 = .ok (.iload_n 2, 1) := dck_get daX3_becomeLike_t0 15 rfl
theorem dX3_becomeLike_25 : decode cX3_becomeLike 25 = .ok (.aload_n 1, 1) := dck_get daX3_becomeLike_t0 16 rfl
theorem dX3_becomeLike_26 : decode cX3_becomeLike 26 = .ok (.getfield 15, 3) := dck_get daX3_becomeLike_t0 17 rfl
theorem dX3_becomeLike_29 : decode cX3_becomeLike 29 = .ok (.iload_n 2, 1) := dck_get daX3_becomeLike_t0 18 rfl
theorem dX3_becomeLike_30 : decode cX3_becomeLike 30 = .ok (.iaload, 1) := dck_get daX3_becomeLike_t0 19 rfl
def dtX3_becomeLike_t1 : List (Nat × Instr × Nat) := [(31, .iastore, 1), (32, .aload_n 0, 1), (33, .getfield 18, 3), (36, .iload_n 2, 1), (37, .aload_n 1, 1), (38, .getfield 18, 3), (41, .iload_n 2, 1), (42, .iaload, 1), (43, .iastore, 1), (44, .aload_n 0, 1), (45, .getfield 21, 3), (48, .iload_n 2, 1), (49, .aload_n 1, 1), (50, .getfield 21, 3), (53, .iload_n 2, 1), (54, .iaload, 1), (55, .iastore, 1), (56, .aload_n 0, 1), (57, .getfield 24, 3), (60, .iload_n 2, 1)]
theorem daX3_becomeLike_t1 : dtX3_becomeLike_t1.all (dck cX3_becomeLike) = true := by decide +kernel
theorem dX3_becomeLike_31 : decode cX3_becomeLike 31 = .ok (.iastore, 1) := dck_get daX3_becomeLike_t1 0 rfl
theorem dX3_becomeLike_32 : decode cX3_becomeLike 32 = .ok (.aload_n 0, 1) := dck_get daX3_becomeLike_t1 1 rfl
theorem dX3_becomeLike_33 : decode cX3_becomeLike 33 = .ok (.getfield 18, 3) := dck_get daX3_becomeLike_t1 2 rfl
theorem dX3_becomeLike_36 : decode cX3_becomeLike 36 = .ok (.iload_n 2, 1) := dck_get daX3_becomeLike_t1 3 rfl
theorem dX3_becomeLike_37 : decode cX3_becomeLike 37 = .ok (.aload_n 1, 1) := dck_get daX3_becomeLike_t1 4 rfl
theorem dX3_becomeLike_38 : decode cX3_becomeLike 38 = .ok (.getfield 18, 3) := dck_get daX3_becomeLike_t1 5 rfl
theorem dX3_becomeLike_41 : decode cX3_becomeLike 41 = .ok (.iload_n 2, 1) := dck_get daX3_becomeLike_t1 6 rfl
theorem dX3_becomeLike_42 : decode cX3_becomeLike 42 = .ok (.iaload, 1) := dck_get daX3_becomeLike_t1 7 rfl
theorem dX3_becomeLike_43 : decode cX3_becomeLike 43 = .ok (.iastore, 1) := dck_get daX3_becomeLike_t1 8 rfl
theorem dX3_becomeLike_44 : decode cX3_becomeLike 44 = .ok (.aload_n 0, 1) := dck_get daX3_becomeLike_t1 9 rfl
theorem dX3_becomeLike_45 : decode cX3_becomeLike 45 = .ok (.getfield 21, 3) := dck_get daX3_becomeLike_t1 10 rfl
theorem dX3_becomeLike_48 : decode cX3_becomeLike 48 = .ok (.iload_n 2, 1) := dck_get daX3_becomeLike_t1 11 rfl
theorem dX3_becomeLike_49 : decode cX3_becomeLike 49 = .ok (.aload_n 1, 1) := dck_get daX3_becomeLike_t1 12 rfl
theorem dX3_becomeLike_50 : decode cX3_becomeLike 50 = .ok (.getfield 21, 3) := dck_get daX3_becomeLike_t1 13 rfl
theorem dX3_becomeLike_53 : decode cX3_becomeLike 53 = .ok (.iload_n 2, 1) := dck_get daX3_becomeLike_t1 14 rfl
theorem dX3_becomeLike_54 : decode cX3_becomeLike 54 = .ok (.iaload, 1) := dck_get daX3_becomeLike_t1 15 rfl
theorem dX3_becomeLike_55 : decode cX3_becomeLike 55 = .ok (.iastore, 1) := dck_get daX3_becomeLike_t1 16 rfl
theorem dX3_becomeLike_56 : decode cX3_becomeLike 56 = .ok (.aload_n 0, 1) := dck_get daX3_becomeLike_t1 17 rfl
theorem dX3_becomeLike_57 : decode cX3_becomeLike 57 = .ok (.getfield 24, 3) := dck_get daX3_becomeLike_t1 18 rfl
theorem dX3_becomeLike_60 : decode cX3_becomeLike 60 = .ok (.iload_n 2, 1) := dck_get daX3_becomeLike_t1 19 rfl
def dtX3_becomeLike_t2 : List (Nat × Instr × Nat) := [(61, .aload_n 1, 1), (62, .getfield 24, 3), (65, .iload_n 2, 1), (66, .iaload, 1), (67, .iastore, 1), (68, .iinc 2 1, 3), (71, .goto (-69), 3), (74, .aload_n 0, 1), (75, .aload_n 1, 1), (76, .getfield 27, 3), (79, .putfield 27, 3), (82, .aload_n 0, 1), (83, .aload_n 1, 1), (84, .getfield 31, 3), (87, .putfield 31, 3), (90, .return_, 1)]
theorem daX3_becomeLike_t2 : dtX3_becomeLike_t2.all (dck cX3_becomeLike) = true := by decide +kernel
theorem dX3_becomeLike_61 : decode cX3_becomeLike 61 = .ok (.aload_n 1, 1) := dck_get daX3_becomeLike_t2 0 rfl
theorem dX3_becomeLike_62 : decode cX3_becomeLike 62 = .ok (.getfield 24, 3) := dck_get daX3_becomeLike_t2 1 rfl
theorem dX3_becomeLike_65 : decode cX3_becomeLike 65 = .ok (.iload_n 2, 1) := dck_get daX3_becomeLike_t2 2 rfl
theorem dX3_becomeLike_66 : decode cX3_becomeLike 66 = .ok (.iaload, 1) := dck_get daX3_becomeLike_t2 3 rfl
theorem dX3_becomeLike_67 : decode cX3_becomeLike 67 = .ok (.iastore, 1) := dck_get daX3_becomeLike_t2 4 rfl
theorem dX3_becomeLike_68 : decode cX3_becomeLike 68 = .ok (.iinc 2 1, 3) := dck_get daX3_becomeLike_t2 5 rfl
theorem dX3_becomeLike_71 : decode cX3_becomeLike 71 = .ok (.goto (-69), 3) := dck_get daX3_becomeLike_t2 6 rfl
theorem dX3_becomeLike_74 : decode cX3_becomeLike 74 = .ok (.aload_n 0, 1) := dck_get daX3_becomeLike_t2 7 rfl
theorem dX3_becomeLike_75 : decode cX3_becomeLike 75 = .ok (.aload_n 1, 1) := dck_get daX3_becomeLike_t2 8 rfl
theorem dX3_becomeLike_76 : decode cX3_becomeLike 76 = .ok (.getfield 27, 3) := dck_get daX3_becomeLike_t2 9 rfl
theorem dX3_becomeLike_79 : decode cX3_becomeLike 79 = .ok (.putfield 27, 3) := dck_get daX3_becomeLike_t2 10 rfl
theorem dX3_becomeLike_82 : decode cX3_becomeLike 82 = .ok (.aload_n 0, 1) := dck_get daX3_becomeLike_t2 11 rfl
theorem dX3_becomeLike_83 : decode cX3_becomeLike 83 = .ok (.aload_n 1, 1) := dck_get daX3_becomeLike_t2 12 rfl
theorem dX3_becomeLike_84 : decode cX3_becomeLike 84 = .ok (.getfield 31, 3) := dck_get daX3_becomeLike_t2 13 rfl
theorem dX3_becomeLike_87 : decode cX3_becomeLike 87 = .ok (.putfield 31, 3) := dck_get daX3_becomeLike_t2 14 rfl
theorem dX3_becomeLike_90 : decode cX3_becomeLike 90 = .ok (.return_, 1) := dck_get daX3_becomeLike_t2 15 rfl
def dtX3_isFull_t0 : List (Nat × Instr × Nat) := [(0, .aload_n 0, 1), (1, .getfield 27, 3), (4, .bipush 8, 2), (6, .if_icmp .lt 7, 3), (9, .iconst 1, 1), (10, .goto 4, 3), (13, .iconst 0, 1), (14, .ireturn, 1)]
theorem daX3_isFull_t0 : dtX3_isFull_t0.all (dck cX3_isFull) = true := by decide +kernel
theorem dX3_isFull_0 : decode cX3_isFull 0 = .ok (.aload_n 0, 1) := dck_get daX3_isFull_t0 0 rfl
theorem dX3_isFull_1 : decode cX3_isFull 1 = .ok (.getfield 27, 3) := dck_get daX3_isFull_t0 1 rfl
theorem dX3_isFull_4 : decode cX3_isFull 4 = .ok (.bipush 8, 2) := dck_get daX3_isFull_t0 2 rfl
theorem dX3_isFull_6 : decode cX3_isFull 6 = .ok (.if_icmp .lt 7, 3) := dck_get daX3_isFull_t0 3 rfl
theorem dX3_isFull_9 : decode cX3_isFull 9 = .ok (.iconst 1, 1) := dck_get daX3_isFull_t0 4 rfl
theorem dX3_isFull_10 : decode cX3_isFull 10 = .ok (.goto 4, 3) := dck_get daX3_isFull_t0 5 rfl
theorem dX3_isFull_13 : decode cX3_isFull 13 = .ok (.iconst 0, 1) := dck_get daX3_isFull_t0 6 rfl
theorem dX3_isFull_14 : decode cX3_isFull 14 = .ok (.ireturn, 1) := dck_get daX3_isFull_t0 7 rfl
def dtX3_isAlive_t0 : List (Nat × Instr × Nat) := [(0, .iload_n 1, 1), (1, .ifCond .lt 31, 3), (4, .iload_n 1, 1), (5, .bipush 8, 2), (7, .if_icmp .ge 25, 3), (10, .iload_n 1, 1), (11, .aload_n 0, 1), (12, .getfield 27, 3), (15, .if_icmp .ge 17, 3), (18, .aload_n 0, 1), (19, .getfield 18, 3), (22, .iload_n 1, 1), (23, .iaload, 1), (24, .iconst (-1), 1), (25, .if_icmp .eq 7, 3), (28, .iconst 1, 1), (29, .goto 4, 3), (32, .iconst 0, 1), (33, .ireturn, 1)]
theorem daX3_isAlive_t0 : dtX3_isAlive_t0.all (dck cX3_isAlive) = true := by decide +kernel
theorem dX3_isAlive_0 : decode cX3_isAlive 0 = .ok (.iload_n 1, 1) := dck_get daX3_isAlive_t0 0 rfl
theorem dX3_isAlive_1 : decode cX3_isAlive 1 = .ok (.ifCond .lt 31, 3) := dck_get daX3_isAlive_t0 1 rfl
theorem dX3_isAlive_4 : decode cX3_isAlive 4 = .ok (.iload_n 1, 1) := dck_get daX3_isAlive_t0 2 rfl
theorem dX3_isAlive_5 : decode cX3_isAlive 5 = .ok (.bipush 8, 2) := dck_get daX3_isAlive_t0 3 rfl
theorem dX3_isAlive_7 : decode cX3_isAlive 7 = .ok (.if_icmp .ge 25, 3) := dck_get daX3_isAlive_t0 4 rfl
theorem dX3_isAlive_10 : decode cX3_isAlive 10 = .ok (.iload_n 1, 1) := dck_get daX3_isAlive_t0 5 rfl
theorem dX3_isAlive_11 : decode cX3_isAlive 11 = .ok (.aload_n 0, 1) := dck_get daX3_isAlive_t0 6 rfl
theorem dX3_isAlive_12 : decode cX3_isAlive 12 = .ok (.getfield 27, 3) := dck_get daX3_isAlive_t0 7 rfl
theorem dX3_isAlive_15 : decode cX3_isAlive 15 = .ok (.if_icmp .ge 17, 3) := dck_get daX3_isAlive_t0 8 rfl
theorem dX3_isAlive_18 : decode cX3_isAlive 18 = .ok (.aload_n 0, 1) := dck_get daX3_isAlive_t0 9 rfl
theorem dX3_isAlive_19 : decode cX3_isAlive 19 = .ok (.getfield 18, 3) := dck_get daX3_isAlive_t0 10 rfl
theorem dX3_isAlive_22 : decode cX3_isAlive 22 = .ok (.iload_n 1, 1) := dck_get daX3_isAlive_t0 11 rfl
theorem dX3_isAlive_23 : decode cX3_isAlive 23 = .ok (.iaload, 1) := dck_get daX3_isAlive_t0 12 rfl
theorem dX3_isAlive_24 : decode cX3_isAlive 24 = .ok (.iconst (-1), 1) := dck_get daX3_isAlive_t0 13 rfl
theorem dX3_isAlive_25 : decode cX3_isAlive 25 = .ok (.if_icmp .eq 7, 3) := dck_get daX3_isAlive_t0 14 rfl
theorem dX3_isAlive_28 : decode cX3_isAlive 28 = .ok (.iconst 1, 1) := dck_get daX3_isAlive_t0 15 rfl
theorem dX3_isAlive_29 : decode cX3_isAlive 29 = .ok (.goto 4, 3) := dck_get daX3_isAlive_t0 16 rfl
theorem dX3_isAlive_32 : decode cX3_isAlive 32 = .ok (.iconst 0, 1) := dck_get daX3_isAlive_t0 17 rfl
theorem dX3_isAlive_33 : decode cX3_isAlive 33 = .ok (.ireturn, 1) := dck_get daX3_isAlive_t0 18 rfl
set_option maxRecDepth 20000 in
theorem gw_wsX3_living : wsX3_living.all goodWord = true := by decide +kernel
set_option maxRecDepth 20000 in
theorem ggX3_areAlive_X3_living : GoodIn wsX3_areAlive wsX3_living := goodIn_sub (List.forall_mem_cons.mpr ⟨(List.mem_of_getElem? (i := 5) rfl), (List.forall_mem_append.mpr ⟨(List.forall_mem_cons.mpr ⟨(List.mem_of_getElem? (i := 6) rfl), (List.forall_mem_cons.mpr ⟨(List.mem_of_getElem? (i := 7) rfl), (List.forall_mem_cons.mpr ⟨(List.mem_of_getElem? (i := 8) rfl), (List.forall_mem_cons.mpr ⟨(List.mem_of_getElem? (i := 4) rfl), (List.forall_mem_cons.mpr ⟨(List.mem_of_getElem? (i := 9) rfl), (List.forall_mem_cons.mpr ⟨(List.mem_of_getElem? (i := 10) rfl), (List.forall_mem_cons.mpr ⟨(List.mem_of_getElem? (i := 11) rfl), (fun _ h => absurd h List.not_mem_nil)⟩)⟩)⟩)⟩)⟩)⟩)⟩), (fun _ h => (List.mem_cons_of_mem _ (List.mem_append_right _ h)))⟩)⟩) gw_wsX3_living
set_option maxRecDepth 20000 in
theorem gX3_areAlive_X3_living : GoodIn wsX3_areAlive (wsV RX3 34 RX3 yX3_living wsX3_living) := goodIn_app (goodIn_sub (List.forall_mem_cons.mpr ⟨(List.mem_of_getElem? (i := 1) rfl), (List.forall_mem_cons.mpr ⟨(List.mem_of_getElem? (i := 2) rfl), (List.forall_mem_cons.mpr ⟨(List.mem_of_getElem? (i := 3) rfl), (List.forall_mem_cons.mpr ⟨(List.mem_of_getElem? (i := 4) rfl), (fun _ h => absurd h List.not_mem_nil)⟩)⟩)⟩)⟩) (by decide +kernel)) ggX3_areAlive_X3_living
def dtX3_areAlive_t0 : List (Nat × Instr × Nat) := [(0, .iload_n 1, 1), (1, .aload_n 0, 1), (2, .invokevirtual 34, 3), (5, .iconst (-1), 1), (6, .ixor, 1), (7, .iand, 1), (8, .ifCond .ne 7, 3), (11, .iconst 1, 1), (12, .goto 4, 3), (15, .iconst 0, 1), (16, .ireturn, 1)]
theorem daX3_areAlive_t0 : dtX3_areAlive_t0.all (dck cX3_areAlive) = true := by decide +kernel
theorem dX3_areAlive_0 : decode cX3_areAlive 0 = .ok (.iload_n 1, 1) := dck_get daX3_areAlive_t0 0 rfl
theorem dX3_areAlive_1 : decode cX3_areAlive 1 = .ok (.aload_n 0, 1) := dck_get daX3_areAlive_t0 1 rfl
theorem dX3_areAlive_2 : decode cX3_areAlive 2 = .ok (.invokevirtual 34, 3) := dck_get daX3_areAlive_t0 2 rfl
theorem dX3_areAlive_5 : decode cX3_areAlive 5 = .ok (.iconst (-1), 1) := dck_get daX3_areAlive_t0 3 rfl
theorem dX3_areAlive_6 : decode cX3_areAlive 6 = .ok (.ixor, 1) := dck_get daX3_areAlive_t0 4 rfl
theorem dX3_areAlive_7 : decode cX3_areAlive 7 = .ok (.iand, 1) := dck_get daX3_areAlive_t0 5 rfl
theorem dX3_areAlive_8 : decode cX3_areAlive 8 = .ok (.ifCond .ne 7, 3) := dck_get daX3_areAlive_t0 6 rfl
theorem dX3_areAlive_11 : decode cX3_areAlive 11 = .ok (.iconst 1, 1) := dck_get daX3_areAlive_t0 7 rfl
theorem dX3_areAlive_12 : decode cX3_areAlive 12 = .ok (.goto 4, 3) := dck_get daX3_areAlive_t0 8 rfl
theorem dX3_areAlive_15 : decode cX3_areAlive 15 = .ok (.iconst 0, 1) := dck_get daX3_areAlive_t0 9 rfl
theorem dX3_areAlive_16 : decode cX3_areAlive 16 = .ok (.ireturn, 1) := dck_get daX3_areAlive_t0 10 rfl
set_option maxRecDepth 20000 in
theorem ggX3_living_X3_isAlive : GoodIn wsX3_living wsX3_isAlive := goodIn_sub (List.forall_mem_cons.mpr ⟨(List.mem_of_getElem? (i := 5) rfl), (List.forall_mem_append.mpr ⟨(List.forall_mem_cons.mpr ⟨(List.mem_of_getElem? (i := 6) rfl), (List.forall_mem_cons.mpr ⟨(List.mem_of_getElem? (i := 7) rfl), (fun _ h => absurd h List.not_mem_nil)⟩)⟩), (fun _ h => (List.mem_cons_of_mem _ (List.mem_append_right _ h)))⟩)⟩) gw_wsX3_isAlive
set_option maxRecDepth 20000 in
theorem gX3_living_X3_isAlive : GoodIn wsX3_living (wsV RX3 38 RX3 yX3_isAlive wsX3_isAlive) := goodIn_app (goodIn_sub (List.forall_mem_cons.mpr ⟨(List.mem_of_getElem? (i := 1) rfl), (List.forall_mem_cons.mpr ⟨(List.mem_of_getElem? (i := 2) rfl), (List.forall_mem_cons.mpr ⟨(List.mem_of_getElem? (i := 3) rfl), (List.forall_mem_cons.mpr ⟨(List.mem_of_getElem? (i := 4) rfl), (fun _ h => absurd h List.not_mem_nil)⟩)⟩)⟩)⟩) (by decide +kernel)) ggX3_living_X3_isAlive
def dtX3_living_t0 : List (Nat × Instr × Nat) := [(0, .iconst 0, 1), (1, .istore_n 1, 1), (2, .iconst 0, 1), (3, .istore_n 2, 1), (4, .iload_n 2, 1), (5, .bipush 8, 2), (7, .if_icmp .ge 23, 3), (10, .aload_n 0, 1), (11, .iload_n 2, 1), (12, .invokevirtual 38, 3), (15, .ifCond .eq 9, 3), (18, .iload_n 1, 1), (19, .iconst 1, 1), (20, .iload_n 2, 1), (21, .ishl, 1), (22, .ior, 1), (23, .istore_n 1, 1), (24, .iinc 2 1, 3), (27, .goto (-23), 3), (30, .iload_n 1, 1)]
theorem daX3_living_t0 : dtX3_living_t0.all (dck cX3_living) = true := by decide +kernel
theorem dX3_living_0 : decode cX3_living 0 = .ok (.iconst 0, 1) := dck_get daX3_living_t0 0 rfl
theorem dX3_living_1 : decode cX3_living 1 = .ok (.istore_n 1, 1) := dck_get daX3_living_t0 1 rfl
theorem dX3_living_2 : decode cX3_living 2 = .ok (.iconst 0, 1) := dck_get daX3_living_t0 2 rfl
theorem dX3_living_3 : decode cX3_living 3 = .ok (.istore_n 2, 1) := dck_get daX3_living_t0 3 rfl
theorem dX3_living_4 : decode cX3_living 4 = .ok (.iload_n 2, 1) := dck_get daX3_living_t0 4 rfl
theorem dX3_living_5 : decode cX3_living 5 = .ok (.bipush 8, 2) := dck_get daX3_living_t0 5 rfl
theorem dX3_living_7 : decode cX3_living 7 = .ok (.if_icmp .ge 23, 3) := dck_get daX3_living_t0 6 rfl
theorem dX3_living_10 : decode cX3_living 10 = .ok (.aload_n 0, 1) := dck_get daX3_living_t0 7 rfl
theorem dX3_living_11 : decode cX3_living 11 = .ok (.iload_n 2, 1) := dck_get daX3_living_t0 8 rfl
theorem dX3_living_12 : decode cX3_living 12 = .ok (.invokevirtual 38, 3) := dck_get daX3_living_t0 9 rfl
theorem dX3_living_15 : decode cX3_living 15 = .ok (.ifCond .eq 9, 3) := dck_get daX3_living_t0 10 rfl
theorem dX3_living_18 : decode cX3_living 18 = .ok (.iload_n 1, 1) := dck_get daX3_living_t0 11 rfl
theorem dX3_living_19 : decode cX3_living 19 = .ok (.iconst 1, 1) := dck_get daX3_living_t0 12 rfl
theorem dX3_living_20 : decode cX3_living 20 = .ok (.iload_n 2, 1) := dck_get daX3_living_t0 13 rfl
theorem dX3_living_21 : decode cX3_living 21 = .ok (.ishl, 1) := dck_get daX3_living_t0 14 rfl
theorem dX3_living_22 : decode cX3_living 22 = .ok (.ior, 1) := dck_get daX3_living_t0 15 rfl
theorem dX3_living_23 : decode cX3_living 23 = .ok (.istore_n 1, 1) := dck_get daX3_living_t0 16 rfl
theorem dX3_living_24 : decode cX3_living 24 = .ok (.iinc 2 1, 3) := dck_get daX3_living_t0 17 rfl
theorem dX3_living_27 : decode cX3_living 27 = .ok (.goto (-23), 3) := dck_get daX3_living_t0 18 rfl
theorem dX3_living_30 : decode cX3_living 30 = .ok (.iload_n 1, 1) := dck_get daX3_living_t0 19 rfl
def dtX3_living_t1 : List (Nat × Instr × Nat) := [(31, .ireturn, 1)]
theorem daX3_living_t1 : dtX3_living_t1.all (dck cX3_living) = true := by decide +kernel
theorem dX3_living_31 : decode cX3_living 31 = .ok (.ireturn, 1) := dck_get daX3_living_t1 0 rfl
set_option maxRecDepth 20000 in
theorem ggX3_whoLivesOn_X3_isAlive : GoodIn wsX3_whoLivesOn wsX3_isAlive := goodIn_sub (List.forall_mem_cons.mpr ⟨(List.mem_of_getElem? (i := 6) rfl), (List.forall_mem_append.mpr ⟨(List.forall_mem_cons.mpr ⟨(List.mem_of_getElem? (i := 7) rfl), (List.forall_mem_cons.mpr ⟨(List.mem_of_getElem? (i := 1) rfl), (fun _ h => absurd h List.not_mem_nil)⟩)⟩), (fun _ h => (List.mem_cons_of_mem _ (List.mem_append_right _ h)))⟩)⟩) gw_wsX3_isAlive
set_option maxRecDepth 20000 in
theorem gX3_whoLivesOn_X3_isAlive : GoodIn wsX3_whoLivesOn (wsV RX3 38 RX3 yX3_isAlive wsX3_isAlive) := goodIn_app (goodIn_sub (List.forall_mem_cons.mpr ⟨(List.mem_of_getElem? (i := 2) rfl), (List.forall_mem_cons.mpr ⟨(List.mem_of_getElem? (i := 3) rfl), (List.forall_mem_cons.mpr ⟨(List.mem_of_getElem? (i := 4) rfl), (List.forall_mem_cons.mpr ⟨(List.mem_of_getElem? (i := 5) rfl), (fun _ h => absurd h List.not_mem_nil)⟩)⟩)⟩)⟩) (by decide +kernel)) ggX3_whoLivesOn_X3_isAlive
def dtX3_whoLivesOn_t0 : List (Nat × Instr × Nat) := [(0, .iconst 0, 1), (1, .istore_n 2, 1), (2, .iload_n 2, 1), (3, .bipush 8, 2), (5, .if_icmp .ge 29, 3), (8, .aload_n 0, 1), (9, .iload_n 2, 1), (10, .invokevirtual 38, 3), (13, .ifCond .eq 15, 3), (16, .aload_n 0, 1), (17, .getfield 18, 3), (20, .iload_n 2, 1), (21, .iaload, 1), (22, .iload_n 1, 1), (23, .if_icmp .ne 5, 3), (26, .iload_n 2, 1), (27, .ireturn, 1), (28, .iinc 2 1, 3), (31, .goto (-29), 3), (34, .iconst (-1), 1)]
theorem daX3_whoLivesOn_t0 : dtX3_whoLivesOn_t0.all (dck cX3_whoLivesOn) = true := by decide +kernel
theorem dX3_whoLivesOn_0 : decode cX3_whoLivesOn 0 = .ok (.iconst 0, 1) := dck_get daX3_whoLivesOn_t0 0 rfl
theorem dX3_whoLivesOn_1 : decode cX3_whoLivesOn 1 = .ok (.istore_n 2, 1) := dck_get daX3_whoLivesOn_t0 1 rfl
theorem dX3_whoLivesOn_2 : decode cX3_whoLivesOn 2 = .ok (.iload_n 2, 1) := dck_get daX3_whoLivesOn_t0 2 rfl
theorem dX3_whoLivesOn_3 : decode cX3_whoLivesOn 3 = .ok (.bipush 8, 2) := dck_get daX3_whoLivesOn_t0 3 rfl
theorem dX3_whoLivesOn_5 : decode cX3_whoLivesOn 5 = .ok (.if_icmp .ge 29, 3) := dck_get daX3_whoLivesOn_t0 4 rfl
theorem dX3_whoLivesOn_8 : decode cX3_whoLivesOn 8 = .ok (.aload_n 0, 1) := dck_get daX3_whoLivesOn_t0 5 rfl
theorem dX3_whoLivesOn_9 : decode cX3_whoLivesOn 9 = .ok (.iload_n 2, 1) := dck_get daX3_whoLivesOn_t0 6 rfl
theorem dX3_whoLivesOn_10 : decode cX3_whoLivesOn 10 = .ok (.invokevirtual 38, 3) := dck_get daX3_whoLivesOn_t0 7 rfl
theorem dX3_whoLivesOn_13 : decode cX3_whoLivesOn 13 = .ok (.ifCond .eq 15, 3) := dck_get daX3_whoLivesOn_t0 8 rfl
theorem dX3_whoLivesOn_16 : decode cX3_whoLivesOn 16 = .ok (.aload_n 0, 1) := dck_get daX3_whoLivesOn_t0 9 rfl
theorem dX3_whoLivesOn_17 : decode cX3_whoLivesOn 17 = .ok (.getfield 18, 3) := dck_get daX3_whoLivesOn_t0 10 rfl
theorem dX3_whoLivesOn_20 : decode cX3_whoLivesOn 20 = .ok (.iload_n 2, 1) := dck_get daX3_whoLivesOn_t0 11 rfl
theorem dX3_whoLivesOn_21 : decode cX3_whoLivesOn 21 = .ok (.iaload, 1) := dck_get daX3_whoLivesOn_t0 12 rfl
theorem dX3_whoLivesOn_22 : decode cX3_whoLivesOn 22 = .ok (.iload_n 1, 1) := dck_get daX3_whoLivesOn_t0 13 rfl
theorem dX3_whoLivesOn_23 : decode cX3_whoLivesOn 23 = .ok (.if_icmp .ne 5, 3) := dck_get daX3_whoLivesOn_t0 14 rfl
theorem dX3_whoLivesOn_26 : decode cX3_whoLivesOn 26 = .ok (.iload_n 2, 1) := dck_get daX3_whoLivesOn_t0 15 rfl
theorem dX3_whoLivesOn_27 : decode cX3_whoLivesOn 27 = .ok (.ireturn, 1) := dck_get daX3_whoLivesOn_t0 16 rfl
theorem dX3_whoLivesOn_28 : decode cX3_whoLivesOn 28 = .ok (.iinc 2 1, 3) := dck_get daX3_whoLivesOn_t0 17 rfl
theorem dX3_whoLivesOn_31 : decode cX3_whoLivesOn 31 = .ok (.goto (-29), 3) := dck_get daX3_whoLivesOn_t0 18 rfl
theorem dX3_whoLivesOn_34 : decode cX3_whoLivesOn 34 = .ok (.iconst (-1), 1) := dck_get daX3_whoLivesOn_t0 19 rfl
def dtX3_whoLivesOn_t1 : List (Nat × Instr × Nat) := [(35, .ireturn, 1)]
theorem daX3_whoLivesOn_t1 : dtX3_whoLivesOn_t1.all (dck cX3_whoLivesOn) = true := by decide +kernel
theorem dX3_whoLivesOn_35 : decode cX3_whoLivesOn 35 = .ok (.ireturn, 1) := dck_get daX3_whoLivesOn_t1 0 rfl
set_option maxRecDepth 20000 in
theorem ggX3_sumOfLiving_X3_isAlive : GoodIn wsX3_sumOfLiving wsX3_isAlive := goodIn_sub (List.forall_mem_cons.mpr ⟨(List.mem_of_getElem? (i := 5) rfl), (List.forall_mem_append.mpr ⟨(List.forall_mem_cons.mpr ⟨(List.mem_of_getElem? (i := 6) rfl), (List.forall_mem_cons.mpr ⟨(List.mem_of_getElem? (i := 7) rfl), (fun _ h => absurd h List.not_mem_nil)⟩)⟩), (fun _ h => (List.mem_cons_of_mem _ (List.mem_append_right _ h)))⟩)⟩) gw_wsX3_isAlive
set_option maxRecDepth 20000 in
theorem gX3_sumOfLiving_X3_isAlive : GoodIn wsX3_sumOfLiving (wsV RX3 38 RX3 yX3_isAlive wsX3_isAlive) := goodIn_app (goodIn_sub (List.forall_mem_cons.mpr ⟨(List.mem_of_getElem? (i := 1) rfl), (List.forall_mem_cons.mpr ⟨(List.mem_of_getElem? (i := 2) rfl), (List.forall_mem_cons.mpr ⟨(List.mem_of_getElem? (i := 3) rfl), (List.forall_mem_cons.mpr ⟨(List.mem_of_getElem? (i := 4) rfl), (fun _ h => absurd h List.not_mem_nil)⟩)⟩)⟩)⟩) (by decide +kernel)) ggX3_sumOfLiving_X3_isAlive
def dtX3_sumOfLiving_t0 : List (Nat × Instr × Nat) := [(0, .iconst 0, 1), (1, .istore_n 2, 1), (2, .iconst 0, 1), (3, .istore_n 3, 1), (4, .iload_n 3, 1), (5, .bipush 8, 2), (7, .if_icmp .ge 29, 3), (10, .iload_n 3, 1), (11, .aload_n 1, 1), (12, .arraylength, 1), (13, .if_icmp .ge 23, 3), (16, .aload_n 0, 1), (17, .iload_n 3, 1), (18, .invokevirtual 38, 3), (21, .ifCond .eq 9, 3), (24, .iload_n 2, 1), (25, .aload_n 1, 1), (26, .iload_n 3, 1), (27, .iaload, 1), (28, .iadd, 1)]
theorem daX3_sumOfLiving_t0 : dtX3_sumOfLiving_t0.all (dck cX3_sumOfLiving) = true := by decide +kernel
theorem dX3_sumOfLiving_0 : decode cX3_sumOfLiving 0 = .ok (.iconst 0, 1) := dck_get daX3_sumOfLiving_t0 0 rfl
theorem dX3_sumOfLiving_1 : decode cX3_sumOfLiving 1 = .ok (.istore_n 2, 1) := dck_get daX3_sumOfLiving_t0 1 rfl
theorem dX3_sumOfLiving_2 : decode cX3_sumOfLiving 2 = .ok (.iconst 0, 1) := dck_get daX3_sumOfLiving_t0 2 rfl
theorem dX3_sumOfLiving_3 : decode cX3_sumOfLiving 3 = .ok (.istore_n 3, 1) := dck_get daX3_sumOfLiving_t0 3 rfl
theorem dX3_sumOfLiving_4 : decode cX3_sumOfLiving 4 = .ok (.iload_n 3, 1) := dck_get daX3_sumOfLiving_t0 4 rfl
theorem dX3_sumOfLiving_5 : decode cX3_sumOfLiving 5 = .ok (.bipush 8, 2) := dck_get daX3_sumOfLiving_t0 5 rfl
theorem dX3_sumOfLiving_7 : decode cX3_sumOfLiving 7 = .ok (.if_icmp .ge 29, 3) := dck_get daX3_sumOfLiving_t0 6 rfl
theorem dX3_sumOfLiving_10 : decode cX3_sumOfLiving 10 = .ok (.iload_n 3, 1) := dck_get daX3_sumOfLiving_t0 7 rfl
theorem dX3_sumOfLiving_11 : decode cX3_sumOfLiving 11 = .ok (.aload_n 1, 1) := dck_get daX3_sumOfLiving_t0 8 rfl
theorem dX3_sumOfLiving_12 : decode cX3_sumOfLiving 12 = .ok (.arraylength, 1) := dck_get daX3_sumOfLiving_t0 9 rfl
theorem dX3_sumOfLiving_13 : decode cX3_sumOfLiving 13 = .ok (.if_icmp .ge 23, 3) := dck_get daX3_sumOfLiving_t0 10 rfl
theorem dX3_sumOfLiving_16 : decode cX3_sumOfLiving 16 = .ok (.aload_n 0, 1) := dck_get daX3_sumOfLiving_t0 11 rfl
theorem dX3_sumOfLiving_17 : decode cX3_sumOfLiving 17 = .ok (.iload_n 3, 1) := dck_get daX3_sumOfLiving_t0 12 rfl
theorem dX3_sumOfLiving_18 : decode cX3_sumOfLiving 18 = .ok (.invokevirtual 38, 3) := dck_get daX3_sumOfLiving_t0 13 rfl
theorem dX3_sumOfLiving_21 : decode cX3_sumOfLiving 21 = .ok (.ifCond .eq 9, 3) := dck_get daX3_sumOfLiving_t0 14 rfl
theorem dX3_sumOfLiving_24 : decode cX3_sumOfLiving 24 = .ok (.iload_n 2, 1) := dck_get daX3_sumOfLiving_t0 15 rfl
theorem dX3_sumOfLiving_25 : decode cX3_sumOfLiving 25 = .ok (.aload_n 1, 1) := dck_get daX3_sumOfLiving_t0 16 rfl
theorem dX3_sumOfLiving_26 : decode cX3_sumOfLiving 26 = .ok (.iload_n 3, 1) := dck_get daX3_sumOfLiving_t0 17 rfl
theorem dX3_sumOfLiving_27 : decode cX3_sumOfLiving 27 = .ok (.iaload, 1) := dck_get daX3_sumOfLiving_t0 18 rfl
theorem dX3_sumOfLiving_28 : decode cX3_sumOfLiving 28 = .ok (.iadd, 1) := dck_get daX3_sumOfLiving_t0 19 rfl
def dtX3_sumOfLiving_t1 : List (Nat × Instr × Nat) := [(29, .istore_n 2, 1), (30, .iinc 3 1, 3), (33, .goto (-29), 3), (36, .iload_n 2, 1), (37, .ireturn, 1)]
theorem daX3_sumOfLiving_t1 : dtX3_sumOfLiving_t1.all (dck cX3_sumOfLiving) = true := by decide +kernel
theorem dX3_sumOfLiving_29 : decode cX3_sumOfLiving 29 = .ok (.istore_n 2, 1) := dck_get daX3_sumOfLiving_t1 0 rfl
theorem dX3_sumOfLiving_30 : decode cX3_sumOfLiving 30 = .ok (.iinc 3 1, 3) := dck_get daX3_sumOfLiving_t1 1 rfl
theorem dX3_sumOfLiving_33 : decode cX3_sumOfLiving 33 = .ok (.goto (-29), 3) := dck_get daX3_sumOfLiving_t1 2 rfl
theorem dX3_sumOfLiving_36 : decode cX3_sumOfLiving 36 = .ok (.iload_n 2, 1) := dck_get daX3_sumOfLiving_t1 3 rfl
theorem dX3_sumOfLiving_37 : decode cX3_sumOfLiving 37 = .ok (.ireturn, 1) := dck_get daX3_sumOfLiving_t1 4 rfl
set_option maxRecDepth 20000 in
theorem gw_wsX3_isFull : wsX3_isFull.all goodWord = true := by decide +kernel
set_option maxRecDepth 20000 in
theorem ggX3_couldComeIn_X3_isFull : GoodIn wsX3_couldComeIn wsX3_isFull := goodIn_sub (List.forall_mem_cons.mpr ⟨(List.mem_of_getElem? (i := 5) rfl), (List.forall_mem_append.mpr ⟨(List.forall_mem_cons.mpr ⟨(List.mem_of_getElem? (i := 6) rfl), (fun _ h => absurd h List.not_mem_nil)⟩), (fun _ h => (List.mem_cons_of_mem _ (List.mem_append_right _ h)))⟩)⟩) gw_wsX3_isFull
set_option maxRecDepth 20000 in
theorem gX3_couldComeIn_X3_isFull : GoodIn wsX3_couldComeIn (wsV RX3 42 RX3 yX3_isFull wsX3_isFull) := goodIn_app (goodIn_sub (List.forall_mem_cons.mpr ⟨(List.mem_of_getElem? (i := 1) rfl), (List.forall_mem_cons.mpr ⟨(List.mem_of_getElem? (i := 2) rfl), (List.forall_mem_cons.mpr ⟨(List.mem_of_getElem? (i := 3) rfl), (List.forall_mem_cons.mpr ⟨(List.mem_of_getElem? (i := 4) rfl), (fun _ h => absurd h List.not_mem_nil)⟩)⟩)⟩)⟩) (by decide +kernel)) ggX3_couldComeIn_X3_isFull
set_option maxRecDepth 20000 in
theorem gw_wsX0_entryFloor : wsX0_entryFloor.all goodWord = true := by decide +kernel
set_option maxRecDepth 20000 in
theorem ggX3_couldComeIn_X0_entryFloor : GoodIn wsX3_couldComeIn wsX0_entryFloor := goodIn_sub (List.forall_mem_cons.mpr ⟨(List.mem_of_getElem? (i := 10) rfl), (List.forall_mem_cons.mpr ⟨(List.mem_of_getElem? (i := 11) rfl), (List.forall_mem_cons.mpr ⟨(List.mem_of_getElem? (i := 12) rfl), (List.forall_mem_cons.mpr ⟨(List.mem_of_getElem? (i := 13) rfl), (List.forall_mem_cons.mpr ⟨(List.mem_of_getElem? (i := 14) rfl), (fun _ h => absurd h List.not_mem_nil)⟩)⟩)⟩)⟩)⟩) gw_wsX0_entryFloor
set_option maxRecDepth 20000 in
theorem gX3_couldComeIn_X0_entryFloor : GoodIn wsX3_couldComeIn (va_wsS RX3 46 yX0_entryFloor wsX0_entryFloor) := goodIn_app (goodIn_sub (List.forall_mem_cons.mpr ⟨(List.mem_of_getElem? (i := 7) rfl), (List.forall_mem_cons.mpr ⟨(List.mem_of_getElem? (i := 8) rfl), (List.forall_mem_cons.mpr ⟨(List.mem_of_getElem? (i := 9) rfl), (fun _ h => absurd h List.not_mem_nil)⟩)⟩)⟩) (by decide +kernel)) ggX3_couldComeIn_X0_entryFloor
set_option maxRecDepth 20000 in
theorem gw_wsX3_whoLivesOn : wsX3_whoLivesOn.all goodWord = true := by decide +kernel
set_option maxRecDepth 20000 in
theorem ggX3_couldComeIn_X3_whoLivesOn : GoodIn wsX3_couldComeIn wsX3_whoLivesOn := goodIn_sub (List.forall_mem_cons.mpr ⟨(List.mem_of_getElem? (i := 18) rfl), (List.forall_mem_append.mpr ⟨(List.forall_mem_cons.mpr ⟨(List.mem_of_getElem? (i := 19) rfl), (List.forall_mem_cons.mpr ⟨(List.mem_of_getElem? (i := 20) rfl), (List.forall_mem_cons.mpr ⟨(List.mem_of_getElem? (i := 21) rfl), (List.forall_mem_cons.mpr ⟨(List.mem_of_getElem? (i := 22) rfl), (List.forall_mem_cons.mpr ⟨(List.mem_of_getElem? (i := 4) rfl), (List.forall_mem_cons.mpr ⟨(List.mem_of_getElem? (i := 23) rfl), (List.forall_mem_cons.mpr ⟨(List.mem_of_getElem? (i := 6) rfl), (fun _ h => absurd h List.not_mem_nil)⟩)⟩)⟩)⟩)⟩)⟩)⟩), (fun _ h => (List.mem_cons_of_mem _ (List.mem_append_right _ h)))⟩)⟩) gw_wsX3_whoLivesOn
set_option maxRecDepth 20000 in
theorem gX3_couldComeIn_X3_whoLivesOn : GoodIn wsX3_couldComeIn (wsV RX3 52 RX3 yX3_whoLivesOn wsX3_whoLivesOn) := goodIn_app (goodIn_sub (List.forall_mem_cons.mpr ⟨(List.mem_of_getElem? (i := 15) rfl), (List.forall_mem_cons.mpr ⟨(List.mem_of_getElem? (i := 16) rfl), (List.forall_mem_cons.mpr ⟨(List.mem_of_getElem? (i := 17) rfl), (List.forall_mem_cons.mpr ⟨(List.mem_of_getElem? (i := 4) rfl), (fun _ h => absurd h List.not_mem_nil)⟩)⟩)⟩)⟩) (by decide +kernel)) ggX3_couldComeIn_X3_whoLivesOn
def dtX3_couldComeIn_t0 : List (Nat × Instr × Nat) := [(0, .aload_n 0, 1), (1, .invokevirtual 42, 3), (4, .ifCond .ne 19, 3), (7, .aload_n 0, 1), (8, .iload_n 1, 1), (9, .iload_n 2, 1), (10, .invokestatic 46, 3), (13, .invokevirtual 52, 3), (16, .ifCond .ge 7, 3), (19, .iconst 1, 1), (20, .goto 4, 3), (23, .iconst 0, 1), (24, .ireturn, 1)]
theorem daX3_couldComeIn_t0 : dtX3_couldComeIn_t0.all (dck cX3_couldComeIn) = true := by decide +kernel
theorem dX3_couldComeIn_0 : decode cX3_couldComeIn 0 = .ok (.aload_n 0, 1) := dck_get daX3_couldComeIn_t0 0 rfl
theorem dX3_couldComeIn_1 : decode cX3_couldComeIn 1 = .ok (.invokevirtual 42, 3) := dck_get daX3_couldComeIn_t0 1 rfl
theorem dX3_couldComeIn_4 : decode cX3_couldComeIn 4 = .ok (.ifCond .ne 19, 3) := dck_get daX3_couldComeIn_t0 2 rfl
theorem dX3_couldComeIn_7 : decode cX3_couldComeIn 7 = .ok (.aload_n 0, 1) := dck_get daX3_couldComeIn_t0 3 rfl
theorem dX3_couldComeIn_8 : decode cX3_couldComeIn 8 = .ok (.iload_n 1, 1) := dck_get daX3_couldComeIn_t0 4 rfl
theorem dX3_couldComeIn_9 : decode cX3_couldComeIn 9 = .ok (.iload_n 2, 1) := dck_get daX3_couldComeIn_t0 5 rfl
theorem dX3_couldComeIn_10 : decode cX3_couldComeIn 10 = .ok (.invokestatic 46, 3) := dck_get daX3_couldComeIn_t0 6 rfl
theorem dX3_couldComeIn_13 : decode cX3_couldComeIn 13 = .ok (.invokevirtual 52, 3) := dck_get daX3_couldComeIn_t0 7 rfl
theorem dX3_couldComeIn_16 : decode cX3_couldComeIn 16 = .ok (.ifCond .ge 7, 3) := dck_get daX3_couldComeIn_t0 8 rfl
theorem dX3_couldComeIn_19 : decode cX3_couldComeIn 19 = .ok (.iconst 1, 1) := dck_get daX3_couldComeIn_t0 9 rfl
theorem dX3_couldComeIn_20 : decode cX3_couldComeIn 20 = .ok (.goto 4, 3) := dck_get daX3_couldComeIn_t0 10 rfl
theorem dX3_couldComeIn_23 : decode cX3_couldComeIn 23 = .ok (.iconst 0, 1) := dck_get daX3_couldComeIn_t0 11 rfl
theorem dX3_couldComeIn_24 : decode cX3_couldComeIn 24 = .ok (.ireturn, 1) := dck_get daX3_couldComeIn_t0 12 rfl
set_option maxRecDepth 20000 in
theorem ggX3_admit_X0_entryFloor : GoodIn wsX3_admit wsX0_entryFloor := goodIn_sub (List.forall_mem_cons.mpr ⟨(List.mem_of_getElem? (i := 10) rfl), (List.forall_mem_cons.mpr ⟨(List.mem_of_getElem? (i := 11) rfl), (List.forall_mem_cons.mpr ⟨(List.mem_of_getElem? (i := 12) rfl), (List.forall_mem_cons.mpr ⟨(List.mem_of_getElem? (i := 13) rfl), (List.forall_mem_cons.mpr ⟨(List.mem_of_getElem? (i := 14) rfl), (fun _ h => absurd h List.not_mem_nil)⟩)⟩)⟩)⟩)⟩) gw_wsX0_entryFloor
set_option maxRecDepth 20000 in
theorem gX3_admit_X0_entryFloor : GoodIn wsX3_admit (va_wsS RX3 46 yX0_entryFloor wsX0_entryFloor) := goodIn_app (goodIn_sub (List.forall_mem_cons.mpr ⟨(List.mem_of_getElem? (i := 7) rfl), (List.forall_mem_cons.mpr ⟨(List.mem_of_getElem? (i := 8) rfl), (List.forall_mem_cons.mpr ⟨(List.mem_of_getElem? (i := 9) rfl), (fun _ h => absurd h List.not_mem_nil)⟩)⟩)⟩) (by decide +kernel)) ggX3_admit_X0_entryFloor
def dtX3_admit_t0 : List (Nat × Instr × Nat) := [(0, .aload_n 0, 1), (1, .getfield 27, 3), (4, .istore 4, 2), (6, .iload 4, 2), (8, .ifCond .lt 10, 3), (11, .iload 4, 2), (13, .bipush 8, 2), (15, .if_icmp .lt 5, 3), (18, .iconst (-1), 1), (19, .ireturn, 1), (20, .aload_n 0, 1), (21, .getfield 9, 3), (24, .iload 4, 2), (26, .iload_n 1, 1), (27, .iastore, 1), (28, .aload_n 0, 1), (29, .getfield 15, 3), (32, .iload 4, 2), (34, .iload_n 2, 1), (35, .iastore, 1)]
theorem daX3_admit_t0 : dtX3_admit_t0.all (dck cX3_admit) = true := by decide +kernel
theorem dX3_admit_0 : decode cX3_admit 0 = .ok (.aload_n 0, 1) := dck_get daX3_admit_t0 0 rfl
theorem dX3_admit_1 : decode cX3_admit 1 = .ok (.getfield 27, 3) := dck_get daX3_admit_t0 1 rfl
theorem dX3_admit_4 : decode cX3_admit 4 = .ok (.istore 4, 2) := dck_get daX3_admit_t0 2 rfl
theorem dX3_admit_6 : decode cX3_admit 6 = .ok (.iload 4, 2) := dck_get daX3_admit_t0 3 rfl
theorem dX3_admit_8 : decode cX3_admit 8 = .ok (.ifCond .lt 10, 3) := dck_get daX3_admit_t0 4 rfl
theorem dX3_admit_11 : decode cX3_admit 11 = .ok (.iload 4, 2) := dck_get daX3_admit_t0 5 rfl
theorem dX3_admit_13 : decode cX3_admit 13 = .ok (.bipush 8, 2) := dck_get daX3_admit_t0 6 rfl
theorem dX3_admit_15 : decode cX3_admit 15 = .ok (.if_icmp .lt 5, 3) := dck_get daX3_admit_t0 7 rfl
theorem dX3_admit_18 : decode cX3_admit 18 = .ok (.iconst (-1), 1) := dck_get daX3_admit_t0 8 rfl
theorem dX3_admit_19 : decode cX3_admit 19 = .ok (.ireturn, 1) := dck_get daX3_admit_t0 9 rfl
theorem dX3_admit_20 : decode cX3_admit 20 = .ok (.aload_n 0, 1) := dck_get daX3_admit_t0 10 rfl
theorem dX3_admit_21 : decode cX3_admit 21 = .ok (.getfield 9, 3) := dck_get daX3_admit_t0 11 rfl
theorem dX3_admit_24 : decode cX3_admit 24 = .ok (.iload 4, 2) := dck_get daX3_admit_t0 12 rfl
theorem dX3_admit_26 : decode cX3_admit 26 = .ok (.iload_n 1, 1) := dck_get daX3_admit_t0 13 rfl
theorem dX3_admit_27 : decode cX3_admit 27 = .ok (.iastore, 1) := dck_get daX3_admit_t0 14 rfl
theorem dX3_admit_28 : decode cX3_admit 28 = .ok (.aload_n 0, 1) := dck_get daX3_admit_t0 15 rfl
theorem dX3_admit_29 : decode cX3_admit 29 = .ok (.getfield 15, 3) := dck_get daX3_admit_t0 16 rfl
theorem dX3_admit_32 : decode cX3_admit 32 = .ok (.iload 4, 2) := dck_get daX3_admit_t0 17 rfl
theorem dX3_admit_34 : decode cX3_admit 34 = .ok (.iload_n 2, 1) := dck_get daX3_admit_t0 18 rfl
theorem dX3_admit_35 : decode cX3_admit 35 = .ok (.iastore, 1) := dck_get daX3_admit_t0 19 rfl
def dtX3_admit_t1 : List (Nat × Instr × Nat) := [(36, .aload_n 0, 1), (37, .getfield 18, 3), (40, .iload 4, 2), (42, .iload_n 1, 1), (43, .iload_n 2, 1), (44, .invokestatic 46, 3), (47, .iastore, 1), (48, .aload_n 0, 1), (49, .getfield 21, 3), (52, .iload 4, 2), (54, .iload_n 3, 1), (55, .iastore, 1), (56, .aload_n 0, 1), (57, .getfield 24, 3), (60, .iload 4, 2), (62, .iconst (-1), 1), (63, .iastore, 1), (64, .aload_n 0, 1), (65, .dup, 1), (66, .getfield 27, 3)]
theorem daX3_admit_t1 : dtX3_admit_t1.all (dck cX3_admit) = true := by decide +kernel
theorem dX3_admit_36 : decode cX3_admit 36 = .ok (.aload_n 0, 1) := dck_get daX3_admit_t1 0 rfl
theorem dX3_admit_37 : decode cX3_admit 37 = .ok (.getfield 18, 3) := dck_get daX3_admit_t1 1 rfl
theorem dX3_admit_40 : decode cX3_admit 40 = .ok (.iload 4, 2) := dck_get daX3_admit_t1 2 rfl
theorem dX3_admit_42 : decode cX3_admit 42 = .ok (.iload_n 1, 1) := dck_get daX3_admit_t1 3 rfl
theorem dX3_admit_43 : decode cX3_admit 43 = .ok (.iload_n 2, 1) := dck_get daX3_admit_t1 4 rfl
theorem dX3_admit_44 : decode cX3_admit 44 = .ok (.invokestatic 46, 3) := dck_get daX3_admit_t1 5 rfl
theorem dX3_admit_47 : decode cX3_admit 47 = .ok (.iastore, 1) := dck_get daX3_admit_t1 6 rfl
theorem dX3_admit_48 : decode cX3_admit 48 = .ok (.aload_n 0, 1) := dck_get daX3_admit_t1 7 rfl
theorem dX3_admit_49 : decode cX3_admit 49 = .ok (.getfield 21, 3) := dck_get daX3_admit_t1 8 rfl
theorem dX3_admit_52 : decode cX3_admit 52 = .ok (.iload 4, 2) := dck_get daX3_admit_t1 9 rfl
theorem dX3_admit_54 : decode cX3_admit 54 = .ok (.iload_n 3, 1) := dck_get daX3_admit_t1 10 rfl
theorem dX3_admit_55 : decode cX3_admit 55 = .ok (.iastore, 1) := dck_get daX3_admit_t1 11 rfl
theorem dX3_admit_56 : decode cX3_admit 56 = .ok (.aload_n 0, 1) := dck_get daX3_admit_t1 12 rfl
theorem dX3_admit_57 : decode cX3_admit 57 = .ok (.getfield 24, 3) := dck_get daX3_admit_t1 13 rfl
theorem dX3_admit_60 : decode cX3_admit 60 = .ok (.iload 4, 2) := dck_get daX3_admit_t1 14 rfl
theorem dX3_admit_62 : decode cX3_admit 62 = .ok (.iconst (-1), 1) := dck_get daX3_admit_t1 15 rfl
theorem dX3_admit_63 : decode cX3_admit 63 = .ok (.iastore, 1) := dck_get daX3_admit_t1 16 rfl
theorem dX3_admit_64 : decode cX3_admit 64 = .ok (.aload_n 0, 1) := dck_get daX3_admit_t1 17 rfl
theorem dX3_admit_65 : decode cX3_admit 65 = .ok (.dup, 1) := dck_get daX3_admit_t1 18 rfl
theorem dX3_admit_66 : decode cX3_admit 66 = .ok (.getfield 27, 3) := dck_get daX3_admit_t1 19 rfl
def dtX3_admit_t2 : List (Nat × Instr × Nat) := [(69, .iconst 1, 1), (70, .iadd, 1), (71, .putfield 27, 3), (74, .iload 4, 2), (76, .ireturn, 1)]
theorem daX3_admit_t2 : dtX3_admit_t2.all (dck cX3_admit) = true := by decide +kernel
theorem dX3_admit_69 : decode cX3_admit 69 = .ok (.iconst 1, 1) := dck_get daX3_admit_t2 0 rfl
theorem dX3_admit_70 : decode cX3_admit 70 = .ok (.iadd, 1) := dck_get daX3_admit_t2 1 rfl
theorem dX3_admit_71 : decode cX3_admit 71 = .ok (.putfield 27, 3) := dck_get daX3_admit_t2 2 rfl
theorem dX3_admit_74 : decode cX3_admit 74 = .ok (.iload 4, 2) := dck_get daX3_admit_t2 3 rfl
theorem dX3_admit_76 : decode cX3_admit 76 = .ok (.ireturn, 1) := dck_get daX3_admit_t2 4 rfl
def dtX3_wishTold_t0 : List (Nat × Instr × Nat) := [(0, .aload_n 0, 1), (1, .getfield 24, 3), (4, .iload_n 1, 1), (5, .iaload, 1), (6, .iconst (-1), 1), (7, .if_icmp .ne 8, 3), (10, .bipush (-9), 2), (12, .goto 9, 3), (15, .aload_n 0, 1), (16, .getfield 24, 3), (19, .iload_n 1, 1), (20, .iaload, 1), (21, .ireturn, 1)]
theorem daX3_wishTold_t0 : dtX3_wishTold_t0.all (dck cX3_wishTold) = true := by decide +kernel
theorem dX3_wishTold_0 : decode cX3_wishTold 0 = .ok (.aload_n 0, 1) := dck_get daX3_wishTold_t0 0 rfl
theorem dX3_wishTold_1 : decode cX3_wishTold 1 = .ok (.getfield 24, 3) := dck_get daX3_wishTold_t0 1 rfl
theorem dX3_wishTold_4 : decode cX3_wishTold 4 = .ok (.iload_n 1, 1) := dck_get daX3_wishTold_t0 2 rfl
theorem dX3_wishTold_5 : decode cX3_wishTold 5 = .ok (.iaload, 1) := dck_get daX3_wishTold_t0 3 rfl
theorem dX3_wishTold_6 : decode cX3_wishTold 6 = .ok (.iconst (-1), 1) := dck_get daX3_wishTold_t0 4 rfl
theorem dX3_wishTold_7 : decode cX3_wishTold 7 = .ok (.if_icmp .ne 8, 3) := dck_get daX3_wishTold_t0 5 rfl
theorem dX3_wishTold_10 : decode cX3_wishTold 10 = .ok (.bipush (-9), 2) := dck_get daX3_wishTold_t0 6 rfl
theorem dX3_wishTold_12 : decode cX3_wishTold 12 = .ok (.goto 9, 3) := dck_get daX3_wishTold_t0 7 rfl
