theorem dX4_carried_11 : decode cX4_carried 11 = .ok (.aload_n 0, 1) := dck_get daX4_carried_t0 5 rfl
theorem dX4_carried_12 : decode cX4_carried 12 = .ok (.iconst (-1), 1) := dck_get daX4_carried_t0 6 rfl
theorem dX4_carried_13 : decode cX4_carried 13 = .ok (.invokevirtual 43, 3) := dck_get daX4_carried_t0 7 rfl
theorem dX4_carried_16 : decode cX4_carried 16 = .ok (.ireturn, 1) := dck_get daX4_carried_t0 8 rfl
theorem dX4_carried_17 : decode cX4_carried 17 = .ok (.aload_n 0, 1) := dck_get daX4_carried_t0 9 rfl
theorem dX4_carried_18 : decode cX4_carried 18 = .ok (.getfield 10, 3) := dck_get daX4_carried_t0 10 rfl
theorem dX4_carried_21 : decode cX4_carried 21 = .ok (.iload_n 1, 1) := dck_get daX4_carried_t0 11 rfl
theorem dX4_carried_22 : decode cX4_carried 22 = .ok (.invokevirtual 151, 3) := dck_get daX4_carried_t0 12 rfl
theorem dX4_carried_25 : decode cX4_carried 25 = .ok (.ireturn, 1) := dck_get daX4_carried_t0 13 rfl
set_option maxRecDepth 20000 in
theorem ggX4_leastCarried_X3_isAlive : GoodIn wsX4_leastCarried wsX3_isAlive := goodIn_sub (List.forall_mem_cons.mpr ⟨(List.mem_of_getElem? (i := 6) rfl), (List.forall_mem_append.mpr ⟨(List.forall_mem_cons.mpr ⟨(List.mem_of_getElem? (i := 7) rfl), (List.forall_mem_cons.mpr ⟨(List.mem_of_getElem? (i := 8) rfl), (fun _ h => absurd h List.not_mem_nil)⟩)⟩), (fun _ h => (List.mem_cons_of_mem _ (List.mem_append_right _ h)))⟩)⟩) gw_wsX3_isAlive
set_option maxRecDepth 20000 in
theorem gX4_leastCarried_X3_isAlive : GoodIn wsX4_leastCarried (wsV RX4 74 RX3 yX3_isAlive wsX3_isAlive) := goodIn_app (goodIn_sub (List.forall_mem_cons.mpr ⟨(List.mem_of_getElem? (i := 2) rfl), (List.forall_mem_cons.mpr ⟨(List.mem_of_getElem? (i := 3) rfl), (List.forall_mem_cons.mpr ⟨(List.mem_of_getElem? (i := 4) rfl), (List.forall_mem_cons.mpr ⟨(List.mem_of_getElem? (i := 5) rfl), (fun _ h => absurd h List.not_mem_nil)⟩)⟩)⟩)⟩) (by decide +kernel)) ggX4_leastCarried_X3_isAlive
set_option maxRecDepth 20000 in
theorem ggX4_leastCarried_X3_burden : GoodIn wsX4_leastCarried wsX3_burden := goodIn_sub (List.forall_mem_cons.mpr ⟨(List.mem_of_getElem? (i := 12) rfl), (List.forall_mem_append.mpr ⟨(List.forall_mem_append.mpr ⟨(List.forall_mem_cons.mpr ⟨(List.mem_of_getElem? (i := 13) rfl), (List.forall_mem_cons.mpr ⟨(List.mem_of_getElem? (i := 14) rfl), (List.forall_mem_cons.mpr ⟨(List.mem_of_getElem? (i := 15) rfl), (List.forall_mem_cons.mpr ⟨(List.mem_of_getElem? (i := 16) rfl), (List.forall_mem_cons.mpr ⟨(List.mem_of_getElem? (i := 5) rfl), (List.forall_mem_cons.mpr ⟨(List.mem_of_getElem? (i := 17) rfl), (List.forall_mem_cons.mpr ⟨(List.mem_of_getElem? (i := 8) rfl), (List.forall_mem_cons.mpr ⟨(List.mem_of_getElem? (i := 18) rfl), (List.forall_mem_cons.mpr ⟨(List.mem_of_getElem? (i := 19) rfl), (List.forall_mem_cons.mpr ⟨(List.mem_of_getElem? (i := 20) rfl), (List.forall_mem_cons.mpr ⟨(List.mem_of_getElem? (i := 21) rfl), (List.forall_mem_cons.mpr ⟨(List.mem_of_getElem? (i := 3) rfl), (List.forall_mem_cons.mpr ⟨(List.mem_of_getElem? (i := 4) rfl), (List.forall_mem_cons.mpr ⟨(List.mem_of_getElem? (i := 6) rfl), (List.forall_mem_cons.mpr ⟨(List.mem_of_getElem? (i := 7) rfl), (List.forall_mem_cons.mpr ⟨(List.mem_of_getElem? (i := 22) rfl), (List.forall_mem_cons.mpr ⟨(List.mem_of_getElem? (i := 23) rfl), (List.forall_mem_cons.mpr ⟨(List.mem_of_getElem? (i := 24) rfl), (List.forall_mem_cons.mpr ⟨(List.mem_of_getElem? (i := 25) rfl), (List.forall_mem_cons.mpr ⟨(List.mem_of_getElem? (i := 26) rfl), (List.forall_mem_cons.mpr ⟨(List.mem_of_getElem? (i := 27) rfl), (List.forall_mem_cons.mpr ⟨(List.mem_of_getElem? (i := 28) rfl), (List.forall_mem_cons.mpr ⟨(List.mem_of_getElem? (i := 29) rfl), (List.forall_mem_cons.mpr ⟨(List.mem_of_getElem? (i := 30) rfl), (fun _ h => absurd h List.not_mem_nil)⟩)⟩)⟩)⟩)⟩)⟩)⟩)⟩)⟩)⟩)⟩)⟩)⟩)⟩)⟩)⟩)⟩)⟩)⟩)⟩)⟩)⟩)⟩)⟩), (List.forall_mem_cons.mpr ⟨(List.mem_of_getElem? (i := 31) rfl), (List.forall_mem_cons.mpr ⟨(List.mem_of_getElem? (i := 32) rfl), (List.forall_mem_cons.mpr ⟨(List.mem_of_getElem? (i := 33) rfl), (List.forall_mem_cons.mpr ⟨(List.mem_of_getElem? (i := 34) rfl), (List.forall_mem_cons.mpr ⟨(List.mem_of_getElem? (i := 35) rfl), (List.forall_mem_cons.mpr ⟨(List.mem_of_getElem? (i := 36) rfl), (List.forall_mem_cons.mpr ⟨(List.mem_of_getElem? (i := 37) rfl), (fun _ h => absurd h List.not_mem_nil)⟩)⟩)⟩)⟩)⟩)⟩)⟩)⟩), (fun _ h => (List.mem_cons_of_mem _ (List.mem_append_right _ h)))⟩)⟩) gw_wsX3_burden
set_option maxRecDepth 20000 in
theorem gX4_leastCarried_X3_burden : GoodIn wsX4_leastCarried (wsV RX4 151 RX3 yX3_burden wsX3_burden) := goodIn_app (goodIn_sub (List.forall_mem_cons.mpr ⟨(List.mem_of_getElem? (i := 9) rfl), (List.forall_mem_cons.mpr ⟨(List.mem_of_getElem? (i := 10) rfl), (List.forall_mem_cons.mpr ⟨(List.mem_of_getElem? (i := 11) rfl), (List.forall_mem_cons.mpr ⟨(List.mem_of_getElem? (i := 5) rfl), (fun _ h => absurd h List.not_mem_nil)⟩)⟩)⟩)⟩) (by decide +kernel)) ggX4_leastCarried_X3_burden
def dtX4_leastCarried_t0 : List (Nat × Instr × Nat) := [(0, .bipush (-9), 2), (2, .istore_n 1, 1), (3, .iconst 0, 1), (4, .istore_n 2, 1), (5, .iconst 0, 1), (6, .istore_n 3, 1), (7, .iload_n 3, 1), (8, .bipush 8, 2), (10, .if_icmp .ge 52, 3), (13, .aload_n 0, 1), (14, .getfield 10, 3), (17, .iload_n 3, 1), (18, .invokevirtual 74, 3), (21, .ifCond .ne 6, 3), (24, .goto 32, 3), (27, .aload_n 0, 1), (28, .getfield 10, 3), (31, .iconst 1, 1), (32, .iload_n 3, 1), (33, .ishl, 1)]
theorem daX4_leastCarried_t0 : dtX4_leastCarried_t0.all (dck cX4_leastCarried) = true := by decide +kernel
theorem dX4_leastCarried_0 : decode cX4_leastCarried 0 = .ok (.bipush (-9), 2) := dck_get daX4_leastCarried_t0 0 rfl
theorem dX4_leastCarried_2 : decode cX4_leastCarried 2 = .ok (.istore_n 1, 1) := dck_get daX4_leastCarried_t0 1 rfl
theorem dX4_leastCarried_3 : decode cX4_leastCarried 3 = .ok (.iconst 0, 1) := dck_get daX4_leastCarried_t0 2 rfl
theorem dX4_leastCarried_4 : decode cX4_leastCarried 4 = .ok (.istore_n 2, 1) := dck_get daX4_leastCarried_t0 3 rfl
theorem dX4_leastCarried_5 : decode cX4_leastCarried 5 = .ok (.iconst 0, 1) := dck_get daX4_leastCarried_t0 4 rfl
theorem dX4_leastCarried_6 : decode cX4_leastCarried 6 = .ok (.istore_n 3, 1) := dck_get daX4_leastCarried_t0 5 rfl
theorem dX4_leastCarried_7 : decode cX4_leastCarried 7 = .ok (.iload_n 3, 1) := dck_get daX4_leastCarried_t0 6 rfl
theorem dX4_leastCarried_8 : decode cX4_leastCarried 8 = .ok (.bipush 8, 2) := dck_get daX4_leastCarried_t0 7 rfl
theorem dX4_leastCarried_10 : decode cX4_leastCarried 10 = .ok (.if_icmp .ge 52, 3) := dck_get daX4_leastCarried_t0 8 rfl
theorem dX4_leastCarried_13 : decode cX4_leastCarried 13 = .ok (.aload_n 0, 1) := dck_get daX4_leastCarried_t0 9 rfl
theorem dX4_leastCarried_14 : decode cX4_leastCarried 14 = .ok (.getfield 10, 3) := dck_get daX4_leastCarried_t0 10 rfl
theorem dX4_leastCarried_17 : decode cX4_leastCarried 17 = .ok (.iload_n 3, 1) := dck_get daX4_leastCarried_t0 11 rfl
theorem dX4_leastCarried_18 : decode cX4_leastCarried 18 = .ok (.invokevirtual 74, 3) := dck_get daX4_leastCarried_t0 12 rfl
theorem dX4_leastCarried_21 : decode cX4_leastCarried 21 = .ok (.ifCond .ne 6, 3) := dck_get daX4_leastCarried_t0 13 rfl
theorem dX4_leastCarried_24 : decode cX4_leastCarried 24 = .ok (.goto 32, 3) := dck_get daX4_leastCarried_t0 14 rfl
theorem dX4_leastCarried_27 : decode cX4_leastCarried 27 = .ok (.aload_n 0, 1) := dck_get daX4_leastCarried_t0 15 rfl
theorem dX4_leastCarried_28 : decode cX4_leastCarried 28 = .ok (.getfield 10, 3) := dck_get daX4_leastCarried_t0 16 rfl
theorem dX4_leastCarried_31 : decode cX4_leastCarried 31 = .ok (.iconst 1, 1) := dck_get daX4_leastCarried_t0 17 rfl
theorem dX4_leastCarried_32 : decode cX4_leastCarried 32 = .ok (.iload_n 3, 1) := dck_get daX4_leastCarried_t0 18 rfl
theorem dX4_leastCarried_33 : decode cX4_leastCarried 33 = .ok (.ishl, 1) := dck_get daX4_leastCarried_t0 19 rfl
def dtX4_leastCarried_t1 : List (Nat × Instr × Nat) := [(34, .invokevirtual 151, 3), (37, .istore 4, 2), (39, .iload_n 1, 1), (40, .bipush (-9), 2), (42, .if_icmp .eq 9, 3), (45, .iload 4, 2), (47, .iload_n 2, 1), (48, .if_icmp .ge 8, 3), (51, .iload_n 3, 1), (52, .istore_n 1, 1), (53, .iload 4, 2), (55, .istore_n 2, 1), (56, .iinc 3 1, 3), (59, .goto (-52), 3), (62, .iload_n 1, 1), (63, .ireturn, 1)]
theorem daX4_leastCarried_t1 : dtX4_leastCarried_t1.all (dck cX4_leastCarried) = true := by decide +kernel
theorem dX4_leastCarried_34 : decode cX4_leastCarried 34 = .ok (.invokevirtual 151, 3) := dck_get daX4_leastCarried_t1 0 rfl
theorem dX4_leastCarried_37 : decode cX4_leastCarried 37 = .ok (.istore 4, 2) := dck_get daX4_leastCarried_t1 1 rfl
theorem dX4_leastCarried_39 : decode cX4_leastCarried 39 = .ok (.iload_n 1, 1) := dck_get daX4_leastCarried_t1 2 rfl
theorem dX4_leastCarried_40 : decode cX4_leastCarried 40 = .ok (.bipush (-9), 2) := dck_get daX4_leastCarried_t1 3 rfl
theorem dX4_leastCarried_42 : decode cX4_leastCarried 42 = .ok (.if_icmp .eq 9, 3) := dck_get daX4_leastCarried_t1 4 rfl
theorem dX4_leastCarried_45 : decode cX4_leastCarried 45 = .ok (.iload 4, 2) := dck_get daX4_leastCarried_t1 5 rfl
theorem dX4_leastCarried_47 : decode cX4_leastCarried 47 = .ok (.iload_n 2, 1) := dck_get daX4_leastCarried_t1 6 rfl
theorem dX4_leastCarried_48 : decode cX4_leastCarried 48 = .ok (.if_icmp .ge 8, 3) := dck_get daX4_leastCarried_t1 7 rfl
theorem dX4_leastCarried_51 : decode cX4_leastCarried 51 = .ok (.iload_n 3, 1) := dck_get daX4_leastCarried_t1 8 rfl
theorem dX4_leastCarried_52 : decode cX4_leastCarried 52 = .ok (.istore_n 1, 1) := dck_get daX4_leastCarried_t1 9 rfl
theorem dX4_leastCarried_53 : decode cX4_leastCarried 53 = .ok (.iload 4, 2) := dck_get daX4_leastCarried_t1 10 rfl
theorem dX4_leastCarried_55 : decode cX4_leastCarried 55 = .ok (.istore_n 2, 1) := dck_get daX4_leastCarried_t1 11 rfl
theorem dX4_leastCarried_56 : decode cX4_leastCarried 56 = .ok (.iinc 3 1, 3) := dck_get daX4_leastCarried_t1 12 rfl
theorem dX4_leastCarried_59 : decode cX4_leastCarried 59 = .ok (.goto (-52), 3) := dck_get daX4_leastCarried_t1 13 rfl
theorem dX4_leastCarried_62 : decode cX4_leastCarried 62 = .ok (.iload_n 1, 1) := dck_get daX4_leastCarried_t1 14 rfl
theorem dX4_leastCarried_63 : decode cX4_leastCarried 63 = .ok (.ireturn, 1) := dck_get daX4_leastCarried_t1 15 rfl
set_option maxRecDepth 20000 in
theorem ggX4_rings_X3_inRings : GoodIn wsX4_rings wsX3_inRings := goodIn_sub (List.forall_mem_cons.mpr ⟨(List.mem_of_getElem? (i := 6) rfl), (List.forall_mem_append.mpr ⟨(List.forall_mem_cons.mpr ⟨(List.mem_of_getElem? (i := 7) rfl), (List.forall_mem_cons.mpr ⟨(List.mem_of_getElem? (i := 8) rfl), (List.forall_mem_cons.mpr ⟨(List.mem_of_getElem? (i := 9) rfl), (List.forall_mem_cons.mpr ⟨(List.mem_of_getElem? (i := 5) rfl), (List.forall_mem_cons.mpr ⟨(List.mem_of_getElem? (i := 10) rfl), (List.forall_mem_cons.mpr ⟨(List.mem_of_getElem? (i := 11) rfl), (List.forall_mem_cons.mpr ⟨(List.mem_of_getElem? (i := 12) rfl), (List.forall_mem_cons.mpr ⟨(List.mem_of_getElem? (i := 13) rfl), (List.forall_mem_cons.mpr ⟨(List.mem_of_getElem? (i := 14) rfl), (List.forall_mem_cons.mpr ⟨(List.mem_of_getElem? (i := 15) rfl), (List.forall_mem_cons.mpr ⟨(List.mem_of_getElem? (i := 16) rfl), (List.forall_mem_cons.mpr ⟨(List.mem_of_getElem? (i := 17) rfl), (List.forall_mem_cons.mpr ⟨(List.mem_of_getElem? (i := 18) rfl), (List.forall_mem_cons.mpr ⟨(List.mem_of_getElem? (i := 19) rfl), (List.forall_mem_cons.mpr ⟨(List.mem_of_getElem? (i := 20) rfl), (List.forall_mem_cons.mpr ⟨(List.mem_of_getElem? (i := 21) rfl), (fun _ h => absurd h List.not_mem_nil)⟩)⟩)⟩)⟩)⟩)⟩)⟩)⟩)⟩)⟩)⟩)⟩)⟩)⟩)⟩)⟩), (fun _ h => (List.mem_cons_of_mem _ (List.mem_append_right _ h)))⟩)⟩) gw_wsX3_inRings
set_option maxRecDepth 20000 in
theorem gX4_rings_X3_inRings : GoodIn wsX4_rings (wsV RX4 154 RX3 yX3_inRings wsX3_inRings) := goodIn_app (goodIn_sub (List.forall_mem_cons.mpr ⟨(List.mem_of_getElem? (i := 2) rfl), (List.forall_mem_cons.mpr ⟨(List.mem_of_getElem? (i := 3) rfl), (List.forall_mem_cons.mpr ⟨(List.mem_of_getElem? (i := 4) rfl), (List.forall_mem_cons.mpr ⟨(List.mem_of_getElem? (i := 5) rfl), (fun _ h => absurd h List.not_mem_nil)⟩)⟩)⟩)⟩) (by decide +kernel)) ggX4_rings_X3_inRings
def dtX4_rings_t0 : List (Nat × Instr × Nat) := [(0, .aload_n 0, 1), (1, .getfield 10, 3), (4, .invokevirtual 154, 3), (7, .ireturn, 1)]
theorem daX4_rings_t0 : dtX4_rings_t0.all (dck cX4_rings) = true := by decide +kernel
theorem dX4_rings_0 : decode cX4_rings 0 = .ok (.aload_n 0, 1) := dck_get daX4_rings_t0 0 rfl
theorem dX4_rings_1 : decode cX4_rings 1 = .ok (.getfield 10, 3) := dck_get daX4_rings_t0 1 rfl
theorem dX4_rings_4 : decode cX4_rings 4 = .ok (.invokevirtual 154, 3) := dck_get daX4_rings_t0 2 rfl
theorem dX4_rings_7 : decode cX4_rings 7 = .ok (.ireturn, 1) := dck_get daX4_rings_t0 3 rfl
set_option maxRecDepth 20000 in
theorem gw_wsX3_changeRings : wsX3_changeRings.all goodWord = true := by decide +kernel
set_option maxRecDepth 20000 in
theorem ggX4_changing_X3_changeRings : GoodIn wsX4_changing wsX3_changeRings := goodIn_sub (List.forall_mem_cons.mpr ⟨(List.mem_of_getElem? (i := 6) rfl), (List.forall_mem_append.mpr ⟨(List.forall_mem_cons.mpr ⟨(List.mem_of_getElem? (i := 7) rfl), (List.forall_mem_cons.mpr ⟨(List.mem_of_getElem? (i := 8) rfl), (List.forall_mem_cons.mpr ⟨(List.mem_of_getElem? (i := 9) rfl), (List.forall_mem_cons.mpr ⟨(List.mem_of_getElem? (i := 10) rfl), (List.forall_mem_cons.mpr ⟨(List.mem_of_getElem? (i := 11) rfl), (List.forall_mem_cons.mpr ⟨(List.mem_of_getElem? (i := 5) rfl), (List.forall_mem_cons.mpr ⟨(List.mem_of_getElem? (i := 12) rfl), (List.forall_mem_cons.mpr ⟨(List.mem_of_getElem? (i := 13) rfl), (List.forall_mem_cons.mpr ⟨(List.mem_of_getElem? (i := 14) rfl), (List.forall_mem_cons.mpr ⟨(List.mem_of_getElem? (i := 15) rfl), (List.forall_mem_cons.mpr ⟨(List.mem_of_getElem? (i := 16) rfl), (List.forall_mem_cons.mpr ⟨(List.mem_of_getElem? (i := 17) rfl), (List.forall_mem_cons.mpr ⟨(List.mem_of_getElem? (i := 18) rfl), (List.forall_mem_cons.mpr ⟨(List.mem_of_getElem? (i := 19) rfl), (List.forall_mem_cons.mpr ⟨(List.mem_of_getElem? (i := 20) rfl), (List.forall_mem_cons.mpr ⟨(List.mem_of_getElem? (i := 21) rfl), (List.forall_mem_cons.mpr ⟨(List.mem_of_getElem? (i := 22) rfl), (List.forall_mem_cons.mpr ⟨(List.mem_of_getElem? (i := 23) rfl), (List.forall_mem_cons.mpr ⟨(List.mem_of_getElem? (i := 24) rfl), (List.forall_mem_cons.mpr ⟨(List.mem_of_getElem? (i := 25) rfl), (List.forall_mem_cons.mpr ⟨(List.mem_of_getElem? (i := 26) rfl), (List.forall_mem_cons.mpr ⟨(List.mem_of_getElem? (i := 27) rfl), (List.forall_mem_cons.mpr ⟨(List.mem_of_getElem? (i := 28) rfl), (fun _ h => absurd h List.not_mem_nil)⟩)⟩)⟩)⟩)⟩)⟩)⟩)⟩)⟩)⟩)⟩)⟩)⟩)⟩)⟩)⟩)⟩)⟩)⟩)⟩)⟩)⟩)⟩), (fun _ h => (List.mem_cons_of_mem _ (List.mem_append_right _ h)))⟩)⟩) gw_wsX3_changeRings
set_option maxRecDepth 20000 in
theorem gX4_changing_X3_changeRings : GoodIn wsX4_changing (wsV RX4 157 RX3 yX3_changeRings wsX3_changeRings) := goodIn_app (goodIn_sub (List.forall_mem_cons.mpr ⟨(List.mem_of_getElem? (i := 2) rfl), (List.forall_mem_cons.mpr ⟨(List.mem_of_getElem? (i := 3) rfl), (List.forall_mem_cons.mpr ⟨(List.mem_of_getElem? (i := 4) rfl), (List.forall_mem_cons.mpr ⟨(List.mem_of_getElem? (i := 5) rfl), (fun _ h => absurd h List.not_mem_nil)⟩)⟩)⟩)⟩) (by decide +kernel)) ggX4_changing_X3_changeRings
def dtX4_changing_t0 : List (Nat × Instr × Nat) := [(0, .aload_n 0, 1), (1, .getfield 10, 3), (4, .invokevirtual 157, 3), (7, .ireturn, 1)]
theorem daX4_changing_t0 : dtX4_changing_t0.all (dck cX4_changing) = true := by decide +kernel
theorem dX4_changing_0 : decode cX4_changing 0 = .ok (.aload_n 0, 1) := dck_get daX4_changing_t0 0 rfl
theorem dX4_changing_1 : decode cX4_changing 1 = .ok (.getfield 10, 3) := dck_get daX4_changing_t0 1 rfl
theorem dX4_changing_4 : decode cX4_changing 4 = .ok (.invokevirtual 157, 3) := dck_get daX4_changing_t0 2 rfl
theorem dX4_changing_7 : decode cX4_changing 7 = .ok (.ireturn, 1) := dck_get daX4_changing_t0 3 rfl
set_option maxRecDepth 20000 in
theorem ggX4_free_X3_living : GoodIn wsX4_free wsX3_living := goodIn_sub (List.forall_mem_cons.mpr ⟨(List.mem_of_getElem? (i := 6) rfl), (List.forall_mem_append.mpr ⟨(List.forall_mem_cons.mpr ⟨(List.mem_of_getElem? (i := 7) rfl), (List.forall_mem_cons.mpr ⟨(List.mem_of_getElem? (i := 8) rfl), (List.forall_mem_cons.mpr ⟨(List.mem_of_getElem? (i := 9) rfl), (List.forall_mem_cons.mpr ⟨(List.mem_of_getElem? (i := 5) rfl), (List.forall_mem_cons.mpr ⟨(List.mem_of_getElem? (i := 10) rfl), (List.forall_mem_cons.mpr ⟨(List.mem_of_getElem? (i := 11) rfl), (List.forall_mem_cons.mpr ⟨(List.mem_of_getElem? (i := 12) rfl), (fun _ h => absurd h List.not_mem_nil)⟩)⟩)⟩)⟩)⟩)⟩)⟩), (fun _ h => (List.mem_cons_of_mem _ (List.mem_append_right _ h)))⟩)⟩) gw_wsX3_living
set_option maxRecDepth 20000 in
theorem gX4_free_X3_living : GoodIn wsX4_free (wsV RX4 136 RX3 yX3_living wsX3_living) := goodIn_app (goodIn_sub (List.forall_mem_cons.mpr ⟨(List.mem_of_getElem? (i := 2) rfl), (List.forall_mem_cons.mpr ⟨(List.mem_of_getElem? (i := 3) rfl), (List.forall_mem_cons.mpr ⟨(List.mem_of_getElem? (i := 4) rfl), (List.forall_mem_cons.mpr ⟨(List.mem_of_getElem? (i := 5) rfl), (fun _ h => absurd h List.not_mem_nil)⟩)⟩)⟩)⟩) (by decide +kernel)) ggX4_free_X3_living
set_option maxRecDepth 20000 in
theorem ggX4_free_X3_floorsOf : GoodIn wsX4_free wsX3_floorsOf := goodIn_sub (List.forall_mem_cons.mpr ⟨(List.mem_of_getElem? (i := 16) rfl), (List.forall_mem_append.mpr ⟨(List.forall_mem_cons.mpr ⟨(List.mem_of_getElem? (i := 12) rfl), (List.forall_mem_cons.mpr ⟨(List.mem_of_getElem? (i := 17) rfl), (List.forall_mem_cons.mpr ⟨(List.mem_of_getElem? (i := 18) rfl), (List.forall_mem_cons.mpr ⟨(List.mem_of_getElem? (i := 5) rfl), (List.forall_mem_cons.mpr ⟨(List.mem_of_getElem? (i := 19) rfl), (fun _ h => absurd h List.not_mem_nil)⟩)⟩)⟩)⟩)⟩), (fun _ h => (List.mem_cons_of_mem _ (List.mem_append_right _ h)))⟩)⟩) gw_wsX3_floorsOf
set_option maxRecDepth 20000 in
theorem gX4_free_X3_floorsOf : GoodIn wsX4_free (wsV RX4 139 RX3 yX3_floorsOf wsX3_floorsOf) := goodIn_app (goodIn_sub (List.forall_mem_cons.mpr ⟨(List.mem_of_getElem? (i := 13) rfl), (List.forall_mem_cons.mpr ⟨(List.mem_of_getElem? (i := 14) rfl), (List.forall_mem_cons.mpr ⟨(List.mem_of_getElem? (i := 15) rfl), (List.forall_mem_cons.mpr ⟨(List.mem_of_getElem? (i := 5) rfl), (fun _ h => absurd h List.not_mem_nil)⟩)⟩)⟩)⟩) (by decide +kernel)) ggX4_free_X3_floorsOf
def dtX4_free_t0 : List (Nat × Instr × Nat) := [(0, .sipush 1023, 3), (3, .aload_n 0, 1), (4, .getfield 10, 3), (7, .aload_n 0, 1), (8, .getfield 10, 3), (11, .invokevirtual 136, 3), (14, .invokevirtual 139, 3), (17, .iconst (-1), 1), (18, .ixor, 1), (19, .iand, 1), (20, .ireturn, 1)]
theorem daX4_free_t0 : dtX4_free_t0.all (dck cX4_free) = true := by decide +kernel
theorem dX4_free_0 : decode cX4_free 0 = .ok (.sipush 1023, 3) := dck_get daX4_free_t0 0 rfl
theorem dX4_free_3 : decode cX4_free 3 = .ok (.aload_n 0, 1) := dck_get daX4_free_t0 1 rfl
theorem dX4_free_4 : decode cX4_free 4 = .ok (.getfield 10, 3) := dck_get daX4_free_t0 2 rfl
theorem dX4_free_7 : decode cX4_free 7 = .ok (.aload_n 0, 1) := dck_get daX4_free_t0 3 rfl
theorem dX4_free_8 : decode cX4_free 8 = .ok (.getfield 10, 3) := dck_get daX4_free_t0 4 rfl
theorem dX4_free_11 : decode cX4_free 11 = .ok (.invokevirtual 136, 3) := dck_get daX4_free_t0 5 rfl
theorem dX4_free_14 : decode cX4_free 14 = .ok (.invokevirtual 139, 3) := dck_get daX4_free_t0 6 rfl
theorem dX4_free_17 : decode cX4_free 17 = .ok (.iconst (-1), 1) := dck_get daX4_free_t0 7 rfl
theorem dX4_free_18 : decode cX4_free 18 = .ok (.ixor, 1) := dck_get daX4_free_t0 8 rfl
theorem dX4_free_19 : decode cX4_free 19 = .ok (.iand, 1) := dck_get daX4_free_t0 9 rfl
theorem dX4_free_20 : decode cX4_free 20 = .ok (.ireturn, 1) := dck_get daX4_free_t0 10 rfl
set_option maxRecDepth 20000 in
theorem ggX4_ages_X4_isKind : GoodIn wsX4_ages wsX4_isKind := goodIn_sub (List.forall_mem_cons.mpr ⟨(List.mem_of_getElem? (i := 5) rfl), (fun _ h => absurd h List.not_mem_nil)⟩) gw_wsX4_isKind
set_option maxRecDepth 20000 in
theorem gX4_ages_X4_isKind : GoodIn wsX4_ages (va_wsS RX4 61 yX4_isKind wsX4_isKind) := goodIn_app (goodIn_sub (List.forall_mem_cons.mpr ⟨(List.mem_of_getElem? (i := 2) rfl), (List.forall_mem_cons.mpr ⟨(List.mem_of_getElem? (i := 3) rfl), (List.forall_mem_cons.mpr ⟨(List.mem_of_getElem? (i := 4) rfl), (fun _ h => absurd h List.not_mem_nil)⟩)⟩)⟩) (by decide +kernel)) ggX4_ages_X4_isKind
set_option maxRecDepth 20000 in
theorem ggX4_ages_X4_refuse : GoodIn wsX4_ages wsX4_refuse := goodIn_sub (List.forall_mem_cons.mpr ⟨(List.mem_of_getElem? (i := 9) rfl), (List.forall_mem_append.mpr ⟨(List.forall_mem_cons.mpr ⟨(List.mem_of_getElem? (i := 10) rfl), (fun _ h => absurd h List.not_mem_nil)⟩), (fun _ h => (List.mem_cons_of_mem _ (List.mem_append_left _ (List.mem_append_right _ h))))⟩)⟩) gw_wsX4_refuse
set_option maxRecDepth 20000 in
theorem gX4_ages_X4_refuse : GoodIn wsX4_ages (wsV RX4 43 RX4 yX4_refuse wsX4_refuse) := goodIn_app (goodIn_sub (List.forall_mem_cons.mpr ⟨(List.mem_of_getElem? (i := 6) rfl), (List.forall_mem_cons.mpr ⟨(List.mem_of_getElem? (i := 7) rfl), (List.forall_mem_cons.mpr ⟨(List.mem_of_getElem? (i := 8) rfl), (List.forall_mem_cons.mpr ⟨(List.mem_of_getElem? (i := 4) rfl), (fun _ h => absurd h List.not_mem_nil)⟩)⟩)⟩)⟩) (by decide +kernel)) ggX4_ages_X4_refuse
set_option maxRecDepth 20000 in
theorem ggX4_ages_X3_couldComeIn : GoodIn wsX4_ages wsX3_couldComeIn := goodIn_sub (List.forall_mem_cons.mpr ⟨(List.mem_of_getElem? (i := 15) rfl), (List.forall_mem_append.mpr ⟨(List.forall_mem_cons.mpr ⟨(List.mem_of_getElem? (i := 16) rfl), (List.forall_mem_cons.mpr ⟨(List.mem_of_getElem? (i := 17) rfl), (List.forall_mem_cons.mpr ⟨(List.mem_of_getElem? (i := 18) rfl), (List.forall_mem_cons.mpr ⟨(List.mem_of_getElem? (i := 14) rfl), (List.forall_mem_cons.mpr ⟨(List.mem_of_getElem? (i := 19) rfl), (List.forall_mem_cons.mpr ⟨(List.mem_of_getElem? (i := 20) rfl), (List.forall_mem_cons.mpr ⟨(List.mem_of_getElem? (i := 21) rfl), (List.forall_mem_cons.mpr ⟨(List.mem_of_getElem? (i := 22) rfl), (List.forall_mem_cons.mpr ⟨(List.mem_of_getElem? (i := 23) rfl), (List.forall_mem_cons.mpr ⟨(List.mem_of_getElem? (i := 24) rfl), (List.forall_mem_cons.mpr ⟨(List.mem_of_getElem? (i := 25) rfl), (List.forall_mem_cons.mpr ⟨(List.mem_of_getElem? (i := 26) rfl), (List.forall_mem_cons.mpr ⟨(List.mem_of_getElem? (i := 27) rfl), (List.forall_mem_cons.mpr ⟨(List.mem_of_getElem? (i := 28) rfl), (List.forall_mem_cons.mpr ⟨(List.mem_of_getElem? (i := 29) rfl), (List.forall_mem_cons.mpr ⟨(List.mem_of_getElem? (i := 30) rfl), (List.forall_mem_cons.mpr ⟨(List.mem_of_getElem? (i := 31) rfl), (List.forall_mem_cons.mpr ⟨(List.mem_of_getElem? (i := 32) rfl), (List.forall_mem_cons.mpr ⟨(List.mem_of_getElem? (i := 33) rfl), (List.forall_mem_cons.mpr ⟨(List.mem_of_getElem? (i := 34) rfl), (List.forall_mem_cons.mpr ⟨(List.mem_of_getElem? (i := 35) rfl), (List.forall_mem_cons.mpr ⟨(List.mem_of_getElem? (i := 36) rfl), (List.forall_mem_cons.mpr ⟨(List.mem_of_getElem? (i := 37) rfl), (fun _ h => absurd h List.not_mem_nil)⟩)⟩)⟩)⟩)⟩)⟩)⟩)⟩)⟩)⟩)⟩)⟩)⟩)⟩)⟩)⟩)⟩)⟩)⟩)⟩)⟩)⟩)⟩), (fun _ h => (List.mem_cons_of_mem _ (List.mem_append_right _ h)))⟩)⟩) gw_wsX3_couldComeIn
set_option maxRecDepth 20000 in
theorem gX4_ages_X3_couldComeIn : GoodIn wsX4_ages (wsV RX4 66 RX3 yX3_couldComeIn wsX3_couldComeIn) := goodIn_app (goodIn_sub (List.forall_mem_cons.mpr ⟨(List.mem_of_getElem? (i := 11) rfl), (List.forall_mem_cons.mpr ⟨(List.mem_of_getElem? (i := 12) rfl), (List.forall_mem_cons.mpr ⟨(List.mem_of_getElem? (i := 13) rfl), (List.forall_mem_cons.mpr ⟨(List.mem_of_getElem? (i := 14) rfl), (fun _ h => absurd h List.not_mem_nil)⟩)⟩)⟩)⟩) (by decide +kernel)) ggX4_ages_X3_couldComeIn
def dtX4_ages_t0 : List (Nat × Instr × Nat) := [(0, .iload_n 1, 1), (1, .invokestatic 61, 3), (4, .ifCond .eq 12, 3), (7, .iload_n 2, 1), (8, .ifCond .eq 15, 3), (11, .iload_n 2, 1), (12, .iconst 1, 1), (13, .if_icmp .eq 10, 3), (16, .aload_n 0, 1), (17, .bipush (-2), 2), (19, .invokevirtual 43, 3), (22, .ireturn, 1), (23, .iconst 0, 1), (24, .istore_n 3, 1), (25, .bipush (-9), 2), (27, .istore 4, 2), (29, .iconst 0, 1), (30, .istore 5, 2), (32, .iload 5, 2), (34, .bipush 99, 2)]
theorem daX4_ages_t0 : dtX4_ages_t0.all (dck cX4_ages) = true := by decide +kernel
theorem dX4_ages_0 : decode cX4_ages 0 = .ok (.iload_n 1, 1) := dck_get daX4_ages_t0 0 rfl
theorem dX4_ages_1 : decode cX4_ages 1 = .ok (.invokestatic 61, 3) := dck_get daX4_ages_t0 1 rfl
theorem dX4_ages_4 : decode cX4_ages 4 = .ok (.ifCond .eq 12, 3) := dck_get daX4_ages_t0 2 rfl
theorem dX4_ages_7 : decode cX4_ages 7 = .ok (.iload_n 2, 1) := dck_get daX4_ages_t0 3 rfl
theorem dX4_ages_8 : decode cX4_ages 8 = .ok (.ifCond .eq 15, 3) := dck_get daX4_ages_t0 4 rfl
theorem dX4_ages_11 : decode cX4_ages 11 = .ok (.iload_n 2, 1) := dck_get daX4_ages_t0 5 rfl
theorem dX4_ages_12 : decode cX4_ages 12 = .ok (.iconst 1, 1) := dck_get daX4_ages_t0 6 rfl
theorem dX4_ages_13 : decode cX4_ages 13 = .ok (.if_icmp .eq 10, 3) := dck_get daX4_ages_t0 7 rfl
theorem dX4_ages_16 : decode cX4_ages 16 = .ok (.aload_n 0, 1) := dck_get daX4_ages_t0 8 rfl
theorem dX4_ages_17 : decode cX4_ages 17 = .ok (.bipush (-2), 2) := dck_get daX4_ages_t0 9 rfl
theorem dX4_ages_19 : decode cX4_ages 19 = .ok (.invokevirtual 43, 3) := dck_get daX4_ages_t0 10 rfl
theorem dX4_ages_22 : decode cX4_ages 22 = .ok (.ireturn, 1) := dck_get daX4_ages_t0 11 rfl
theorem dX4_ages_23 : decode cX4_ages 23 = .ok (.iconst 0, 1) := dck_get daX4_ages_t0 12 rfl
theorem dX4_ages_24 : decode cX4_ages 24 = .ok (.istore_n 3, 1) := dck_get daX4_ages_t0 13 rfl
theorem dX4_ages_25 : decode cX4_ages 25 = .ok (.bipush (-9), 2) := dck_get daX4_ages_t0 14 rfl
theorem dX4_ages_27 : decode cX4_ages 27 = .ok (.istore 4, 2) := dck_get daX4_ages_t0 15 rfl
theorem dX4_ages_29 : decode cX4_ages 29 = .ok (.iconst 0, 1) := dck_get daX4_ages_t0 16 rfl
theorem dX4_ages_30 : decode cX4_ages 30 = .ok (.istore 5, 2) := dck_get daX4_ages_t0 17 rfl
theorem dX4_ages_32 : decode cX4_ages 32 = .ok (.iload 5, 2) := dck_get daX4_ages_t0 18 rfl
theorem dX4_ages_34 : decode cX4_ages 34 = .ok (.bipush 99, 2) := dck_get daX4_ages_t0 19 rfl
def dtX4_ages_t1 : List (Nat × Instr × Nat) := [(36, .if_icmp .gt 36, 3), (39, .aload_n 0, 1), (40, .getfield 10, 3), (43, .iload_n 1, 1), (44, .iload 5, 2), (46, .invokevirtual 66, 3), (49, .ifCond .ne 6, 3), (52, .goto 14, 3), (55, .iload_n 3, 1), (56, .ifCond .ne 7, 3), (59, .iload 5, 2), (61, .istore 4, 2), (63, .iinc 3 1, 3), (66, .iinc 5 1, 3), (69, .goto (-37), 3), (72, .iload_n 2, 1), (73, .ifCond .ne 7, 3), (76, .iload_n 3, 1), (77, .goto 5, 3), (80, .iload 4, 2)]
theorem daX4_ages_t1 : dtX4_ages_t1.all (dck cX4_ages) = true := by decide +kernel
theorem dX4_ages_36 : decode cX4_ages 36 = .ok (.if_icmp .gt 36, 3) := dck_get daX4_ages_t1 0 rfl
theorem dX4_ages_39 : decode cX4_ages 39 = .ok (.aload_n 0, 1) := dck_get daX4_ages_t1 1 rfl
theorem dX4_ages_40 : decode cX4_ages 40 = .ok (.getfield 10, 3) := dck_get daX4_ages_t1 2 rfl
theorem dX4_ages_43 : decode cX4_ages 43 = .ok (.iload_n 1, 1) := dck_get daX4_ages_t1 3 rfl
theorem dX4_ages_44 : decode cX4_ages 44 = .ok (.iload 5, 2) := dck_get daX4_ages_t1 4 rfl
theorem dX4_ages_46 : decode cX4_ages 46 = .ok (.invokevirtual 66, 3) := dck_get daX4_ages_t1 5 rfl
theorem dX4_ages_49 : decode cX4_ages 49 = .ok (.ifCond .ne 6, 3) := dck_get daX4_ages_t1 6 rfl
theorem dX4_ages_52 : decode cX4_ages 52 = .ok (.goto 14, 3) := dck_get daX4_ages_t1 7 rfl
theorem dX4_ages_55 : decode cX4_ages 55 = .ok (.iload_n 3, 1) := dck_get daX4_ages_t1 8 rfl
theorem dX4_ages_56 : decode cX4_ages 56 = .ok (.ifCond .ne 7, 3) := dck_get daX4_ages_t1 9 rfl
theorem dX4_ages_59 : decode cX4_ages 59 = .ok (.iload 5, 2) := dck_get daX4_ages_t1 10 rfl
theorem dX4_ages_61 : decode cX4_ages 61 = .ok (.istore 4, 2) := dck_get daX4_ages_t1 11 rfl
theorem dX4_ages_63 : decode cX4_ages 63 = .ok (.iinc 3 1, 3) := dck_get daX4_ages_t1 12 rfl
theorem dX4_ages_66 : decode cX4_ages 66 = .ok (.iinc 5 1, 3) := dck_get daX4_ages_t1 13 rfl
theorem dX4_ages_69 : decode cX4_ages 69 = .ok (.goto (-37), 3) := dck_get daX4_ages_t1 14 rfl
theorem dX4_ages_72 : decode cX4_ages 72 = .ok (.iload_n 2, 1) := dck_get daX4_ages_t1 15 rfl
theorem dX4_ages_73 : decode cX4_ages 73 = .ok (.ifCond .ne 7, 3) := dck_get daX4_ages_t1 16 rfl
theorem dX4_ages_76 : decode cX4_ages 76 = .ok (.iload_n 3, 1) := dck_get daX4_ages_t1 17 rfl
theorem dX4_ages_77 : decode cX4_ages 77 = .ok (.goto 5, 3) := dck_get daX4_ages_t1 18 rfl
theorem dX4_ages_80 : decode cX4_ages 80 = .ok (.iload 4, 2) := dck_get daX4_ages_t1 19 rfl
def dtX4_ages_t2 : List (Nat × Instr × Nat) := [(82, .ireturn, 1)]
theorem daX4_ages_t2 : dtX4_ages_t2.all (dck cX4_ages) = true := by decide +kernel
theorem dX4_ages_82 : decode cX4_ages 82 = .ok (.ireturn, 1) := dck_get daX4_ages_t2 0 rfl
set_option maxRecDepth 20000 in
theorem ggX4_row_X4_refuse : GoodIn wsX4_row wsX4_refuse := goodIn_sub (List.forall_mem_cons.mpr ⟨(List.mem_of_getElem? (i := 7) rfl), (List.forall_mem_append.mpr ⟨(List.forall_mem_cons.mpr ⟨(List.mem_of_getElem? (i := 8) rfl), (fun _ h => absurd h List.not_mem_nil)⟩), (fun _ h => (List.mem_cons_of_mem _ (List.mem_append_right _ h)))⟩)⟩) gw_wsX4_refuse
set_option maxRecDepth 20000 in
theorem gX4_row_X4_refuse : GoodIn wsX4_row (wsV RX4 43 RX4 yX4_refuse wsX4_refuse) := goodIn_app (goodIn_sub (List.forall_mem_cons.mpr ⟨(List.mem_of_getElem? (i := 3) rfl), (List.forall_mem_cons.mpr ⟨(List.mem_of_getElem? (i := 4) rfl), (List.forall_mem_cons.mpr ⟨(List.mem_of_getElem? (i := 5) rfl), (List.forall_mem_cons.mpr ⟨(List.mem_of_getElem? (i := 6) rfl), (fun _ h => absurd h List.not_mem_nil)⟩)⟩)⟩)⟩) (by decide +kernel)) ggX4_row_X4_refuse
def dtX4_row_t0 : List (Nat × Instr × Nat) := [(0, .iload_n 1, 1), (1, .ifCond .ge 10, 3), (4, .aload_n 0, 1), (5, .bipush (-4), 2), (7, .invokevirtual 43, 3), (10, .ireturn, 1), (11, .iload_n 1, 1), (12, .bipush 10, 2), (14, .if_icmp .gt 12, 3), (17, .aload_n 0, 1), (18, .getfield 160, 3), (21, .bipush 8, 2), (23, .if_icmp .lt 10, 3), (26, .aload_n 0, 1), (27, .bipush (-6), 2), (29, .invokevirtual 43, 3), (32, .ireturn, 1), (33, .aload_n 0, 1), (34, .getfield 36, 3), (37, .aload_n 0, 1)]
theorem daX4_row_t0 : dtX4_row_t0.all (dck cX4_row) = true := by decide +kernel
theorem dX4_row_0 : decode cX4_row 0 = .ok (.iload_n 1, 1) := dck_get daX4_row_t0 0 rfl
theorem dX4_row_1 : decode cX4_row 1 = .ok (.ifCond .ge 10, 3) := dck_get daX4_row_t0 1 rfl
theorem dX4_row_4 : decode cX4_row 4 = .ok (.aload_n 0, 1) := dck_get daX4_row_t0 2 rfl
theorem dX4_row_5 : decode cX4_row 5 = .ok (.bipush (-4), 2) := dck_get daX4_row_t0 3 rfl
theorem dX4_row_7 : decode cX4_row 7 = .ok (.invokevirtual 43, 3) := dck_get daX4_row_t0 4 rfl
theorem dX4_row_10 : decode cX4_row 10 = .ok (.ireturn, 1) := dck_get daX4_row_t0 5 rfl
theorem dX4_row_11 : decode cX4_row 11 = .ok (.iload_n 1, 1) := dck_get daX4_row_t0 6 rfl
theorem dX4_row_12 : decode cX4_row 12 = .ok (.bipush 10, 2) := dck_get daX4_row_t0 7 rfl
theorem dX4_row_14 : decode cX4_row 14 = .ok (.if_icmp .gt 12, 3) := dck_get daX4_row_t0 8 rfl
theorem dX4_row_17 : decode cX4_row 17 = .ok (.aload_n 0, 1) := dck_get daX4_row_t0 9 rfl
theorem dX4_row_18 : decode cX4_row 18 = .ok (.getfield 160, 3) := dck_get daX4_row_t0 10 rfl
theorem dX4_row_21 : decode cX4_row 21 = .ok (.bipush 8, 2) := dck_get daX4_row_t0 11 rfl
theorem dX4_row_23 : decode cX4_row 23 = .ok (.if_icmp .lt 10, 3) := dck_get daX4_row_t0 12 rfl
theorem dX4_row_26 : decode cX4_row 26 = .ok (.aload_n 0, 1) := dck_get daX4_row_t0 13 rfl
theorem dX4_row_27 : decode cX4_row 27 = .ok (.bipush (-6), 2) := dck_get daX4_row_t0 14 rfl
theorem dX4_row_29 : decode cX4_row 29 = .ok (.invokevirtual 43, 3) := dck_get daX4_row_t0 15 rfl
theorem dX4_row_32 : decode cX4_row 32 = .ok (.ireturn, 1) := dck_get daX4_row_t0 16 rfl
theorem dX4_row_33 : decode cX4_row 33 = .ok (.aload_n 0, 1) := dck_get daX4_row_t0 17 rfl
theorem dX4_row_34 : decode cX4_row 34 = .ok (.getfield 36, 3) := dck_get daX4_row_t0 18 rfl
theorem dX4_row_37 : decode cX4_row 37 = .ok (.aload_n 0, 1) := dck_get daX4_row_t0 19 rfl
def dtX4_row_t1 : List (Nat × Instr × Nat) := [(38, .getfield 160, 3), (41, .iload_n 1, 1), (42, .iastore, 1), (43, .aload_n 0, 1), (44, .dup, 1), (45, .getfield 160, 3), (48, .iconst 1, 1), (49, .iadd, 1), (50, .putfield 160, 3), (53, .aload_n 0, 1), (54, .getfield 160, 3), (57, .ireturn, 1)]
theorem daX4_row_t1 : dtX4_row_t1.all (dck cX4_row) = true := by decide +kernel
theorem dX4_row_38 : decode cX4_row 38 = .ok (.getfield 160, 3) := dck_get daX4_row_t1 0 rfl
theorem dX4_row_41 : decode cX4_row 41 = .ok (.iload_n 1, 1) := dck_get daX4_row_t1 1 rfl
theorem dX4_row_42 : decode cX4_row 42 = .ok (.iastore, 1) := dck_get daX4_row_t1 2 rfl
theorem dX4_row_43 : decode cX4_row 43 = .ok (.aload_n 0, 1) := dck_get daX4_row_t1 3 rfl
theorem dX4_row_44 : decode cX4_row 44 = .ok (.dup, 1) := dck_get daX4_row_t1 4 rfl
theorem dX4_row_45 : decode cX4_row 45 = .ok (.getfield 160, 3) := dck_get daX4_row_t1 5 rfl
theorem dX4_row_48 : decode cX4_row 48 = .ok (.iconst 1, 1) := dck_get daX4_row_t1 6 rfl
theorem dX4_row_49 : decode cX4_row 49 = .ok (.iadd, 1) := dck_get daX4_row_t1 7 rfl
theorem dX4_row_50 : decode cX4_row 50 = .ok (.putfield 160, 3) := dck_get daX4_row_t1 8 rfl
theorem dX4_row_53 : decode cX4_row 53 = .ok (.aload_n 0, 1) := dck_get daX4_row_t1 9 rfl
theorem dX4_row_54 : decode cX4_row 54 = .ok (.getfield 160, 3) := dck_get daX4_row_t1 10 rfl
theorem dX4_row_57 : decode cX4_row 57 = .ok (.ireturn, 1) := dck_get daX4_row_t1 11 rfl
set_option maxRecDepth 20000 in
theorem ggX4_fitting_X4_refuse : GoodIn wsX4_fitting wsX4_refuse := goodIn_sub (List.forall_mem_cons.mpr ⟨(List.mem_of_getElem? (i := 7) rfl), (List.forall_mem_append.mpr ⟨(List.forall_mem_cons.mpr ⟨(List.mem_of_getElem? (i := 8) rfl), (fun _ h => absurd h List.not_mem_nil)⟩), (fun _ h => (List.mem_cons_of_mem _ (List.mem_append_left _ (List.mem_append_right _ h))))⟩)⟩) gw_wsX4_refuse
set_option maxRecDepth 20000 in
theorem gX4_fitting_X4_refuse : GoodIn wsX4_fitting (wsV RX4 43 RX4 yX4_refuse wsX4_refuse) := goodIn_app (goodIn_sub (List.forall_mem_cons.mpr ⟨(List.mem_of_getElem? (i := 3) rfl), (List.forall_mem_cons.mpr ⟨(List.mem_of_getElem? (i := 4) rfl), (List.forall_mem_cons.mpr ⟨(List.mem_of_getElem? (i := 5) rfl), (List.forall_mem_cons.mpr ⟨(List.mem_of_getElem? (i := 6) rfl), (fun _ h => absurd h List.not_mem_nil)⟩)⟩)⟩)⟩) (by decide +kernel)) ggX4_fitting_X4_refuse
set_option maxRecDepth 20000 in
theorem ggX4_fitting_X3_living : GoodIn wsX4_fitting wsX3_living := goodIn_sub (List.forall_mem_cons.mpr ⟨(List.mem_of_getElem? (i := 13) rfl), (List.forall_mem_append.mpr ⟨(List.forall_mem_cons.mpr ⟨(List.mem_of_getElem? (i := 14) rfl), (List.forall_mem_cons.mpr ⟨(List.mem_of_getElem? (i := 15) rfl), (List.forall_mem_cons.mpr ⟨(List.mem_of_getElem? (i := 16) rfl), (List.forall_mem_cons.mpr ⟨(List.mem_of_getElem? (i := 12) rfl), (List.forall_mem_cons.mpr ⟨(List.mem_of_getElem? (i := 17) rfl), (List.forall_mem_cons.mpr ⟨(List.mem_of_getElem? (i := 18) rfl), (List.forall_mem_cons.mpr ⟨(List.mem_of_getElem? (i := 19) rfl), (fun _ h => absurd h List.not_mem_nil)⟩)⟩)⟩)⟩)⟩)⟩)⟩), (fun _ h => (List.mem_cons_of_mem _ (List.mem_append_right _ h)))⟩)⟩) gw_wsX3_living
set_option maxRecDepth 20000 in
theorem gX4_fitting_X3_living : GoodIn wsX4_fitting (wsV RX4 136 RX3 yX3_living wsX3_living) := goodIn_app (goodIn_sub (List.forall_mem_cons.mpr ⟨(List.mem_of_getElem? (i := 9) rfl), (List.forall_mem_cons.mpr ⟨(List.mem_of_getElem? (i := 10) rfl), (List.forall_mem_cons.mpr ⟨(List.mem_of_getElem? (i := 11) rfl), (List.forall_mem_cons.mpr ⟨(List.mem_of_getElem? (i := 12) rfl), (fun _ h => absurd h List.not_mem_nil)⟩)⟩)⟩)⟩) (by decide +kernel)) ggX4_fitting_X3_living
set_option maxRecDepth 20000 in
theorem ggX4_fitting_J6_bitCount_0f7a4 : GoodIn wsX4_fitting wsJ6_bitCount_0f7a4 := goodIn_sub (List.forall_mem_cons.mpr ⟨(List.mem_of_getElem? (i := 23) rfl), (List.forall_mem_cons.mpr ⟨(List.mem_of_getElem? (i := 24) rfl), (List.forall_mem_cons.mpr ⟨(List.mem_of_getElem? (i := 25) rfl), (List.forall_mem_cons.mpr ⟨(List.mem_of_getElem? (i := 26) rfl), (fun _ h => absurd h List.not_mem_nil)⟩)⟩)⟩)⟩) gw_wsJ6_bitCount_0f7a4
set_option maxRecDepth 20000 in
theorem gX4_fitting_J6_bitCount_0f7a4 : GoodIn wsX4_fitting (va_wsS RX4 163 yJ6_bitCount_0f7a4 wsJ6_bitCount_0f7a4) := goodIn_app (goodIn_sub (List.forall_mem_cons.mpr ⟨(List.mem_of_getElem? (i := 20) rfl), (List.forall_mem_cons.mpr ⟨(List.mem_of_getElem? (i := 21) rfl), (List.forall_mem_cons.mpr ⟨(List.mem_of_getElem? (i := 22) rfl), (fun _ h => absurd h List.not_mem_nil)⟩)⟩)⟩) (by decide +kernel)) ggX4_fitting_J6_bitCount_0f7a4
set_option maxRecDepth 20000 in
theorem ggX4_fitting_X3_areAlive : GoodIn wsX4_fitting wsX3_areAlive := goodIn_sub (List.forall_mem_cons.mpr ⟨(List.mem_of_getElem? (i := 30) rfl), (List.forall_mem_append.mpr ⟨(List.forall_mem_cons.mpr ⟨(List.mem_of_getElem? (i := 31) rfl), (List.forall_mem_cons.mpr ⟨(List.mem_of_getElem? (i := 10) rfl), (List.forall_mem_cons.mpr ⟨(List.mem_of_getElem? (i := 11) rfl), (List.forall_mem_cons.mpr ⟨(List.mem_of_getElem? (i := 12) rfl), (List.forall_mem_cons.mpr ⟨(List.mem_of_getElem? (i := 13) rfl), (List.forall_mem_cons.mpr ⟨(List.mem_of_getElem? (i := 14) rfl), (List.forall_mem_cons.mpr ⟨(List.mem_of_getElem? (i := 15) rfl), (List.forall_mem_cons.mpr ⟨(List.mem_of_getElem? (i := 16) rfl), (List.forall_mem_cons.mpr ⟨(List.mem_of_getElem? (i := 17) rfl), (List.forall_mem_cons.mpr ⟨(List.mem_of_getElem? (i := 18) rfl), (List.forall_mem_cons.mpr ⟨(List.mem_of_getElem? (i := 19) rfl), (fun _ h => absurd h List.not_mem_nil)⟩)⟩)⟩)⟩)⟩)⟩)⟩)⟩)⟩)⟩)⟩), (fun _ h => (List.mem_cons_of_mem _ (List.mem_append_right _ h)))⟩)⟩) gw_wsX3_areAlive
set_option maxRecDepth 20000 in
theorem gX4_fitting_X3_areAlive : GoodIn wsX4_fitting (wsV RX4 105 RX3 yX3_areAlive wsX3_areAlive) := goodIn_app (goodIn_sub (List.forall_mem_cons.mpr ⟨(List.mem_of_getElem? (i := 27) rfl), (List.forall_mem_cons.mpr ⟨(List.mem_of_getElem? (i := 28) rfl), (List.forall_mem_cons.mpr ⟨(List.mem_of_getElem? (i := 29) rfl), (List.forall_mem_cons.mpr ⟨(List.mem_of_getElem? (i := 12) rfl), (fun _ h => absurd h List.not_mem_nil)⟩)⟩)⟩)⟩) (by decide +kernel)) ggX4_fitting_X3_areAlive
set_option maxRecDepth 20000 in
theorem gw_wsX4_fitsTheRow : wsX4_fitsTheRow.all goodWord = true := by decide +kernel
set_option maxRecDepth 20000 in
theorem ggX4_fitting_X4_fitsTheRow : GoodIn wsX4_fitting wsX4_fitsTheRow := goodIn_sub (List.forall_mem_cons.mpr ⟨(List.mem_of_getElem? (i := 35) rfl), (List.forall_mem_append.mpr ⟨(List.forall_mem_append.mpr ⟨(List.forall_mem_append.mpr ⟨(List.forall_mem_cons.mpr ⟨(List.mem_of_getElem? (i := 2) rfl), (List.forall_mem_cons.mpr ⟨(List.mem_of_getElem? (i := 1) rfl), (List.forall_mem_cons.mpr ⟨(List.mem_of_getElem? (i := 36) rfl), (List.forall_mem_cons.mpr ⟨(List.mem_of_getElem? (i := 37) rfl), (List.forall_mem_cons.mpr ⟨(List.mem_of_getElem? (i := 38) rfl), (List.forall_mem_cons.mpr ⟨(List.mem_of_getElem? (i := 39) rfl), (List.forall_mem_cons.mpr ⟨(List.mem_of_getElem? (i := 40) rfl), (List.forall_mem_cons.mpr ⟨(List.mem_of_getElem? (i := 12) rfl), (List.forall_mem_cons.mpr ⟨(List.mem_of_getElem? (i := 41) rfl), (List.forall_mem_cons.mpr ⟨(List.mem_of_getElem? (i := 19) rfl), (List.forall_mem_cons.mpr ⟨(List.mem_of_getElem? (i := 42) rfl), (List.forall_mem_cons.mpr ⟨(List.mem_of_getElem? (i := 43) rfl), (List.forall_mem_cons.mpr ⟨(List.mem_of_getElem? (i := 44) rfl), (List.forall_mem_cons.mpr ⟨(List.mem_of_getElem? (i := 45) rfl), (List.forall_mem_cons.mpr ⟨(List.mem_of_getElem? (i := 15) rfl), (List.forall_mem_cons.mpr ⟨(List.mem_of_getElem? (i := 16) rfl), (List.forall_mem_cons.mpr ⟨(List.mem_of_getElem? (i := 17) rfl), (List.forall_mem_cons.mpr ⟨(List.mem_of_getElem? (i := 18) rfl), (List.forall_mem_cons.mpr ⟨(List.mem_of_getElem? (i := 46) rfl), (List.forall_mem_cons.mpr ⟨(List.mem_of_getElem? (i := 47) rfl), (List.forall_mem_cons.mpr ⟨(List.mem_of_getElem? (i := 48) rfl), (List.forall_mem_cons.mpr ⟨(List.mem_of_getElem? (i := 49) rfl), (List.forall_mem_cons.mpr ⟨(List.mem_of_getElem? (i := 50) rfl), (List.forall_mem_cons.mpr ⟨(List.mem_of_getElem? (i := 51) rfl), (fun _ h => absurd h List.not_mem_nil)⟩)⟩)⟩)⟩)⟩)⟩)⟩)⟩)⟩)⟩)⟩)⟩)⟩)⟩)⟩)⟩)⟩)⟩)⟩)⟩)⟩)⟩)⟩)⟩), (List.forall_mem_cons.mpr ⟨(List.mem_of_getElem? (i := 52) rfl), (List.forall_mem_cons.mpr ⟨(List.mem_of_getElem? (i := 53) rfl), (List.forall_mem_cons.mpr ⟨(List.mem_of_getElem? (i := 54) rfl), (List.forall_mem_cons.mpr ⟨(List.mem_of_getElem? (i := 55) rfl), (List.forall_mem_cons.mpr ⟨(List.mem_of_getElem? (i := 56) rfl), (List.forall_mem_cons.mpr ⟨(List.mem_of_getElem? (i := 21) rfl), (List.forall_mem_cons.mpr ⟨(List.mem_of_getElem? (i := 22) rfl), (List.forall_mem_cons.mpr ⟨(List.mem_of_getElem? (i := 23) rfl), (List.forall_mem_cons.mpr ⟨(List.mem_of_getElem? (i := 24) rfl), (List.forall_mem_cons.mpr ⟨(List.mem_of_getElem? (i := 25) rfl), (List.forall_mem_cons.mpr ⟨(List.mem_of_getElem? (i := 26) rfl), (fun _ h => absurd h List.not_mem_nil)⟩)⟩)⟩)⟩)⟩)⟩)⟩)⟩)⟩)⟩)⟩)⟩), (fun _ h => (List.mem_cons_of_mem _ (List.mem_append_left _ (List.mem_append_right _ h))))⟩), (fun _ h => (List.mem_cons_of_mem _ (List.mem_append_right _ h)))⟩)⟩) gw_wsX4_fitsTheRow
set_option maxRecDepth 20000 in
theorem gX4_fitting_X4_fitsTheRow : GoodIn wsX4_fitting (wsV RX4 168 RX4 yX4_fitsTheRow wsX4_fitsTheRow) := goodIn_app (goodIn_sub (List.forall_mem_cons.mpr ⟨(List.mem_of_getElem? (i := 32) rfl), (List.forall_mem_cons.mpr ⟨(List.mem_of_getElem? (i := 33) rfl), (List.forall_mem_cons.mpr ⟨(List.mem_of_getElem? (i := 34) rfl), (List.forall_mem_cons.mpr ⟨(List.mem_of_getElem? (i := 6) rfl), (fun _ h => absurd h List.not_mem_nil)⟩)⟩)⟩)⟩) (by decide +kernel)) ggX4_fitting_X4_fitsTheRow
def dtX4_fitting_t0 : List (Nat × Instr × Nat) := [(0, .iload_n 1, 1), (1, .ifCond .eq 15, 3), (4, .iload_n 1, 1), (5, .iconst 1, 1), (6, .if_icmp .eq 10, 3), (9, .aload_n 0, 1), (10, .bipush (-2), 2), (12, .invokevirtual 43, 3), (15, .ireturn, 1), (16, .aload_n 0, 1), (17, .getfield 160, 3), (20, .aload_n 0, 1), (21, .getfield 10, 3), (24, .invokevirtual 136, 3), (27, .invokestatic 163, 3), (30, .if_icmp .eq 10, 3), (33, .aload_n 0, 1), (34, .bipush (-3), 2), (36, .invokevirtual 43, 3), (39, .ireturn, 1)]
theorem daX4_fitting_t0 : dtX4_fitting_t0.all (dck cX4_fitting) = true := by decide +kernel
theorem dX4_fitting_0 : decode cX4_fitting 0 = .ok (.iload_n 1, 1) := dck_get daX4_fitting_t0 0 rfl
theorem dX4_fitting_1 : decode cX4_fitting 1 = .ok (.ifCond .eq 15, 3) := dck_get daX4_fitting_t0 1 rfl
theorem dX4_fitting_4 : decode cX4_fitting 4 = .ok (.iload_n 1, 1) := dck_get daX4_fitting_t0 2 rfl
theorem dX4_fitting_5 : decode cX4_fitting 5 = .ok (.iconst 1, 1) := dck_get daX4_fitting_t0 3 rfl
theorem dX4_fitting_6 : decode cX4_fitting 6 = .ok (.if_icmp .eq 10, 3) := dck_get daX4_fitting_t0 4 rfl
theorem dX4_fitting_9 : decode cX4_fitting 9 = .ok (.aload_n 0, 1) := dck_get daX4_fitting_t0 5 rfl
theorem dX4_fitting_10 : decode cX4_fitting 10 = .ok (.bipush (-2), 2) := dck_get daX4_fitting_t0 6 rfl
theorem dX4_fitting_12 : decode cX4_fitting 12 = .ok (.invokevirtual 43, 3) := dck_get daX4_fitting_t0 7 rfl
theorem dX4_fitting_15 : decode cX4_fitting 15 = .ok (.ireturn, 1) := dck_get daX4_fitting_t0 8 rfl
theorem dX4_fitting_16 : decode cX4_fitting 16 = .ok (.aload_n 0, 1) := dck_get daX4_fitting_t0 9 rfl
theorem dX4_fitting_17 : decode cX4_fitting 17 = .ok (.getfield 160, 3) := dck_get daX4_fitting_t0 10 rfl
theorem dX4_fitting_20 : decode cX4_fitting 20 = .ok (.aload_n 0, 1) := dck_get daX4_fitting_t0 11 rfl
theorem dX4_fitting_21 : decode cX4_fitting 21 = .ok (.getfield 10, 3) := dck_get daX4_fitting_t0 12 rfl
theorem dX4_fitting_24 : decode cX4_fitting 24 = .ok (.invokevirtual 136, 3) := dck_get daX4_fitting_t0 13 rfl
theorem dX4_fitting_27 : decode cX4_fitting 27 = .ok (.invokestatic 163, 3) := dck_get daX4_fitting_t0 14 rfl
theorem dX4_fitting_30 : decode cX4_fitting 30 = .ok (.if_icmp .eq 10, 3) := dck_get daX4_fitting_t0 15 rfl
theorem dX4_fitting_33 : decode cX4_fitting 33 = .ok (.aload_n 0, 1) := dck_get daX4_fitting_t0 16 rfl
theorem dX4_fitting_34 : decode cX4_fitting 34 = .ok (.bipush (-3), 2) := dck_get daX4_fitting_t0 17 rfl
theorem dX4_fitting_36 : decode cX4_fitting 36 = .ok (.invokevirtual 43, 3) := dck_get daX4_fitting_t0 18 rfl
theorem dX4_fitting_39 : decode cX4_fitting 39 = .ok (.ireturn, 1) := dck_get daX4_fitting_t0 19 rfl
def dtX4_fitting_t1 : List (Nat × Instr × Nat) := [(40, .iconst 0, 1), (41, .istore_n 2, 1), (42, .bipush (-9), 2), (44, .istore_n 3, 1), (45, .iconst 0, 1), (46, .istore 4, 2), (48, .iload 4, 2), (50, .sipush 256, 3), (53, .if_icmp .ge 43, 3), (56, .aload_n 0, 1), (57, .getfield 10, 3), (60, .iload 4, 2), (62, .invokevirtual 105, 3), (65, .ifCond .eq 25, 3), (68, .aload_n 0, 1), (69, .iload 4, 2), (71, .invokevirtual 168, 3), (74, .ifCond .ne 6, 3), (77, .goto 13, 3), (80, .iload_n 2, 1)]
theorem daX4_fitting_t1 : dtX4_fitting_t1.all (dck cX4_fitting) = true := by decide +kernel
theorem dX4_fitting_40 : decode cX4_fitting 40 = .ok (.iconst 0, 1) := dck_get daX4_fitting_t1 0 rfl
theorem dX4_fitting_41 : decode cX4_fitting 41 = .ok (.istore_n 2, 1) := dck_get daX4_fitting_t1 1 rfl
theorem dX4_fitting_42 : decode cX4_fitting 42 = .ok (.bipush (-9), 2) := dck_get daX4_fitting_t1 2 rfl
theorem dX4_fitting_44 : decode cX4_fitting 44 = .ok (.istore_n 3, 1) := dck_get daX4_fitting_t1 3 rfl
theorem dX4_fitting_45 : decode cX4_fitting 45 = .ok (.iconst 0, 1) := dck_get daX4_fitting_t1 4 rfl
theorem dX4_fitting_46 : decode cX4_fitting 46 = .ok (.istore 4, 2) := dck_get daX4_fitting_t1 5 rfl
theorem dX4_fitting_48 : decode cX4_fitting 48 = .ok (.iload 4, 2) := dck_get daX4_fitting_t1 6 rfl
theorem dX4_fitting_50 : decode cX4_fitting 50 = .ok (.sipush 256, 3) := dck_get daX4_fitting_t1 7 rfl
theorem dX4_fitting_53 : decode cX4_fitting 53 = .ok (.if_icmp .ge 43, 3) := dck_get daX4_fitting_t1 8 rfl
theorem dX4_fitting_56 : decode cX4_fitting 56 = .ok (.aload_n 0, 1) := dck_get daX4_fitting_t1 9 rfl
theorem dX4_fitting_57 : decode cX4_fitting 57 = .ok (.getfield 10, 3) := dck_get daX4_fitting_t1 10 rfl
theorem dX4_fitting_60 : decode cX4_fitting 60 = .ok (.iload 4, 2) := dck_get daX4_fitting_t1 11 rfl
theorem dX4_fitting_62 : decode cX4_fitting 62 = .ok (.invokevirtual 105, 3) := dck_get daX4_fitting_t1 12 rfl
theorem dX4_fitting_65 : decode cX4_fitting 65 = .ok (.ifCond .eq 25, 3) := dck_get daX4_fitting_t1 13 rfl
theorem dX4_fitting_68 : decode cX4_fitting 68 = .ok (.aload_n 0, 1) := dck_get daX4_fitting_t1 14 rfl
theorem dX4_fitting_69 : decode cX4_fitting 69 = .ok (.iload 4, 2) := dck_get daX4_fitting_t1 15 rfl
theorem dX4_fitting_71 : decode cX4_fitting 71 = .ok (.invokevirtual 168, 3) := dck_get daX4_fitting_t1 16 rfl
theorem dX4_fitting_74 : decode cX4_fitting 74 = .ok (.ifCond .ne 6, 3) := dck_get daX4_fitting_t1 17 rfl
theorem dX4_fitting_77 : decode cX4_fitting 77 = .ok (.goto 13, 3) := dck_get daX4_fitting_t1 18 rfl
theorem dX4_fitting_80 : decode cX4_fitting 80 = .ok (.iload_n 2, 1) := dck_get daX4_fitting_t1 19 rfl
def dtX4_fitting_t2 : List (Nat × Instr × Nat) := [(81, .ifCond .ne 6, 3), (84, .iload 4, 2), (86, .istore_n 3, 1), (87, .iinc 2 1, 3), (90, .iinc 4 1, 3), (93, .goto (-45), 3), (96, .iload_n 1, 1), (97, .ifCond .ne 7, 3), (100, .iload_n 2, 1), (101, .goto 4, 3), (104, .iload_n 3, 1), (105, .ireturn, 1)]
theorem daX4_fitting_t2 : dtX4_fitting_t2.all (dck cX4_fitting) = true := by decide +kernel
theorem dX4_fitting_81 : decode cX4_fitting 81 = .ok (.ifCond .ne 6, 3) := dck_get daX4_fitting_t2 0 rfl
theorem dX4_fitting_84 : decode cX4_fitting 84 = .ok (.iload 4, 2) := dck_get daX4_fitting_t2 1 rfl
theorem dX4_fitting_86 : decode cX4_fitting 86 = .ok (.istore_n 3, 1) := dck_get daX4_fitting_t2 2 rfl
theorem dX4_fitting_87 : decode cX4_fitting 87 = .ok (.iinc 2 1, 3) := dck_get daX4_fitting_t2 3 rfl
theorem dX4_fitting_90 : decode cX4_fitting 90 = .ok (.iinc 4 1, 3) := dck_get daX4_fitting_t2 4 rfl
theorem dX4_fitting_93 : decode cX4_fitting 93 = .ok (.goto (-45), 3) := dck_get daX4_fitting_t2 5 rfl
theorem dX4_fitting_96 : decode cX4_fitting 96 = .ok (.iload_n 1, 1) := dck_get daX4_fitting_t2 6 rfl
theorem dX4_fitting_97 : decode cX4_fitting 97 = .ok (.ifCond .ne 7, 3) := dck_get daX4_fitting_t2 7 rfl
theorem dX4_fitting_100 : decode cX4_fitting 100 = .ok (.iload_n 2, 1) := dck_get daX4_fitting_t2 8 rfl
theorem dX4_fitting_101 : decode cX4_fitting 101 = .ok (.goto 4, 3) := dck_get daX4_fitting_t2 9 rfl
theorem dX4_fitting_104 : decode cX4_fitting 104 = .ok (.iload_n 3, 1) := dck_get daX4_fitting_t2 10 rfl
theorem dX4_fitting_105 : decode cX4_fitting 105 = .ok (.ireturn, 1) := dck_get daX4_fitting_t2 11 rfl
set_option maxRecDepth 20000 in
theorem gw_wsX4_firstNotSo : wsX4_firstNotSo.all goodWord = true := by decide +kernel
set_option maxRecDepth 20000 in
theorem ggX4_judge_X4_firstNotSo : GoodIn wsX4_judge wsX4_firstNotSo := goodIn_sub (List.forall_mem_cons.mpr ⟨(List.mem_of_getElem? (i := 6) rfl), (List.forall_mem_append.mpr ⟨(List.forall_mem_append.mpr ⟨(List.forall_mem_cons.mpr ⟨(List.mem_of_getElem? (i := 7) rfl), (List.forall_mem_cons.mpr ⟨(List.mem_of_getElem? (i := 1) rfl), (List.forall_mem_cons.mpr ⟨(List.mem_of_getElem? (i := 8) rfl), (List.forall_mem_cons.mpr ⟨(List.mem_of_getElem? (i := 9) rfl), (List.forall_mem_cons.mpr ⟨(List.mem_of_getElem? (i := 10) rfl), (List.forall_mem_cons.mpr ⟨(List.mem_of_getElem? (i := 11) rfl), (List.forall_mem_cons.mpr ⟨(List.mem_of_getElem? (i := 12) rfl), (List.forall_mem_cons.mpr ⟨(List.mem_of_getElem? (i := 13) rfl), (List.forall_mem_cons.mpr ⟨(List.mem_of_getElem? (i := 14) rfl), (List.forall_mem_cons.mpr ⟨(List.mem_of_getElem? (i := 15) rfl), (List.forall_mem_cons.mpr ⟨(List.mem_of_getElem? (i := 16) rfl), (fun _ h => absurd h List.not_mem_nil)⟩)⟩)⟩)⟩)⟩)⟩)⟩)⟩)⟩)⟩)⟩), (fun _ h => (List.mem_cons_of_mem _ (List.mem_append_left _ (List.mem_append_right _ h))))⟩), (fun _ h => (List.mem_cons_of_mem _ (List.mem_append_right _ h)))⟩)⟩) gw_wsX4_firstNotSo
set_option maxRecDepth 20000 in
theorem gX4_judge_X4_firstNotSo : GoodIn wsX4_judge (wsV RX4 171 RX4 yX4_firstNotSo wsX4_firstNotSo) := goodIn_app (goodIn_sub (List.forall_mem_cons.mpr ⟨(List.mem_of_getElem? (i := 2) rfl), (List.forall_mem_cons.mpr ⟨(List.mem_of_getElem? (i := 3) rfl), (List.forall_mem_cons.mpr ⟨(List.mem_of_getElem? (i := 4) rfl), (List.forall_mem_cons.mpr ⟨(List.mem_of_getElem? (i := 5) rfl), (fun _ h => absurd h List.not_mem_nil)⟩)⟩)⟩)⟩) (by decide +kernel)) ggX4_judge_X4_firstNotSo
def dtX4_judge_t0 : List (Nat × Instr × Nat) := [(0, .aload_n 0, 1), (1, .invokevirtual 171, 3), (4, .istore_n 1, 1), (5, .aload_n 0, 1), (6, .iconst 0, 1), (7, .putfield 160, 3), (10, .iload_n 1, 1), (11, .ireturn, 1)]
theorem daX4_judge_t0 : dtX4_judge_t0.all (dck cX4_judge) = true := by decide +kernel
theorem dX4_judge_0 : decode cX4_judge 0 = .ok (.aload_n 0, 1) := dck_get daX4_judge_t0 0 rfl
theorem dX4_judge_1 : decode cX4_judge 1 = .ok (.invokevirtual 171, 3) := dck_get daX4_judge_t0 1 rfl
theorem dX4_judge_4 : decode cX4_judge 4 = .ok (.istore_n 1, 1) := dck_get daX4_judge_t0 2 rfl
theorem dX4_judge_5 : decode cX4_judge 5 = .ok (.aload_n 0, 1) := dck_get daX4_judge_t0 3 rfl
theorem dX4_judge_6 : decode cX4_judge 6 = .ok (.iconst 0, 1) := dck_get daX4_judge_t0 4 rfl
theorem dX4_judge_7 : decode cX4_judge 7 = .ok (.putfield 160, 3) := dck_get daX4_judge_t0 5 rfl
theorem dX4_judge_10 : decode cX4_judge 10 = .ok (.iload_n 1, 1) := dck_get daX4_judge_t0 6 rfl
theorem dX4_judge_11 : decode cX4_judge 11 = .ok (.ireturn, 1) := dck_get daX4_judge_t0 7 rfl
set_option maxRecDepth 20000 in
theorem ggX4_lots_X4_refuse : GoodIn wsX4_lots wsX4_refuse := goodIn_sub (List.forall_mem_cons.mpr ⟨(List.mem_of_getElem? (i := 6) rfl), (List.forall_mem_append.mpr ⟨(List.forall_mem_cons.mpr ⟨(List.mem_of_getElem? (i := 7) rfl), (fun _ h => absurd h List.not_mem_nil)⟩), (fun _ h => (List.mem_cons_of_mem _ (List.mem_append_left _ (List.mem_append_right _ h))))⟩)⟩) gw_wsX4_refuse
set_option maxRecDepth 20000 in
theorem gX4_lots_X4_refuse : GoodIn wsX4_lots (wsV RX4 43 RX4 yX4_refuse wsX4_refuse) := goodIn_app (goodIn_sub (List.forall_mem_cons.mpr ⟨(List.mem_of_getElem? (i := 2) rfl), (List.forall_mem_cons.mpr ⟨(List.mem_of_getElem? (i := 3) rfl), (List.forall_mem_cons.mpr ⟨(List.mem_of_getElem? (i := 4) rfl), (List.forall_mem_cons.mpr ⟨(List.mem_of_getElem? (i := 5) rfl), (fun _ h => absurd h List.not_mem_nil)⟩)⟩)⟩)⟩) (by decide +kernel)) ggX4_lots_X4_refuse
set_option maxRecDepth 20000 in
theorem gw_wsX3_livingByLot : wsX3_livingByLot.all goodWord = true := by decide +kernel
set_option maxRecDepth 20000 in
theorem ggX4_lots_X3_livingByLot : GoodIn wsX4_lots wsX3_livingByLot := goodIn_sub (List.forall_mem_cons.mpr ⟨(List.mem_of_getElem? (i := 12) rfl), (List.forall_mem_append.mpr ⟨(List.forall_mem_append.mpr ⟨(List.forall_mem_cons.mpr ⟨(List.mem_of_getElem? (i := 13) rfl), (List.forall_mem_cons.mpr ⟨(List.mem_of_getElem? (i := 14) rfl), (List.forall_mem_cons.mpr ⟨(List.mem_of_getElem? (i := 15) rfl), (List.forall_mem_cons.mpr ⟨(List.mem_of_getElem? (i := 16) rfl), (List.forall_mem_cons.mpr ⟨(List.mem_of_getElem? (i := 17) rfl), (List.forall_mem_cons.mpr ⟨(List.mem_of_getElem? (i := 18) rfl), (List.forall_mem_cons.mpr ⟨(List.mem_of_getElem? (i := 11) rfl), (List.forall_mem_cons.mpr ⟨(List.mem_of_getElem? (i := 19) rfl), (List.forall_mem_cons.mpr ⟨(List.mem_of_getElem? (i := 20) rfl), (List.forall_mem_cons.mpr ⟨(List.mem_of_getElem? (i := 21) rfl), (List.forall_mem_cons.mpr ⟨(List.mem_of_getElem? (i := 22) rfl), (List.forall_mem_cons.mpr ⟨(List.mem_of_getElem? (i := 23) rfl), (List.forall_mem_cons.mpr ⟨(List.mem_of_getElem? (i := 24) rfl), (List.forall_mem_cons.mpr ⟨(List.mem_of_getElem? (i := 25) rfl), (List.forall_mem_cons.mpr ⟨(List.mem_of_getElem? (i := 26) rfl), (List.forall_mem_cons.mpr ⟨(List.mem_of_getElem? (i := 27) rfl), (List.forall_mem_cons.mpr ⟨(List.mem_of_getElem? (i := 28) rfl), (List.forall_mem_cons.mpr ⟨(List.mem_of_getElem? (i := 29) rfl), (List.forall_mem_cons.mpr ⟨(List.mem_of_getElem? (i := 30) rfl), (List.forall_mem_cons.mpr ⟨(List.mem_of_getElem? (i := 31) rfl), (List.forall_mem_cons.mpr ⟨(List.mem_of_getElem? (i := 32) rfl), (List.forall_mem_cons.mpr ⟨(List.mem_of_getElem? (i := 33) rfl), (List.forall_mem_cons.mpr ⟨(List.mem_of_getElem? (i := 34) rfl), (List.forall_mem_cons.mpr ⟨(List.mem_of_getElem? (i := 35) rfl), (fun _ h => absurd h List.not_mem_nil)⟩)⟩)⟩)⟩)⟩)⟩)⟩)⟩)⟩)⟩)⟩)⟩)⟩)⟩)⟩)⟩)⟩)⟩)⟩)⟩)⟩)⟩)⟩)⟩), (List.forall_mem_cons.mpr ⟨(List.mem_of_getElem? (i := 36) rfl), (List.forall_mem_cons.mpr ⟨(List.mem_of_getElem? (i := 37) rfl), (List.forall_mem_cons.mpr ⟨(List.mem_of_getElem? (i := 38) rfl), (List.forall_mem_cons.mpr ⟨(List.mem_of_getElem? (i := 39) rfl), (List.forall_mem_cons.mpr ⟨(List.mem_of_getElem? (i := 40) rfl), (List.forall_mem_cons.mpr ⟨(List.mem_of_getElem? (i := 41) rfl), (List.forall_mem_cons.mpr ⟨(List.mem_of_getElem? (i := 42) rfl), (List.forall_mem_cons.mpr ⟨(List.mem_of_getElem? (i := 43) rfl), (List.forall_mem_cons.mpr ⟨(List.mem_of_getElem? (i := 44) rfl), (List.forall_mem_cons.mpr ⟨(List.mem_of_getElem? (i := 45) rfl), (List.forall_mem_cons.mpr ⟨(List.mem_of_getElem? (i := 46) rfl), (List.forall_mem_cons.mpr ⟨(List.mem_of_getElem? (i := 47) rfl), (List.forall_mem_cons.mpr ⟨(List.mem_of_getElem? (i := 48) rfl), (List.forall_mem_cons.mpr ⟨(List.mem_of_getElem? (i := 49) rfl), (List.forall_mem_cons.mpr ⟨(List.mem_of_getElem? (i := 50) rfl), (List.forall_mem_cons.mpr ⟨(List.mem_of_getElem? (i := 51) rfl), (List.forall_mem_cons.mpr ⟨(List.mem_of_getElem? (i := 52) rfl), (List.forall_mem_cons.mpr ⟨(List.mem_of_getElem? (i := 53) rfl), (List.forall_mem_cons.mpr ⟨(List.mem_of_getElem? (i := 54) rfl), (List.forall_mem_cons.mpr ⟨(List.mem_of_getElem? (i := 55) rfl), (List.forall_mem_cons.mpr ⟨(List.mem_of_getElem? (i := 56) rfl), (fun _ h => absurd h List.not_mem_nil)⟩)⟩)⟩)⟩)⟩)⟩)⟩)⟩)⟩)⟩)⟩)⟩)⟩)⟩)⟩)⟩)⟩)⟩)⟩)⟩)⟩)⟩), (fun _ h => (List.mem_cons_of_mem _ (List.mem_append_right _ h)))⟩)⟩) gw_wsX3_livingByLot
set_option maxRecDepth 20000 in
theorem gX4_lots_X3_livingByLot : GoodIn wsX4_lots (wsV RX4 174 RX3 yX3_livingByLot wsX3_livingByLot) := goodIn_app (goodIn_sub (List.forall_mem_cons.mpr ⟨(List.mem_of_getElem? (i := 8) rfl), (List.forall_mem_cons.mpr ⟨(List.mem_of_getElem? (i := 9) rfl), (List.forall_mem_cons.mpr ⟨(List.mem_of_getElem? (i := 10) rfl), (List.forall_mem_cons.mpr ⟨(List.mem_of_getElem? (i := 11) rfl), (fun _ h => absurd h List.not_mem_nil)⟩)⟩)⟩)⟩) (by decide +kernel)) ggX4_lots_X3_livingByLot
def dtX4_lots_t0 : List (Nat × Instr × Nat) := [(0, .iload_n 1, 1), (1, .iconst 1, 1), (2, .if_icmp .ge 10, 3), (5, .aload_n 0, 1), (6, .bipush (-4), 2), (8, .invokevirtual 43, 3), (11, .ireturn, 1), (12, .iload_n 1, 1), (13, .bipush 40, 2), (15, .if_icmp .le 10, 3), (18, .aload_n 0, 1), (19, .bipush (-6), 2), (21, .invokevirtual 43, 3), (24, .ireturn, 1), (25, .aload_n 0, 1), (26, .getfield 10, 3), (29, .iload_n 1, 1), (30, .iload_n 2, 1), (31, .invokevirtual 174, 3), (34, .ireturn, 1)]
theorem daX4_lots_t0 : dtX4_lots_t0.all (dck cX4_lots) = true := by decide +kernel
theorem dX4_lots_0 : decode cX4_lots 0 = .ok (.iload_n 1, 1) := dck_get daX4_lots_t0 0 rfl
theorem dX4_lots_1 : decode cX4_lots 1 = .ok (.iconst 1, 1) := dck_get daX4_lots_t0 1 rfl
theorem dX4_lots_2 : decode cX4_lots 2 = .ok (.if_icmp .ge 10, 3) := dck_get daX4_lots_t0 2 rfl
theorem dX4_lots_5 : decode cX4_lots 5 = .ok (.aload_n 0, 1) := dck_get daX4_lots_t0 3 rfl
theorem dX4_lots_6 : decode cX4_lots 6 = .ok (.bipush (-4), 2) := dck_get daX4_lots_t0 4 rfl
theorem dX4_lots_8 : decode cX4_lots 8 = .ok (.invokevirtual 43, 3) := dck_get daX4_lots_t0 5 rfl
theorem dX4_lots_11 : decode cX4_lots 11 = .ok (.ireturn, 1) := dck_get daX4_lots_t0 6 rfl
theorem dX4_lots_12 : decode cX4_lots 12 = .ok (.iload_n 1, 1) := dck_get daX4_lots_t0 7 rfl
theorem dX4_lots_13 : decode cX4_lots 13 = .ok (.bipush 40, 2) := dck_get daX4_lots_t0 8 rfl
theorem dX4_lots_15 : decode cX4_lots 15 = .ok (.if_icmp .le 10, 3) := dck_get daX4_lots_t0 9 rfl
theorem dX4_lots_18 : decode cX4_lots 18 = .ok (.aload_n 0, 1) := dck_get daX4_lots_t0 10 rfl
theorem dX4_lots_19 : decode cX4_lots 19 = .ok (.bipush (-6), 2) := dck_get daX4_lots_t0 11 rfl
theorem dX4_lots_21 : decode cX4_lots 21 = .ok (.invokevirtual 43, 3) := dck_get daX4_lots_t0 12 rfl
theorem dX4_lots_24 : decode cX4_lots 24 = .ok (.ireturn, 1) := dck_get daX4_lots_t0 13 rfl
theorem dX4_lots_25 : decode cX4_lots 25 = .ok (.aload_n 0, 1) := dck_get daX4_lots_t0 14 rfl
theorem dX4_lots_26 : decode cX4_lots 26 = .ok (.getfield 10, 3) := dck_get daX4_lots_t0 15 rfl
theorem dX4_lots_29 : decode cX4_lots 29 = .ok (.iload_n 1, 1) := dck_get daX4_lots_t0 16 rfl
theorem dX4_lots_30 : decode cX4_lots 30 = .ok (.iload_n 2, 1) := dck_get daX4_lots_t0 17 rfl
theorem dX4_lots_31 : decode cX4_lots 31 = .ok (.invokevirtual 174, 3) := dck_get daX4_lots_t0 18 rfl
theorem dX4_lots_34 : decode cX4_lots 34 = .ok (.ireturn, 1) := dck_get daX4_lots_t0 19 rfl
set_option maxRecDepth 20000 in
theorem gw_wsX3_becomeLike : wsX3_becomeLike.all goodWord = true := by decide +kernel
set_option maxRecDepth 20000 in
theorem ggX4_image_X3_becomeLike : GoodIn wsX4_image wsX3_becomeLike := goodIn_sub (List.forall_mem_cons.mpr ⟨(List.mem_of_getElem? (i := 9) rfl), (List.forall_mem_append.mpr ⟨(List.forall_mem_cons.mpr ⟨(List.mem_of_getElem? (i := 10) rfl), (List.forall_mem_cons.mpr ⟨(List.mem_of_getElem? (i := 11) rfl), (List.forall_mem_cons.mpr ⟨(List.mem_of_getElem? (i := 12) rfl), (List.forall_mem_cons.mpr ⟨(List.mem_of_getElem? (i := 13) rfl), (List.forall_mem_cons.mpr ⟨(List.mem_of_getElem? (i := 14) rfl), (List.forall_mem_cons.mpr ⟨(List.mem_of_getElem? (i := 15) rfl), (List.forall_mem_cons.mpr ⟨(List.mem_of_getElem? (i := 16) rfl), (fun _ h => absurd h List.not_mem_nil)⟩)⟩)⟩)⟩)⟩)⟩)⟩), (fun _ h => (List.mem_cons_of_mem _ (List.mem_append_right _ h)))⟩)⟩) gw_wsX3_becomeLike
set_option maxRecDepth 20000 in
theorem gX4_image_X3_becomeLike : GoodIn wsX4_image (wsV RX4 177 RX3 yX3_becomeLike wsX3_becomeLike) := goodIn_app (goodIn_sub (List.forall_mem_cons.mpr ⟨(List.mem_of_getElem? (i := 5) rfl), (List.forall_mem_cons.mpr ⟨(List.mem_of_getElem? (i := 6) rfl), (List.forall_mem_cons.mpr ⟨(List.mem_of_getElem? (i := 7) rfl), (List.forall_mem_cons.mpr ⟨(List.mem_of_getElem? (i := 8) rfl), (fun _ h => absurd h List.not_mem_nil)⟩)⟩)⟩)⟩) (by decide +kernel)) ggX4_image_X3_becomeLike
def dtX4_image_t0 : List (Nat × Instr × Nat) := [(0, .aload_n 0, 1), (1, .getfield 19, 3), (4, .aload_n 0, 1), (5, .getfield 10, 3), (8, .invokevirtual 177, 3), (11, .aload_n 0, 1), (12, .iconst 1, 1), (13, .putfield 181, 3), (16, .aload_n 0, 1), (17, .getfield 19, 3), (20, .getfield 108, 3), (23, .ireturn, 1)]
theorem daX4_image_t0 : dtX4_image_t0.all (dck cX4_image) = true := by decide +kernel
theorem dX4_image_0 : decode cX4_image 0 = .ok (.aload_n 0, 1) := dck_get daX4_image_t0 0 rfl
theorem dX4_image_1 : decode cX4_image 1 = .ok (.getfield 19, 3) := dck_get daX4_image_t0 1 rfl
theorem dX4_image_4 : decode cX4_image 4 = .ok (.aload_n 0, 1) := dck_get daX4_image_t0 2 rfl
theorem dX4_image_5 : decode cX4_image 5 = .ok (.getfield 10, 3) := dck_get daX4_image_t0 3 rfl
theorem dX4_image_8 : decode cX4_image 8 = .ok (.invokevirtual 177, 3) := dck_get daX4_image_t0 4 rfl
theorem dX4_image_11 : decode cX4_image 11 = .ok (.aload_n 0, 1) := dck_get daX4_image_t0 5 rfl
theorem dX4_image_12 : decode cX4_image 12 = .ok (.iconst 1, 1) := dck_get daX4_image_t0 6 rfl
theorem dX4_image_13 : decode cX4_image 13 = .ok (.putfield 181, 3) := dck_get daX4_image_t0 7 rfl
theorem dX4_image_16 : decode cX4_image 16 = .ok (.aload_n 0, 1) := dck_get daX4_image_t0 8 rfl
theorem dX4_image_17 : decode cX4_image 17 = .ok (.getfield 19, 3) := dck_get daX4_image_t0 9 rfl
theorem dX4_image_20 : decode cX4_image 20 = .ok (.getfield 108, 3) := dck_get daX4_image_t0 10 rfl
theorem dX4_image_23 : decode cX4_image 23 = .ok (.ireturn, 1) := dck_get daX4_image_t0 11 rfl
set_option maxRecDepth 20000 in
theorem ggX4_back_X4_refuse : GoodIn wsX4_back wsX4_refuse := goodIn_sub (List.forall_mem_cons.mpr ⟨(List.mem_of_getElem? (i := 9) rfl), (List.forall_mem_append.mpr ⟨(List.forall_mem_cons.mpr ⟨(List.mem_of_getElem? (i := 10) rfl), (fun _ h => absurd h List.not_mem_nil)⟩), (fun _ h => (List.mem_cons_of_mem _ (List.mem_append_left _ (List.mem_append_right _ h))))⟩)⟩) gw_wsX4_refuse
set_option maxRecDepth 20000 in
theorem gX4_back_X4_refuse : GoodIn wsX4_back (wsV RX4 43 RX4 yX4_refuse wsX4_refuse) := goodIn_app (goodIn_sub (List.forall_mem_cons.mpr ⟨(List.mem_of_getElem? (i := 5) rfl), (List.forall_mem_cons.mpr ⟨(List.mem_of_getElem? (i := 6) rfl), (List.forall_mem_cons.mpr ⟨(List.mem_of_getElem? (i := 7) rfl), (List.forall_mem_cons.mpr ⟨(List.mem_of_getElem? (i := 8) rfl), (fun _ h => absurd h List.not_mem_nil)⟩)⟩)⟩)⟩) (by decide +kernel)) ggX4_back_X4_refuse
set_option maxRecDepth 20000 in
theorem ggX4_back_X3_becomeLike : GoodIn wsX4_back wsX3_becomeLike := goodIn_sub (List.forall_mem_cons.mpr ⟨(List.mem_of_getElem? (i := 15) rfl), (List.forall_mem_append.mpr ⟨(List.forall_mem_cons.mpr ⟨(List.mem_of_getElem? (i := 16) rfl), (List.forall_mem_cons.mpr ⟨(List.mem_of_getElem? (i := 17) rfl), (List.forall_mem_cons.mpr ⟨(List.mem_of_getElem? (i := 18) rfl), (List.forall_mem_cons.mpr ⟨(List.mem_of_getElem? (i := 19) rfl), (List.forall_mem_cons.mpr ⟨(List.mem_of_getElem? (i := 20) rfl), (List.forall_mem_cons.mpr ⟨(List.mem_of_getElem? (i := 21) rfl), (List.forall_mem_cons.mpr ⟨(List.mem_of_getElem? (i := 22) rfl), (fun _ h => absurd h List.not_mem_nil)⟩)⟩)⟩)⟩)⟩)⟩)⟩), (fun _ h => (List.mem_cons_of_mem _ (List.mem_append_right _ h)))⟩)⟩) gw_wsX3_becomeLike
set_option maxRecDepth 20000 in
theorem gX4_back_X3_becomeLike : GoodIn wsX4_back (wsV RX4 177 RX3 yX3_becomeLike wsX3_becomeLike) := goodIn_app (goodIn_sub (List.forall_mem_cons.mpr ⟨(List.mem_of_getElem? (i := 11) rfl), (List.forall_mem_cons.mpr ⟨(List.mem_of_getElem? (i := 12) rfl), (List.forall_mem_cons.mpr ⟨(List.mem_of_getElem? (i := 13) rfl), (List.forall_mem_cons.mpr ⟨(List.mem_of_getElem? (i := 14) rfl), (fun _ h => absurd h List.not_mem_nil)⟩)⟩)⟩)⟩) (by decide +kernel)) ggX4_back_X3_becomeLike
def dtX4_back_t0 : List (Nat × Instr × Nat) := [(0, .aload_n 0, 1), (1, .getfield 181, 3), (4, .ifCond .ne 10, 3), (7, .aload_n 0, 1), (8, .bipush (-3), 2), (10, .invokevirtual 43, 3), (13, .ireturn, 1), (14, .aload_n 0, 1), (15, .getfield 10, 3), (18, .aload_n 0, 1), (19, .getfield 19, 3), (22, .invokevirtual 177, 3), (25, .aload_n 0, 1), (26, .getfield 10, 3), (29, .getfield 108, 3), (32, .ireturn, 1)]
theorem daX4_back_t0 : dtX4_back_t0.all (dck cX4_back) = true := by decide +kernel
theorem dX4_back_0 : decode cX4_back 0 = .ok (.aload_n 0, 1) := dck_get daX4_back_t0 0 rfl
theorem dX4_back_1 : decode cX4_back 1 = .ok (.getfield 181, 3) := dck_get daX4_back_t0 1 rfl
theorem dX4_back_4 : decode cX4_back 4 = .ok (.ifCond .ne 10, 3) := dck_get daX4_back_t0 2 rfl
theorem dX4_back_7 : decode cX4_back 7 = .ok (.aload_n 0, 1) := dck_get daX4_back_t0 3 rfl
theorem dX4_back_8 : decode cX4_back 8 = .ok (.bipush (-3), 2) := dck_get daX4_back_t0 4 rfl
theorem dX4_back_10 : decode cX4_back 10 = .ok (.invokevirtual 43, 3) := dck_get daX4_back_t0 5 rfl
theorem dX4_back_13 : decode cX4_back 13 = .ok (.ireturn, 1) := dck_get daX4_back_t0 6 rfl
theorem dX4_back_14 : decode cX4_back 14 = .ok (.aload_n 0, 1) := dck_get daX4_back_t0 7 rfl
theorem dX4_back_15 : decode cX4_back 15 = .ok (.getfield 10, 3) := dck_get daX4_back_t0 8 rfl
theorem dX4_back_18 : decode cX4_back 18 = .ok (.aload_n 0, 1) := dck_get daX4_back_t0 9 rfl
theorem dX4_back_19 : decode cX4_back 19 = .ok (.getfield 19, 3) := dck_get daX4_back_t0 10 rfl
theorem dX4_back_22 : decode cX4_back 22 = .ok (.invokevirtual 177, 3) := dck_get daX4_back_t0 11 rfl
theorem dX4_back_25 : decode cX4_back 25 = .ok (.aload_n 0, 1) := dck_get daX4_back_t0 12 rfl
theorem dX4_back_26 : decode cX4_back 26 = .ok (.getfield 10, 3) := dck_get daX4_back_t0 13 rfl
theorem dX4_back_29 : decode cX4_back 29 = .ok (.getfield 108, 3) := dck_get daX4_back_t0 14 rfl
theorem dX4_back_32 : decode cX4_back 32 = .ok (.ireturn, 1) := dck_get daX4_back_t0 15 rfl
set_option maxRecDepth 20000 in
theorem ggX4_count_X3_living : GoodIn wsX4_count wsX3_living := goodIn_sub (List.forall_mem_cons.mpr ⟨(List.mem_of_getElem? (i := 14) rfl), (List.forall_mem_append.mpr ⟨(List.forall_mem_cons.mpr ⟨(List.mem_of_getElem? (i := 15) rfl), (List.forall_mem_cons.mpr ⟨(List.mem_of_getElem? (i := 16) rfl), (List.forall_mem_cons.mpr ⟨(List.mem_of_getElem? (i := 17) rfl), (List.forall_mem_cons.mpr ⟨(List.mem_of_getElem? (i := 13) rfl), (List.forall_mem_cons.mpr ⟨(List.mem_of_getElem? (i := 18) rfl), (List.forall_mem_cons.mpr ⟨(List.mem_of_getElem? (i := 19) rfl), (List.forall_mem_cons.mpr ⟨(List.mem_of_getElem? (i := 20) rfl), (fun _ h => absurd h List.not_mem_nil)⟩)⟩)⟩)⟩)⟩)⟩)⟩), (fun _ h => (List.mem_cons_of_mem _ (List.mem_append_left _ (List.mem_append_right _ h))))⟩)⟩) gw_wsX3_living
set_option maxRecDepth 20000 in
theorem gX4_count_X3_living : GoodIn wsX4_count (wsV RX4 136 RX3 yX3_living wsX3_living) := goodIn_app (goodIn_sub (List.forall_mem_cons.mpr ⟨(List.mem_of_getElem? (i := 10) rfl), (List.forall_mem_cons.mpr ⟨(List.mem_of_getElem? (i := 11) rfl), (List.forall_mem_cons.mpr ⟨(List.mem_of_getElem? (i := 12) rfl), (List.forall_mem_cons.mpr ⟨(List.mem_of_getElem? (i := 13) rfl), (fun _ h => absurd h List.not_mem_nil)⟩)⟩)⟩)⟩) (by decide +kernel)) ggX4_count_X3_living
set_option maxRecDepth 20000 in
theorem ggX4_count_J6_bitCount_0f7a4 : GoodIn wsX4_count wsJ6_bitCount_0f7a4 := goodIn_sub (List.forall_mem_cons.mpr ⟨(List.mem_of_getElem? (i := 24) rfl), (List.forall_mem_cons.mpr ⟨(List.mem_of_getElem? (i := 25) rfl), (List.forall_mem_cons.mpr ⟨(List.mem_of_getElem? (i := 26) rfl), (List.forall_mem_cons.mpr ⟨(List.mem_of_getElem? (i := 27) rfl), (fun _ h => absurd h List.not_mem_nil)⟩)⟩)⟩)⟩) gw_wsJ6_bitCount_0f7a4
set_option maxRecDepth 20000 in
theorem gX4_count_J6_bitCount_0f7a4 : GoodIn wsX4_count (va_wsS RX4 163 yJ6_bitCount_0f7a4 wsJ6_bitCount_0f7a4) := goodIn_app (goodIn_sub (List.forall_mem_cons.mpr ⟨(List.mem_of_getElem? (i := 21) rfl), (List.forall_mem_cons.mpr ⟨(List.mem_of_getElem? (i := 22) rfl), (List.forall_mem_cons.mpr ⟨(List.mem_of_getElem? (i := 23) rfl), (fun _ h => absurd h List.not_mem_nil)⟩)⟩)⟩) (by decide +kernel)) ggX4_count_J6_bitCount_0f7a4
set_option maxRecDepth 20000 in
theorem gw_wsX3_sumOfLiving : wsX3_sumOfLiving.all goodWord = true := by decide +kernel
set_option maxRecDepth 20000 in
theorem ggX4_count_X3_sumOfLiving : GoodIn wsX4_count wsX3_sumOfLiving := goodIn_sub (List.forall_mem_cons.mpr ⟨(List.mem_of_getElem? (i := 31) rfl), (List.forall_mem_append.mpr ⟨(List.forall_mem_cons.mpr ⟨(List.mem_of_getElem? (i := 15) rfl), (List.forall_mem_cons.mpr ⟨(List.mem_of_getElem? (i := 16) rfl), (List.forall_mem_cons.mpr ⟨(List.mem_of_getElem? (i := 17) rfl), (List.forall_mem_cons.mpr ⟨(List.mem_of_getElem? (i := 13) rfl), (List.forall_mem_cons.mpr ⟨(List.mem_of_getElem? (i := 18) rfl), (List.forall_mem_cons.mpr ⟨(List.mem_of_getElem? (i := 19) rfl), (List.forall_mem_cons.mpr ⟨(List.mem_of_getElem? (i := 20) rfl), (fun _ h => absurd h List.not_mem_nil)⟩)⟩)⟩)⟩)⟩)⟩)⟩), (fun _ h => (List.mem_cons_of_mem _ (List.mem_append_left _ (List.mem_append_right _ h))))⟩)⟩) gw_wsX3_sumOfLiving
set_option maxRecDepth 20000 in
theorem gX4_count_X3_sumOfLiving : GoodIn wsX4_count (wsV RX4 188 RX3 yX3_sumOfLiving wsX3_sumOfLiving) := goodIn_app (goodIn_sub (List.forall_mem_cons.mpr ⟨(List.mem_of_getElem? (i := 28) rfl), (List.forall_mem_cons.mpr ⟨(List.mem_of_getElem? (i := 29) rfl), (List.forall_mem_cons.mpr ⟨(List.mem_of_getElem? (i := 30) rfl), (List.forall_mem_cons.mpr ⟨(List.mem_of_getElem? (i := 13) rfl), (fun _ h => absurd h List.not_mem_nil)⟩)⟩)⟩)⟩) (by decide +kernel)) ggX4_count_X3_sumOfLiving
def dtX4_count_t0 : List (Nat × Instr × Nat) := [(0, .iload_n 1, 1), (1, .tableswitch 113 0 6 #[43, 54, 62, 70, 85, 100, 105], 43), (44, .aload_n 0, 1), (45, .getfield 10, 3), (48, .invokevirtual 136, 3), (51, .invokestatic 163, 3), (54, .ireturn, 1), (55, .aload_n 0, 1), (56, .getfield 10, 3), (59, .getfield 185, 3), (62, .ireturn, 1), (63, .aload_n 0, 1), (64, .getfield 10, 3), (67, .getfield 108, 3), (70, .ireturn, 1), (71, .aload_n 0, 1), (72, .getfield 10, 3), (75, .aload_n 0, 1), (76, .getfield 10, 3), (79, .getfield 86, 3)]
theorem daX4_count_t0 : dtX4_count_t0.all (dck cX4_count) = true := by decide +kernel
theorem dX4_count_0 : decode cX4_count 0 = .ok (.iload_n 1, 1) := dck_get daX4_count_t0 0 rfl
theorem dX4_count_1 : decode cX4_count 1 = .ok (.tableswitch 113 0 6 #[43, 54, 62, 70, 85, 100, 105], 43) := dck_get daX4_count_t0 1 rfl
theorem dX4_count_44 : decode cX4_count 44 = .ok (.aload_n 0, 1) := dck_get daX4_count_t0 2 rfl
theorem dX4_count_45 : decode cX4_count 45 = .ok (.getfield 10, 3) := dck_get daX4_count_t0 3 rfl
theorem dX4_count_48 : decode cX4_count 48 = .ok (.invokevirtual 136, 3) := dck_get daX4_count_t0 4 rfl
theorem dX4_count_51 : decode cX4_count 51 = .ok (.invokestatic 163, 3) := dck_get daX4_count_t0 5 rfl
theorem dX4_count_54 : decode cX4_count 54 = .ok (.ireturn, 1) := dck_get daX4_count_t0 6 rfl
theorem dX4_count_55 : decode cX4_count 55 = .ok (.aload_n 0, 1) := dck_get daX4_count_t0 7 rfl
theorem dX4_count_56 : decode cX4_count 56 = .ok (.getfield 10, 3) := dck_get daX4_count_t0 8 rfl
theorem dX4_count_59 : decode cX4_count 59 = .ok (.getfield 185, 3) := dck_get daX4_count_t0 9 rfl
theorem dX4_count_62 : decode cX4_count 62 = .ok (.ireturn, 1) := dck_get daX4_count_t0 10 rfl
theorem dX4_count_63 : decode cX4_count 63 = .ok (.aload_n 0, 1) := dck_get daX4_count_t0 11 rfl
theorem dX4_count_64 : decode cX4_count 64 = .ok (.getfield 10, 3) := dck_get daX4_count_t0 12 rfl
theorem dX4_count_67 : decode cX4_count 67 = .ok (.getfield 108, 3) := dck_get daX4_count_t0 13 rfl
theorem dX4_count_70 : decode cX4_count 70 = .ok (.ireturn, 1) := dck_get daX4_count_t0 14 rfl
theorem dX4_count_71 : decode cX4_count 71 = .ok (.aload_n 0, 1) := dck_get daX4_count_t0 15 rfl
theorem dX4_count_72 : decode cX4_count 72 = .ok (.getfield 10, 3) := dck_get daX4_count_t0 16 rfl
theorem dX4_count_75 : decode cX4_count 75 = .ok (.aload_n 0, 1) := dck_get daX4_count_t0 17 rfl
theorem dX4_count_76 : decode cX4_count 76 = .ok (.getfield 10, 3) := dck_get daX4_count_t0 18 rfl
theorem dX4_count_79 : decode cX4_count 79 = .ok (.getfield 86, 3) := dck_get daX4_count_t0 19 rfl
def dtX4_count_t1 : List (Nat × Instr × Nat) := [(82, .invokevirtual 188, 3), (85, .ireturn, 1), (86, .aload_n 0, 1), (87, .getfield 10, 3), (90, .aload_n 0, 1), (91, .getfield 10, 3), (94, .getfield 80, 3), (97, .invokevirtual 188, 3), (100, .ireturn, 1), (101, .aload_n 0, 1), (102, .getfield 160, 3), (105, .ireturn, 1), (106, .aload_n 0, 1), (107, .getfield 25, 3), (110, .getfield 192, 3), (113, .ireturn, 1), (114, .iload_n 1, 1), (115, .bipush 10, 2), (117, .if_icmp .le 21, 3), (120, .iload_n 1, 1)]
theorem daX4_count_t1 : dtX4_count_t1.all (dck cX4_count) = true := by decide +kernel
theorem dX4_count_82 : decode cX4_count 82 = .ok (.invokevirtual 188, 3) := dck_get daX4_count_t1 0 rfl
theorem dX4_count_85 : decode cX4_count 85 = .ok (.ireturn, 1) := dck_get daX4_count_t1 1 rfl
theorem dX4_count_86 : decode cX4_count 86 = .ok (.aload_n 0, 1) := dck_get daX4_count_t1 2 rfl
theorem dX4_count_87 : decode cX4_count 87 = .ok (.getfield 10, 3) := dck_get daX4_count_t1 3 rfl
theorem dX4_count_90 : decode cX4_count 90 = .ok (.aload_n 0, 1) := dck_get daX4_count_t1 4 rfl
theorem dX4_count_91 : decode cX4_count 91 = .ok (.getfield 10, 3) := dck_get daX4_count_t1 5 rfl
theorem dX4_count_94 : decode cX4_count 94 = .ok (.getfield 80, 3) := dck_get daX4_count_t1 6 rfl
theorem dX4_count_97 : decode cX4_count 97 = .ok (.invokevirtual 188, 3) := dck_get daX4_count_t1 7 rfl
theorem dX4_count_100 : decode cX4_count 100 = .ok (.ireturn, 1) := dck_get daX4_count_t1 8 rfl
theorem dX4_count_101 : decode cX4_count 101 = .ok (.aload_n 0, 1) := dck_get daX4_count_t1 9 rfl
theorem dX4_count_102 : decode cX4_count 102 = .ok (.getfield 160, 3) := dck_get daX4_count_t1 10 rfl
theorem dX4_count_105 : decode cX4_count 105 = .ok (.ireturn, 1) := dck_get daX4_count_t1 11 rfl
theorem dX4_count_106 : decode cX4_count 106 = .ok (.aload_n 0, 1) := dck_get daX4_count_t1 12 rfl
theorem dX4_count_107 : decode cX4_count 107 = .ok (.getfield 25, 3) := dck_get daX4_count_t1 13 rfl
theorem dX4_count_110 : decode cX4_count 110 = .ok (.getfield 192, 3) := dck_get daX4_count_t1 14 rfl
theorem dX4_count_113 : decode cX4_count 113 = .ok (.ireturn, 1) := dck_get daX4_count_t1 15 rfl
theorem dX4_count_114 : decode cX4_count 114 = .ok (.iload_n 1, 1) := dck_get daX4_count_t1 16 rfl
theorem dX4_count_115 : decode cX4_count 115 = .ok (.bipush 10, 2) := dck_get daX4_count_t1 17 rfl
theorem dX4_count_117 : decode cX4_count 117 = .ok (.if_icmp .le 21, 3) := dck_get daX4_count_t1 18 rfl
theorem dX4_count_120 : decode cX4_count 120 = .ok (.iload_n 1, 1) := dck_get daX4_count_t1 19 rfl
def dtX4_count_t2 : List (Nat × Instr × Nat) := [(121, .bipush 16, 2), (123, .if_icmp .gt 15, 3), (126, .aload_n 0, 1), (127, .getfield 40, 3), (130, .iload_n 1, 1), (131, .bipush 10, 2), (133, .isub, 1), (134, .iaload, 1), (135, .goto 5, 3), (138, .bipush (-9), 2), (140, .ireturn, 1)]
theorem daX4_count_t2 : dtX4_count_t2.all (dck cX4_count) = true := by decide +kernel
theorem dX4_count_121 : decode cX4_count 121 = .ok (.bipush 16, 2) := dck_get daX4_count_t2 0 rfl
theorem dX4_count_123 : decode cX4_count 123 = .ok (.if_icmp .gt 15, 3) := dck_get daX4_count_t2 1 rfl
theorem dX4_count_126 : decode cX4_count 126 = .ok (.aload_n 0, 1) := dck_get daX4_count_t2 2 rfl
theorem dX4_count_127 : decode cX4_count 127 = .ok (.getfield 40, 3) := dck_get daX4_count_t2 3 rfl
theorem dX4_count_130 : decode cX4_count 130 = .ok (.iload_n 1, 1) := dck_get daX4_count_t2 4 rfl
theorem dX4_count_131 : decode cX4_count 131 = .ok (.bipush 10, 2) := dck_get daX4_count_t2 5 rfl
theorem dX4_count_133 : decode cX4_count 133 = .ok (.isub, 1) := dck_get daX4_count_t2 6 rfl
theorem dX4_count_134 : decode cX4_count 134 = .ok (.iaload, 1) := dck_get daX4_count_t2 7 rfl
theorem dX4_count_135 : decode cX4_count 135 = .ok (.goto 5, 3) := dck_get daX4_count_t2 8 rfl
theorem dX4_count_138 : decode cX4_count 138 = .ok (.bipush (-9), 2) := dck_get daX4_count_t2 9 rfl
theorem dX4_count_140 : decode cX4_count 140 = .ok (.ireturn, 1) := dck_get daX4_count_t2 10 rfl
def dtX4_refuse_t0 : List (Nat × Instr × Nat) := [(0, .iload_n 1, 1), (1, .ineg, 1), (2, .istore_n 2, 1), (3, .iload_n 2, 1), (4, .iconst 1, 1), (5, .if_icmp .lt 19, 3), (8, .iload_n 2, 1), (9, .bipush 6, 2), (11, .if_icmp .gt 13, 3), (14, .aload_n 0, 1), (15, .getfield 40, 3), (18, .iload_n 2, 1), (19, .dup2, 1), (20, .iaload, 1), (21, .iconst 1, 1), (22, .iadd, 1), (23, .iastore, 1), (24, .iload_n 1, 1), (25, .ireturn, 1)]
theorem daX4_refuse_t0 : dtX4_refuse_t0.all (dck cX4_refuse) = true := by decide +kernel
theorem dX4_refuse_0 : decode cX4_refuse 0 = .ok (.iload_n 1, 1) := dck_get daX4_refuse_t0 0 rfl
theorem dX4_refuse_1 : decode cX4_refuse 1 = .ok (.ineg, 1) := dck_get daX4_refuse_t0 1 rfl
theorem dX4_refuse_2 : decode cX4_refuse 2 = .ok (.istore_n 2, 1) := dck_get daX4_refuse_t0 2 rfl
theorem dX4_refuse_3 : decode cX4_refuse 3 = .ok (.iload_n 2, 1) := dck_get daX4_refuse_t0 3 rfl
theorem dX4_refuse_4 : decode cX4_refuse 4 = .ok (.iconst 1, 1) := dck_get daX4_refuse_t0 4 rfl
theorem dX4_refuse_5 : decode cX4_refuse 5 = .ok (.if_icmp .lt 19, 3) := dck_get daX4_refuse_t0 5 rfl
theorem dX4_refuse_8 : decode cX4_refuse 8 = .ok (.iload_n 2, 1) := dck_get daX4_refuse_t0 6 rfl
theorem dX4_refuse_9 : decode cX4_refuse 9 = .ok (.bipush 6, 2) := dck_get daX4_refuse_t0 7 rfl
theorem dX4_refuse_11 : decode cX4_refuse 11 = .ok (.if_icmp .gt 13, 3) := dck_get daX4_refuse_t0 8 rfl
theorem dX4_refuse_14 : decode cX4_refuse 14 = .ok (.aload_n 0, 1) := dck_get daX4_refuse_t0 9 rfl
theorem dX4_refuse_15 : decode cX4_refuse 15 = .ok (.getfield 40, 3) := dck_get daX4_refuse_t0 10 rfl
theorem dX4_refuse_18 : decode cX4_refuse 18 = .ok (.iload_n 2, 1) := dck_get daX4_refuse_t0 11 rfl
theorem dX4_refuse_19 : decode cX4_refuse 19 = .ok (.dup2, 1) := dck_get daX4_refuse_t0 12 rfl
theorem dX4_refuse_20 : decode cX4_refuse 20 = .ok (.iaload, 1) := dck_get daX4_refuse_t0 13 rfl
theorem dX4_refuse_21 : decode cX4_refuse 21 = .ok (.iconst 1, 1) := dck_get daX4_refuse_t0 14 rfl
theorem dX4_refuse_22 : decode cX4_refuse 22 = .ok (.iadd, 1) := dck_get daX4_refuse_t0 15 rfl
theorem dX4_refuse_23 : decode cX4_refuse 23 = .ok (.iastore, 1) := dck_get daX4_refuse_t0 16 rfl
theorem dX4_refuse_24 : decode cX4_refuse 24 = .ok (.iload_n 1, 1) := dck_get daX4_refuse_t0 17 rfl
theorem dX4_refuse_25 : decode cX4_refuse 25 = .ok (.ireturn, 1) := dck_get daX4_refuse_t0 18 rfl
set_option maxRecDepth 20000 in
theorem ggX4_refuseLong_X4_refuse : GoodIn wsX4_refuseLong wsX4_refuse := goodIn_sub (List.forall_mem_cons.mpr ⟨(List.mem_of_getElem? (i := 6) rfl), (List.forall_mem_append.mpr ⟨(List.forall_mem_cons.mpr ⟨(List.mem_of_getElem? (i := 7) rfl), (fun _ h => absurd h List.not_mem_nil)⟩), (fun _ h => (List.mem_cons_of_mem _ (List.mem_append_right _ h)))⟩)⟩) gw_wsX4_refuse
set_option maxRecDepth 20000 in
theorem gX4_refuseLong_X4_refuse : GoodIn wsX4_refuseLong (wsV RX4 43 RX4 yX4_refuse wsX4_refuse) := goodIn_app (goodIn_sub (List.forall_mem_cons.mpr ⟨(List.mem_of_getElem? (i := 2) rfl), (List.forall_mem_cons.mpr ⟨(List.mem_of_getElem? (i := 3) rfl), (List.forall_mem_cons.mpr ⟨(List.mem_of_getElem? (i := 4) rfl), (List.forall_mem_cons.mpr ⟨(List.mem_of_getElem? (i := 5) rfl), (fun _ h => absurd h List.not_mem_nil)⟩)⟩)⟩)⟩) (by decide +kernel)) ggX4_refuseLong_X4_refuse
def dtX4_refuseLong_t0 : List (Nat × Instr × Nat) := [(0, .ldc2_w 195, 3), (3, .aload_n 0, 1), (4, .iload_n 1, 1), (5, .invokevirtual 43, 3), (8, .i2l, 1), (9, .lsub, 1), (10, .lreturn, 1)]
theorem daX4_refuseLong_t0 : dtX4_refuseLong_t0.all (dck cX4_refuseLong) = true := by decide +kernel
theorem dX4_refuseLong_0 : decode cX4_refuseLong 0 = .ok (.ldc2_w 195, 3) := dck_get daX4_refuseLong_t0 0 rfl
theorem dX4_refuseLong_3 : decode cX4_refuseLong 3 = .ok (.aload_n 0, 1) := dck_get daX4_refuseLong_t0 1 rfl
theorem dX4_refuseLong_4 : decode cX4_refuseLong 4 = .ok (.iload_n 1, 1) := dck_get daX4_refuseLong_t0 2 rfl
theorem dX4_refuseLong_5 : decode cX4_refuseLong 5 = .ok (.invokevirtual 43, 3) := dck_get daX4_refuseLong_t0 3 rfl
theorem dX4_refuseLong_8 : decode cX4_refuseLong 8 = .ok (.i2l, 1) := dck_get daX4_refuseLong_t0 4 rfl
theorem dX4_refuseLong_9 : decode cX4_refuseLong 9 = .ok (.lsub, 1) := dck_get daX4_refuseLong_t0 5 rfl
theorem dX4_refuseLong_10 : decode cX4_refuseLong 10 = .ok (.lreturn, 1) := dck_get daX4_refuseLong_t0 6 rfl
def dtX4_isFloor_t0 : List (Nat × Instr × Nat) := [(0, .iload_n 0, 1), (1, .ifCond .lt 13, 3), (4, .iload_n 0, 1), (5, .bipush 9, 2), (7, .if_icmp .gt 7, 3), (10, .iconst 1, 1), (11, .goto 4, 3), (14, .iconst 0, 1), (15, .ireturn, 1)]
theorem daX4_isFloor_t0 : dtX4_isFloor_t0.all (dck cX4_isFloor) = true := by decide +kernel
theorem dX4_isFloor_0 : decode cX4_isFloor 0 = .ok (.iload_n 0, 1) := dck_get daX4_isFloor_t0 0 rfl
theorem dX4_isFloor_1 : decode cX4_isFloor 1 = .ok (.ifCond .lt 13, 3) := dck_get daX4_isFloor_t0 1 rfl
theorem dX4_isFloor_4 : decode cX4_isFloor 4 = .ok (.iload_n 0, 1) := dck_get daX4_isFloor_t0 2 rfl
theorem dX4_isFloor_5 : decode cX4_isFloor 5 = .ok (.bipush 9, 2) := dck_get daX4_isFloor_t0 3 rfl
theorem dX4_isFloor_7 : decode cX4_isFloor 7 = .ok (.if_icmp .gt 7, 3) := dck_get daX4_isFloor_t0 4 rfl
theorem dX4_isFloor_10 : decode cX4_isFloor 10 = .ok (.iconst 1, 1) := dck_get daX4_isFloor_t0 5 rfl
theorem dX4_isFloor_11 : decode cX4_isFloor 11 = .ok (.goto 4, 3) := dck_get daX4_isFloor_t0 6 rfl
theorem dX4_isFloor_14 : decode cX4_isFloor 14 = .ok (.iconst 0, 1) := dck_get daX4_isFloor_t0 7 rfl
theorem dX4_isFloor_15 : decode cX4_isFloor 15 = .ok (.ireturn, 1) := dck_get daX4_isFloor_t0 8 rfl
def dtX4_isKind_t0 : List (Nat × Instr × Nat) := [(0, .iload_n 0, 1), (1, .ifCond .lt 13, 3), (4, .iload_n 0, 1), (5, .bipush 6, 2), (7, .if_icmp .ge 7, 3), (10, .iconst 1, 1), (11, .goto 4, 3), (14, .iconst 0, 1), (15, .ireturn, 1)]
theorem daX4_isKind_t0 : dtX4_isKind_t0.all (dck cX4_isKind) = true := by decide +kernel
theorem dX4_isKind_0 : decode cX4_isKind 0 = .ok (.iload_n 0, 1) := dck_get daX4_isKind_t0 0 rfl
theorem dX4_isKind_1 : decode cX4_isKind 1 = .ok (.ifCond .lt 13, 3) := dck_get daX4_isKind_t0 1 rfl
theorem dX4_isKind_4 : decode cX4_isKind 4 = .ok (.iload_n 0, 1) := dck_get daX4_isKind_t0 2 rfl
theorem dX4_isKind_5 : decode cX4_isKind 5 = .ok (.bipush 6, 2) := dck_get daX4_isKind_t0 3 rfl
theorem dX4_isKind_7 : decode cX4_isKind 7 = .ok (.if_icmp .ge 7, 3) := dck_get daX4_isKind_t0 4 rfl
theorem dX4_isKind_10 : decode cX4_isKind 10 = .ok (.iconst 1, 1) := dck_get daX4_isKind_t0 5 rfl
theorem dX4_isKind_11 : decode cX4_isKind 11 = .ok (.goto 4, 3) := dck_get daX4_isKind_t0 6 rfl
theorem dX4_isKind_14 : decode cX4_isKind 14 = .ok (.iconst 0, 1) := dck_get daX4_isKind_t0 7 rfl
theorem dX4_isKind_15 : decode cX4_isKind 15 = .ok (.ireturn, 1) := dck_get daX4_isKind_t0 8 rfl
set_option maxRecDepth 20000 in
theorem gw_wsX2_firstMisfit : wsX2_firstMisfit.all goodWord = true := by decide +kernel
set_option maxRecDepth 20000 in
theorem ggX4_takeHouse_X2_firstMisfit : GoodIn wsX4_takeHouse wsX2_firstMisfit := goodIn_sub (List.forall_mem_cons.mpr ⟨(List.mem_of_getElem? (i := 8) rfl), (List.forall_mem_append.mpr ⟨(List.forall_mem_append.mpr ⟨(List.forall_mem_cons.mpr ⟨(List.mem_of_getElem? (i := 9) rfl), (List.forall_mem_cons.mpr ⟨(List.mem_of_getElem? (i := 10) rfl), (List.forall_mem_cons.mpr ⟨(List.mem_of_getElem? (i := 11) rfl), (List.forall_mem_cons.mpr ⟨(List.mem_of_getElem? (i := 12) rfl), (List.forall_mem_cons.mpr ⟨(List.mem_of_getElem? (i := 7) rfl), (List.forall_mem_cons.mpr ⟨(List.mem_of_getElem? (i := 13) rfl), (List.forall_mem_cons.mpr ⟨(List.mem_of_getElem? (i := 14) rfl), (List.forall_mem_cons.mpr ⟨(List.mem_of_getElem? (i := 15) rfl), (List.forall_mem_cons.mpr ⟨(List.mem_of_getElem? (i := 16) rfl), (List.forall_mem_cons.mpr ⟨(List.mem_of_getElem? (i := 17) rfl), (List.forall_mem_cons.mpr ⟨(List.mem_of_getElem? (i := 18) rfl), (List.forall_mem_cons.mpr ⟨(List.mem_of_getElem? (i := 19) rfl), (List.forall_mem_cons.mpr ⟨(List.mem_of_getElem? (i := 20) rfl), (List.forall_mem_cons.mpr ⟨(List.mem_of_getElem? (i := 21) rfl), (List.forall_mem_cons.mpr ⟨(List.mem_of_getElem? (i := 22) rfl), (List.forall_mem_cons.mpr ⟨(List.mem_of_getElem? (i := 23) rfl), (List.forall_mem_cons.mpr ⟨(List.mem_of_getElem? (i := 24) rfl), (List.forall_mem_cons.mpr ⟨(List.mem_of_getElem? (i := 25) rfl), (List.forall_mem_cons.mpr ⟨(List.mem_of_getElem? (i := 26) rfl), (List.forall_mem_cons.mpr ⟨(List.mem_of_getElem? (i := 27) rfl), (List.forall_mem_cons.mpr ⟨(List.mem_of_getElem? (i := 28) rfl), (List.forall_mem_cons.mpr ⟨(List.mem_of_getElem? (i := 29) rfl), (List.forall_mem_cons.mpr ⟨(List.mem_of_getElem? (i := 30) rfl), (List.forall_mem_cons.mpr ⟨(List.mem_of_getElem? (i := 31) rfl), (fun _ h => absurd h List.not_mem_nil)⟩)⟩)⟩)⟩)⟩)⟩)⟩)⟩)⟩)⟩)⟩)⟩)⟩)⟩)⟩)⟩)⟩)⟩)⟩)⟩)⟩)⟩)⟩)⟩), (List.forall_mem_cons.mpr ⟨(List.mem_of_getElem? (i := 32) rfl), (List.forall_mem_cons.mpr ⟨(List.mem_of_getElem? (i := 33) rfl), (fun _ h => absurd h List.not_mem_nil)⟩)⟩)⟩), (fun _ h => (List.mem_cons_of_mem _ (List.mem_append_left _ (List.mem_append_right _ h))))⟩)⟩) gw_wsX2_firstMisfit
set_option maxRecDepth 20000 in
theorem gX4_takeHouse_X2_firstMisfit : GoodIn wsX4_takeHouse (wsV RX4 197 RX2 yX2_firstMisfit wsX2_firstMisfit) := goodIn_app (goodIn_sub (List.forall_mem_cons.mpr ⟨(List.mem_of_getElem? (i := 4) rfl), (List.forall_mem_cons.mpr ⟨(List.mem_of_getElem? (i := 5) rfl), (List.forall_mem_cons.mpr ⟨(List.mem_of_getElem? (i := 6) rfl), (List.forall_mem_cons.mpr ⟨(List.mem_of_getElem? (i := 7) rfl), (fun _ h => absurd h List.not_mem_nil)⟩)⟩)⟩)⟩) (by decide +kernel)) ggX4_takeHouse_X2_firstMisfit
set_option maxRecDepth 20000 in
theorem ggX4_takeHouse_X3_becomeLike : GoodIn wsX4_takeHouse wsX3_becomeLike := goodIn_sub (List.forall_mem_cons.mpr ⟨(List.mem_of_getElem? (i := 38) rfl), (List.forall_mem_append.mpr ⟨(List.forall_mem_cons.mpr ⟨(List.mem_of_getElem? (i := 39) rfl), (List.forall_mem_cons.mpr ⟨(List.mem_of_getElem? (i := 40) rfl), (List.forall_mem_cons.mpr ⟨(List.mem_of_getElem? (i := 41) rfl), (List.forall_mem_cons.mpr ⟨(List.mem_of_getElem? (i := 42) rfl), (List.forall_mem_cons.mpr ⟨(List.mem_of_getElem? (i := 43) rfl), (List.forall_mem_cons.mpr ⟨(List.mem_of_getElem? (i := 44) rfl), (List.forall_mem_cons.mpr ⟨(List.mem_of_getElem? (i := 45) rfl), (fun _ h => absurd h List.not_mem_nil)⟩)⟩)⟩)⟩)⟩)⟩)⟩), (fun _ h => (List.mem_cons_of_mem _ (List.mem_append_right _ h)))⟩)⟩) gw_wsX3_becomeLike
set_option maxRecDepth 20000 in
theorem gX4_takeHouse_X3_becomeLike : GoodIn wsX4_takeHouse (wsV RX4 177 RX3 yX3_becomeLike wsX3_becomeLike) := goodIn_app (goodIn_sub (List.forall_mem_cons.mpr ⟨(List.mem_of_getElem? (i := 34) rfl), (List.forall_mem_cons.mpr ⟨(List.mem_of_getElem? (i := 35) rfl), (List.forall_mem_cons.mpr ⟨(List.mem_of_getElem? (i := 36) rfl), (List.forall_mem_cons.mpr ⟨(List.mem_of_getElem? (i := 37) rfl), (fun _ h => absurd h List.not_mem_nil)⟩)⟩)⟩)⟩) (by decide +kernel)) ggX4_takeHouse_X3_becomeLike
set_option maxRecDepth 20000 in
theorem gw_wsX2_playOn : wsX2_playOn.all goodWord = true := by decide +kernel
set_option maxRecDepth 20000 in
theorem ggX4_takeHouse_X2_playOn : GoodIn wsX4_takeHouse wsX2_playOn := goodIn_sub (List.forall_mem_cons.mpr ⟨(List.mem_of_getElem? (i := 49) rfl), (List.forall_mem_append.mpr ⟨(List.forall_mem_append.mpr ⟨(List.forall_mem_append.mpr ⟨(List.forall_mem_cons.mpr ⟨(List.mem_of_getElem? (i := 9) rfl), (List.forall_mem_cons.mpr ⟨(List.mem_of_getElem? (i := 10) rfl), (List.forall_mem_cons.mpr ⟨(List.mem_of_getElem? (i := 11) rfl), (List.forall_mem_cons.mpr ⟨(List.mem_of_getElem? (i := 12) rfl), (List.forall_mem_cons.mpr ⟨(List.mem_of_getElem? (i := 7) rfl), (List.forall_mem_cons.mpr ⟨(List.mem_of_getElem? (i := 13) rfl), (List.forall_mem_cons.mpr ⟨(List.mem_of_getElem? (i := 14) rfl), (List.forall_mem_cons.mpr ⟨(List.mem_of_getElem? (i := 50) rfl), (List.forall_mem_cons.mpr ⟨(List.mem_of_getElem? (i := 51) rfl), (List.forall_mem_cons.mpr ⟨(List.mem_of_getElem? (i := 52) rfl), (List.forall_mem_cons.mpr ⟨(List.mem_of_getElem? (i := 53) rfl), (List.forall_mem_cons.mpr ⟨(List.mem_of_getElem? (i := 21) rfl), (List.forall_mem_cons.mpr ⟨(List.mem_of_getElem? (i := 22) rfl), (List.forall_mem_cons.mpr ⟨(List.mem_of_getElem? (i := 23) rfl), (List.forall_mem_cons.mpr ⟨(List.mem_of_getElem? (i := 24) rfl), (List.forall_mem_cons.mpr ⟨(List.mem_of_getElem? (i := 54) rfl), (List.forall_mem_cons.mpr ⟨(List.mem_of_getElem? (i := 55) rfl), (List.forall_mem_cons.mpr ⟨(List.mem_of_getElem? (i := 56) rfl), (List.forall_mem_cons.mpr ⟨(List.mem_of_getElem? (i := 57) rfl), (List.forall_mem_cons.mpr ⟨(List.mem_of_getElem? (i := 58) rfl), (List.forall_mem_cons.mpr ⟨(List.mem_of_getElem? (i := 59) rfl), (List.forall_mem_cons.mpr ⟨(List.mem_of_getElem? (i := 60) rfl), (List.forall_mem_cons.mpr ⟨(List.mem_of_getElem? (i := 37) rfl), (List.forall_mem_cons.mpr ⟨(List.mem_of_getElem? (i := 61) rfl), (fun _ h => absurd h List.not_mem_nil)⟩)⟩)⟩)⟩)⟩)⟩)⟩)⟩)⟩)⟩)⟩)⟩)⟩)⟩)⟩)⟩)⟩)⟩)⟩)⟩)⟩)⟩)⟩)⟩), (List.forall_mem_append.mpr ⟨(List.forall_mem_cons.mpr ⟨(List.mem_of_getElem? (i := 62) rfl), (List.forall_mem_cons.mpr ⟨(List.mem_of_getElem? (i := 63) rfl), (List.forall_mem_cons.mpr ⟨(List.mem_of_getElem? (i := 64) rfl), (List.forall_mem_cons.mpr ⟨(List.mem_of_getElem? (i := 65) rfl), (List.forall_mem_cons.mpr ⟨(List.mem_of_getElem? (i := 44) rfl), (List.forall_mem_cons.mpr ⟨(List.mem_of_getElem? (i := 66) rfl), (List.forall_mem_cons.mpr ⟨(List.mem_of_getElem? (i := 67) rfl), (List.forall_mem_cons.mpr ⟨(List.mem_of_getElem? (i := 68) rfl), (List.forall_mem_cons.mpr ⟨(List.mem_of_getElem? (i := 69) rfl), (List.forall_mem_cons.mpr ⟨(List.mem_of_getElem? (i := 70) rfl), (List.forall_mem_cons.mpr ⟨(List.mem_of_getElem? (i := 71) rfl), (List.forall_mem_cons.mpr ⟨(List.mem_of_getElem? (i := 72) rfl), (List.forall_mem_cons.mpr ⟨(List.mem_of_getElem? (i := 73) rfl), (List.forall_mem_cons.mpr ⟨(List.mem_of_getElem? (i := 74) rfl), (List.forall_mem_cons.mpr ⟨(List.mem_of_getElem? (i := 75) rfl), (List.forall_mem_cons.mpr ⟨(List.mem_of_getElem? (i := 76) rfl), (List.forall_mem_cons.mpr ⟨(List.mem_of_getElem? (i := 41) rfl), (List.forall_mem_cons.mpr ⟨(List.mem_of_getElem? (i := 77) rfl), (List.forall_mem_cons.mpr ⟨(List.mem_of_getElem? (i := 78) rfl), (List.forall_mem_cons.mpr ⟨(List.mem_of_getElem? (i := 79) rfl), (List.forall_mem_cons.mpr ⟨(List.mem_of_getElem? (i := 80) rfl), (List.forall_mem_cons.mpr ⟨(List.mem_of_getElem? (i := 81) rfl), (List.forall_mem_cons.mpr ⟨(List.mem_of_getElem? (i := 82) rfl), (List.forall_mem_cons.mpr ⟨(List.mem_of_getElem? (i := 83) rfl), (fun _ h => absurd h List.not_mem_nil)⟩)⟩)⟩)⟩)⟩)⟩)⟩)⟩)⟩)⟩)⟩)⟩)⟩)⟩)⟩)⟩)⟩)⟩)⟩)⟩)⟩)⟩)⟩)⟩), (List.forall_mem_append.mpr ⟨(List.forall_mem_cons.mpr ⟨(List.mem_of_getElem? (i := 84) rfl), (List.forall_mem_cons.mpr ⟨(List.mem_of_getElem? (i := 39) rfl), (List.forall_mem_cons.mpr ⟨(List.mem_of_getElem? (i := 40) rfl), (List.forall_mem_cons.mpr ⟨(List.mem_of_getElem? (i := 42) rfl), (List.forall_mem_cons.mpr ⟨(List.mem_of_getElem? (i := 43) rfl), (List.forall_mem_cons.mpr ⟨(List.mem_of_getElem? (i := 85) rfl), (List.forall_mem_cons.mpr ⟨(List.mem_of_getElem? (i := 86) rfl), (List.forall_mem_cons.mpr ⟨(List.mem_of_getElem? (i := 87) rfl), (List.forall_mem_cons.mpr ⟨(List.mem_of_getElem? (i := 88) rfl), (List.forall_mem_cons.mpr ⟨(List.mem_of_getElem? (i := 89) rfl), (List.forall_mem_cons.mpr ⟨(List.mem_of_getElem? (i := 90) rfl), (List.forall_mem_cons.mpr ⟨(List.mem_of_getElem? (i := 91) rfl), (List.forall_mem_cons.mpr ⟨(List.mem_of_getElem? (i := 92) rfl), (List.forall_mem_cons.mpr ⟨(List.mem_of_getElem? (i := 93) rfl), (List.forall_mem_cons.mpr ⟨(List.mem_of_getElem? (i := 94) rfl), (List.forall_mem_cons.mpr ⟨(List.mem_of_getElem? (i := 95) rfl), (List.forall_mem_cons.mpr ⟨(List.mem_of_getElem? (i := 96) rfl), (List.forall_mem_cons.mpr ⟨(List.mem_of_getElem? (i := 97) rfl), (List.forall_mem_cons.mpr ⟨(List.mem_of_getElem? (i := 98) rfl), (List.forall_mem_cons.mpr ⟨(List.mem_of_getElem? (i := 99) rfl), (List.forall_mem_cons.mpr ⟨(List.mem_of_getElem? (i := 100) rfl), (List.forall_mem_cons.mpr ⟨(List.mem_of_getElem? (i := 101) rfl), (List.forall_mem_cons.mpr ⟨(List.mem_of_getElem? (i := 102) rfl), (List.forall_mem_cons.mpr ⟨(List.mem_of_getElem? (i := 45) rfl), (fun _ h => absurd h List.not_mem_nil)⟩)⟩)⟩)⟩)⟩)⟩)⟩)⟩)⟩)⟩)⟩)⟩)⟩)⟩)⟩)⟩)⟩)⟩)⟩)⟩)⟩)⟩)⟩)⟩), (List.forall_mem_append.mpr ⟨(List.forall_mem_cons.mpr ⟨(List.mem_of_getElem? (i := 103) rfl), (List.forall_mem_cons.mpr ⟨(List.mem_of_getElem? (i := 104) rfl), (List.forall_mem_cons.mpr ⟨(List.mem_of_getElem? (i := 105) rfl), (List.forall_mem_cons.mpr ⟨(List.mem_of_getElem? (i := 106) rfl), (List.forall_mem_cons.mpr ⟨(List.mem_of_getElem? (i := 107) rfl), (List.forall_mem_cons.mpr ⟨(List.mem_of_getElem? (i := 108) rfl), (List.forall_mem_cons.mpr ⟨(List.mem_of_getElem? (i := 109) rfl), (List.forall_mem_cons.mpr ⟨(List.mem_of_getElem? (i := 110) rfl), (List.forall_mem_cons.mpr ⟨(List.mem_of_getElem? (i := 111) rfl), (List.forall_mem_cons.mpr ⟨(List.mem_of_getElem? (i := 112) rfl), (List.forall_mem_cons.mpr ⟨(List.mem_of_getElem? (i := 113) rfl), (List.forall_mem_cons.mpr ⟨(List.mem_of_getElem? (i := 114) rfl), (List.forall_mem_cons.mpr ⟨(List.mem_of_getElem? (i := 115) rfl), (List.forall_mem_cons.mpr ⟨(List.mem_of_getElem? (i := 116) rfl), (List.forall_mem_cons.mpr ⟨(List.mem_of_getElem? (i := 117) rfl), (List.forall_mem_cons.mpr ⟨(List.mem_of_getElem? (i := 118) rfl), (List.forall_mem_cons.mpr ⟨(List.mem_of_getElem? (i := 119) rfl), (List.forall_mem_cons.mpr ⟨(List.mem_of_getElem? (i := 120) rfl), (List.forall_mem_cons.mpr ⟨(List.mem_of_getElem? (i := 121) rfl), (List.forall_mem_cons.mpr ⟨(List.mem_of_getElem? (i := 122) rfl), (List.forall_mem_cons.mpr ⟨(List.mem_of_getElem? (i := 123) rfl), (List.forall_mem_cons.mpr ⟨(List.mem_of_getElem? (i := 124) rfl), (List.forall_mem_cons.mpr ⟨(List.mem_of_getElem? (i := 125) rfl), (List.forall_mem_cons.mpr ⟨(List.mem_of_getElem? (i := 126) rfl), (fun _ h => absurd h List.not_mem_nil)⟩)⟩)⟩)⟩)⟩)⟩)⟩)⟩)⟩)⟩)⟩)⟩)⟩)⟩)⟩)⟩)⟩)⟩)⟩)⟩)⟩)⟩)⟩)⟩), (List.forall_mem_cons.mpr ⟨(List.mem_of_getElem? (i := 127) rfl), (List.forall_mem_cons.mpr ⟨(List.mem_of_getElem? (i := 128) rfl), (List.forall_mem_cons.mpr ⟨(List.mem_of_getElem? (i := 129) rfl), (List.forall_mem_cons.mpr ⟨(List.mem_of_getElem? (i := 130) rfl), (List.forall_mem_cons.mpr ⟨(List.mem_of_getElem? (i := 131) rfl), (List.forall_mem_cons.mpr ⟨(List.mem_of_getElem? (i := 132) rfl), (List.forall_mem_cons.mpr ⟨(List.mem_of_getElem? (i := 133) rfl), (fun _ h => absurd h List.not_mem_nil)⟩)⟩)⟩)⟩)⟩)⟩)⟩)⟩)⟩)⟩)⟩), (fun _ h => (List.mem_cons_of_mem _ (List.mem_append_left _ (List.mem_append_right _ h))))⟩), (fun _ h => (List.mem_cons_of_mem _ (List.mem_append_right _ h)))⟩)⟩) gw_wsX2_playOn
set_option maxRecDepth 20000 in
theorem gX4_takeHouse_X2_playOn : GoodIn wsX4_takeHouse (wsV RX4 200 RX2 yX2_playOn wsX2_playOn) := goodIn_app (goodIn_sub (List.forall_mem_cons.mpr ⟨(List.mem_of_getElem? (i := 46) rfl), (List.forall_mem_cons.mpr ⟨(List.mem_of_getElem? (i := 47) rfl), (List.forall_mem_cons.mpr ⟨(List.mem_of_getElem? (i := 48) rfl), (List.forall_mem_cons.mpr ⟨(List.mem_of_getElem? (i := 7) rfl), (fun _ h => absurd h List.not_mem_nil)⟩)⟩)⟩)⟩) (by decide +kernel)) ggX4_takeHouse_X2_playOn
set_option maxRecDepth 20000 in
theorem gw_wsX2_statements : wsX2_statements.all goodWord = true := by decide +kernel
set_option maxRecDepth 20000 in
theorem ggX4_takeHouse_X2_statements : GoodIn wsX4_takeHouse wsX2_statements := goodIn_sub (List.forall_mem_cons.mpr ⟨(List.mem_of_getElem? (i := 137) rfl), (List.forall_mem_append.mpr ⟨(List.forall_mem_cons.mpr ⟨(List.mem_of_getElem? (i := 9) rfl), (List.forall_mem_cons.mpr ⟨(List.mem_of_getElem? (i := 10) rfl), (List.forall_mem_cons.mpr ⟨(List.mem_of_getElem? (i := 11) rfl), (List.forall_mem_cons.mpr ⟨(List.mem_of_getElem? (i := 12) rfl), (List.forall_mem_cons.mpr ⟨(List.mem_of_getElem? (i := 7) rfl), (List.forall_mem_cons.mpr ⟨(List.mem_of_getElem? (i := 13) rfl), (List.forall_mem_cons.mpr ⟨(List.mem_of_getElem? (i := 14) rfl), (fun _ h => absurd h List.not_mem_nil)⟩)⟩)⟩)⟩)⟩)⟩)⟩), (fun _ h => (List.mem_cons_of_mem _ (List.mem_append_left _ (List.mem_append_right _ h))))⟩)⟩) gw_wsX2_statements
set_option maxRecDepth 20000 in
theorem gX4_takeHouse_X2_statements : GoodIn wsX4_takeHouse (wsV RX4 204 RX2 yX2_statements wsX2_statements) := goodIn_app (goodIn_sub (List.forall_mem_cons.mpr ⟨(List.mem_of_getElem? (i := 134) rfl), (List.forall_mem_cons.mpr ⟨(List.mem_of_getElem? (i := 135) rfl), (List.forall_mem_cons.mpr ⟨(List.mem_of_getElem? (i := 136) rfl), (List.forall_mem_cons.mpr ⟨(List.mem_of_getElem? (i := 7) rfl), (fun _ h => absurd h List.not_mem_nil)⟩)⟩)⟩)⟩) (by decide +kernel)) ggX4_takeHouse_X2_statements
def dtX4_takeHouse_t0 : List (Nat × Instr × Nat) := [(0, .aload_n 0, 1), (1, .getfield 25, 3), (4, .invokevirtual 197, 3), (7, .istore_n 1, 1), (8, .iload_n 1, 1), (9, .ifCond .lt 9, 3), (12, .sipush (-1000), 3), (15, .iload_n 1, 1), (16, .isub, 1), (17, .ireturn, 1), (18, .aload_n 0, 1), (19, .getfield 16, 3), (22, .aload_n 0, 1), (23, .getfield 10, 3), (26, .invokevirtual 177, 3), (29, .aload_n 0, 1), (30, .getfield 25, 3), (33, .aload_n 0, 1), (34, .getfield 16, 3), (37, .invokevirtual 200, 3)]
theorem daX4_takeHouse_t0 : dtX4_takeHouse_t0.all (dck cX4_takeHouse) = true := by decide +kernel
theorem dX4_takeHouse_0 : decode cX4_takeHouse 0 = .ok (.aload_n 0, 1) := dck_get daX4_takeHouse_t0 0 rfl
theorem dX4_takeHouse_1 : decode cX4_takeHouse 1 = .ok (.getfield 25, 3) := dck_get daX4_takeHouse_t0 1 rfl
theorem dX4_takeHouse_4 : decode cX4_takeHouse 4 = .ok (.invokevirtual 197, 3) := dck_get daX4_takeHouse_t0 2 rfl
theorem dX4_takeHouse_7 : decode cX4_takeHouse 7 = .ok (.istore_n 1, 1) := dck_get daX4_takeHouse_t0 3 rfl
theorem dX4_takeHouse_8 : decode cX4_takeHouse 8 = .ok (.iload_n 1, 1) := dck_get daX4_takeHouse_t0 4 rfl
theorem dX4_takeHouse_9 : decode cX4_takeHouse 9 = .ok (.ifCond .lt 9, 3) := dck_get daX4_takeHouse_t0 5 rfl
theorem dX4_takeHouse_12 : decode cX4_takeHouse 12 = .ok (.sipush (-1000), 3) := dck_get daX4_takeHouse_t0 6 rfl
theorem dX4_takeHouse_15 : decode cX4_takeHouse 15 = .ok (.iload_n 1, 1) := dck_get daX4_takeHouse_t0 7 rfl
theorem dX4_takeHouse_16 : decode cX4_takeHouse 16 = .ok (.isub, 1) := dck_get daX4_takeHouse_t0 8 rfl
theorem dX4_takeHouse_17 : decode cX4_takeHouse 17 = .ok (.ireturn, 1) := dck_get daX4_takeHouse_t0 9 rfl
theorem dX4_takeHouse_18 : decode cX4_takeHouse 18 = .ok (.aload_n 0, 1) := dck_get daX4_takeHouse_t0 10 rfl
theorem dX4_takeHouse_19 : decode cX4_takeHouse 19 = .ok (.getfield 16, 3) := dck_get daX4_takeHouse_t0 11 rfl
theorem dX4_takeHouse_22 : decode cX4_takeHouse 22 = .ok (.aload_n 0, 1) := dck_get daX4_takeHouse_t0 12 rfl
theorem dX4_takeHouse_23 : decode cX4_takeHouse 23 = .ok (.getfield 10, 3) := dck_get daX4_takeHouse_t0 13 rfl
theorem dX4_takeHouse_26 : decode cX4_takeHouse 26 = .ok (.invokevirtual 177, 3) := dck_get daX4_takeHouse_t0 14 rfl
theorem dX4_takeHouse_29 : decode cX4_takeHouse 29 = .ok (.aload_n 0, 1) := dck_get daX4_takeHouse_t0 15 rfl
theorem dX4_takeHouse_30 : decode cX4_takeHouse 30 = .ok (.getfield 25, 3) := dck_get daX4_takeHouse_t0 16 rfl
theorem dX4_takeHouse_33 : decode cX4_takeHouse 33 = .ok (.aload_n 0, 1) := dck_get daX4_takeHouse_t0 17 rfl
theorem dX4_takeHouse_34 : decode cX4_takeHouse 34 = .ok (.getfield 16, 3) := dck_get daX4_takeHouse_t0 18 rfl
theorem dX4_takeHouse_37 : decode cX4_takeHouse 37 = .ok (.invokevirtual 200, 3) := dck_get daX4_takeHouse_t0 19 rfl
def dtX4_takeHouse_t1 : List (Nat × Instr × Nat) := [(40, .istore_n 1, 1), (41, .iload_n 1, 1), (42, .ifCond .lt 9, 3), (45, .sipush (-2000), 3), (48, .iload_n 1, 1), (49, .isub, 1), (50, .ireturn, 1), (51, .aload_n 0, 1), (52, .getfield 10, 3), (55, .aload_n 0, 1), (56, .getfield 16, 3), (59, .invokevirtual 177, 3), (62, .aload_n 0, 1), (63, .getfield 25, 3), (66, .invokevirtual 204, 3), (69, .ireturn, 1)]
theorem daX4_takeHouse_t1 : dtX4_takeHouse_t1.all (dck cX4_takeHouse) = true := by decide +kernel
theorem dX4_takeHouse_40 : decode cX4_takeHouse 40 = .ok (.istore_n 1, 1) := dck_get daX4_takeHouse_t1 0 rfl
theorem dX4_takeHouse_41 : decode cX4_takeHouse 41 = .ok (.iload_n 1, 1) := dck_get daX4_takeHouse_t1 1 rfl
theorem dX4_takeHouse_42 : decode cX4_takeHouse 42 = .ok (.ifCond .lt 9, 3) := dck_get daX4_takeHouse_t1 2 rfl
theorem dX4_takeHouse_45 : decode cX4_takeHouse 45 = .ok (.sipush (-2000), 3) := dck_get daX4_takeHouse_t1 3 rfl
theorem dX4_takeHouse_48 : decode cX4_takeHouse 48 = .ok (.iload_n 1, 1) := dck_get daX4_takeHouse_t1 4 rfl
theorem dX4_takeHouse_49 : decode cX4_takeHouse 49 = .ok (.isub, 1) := dck_get daX4_takeHouse_t1 5 rfl
theorem dX4_takeHouse_50 : decode cX4_takeHouse 50 = .ok (.ireturn, 1) := dck_get daX4_takeHouse_t1 6 rfl
theorem dX4_takeHouse_51 : decode cX4_takeHouse 51 = .ok (.aload_n 0, 1) := dck_get daX4_takeHouse_t1 7 rfl
theorem dX4_takeHouse_52 : decode cX4_takeHouse 52 = .ok (.getfield 10, 3) := dck_get daX4_takeHouse_t1 8 rfl
theorem dX4_takeHouse_55 : decode cX4_takeHouse 55 = .ok (.aload_n 0, 1) := dck_get daX4_takeHouse_t1 9 rfl
theorem dX4_takeHouse_56 : decode cX4_takeHouse 56 = .ok (.getfield 16, 3) := dck_get daX4_takeHouse_t1 10 rfl
theorem dX4_takeHouse_59 : decode cX4_takeHouse 59 = .ok (.invokevirtual 177, 3) := dck_get daX4_takeHouse_t1 11 rfl
theorem dX4_takeHouse_62 : decode cX4_takeHouse 62 = .ok (.aload_n 0, 1) := dck_get daX4_takeHouse_t1 12 rfl
theorem dX4_takeHouse_63 : decode cX4_takeHouse 63 = .ok (.getfield 25, 3) := dck_get daX4_takeHouse_t1 13 rfl
theorem dX4_takeHouse_66 : decode cX4_takeHouse 66 = .ok (.invokevirtual 204, 3) := dck_get daX4_takeHouse_t1 14 rfl
theorem dX4_takeHouse_69 : decode cX4_takeHouse 69 = .ok (.ireturn, 1) := dck_get daX4_takeHouse_t1 15 rfl
set_option maxRecDepth 20000 in
theorem ggX4_fitsTheRow_X3_floorsOf : GoodIn wsX4_fitsTheRow wsX3_floorsOf := goodIn_sub (List.forall_mem_cons.mpr ⟨(List.mem_of_getElem? (i := 9) rfl), (List.forall_mem_append.mpr ⟨(List.forall_mem_cons.mpr ⟨(List.mem_of_getElem? (i := 10) rfl), (List.forall_mem_cons.mpr ⟨(List.mem_of_getElem? (i := 11) rfl), (List.forall_mem_cons.mpr ⟨(List.mem_of_getElem? (i := 12) rfl), (List.forall_mem_cons.mpr ⟨(List.mem_of_getElem? (i := 8) rfl), (List.forall_mem_cons.mpr ⟨(List.mem_of_getElem? (i := 13) rfl), (fun _ h => absurd h List.not_mem_nil)⟩)⟩)⟩)⟩)⟩), (fun _ h => (List.mem_cons_of_mem _ (List.mem_append_right _ h)))⟩)⟩) gw_wsX3_floorsOf
set_option maxRecDepth 20000 in
theorem gX4_fitsTheRow_X3_floorsOf : GoodIn wsX4_fitsTheRow (wsV RX4 139 RX3 yX3_floorsOf wsX3_floorsOf) := goodIn_app (goodIn_sub (List.forall_mem_cons.mpr ⟨(List.mem_of_getElem? (i := 5) rfl), (List.forall_mem_cons.mpr ⟨(List.mem_of_getElem? (i := 6) rfl), (List.forall_mem_cons.mpr ⟨(List.mem_of_getElem? (i := 7) rfl), (List.forall_mem_cons.mpr ⟨(List.mem_of_getElem? (i := 8) rfl), (fun _ h => absurd h List.not_mem_nil)⟩)⟩)⟩)⟩) (by decide +kernel)) ggX4_fitsTheRow_X3_floorsOf
set_option maxRecDepth 20000 in
theorem ggX4_fitsTheRow_X3_isAlive : GoodIn wsX4_fitsTheRow wsX3_isAlive := goodIn_sub (List.forall_mem_cons.mpr ⟨(List.mem_of_getElem? (i := 17) rfl), (List.forall_mem_append.mpr ⟨(List.forall_mem_cons.mpr ⟨(List.mem_of_getElem? (i := 18) rfl), (List.forall_mem_cons.mpr ⟨(List.mem_of_getElem? (i := 10) rfl), (fun _ h => absurd h List.not_mem_nil)⟩)⟩), (fun _ h => (List.mem_cons_of_mem _ (List.mem_append_right _ h)))⟩)⟩) gw_wsX3_isAlive
set_option maxRecDepth 20000 in
theorem gX4_fitsTheRow_X3_isAlive : GoodIn wsX4_fitsTheRow (wsV RX4 74 RX3 yX3_isAlive wsX3_isAlive) := goodIn_app (goodIn_sub (List.forall_mem_cons.mpr ⟨(List.mem_of_getElem? (i := 14) rfl), (List.forall_mem_cons.mpr ⟨(List.mem_of_getElem? (i := 15) rfl), (List.forall_mem_cons.mpr ⟨(List.mem_of_getElem? (i := 16) rfl), (List.forall_mem_cons.mpr ⟨(List.mem_of_getElem? (i := 8) rfl), (fun _ h => absurd h List.not_mem_nil)⟩)⟩)⟩)⟩) (by decide +kernel)) ggX4_fitsTheRow_X3_isAlive
set_option maxRecDepth 20000 in
theorem ggX4_fitsTheRow_X3_holds : GoodIn wsX4_fitsTheRow wsX3_holds := goodIn_sub (List.forall_mem_cons.mpr ⟨(List.mem_of_getElem? (i := 13) rfl), (fun _ h => absurd h List.not_mem_nil)⟩) gw_wsX3_holds
set_option maxRecDepth 20000 in
theorem gX4_fitsTheRow_X3_holds : GoodIn wsX4_fitsTheRow (va_wsS RX4 207 yX3_holds wsX3_holds) := goodIn_app (goodIn_sub (List.forall_mem_cons.mpr ⟨(List.mem_of_getElem? (i := 19) rfl), (List.forall_mem_cons.mpr ⟨(List.mem_of_getElem? (i := 12) rfl), (List.forall_mem_cons.mpr ⟨(List.mem_of_getElem? (i := 8) rfl), (fun _ h => absurd h List.not_mem_nil)⟩)⟩)⟩) (by decide +kernel)) ggX4_fitsTheRow_X3_holds
set_option maxRecDepth 20000 in
theorem ggX4_fitsTheRow_X3_floorsUp : GoodIn wsX4_fitsTheRow wsX3_floorsUp := goodIn_sub (List.forall_mem_cons.mpr ⟨(List.mem_of_getElem? (i := 23) rfl), (List.forall_mem_append.mpr ⟨(List.forall_mem_cons.mpr ⟨(List.mem_of_getElem? (i := 10) rfl), (List.forall_mem_cons.mpr ⟨(List.mem_of_getElem? (i := 24) rfl), (List.forall_mem_cons.mpr ⟨(List.mem_of_getElem? (i := 25) rfl), (List.forall_mem_cons.mpr ⟨(List.mem_of_getElem? (i := 26) rfl), (List.forall_mem_cons.mpr ⟨(List.mem_of_getElem? (i := 8) rfl), (List.forall_mem_cons.mpr ⟨(List.mem_of_getElem? (i := 27) rfl), (List.forall_mem_cons.mpr ⟨(List.mem_of_getElem? (i := 28) rfl), (List.forall_mem_cons.mpr ⟨(List.mem_of_getElem? (i := 29) rfl), (List.forall_mem_cons.mpr ⟨(List.mem_of_getElem? (i := 30) rfl), (List.forall_mem_cons.mpr ⟨(List.mem_of_getElem? (i := 31) rfl), (List.forall_mem_cons.mpr ⟨(List.mem_of_getElem? (i := 32) rfl), (List.forall_mem_cons.mpr ⟨(List.mem_of_getElem? (i := 33) rfl), (List.forall_mem_cons.mpr ⟨(List.mem_of_getElem? (i := 34) rfl), (List.forall_mem_cons.mpr ⟨(List.mem_of_getElem? (i := 35) rfl), (fun _ h => absurd h List.not_mem_nil)⟩)⟩)⟩)⟩)⟩)⟩)⟩)⟩)⟩)⟩)⟩)⟩)⟩)⟩), (fun _ h => (List.mem_cons_of_mem _ (List.mem_append_right _ h)))⟩)⟩) gw_wsX3_floorsUp
set_option maxRecDepth 20000 in
theorem gX4_fitsTheRow_X3_floorsUp : GoodIn wsX4_fitsTheRow (wsV RX4 142 RX3 yX3_floorsUp wsX3_floorsUp) := goodIn_app (goodIn_sub (List.forall_mem_cons.mpr ⟨(List.mem_of_getElem? (i := 20) rfl), (List.forall_mem_cons.mpr ⟨(List.mem_of_getElem? (i := 21) rfl), (List.forall_mem_cons.mpr ⟨(List.mem_of_getElem? (i := 22) rfl), (List.forall_mem_cons.mpr ⟨(List.mem_of_getElem? (i := 8) rfl), (fun _ h => absurd h List.not_mem_nil)⟩)⟩)⟩)⟩) (by decide +kernel)) ggX4_fitsTheRow_X3_floorsUp
def dtX4_fitsTheRow_t0 : List (Nat × Instr × Nat) := [(0, .aload_n 0, 1), (1, .getfield 10, 3), (4, .iload_n 1, 1), (5, .invokevirtual 139, 3), (8, .istore_n 2, 1), (9, .iconst 0, 1), (10, .istore_n 3, 1), (11, .iconst 0, 1), (12, .istore 4, 2), (14, .iload 4, 2), (16, .bipush 8, 2), (18, .if_icmp .ge 95, 3), (21, .iload_n 3, 1), (22, .aload_n 0, 1), (23, .getfield 160, 3), (26, .if_icmp .ge 87, 3), (29, .aload_n 0, 1), (30, .getfield 10, 3), (33, .iload 4, 2), (35, .invokevirtual 74, 3)]
theorem daX4_fitsTheRow_t0 : dtX4_fitsTheRow_t0.all (dck cX4_fitsTheRow) = true := by decide +kernel
theorem dX4_fitsTheRow_0 : decode cX4_fitsTheRow 0 = .ok (.aload_n 0, 1) := dck_get daX4_fitsTheRow_t0 0 rfl
theorem dX4_fitsTheRow_1 : decode cX4_fitsTheRow 1 = .ok (.getfield 10, 3) := dck_get daX4_fitsTheRow_t0 1 rfl
theorem dX4_fitsTheRow_4 : decode cX4_fitsTheRow 4 = .ok (.iload_n 1, 1) := dck_get daX4_fitsTheRow_t0 2 rfl
theorem dX4_fitsTheRow_5 : decode cX4_fitsTheRow 5 = .ok (.invokevirtual 139, 3) := dck_get daX4_fitsTheRow_t0 3 rfl
theorem dX4_fitsTheRow_8 : decode cX4_fitsTheRow 8 = .ok (.istore_n 2, 1) := dck_get daX4_fitsTheRow_t0 4 rfl
theorem dX4_fitsTheRow_9 : decode cX4_fitsTheRow 9 = .ok (.iconst 0, 1) := dck_get daX4_fitsTheRow_t0 5 rfl
theorem dX4_fitsTheRow_10 : decode cX4_fitsTheRow 10 = .ok (.istore_n 3, 1) := dck_get daX4_fitsTheRow_t0 6 rfl
theorem dX4_fitsTheRow_11 : decode cX4_fitsTheRow 11 = .ok (.iconst 0, 1) := dck_get daX4_fitsTheRow_t0 7 rfl
theorem dX4_fitsTheRow_12 : decode cX4_fitsTheRow 12 = .ok (.istore 4, 2) := dck_get daX4_fitsTheRow_t0 8 rfl
theorem dX4_fitsTheRow_14 : decode cX4_fitsTheRow 14 = .ok (.iload 4, 2) := dck_get daX4_fitsTheRow_t0 9 rfl
theorem dX4_fitsTheRow_16 : decode cX4_fitsTheRow 16 = .ok (.bipush 8, 2) := dck_get daX4_fitsTheRow_t0 10 rfl
theorem dX4_fitsTheRow_18 : decode cX4_fitsTheRow 18 = .ok (.if_icmp .ge 95, 3) := dck_get daX4_fitsTheRow_t0 11 rfl
theorem dX4_fitsTheRow_21 : decode cX4_fitsTheRow 21 = .ok (.iload_n 3, 1) := dck_get daX4_fitsTheRow_t0 12 rfl
theorem dX4_fitsTheRow_22 : decode cX4_fitsTheRow 22 = .ok (.aload_n 0, 1) := dck_get daX4_fitsTheRow_t0 13 rfl
theorem dX4_fitsTheRow_23 : decode cX4_fitsTheRow 23 = .ok (.getfield 160, 3) := dck_get daX4_fitsTheRow_t0 14 rfl
theorem dX4_fitsTheRow_26 : decode cX4_fitsTheRow 26 = .ok (.if_icmp .ge 87, 3) := dck_get daX4_fitsTheRow_t0 15 rfl
theorem dX4_fitsTheRow_29 : decode cX4_fitsTheRow 29 = .ok (.aload_n 0, 1) := dck_get daX4_fitsTheRow_t0 16 rfl
theorem dX4_fitsTheRow_30 : decode cX4_fitsTheRow 30 = .ok (.getfield 10, 3) := dck_get daX4_fitsTheRow_t0 17 rfl
theorem dX4_fitsTheRow_33 : decode cX4_fitsTheRow 33 = .ok (.iload 4, 2) := dck_get daX4_fitsTheRow_t0 18 rfl
theorem dX4_fitsTheRow_35 : decode cX4_fitsTheRow 35 = .ok (.invokevirtual 74, 3) := dck_get daX4_fitsTheRow_t0 19 rfl
def dtX4_fitsTheRow_t1 : List (Nat × Instr × Nat) := [(38, .ifCond .ne 6, 3), (41, .goto 66, 3), (44, .iload_n 1, 1), (45, .iload 4, 2), (47, .invokestatic 207, 3), (50, .ifCond .eq 7, 3), (53, .iconst (-1), 1), (54, .goto 24, 3), (57, .aload_n 0, 1), (58, .getfield 10, 3), (61, .getfield 83, 3), (64, .iload 4, 2), (66, .iaload, 1), (67, .aload_n 0, 1), (68, .getfield 10, 3), (71, .iload 4, 2), (73, .iload_n 2, 1), (74, .invokevirtual 142, 3), (77, .iadd, 1), (78, .istore 5, 2)]
theorem daX4_fitsTheRow_t1 : dtX4_fitsTheRow_t1.all (dck cX4_fitsTheRow) = true := by decide +kernel
theorem dX4_fitsTheRow_38 : decode cX4_fitsTheRow 38 = .ok (.ifCond .ne 6, 3) := dck_get daX4_fitsTheRow_t1 0 rfl
theorem dX4_fitsTheRow_41 : decode cX4_fitsTheRow 41 = .ok (.goto 66, 3) := dck_get daX4_fitsTheRow_t1 1 rfl
theorem dX4_fitsTheRow_44 : decode cX4_fitsTheRow 44 = .ok (.iload_n 1, 1) := dck_get daX4_fitsTheRow_t1 2 rfl
theorem dX4_fitsTheRow_45 : decode cX4_fitsTheRow 45 = .ok (.iload 4, 2) := dck_get daX4_fitsTheRow_t1 3 rfl
theorem dX4_fitsTheRow_47 : decode cX4_fitsTheRow 47 = .ok (.invokestatic 207, 3) := dck_get daX4_fitsTheRow_t1 4 rfl
theorem dX4_fitsTheRow_50 : decode cX4_fitsTheRow 50 = .ok (.ifCond .eq 7, 3) := dck_get daX4_fitsTheRow_t1 5 rfl
theorem dX4_fitsTheRow_53 : decode cX4_fitsTheRow 53 = .ok (.iconst (-1), 1) := dck_get daX4_fitsTheRow_t1 6 rfl
theorem dX4_fitsTheRow_54 : decode cX4_fitsTheRow 54 = .ok (.goto 24, 3) := dck_get daX4_fitsTheRow_t1 7 rfl
theorem dX4_fitsTheRow_57 : decode cX4_fitsTheRow 57 = .ok (.aload_n 0, 1) := dck_get daX4_fitsTheRow_t1 8 rfl
theorem dX4_fitsTheRow_58 : decode cX4_fitsTheRow 58 = .ok (.getfield 10, 3) := dck_get daX4_fitsTheRow_t1 9 rfl
theorem dX4_fitsTheRow_61 : decode cX4_fitsTheRow 61 = .ok (.getfield 83, 3) := dck_get daX4_fitsTheRow_t1 10 rfl
theorem dX4_fitsTheRow_64 : decode cX4_fitsTheRow 64 = .ok (.iload 4, 2) := dck_get daX4_fitsTheRow_t1 11 rfl
theorem dX4_fitsTheRow_66 : decode cX4_fitsTheRow 66 = .ok (.iaload, 1) := dck_get daX4_fitsTheRow_t1 12 rfl
theorem dX4_fitsTheRow_67 : decode cX4_fitsTheRow 67 = .ok (.aload_n 0, 1) := dck_get daX4_fitsTheRow_t1 13 rfl
theorem dX4_fitsTheRow_68 : decode cX4_fitsTheRow 68 = .ok (.getfield 10, 3) := dck_get daX4_fitsTheRow_t1 14 rfl
theorem dX4_fitsTheRow_71 : decode cX4_fitsTheRow 71 = .ok (.iload 4, 2) := dck_get daX4_fitsTheRow_t1 15 rfl
theorem dX4_fitsTheRow_73 : decode cX4_fitsTheRow 73 = .ok (.iload_n 2, 1) := dck_get daX4_fitsTheRow_t1 16 rfl
theorem dX4_fitsTheRow_74 : decode cX4_fitsTheRow 74 = .ok (.invokevirtual 142, 3) := dck_get daX4_fitsTheRow_t1 17 rfl
theorem dX4_fitsTheRow_77 : decode cX4_fitsTheRow 77 = .ok (.iadd, 1) := dck_get daX4_fitsTheRow_t1 18 rfl
theorem dX4_fitsTheRow_78 : decode cX4_fitsTheRow 78 = .ok (.istore 5, 2) := dck_get daX4_fitsTheRow_t1 19 rfl
def dtX4_fitsTheRow_t2 : List (Nat × Instr × Nat) := [(80, .aload_n 0, 1), (81, .getfield 36, 3), (84, .iload_n 3, 1), (85, .iaload, 1), (86, .bipush 10, 2), (88, .if_icmp .eq 16, 3), (91, .aload_n 0, 1), (92, .getfield 36, 3), (95, .iload_n 3, 1), (96, .iaload, 1), (97, .iload 5, 2), (99, .if_icmp .eq 5, 3), (102, .iconst 0, 1), (103, .ireturn, 1), (104, .iinc 3 1, 3), (107, .iinc 4 1, 3), (110, .goto (-96), 3), (113, .iconst 1, 1), (114, .ireturn, 1)]
theorem daX4_fitsTheRow_t2 : dtX4_fitsTheRow_t2.all (dck cX4_fitsTheRow) = true := by decide +kernel
theorem dX4_fitsTheRow_80 : decode cX4_fitsTheRow 80 = .ok (.aload_n 0, 1) := dck_get daX4_fitsTheRow_t2 0 rfl
theorem dX4_fitsTheRow_81 : decode cX4_fitsTheRow 81 = .ok (.getfield 36, 3) := dck_get daX4_fitsTheRow_t2 1 rfl
theorem dX4_fitsTheRow_84 : decode cX4_fitsTheRow 84 = .ok (.iload_n 3, 1) := dck_get daX4_fitsTheRow_t2 2 rfl
theorem dX4_fitsTheRow_85 : decode cX4_fitsTheRow 85 = .ok (.iaload, 1) := dck_get daX4_fitsTheRow_t2 3 rfl
theorem dX4_fitsTheRow_86 : decode cX4_fitsTheRow 86 = .ok (.bipush 10, 2) := dck_get daX4_fitsTheRow_t2 4 rfl
theorem dX4_fitsTheRow_88 : decode cX4_fitsTheRow 88 = .ok (.if_icmp .eq 16, 3) := dck_get daX4_fitsTheRow_t2 5 rfl
theorem dX4_fitsTheRow_91 : decode cX4_fitsTheRow 91 = .ok (.aload_n 0, 1) := dck_get daX4_fitsTheRow_t2 6 rfl
theorem dX4_fitsTheRow_92 : decode cX4_fitsTheRow 92 = .ok (.getfield 36, 3) := dck_get daX4_fitsTheRow_t2 7 rfl
theorem dX4_fitsTheRow_95 : decode cX4_fitsTheRow 95 = .ok (.iload_n 3, 1) := dck_get daX4_fitsTheRow_t2 8 rfl
theorem dX4_fitsTheRow_96 : decode cX4_fitsTheRow 96 = .ok (.iaload, 1) := dck_get daX4_fitsTheRow_t2 9 rfl
theorem dX4_fitsTheRow_97 : decode cX4_fitsTheRow 97 = .ok (.iload 5, 2) := dck_get daX4_fitsTheRow_t2 10 rfl
theorem dX4_fitsTheRow_99 : decode cX4_fitsTheRow 99 = .ok (.if_icmp .eq 5, 3) := dck_get daX4_fitsTheRow_t2 11 rfl
theorem dX4_fitsTheRow_102 : decode cX4_fitsTheRow 102 = .ok (.iconst 0, 1) := dck_get daX4_fitsTheRow_t2 12 rfl
theorem dX4_fitsTheRow_103 : decode cX4_fitsTheRow 103 = .ok (.ireturn, 1) := dck_get daX4_fitsTheRow_t2 13 rfl
theorem dX4_fitsTheRow_104 : decode cX4_fitsTheRow 104 = .ok (.iinc 3 1, 3) := dck_get daX4_fitsTheRow_t2 14 rfl
theorem dX4_fitsTheRow_107 : decode cX4_fitsTheRow 107 = .ok (.iinc 4 1, 3) := dck_get daX4_fitsTheRow_t2 15 rfl
theorem dX4_fitsTheRow_110 : decode cX4_fitsTheRow 110 = .ok (.goto (-96), 3) := dck_get daX4_fitsTheRow_t2 16 rfl
theorem dX4_fitsTheRow_113 : decode cX4_fitsTheRow 113 = .ok (.iconst 1, 1) := dck_get daX4_fitsTheRow_t2 17 rfl
theorem dX4_fitsTheRow_114 : decode cX4_fitsTheRow 114 = .ok (.ireturn, 1) := dck_get daX4_fitsTheRow_t2 18 rfl
set_option maxRecDepth 20000 in
theorem ggX4_firstNotSo_X3_isAlive : GoodIn wsX4_firstNotSo wsX3_isAlive := goodIn_sub (List.forall_mem_cons.mpr ⟨(List.mem_of_getElem? (i := 9) rfl), (List.forall_mem_append.mpr ⟨(List.forall_mem_cons.mpr ⟨(List.mem_of_getElem? (i := 10) rfl), (List.forall_mem_cons.mpr ⟨(List.mem_of_getElem? (i := 11) rfl), (fun _ h => absurd h List.not_mem_nil)⟩)⟩), (fun _ h => (List.mem_cons_of_mem _ (List.mem_append_right _ h)))⟩)⟩) gw_wsX3_isAlive
set_option maxRecDepth 20000 in
theorem gX4_firstNotSo_X3_isAlive : GoodIn wsX4_firstNotSo (wsV RX4 74 RX3 yX3_isAlive wsX3_isAlive) := goodIn_app (goodIn_sub (List.forall_mem_cons.mpr ⟨(List.mem_of_getElem? (i := 5) rfl), (List.forall_mem_cons.mpr ⟨(List.mem_of_getElem? (i := 6) rfl), (List.forall_mem_cons.mpr ⟨(List.mem_of_getElem? (i := 7) rfl), (List.forall_mem_cons.mpr ⟨(List.mem_of_getElem? (i := 8) rfl), (fun _ h => absurd h List.not_mem_nil)⟩)⟩)⟩)⟩) (by decide +kernel)) ggX4_firstNotSo_X3_isAlive
def dtX4_firstNotSo_t0 : List (Nat × Instr × Nat) := [(0, .iconst 0, 1), (1, .istore_n 1, 1), (2, .iconst 0, 1), (3, .istore_n 2, 1), (4, .iload_n 2, 1), (5, .bipush 8, 2), (7, .if_icmp .ge 54, 3), (10, .aload_n 0, 1), (11, .getfield 10, 3), (14, .iload_n 2, 1), (15, .invokevirtual 74, 3), (18, .ifCond .ne 6, 3), (21, .goto 34, 3), (24, .iload_n 1, 1), (25, .aload_n 0, 1), (26, .getfield 160, 3), (29, .if_icmp .ge 21, 3), (32, .aload_n 0, 1), (33, .getfield 36, 3), (36, .iload_n 1, 1)]
theorem daX4_firstNotSo_t0 : dtX4_firstNotSo_t0.all (dck cX4_firstNotSo) = true := by decide +kernel
theorem dX4_firstNotSo_0 : decode cX4_firstNotSo 0 = .ok (.iconst 0, 1) := dck_get daX4_firstNotSo_t0 0 rfl
theorem dX4_firstNotSo_1 : decode cX4_firstNotSo 1 = .ok (.istore_n 1, 1) := dck_get daX4_firstNotSo_t0 1 rfl
theorem dX4_firstNotSo_2 : decode cX4_firstNotSo 2 = .ok (.iconst 0, 1) := dck_get daX4_firstNotSo_t0 2 rfl
theorem dX4_firstNotSo_3 : decode cX4_firstNotSo 3 = .ok (.istore_n 2, 1) := dck_get daX4_firstNotSo_t0 3 rfl
theorem dX4_firstNotSo_4 : decode cX4_firstNotSo 4 = .ok (.iload_n 2, 1) := dck_get daX4_firstNotSo_t0 4 rfl
theorem dX4_firstNotSo_5 : decode cX4_firstNotSo 5 = .ok (.bipush 8, 2) := dck_get daX4_firstNotSo_t0 5 rfl
theorem dX4_firstNotSo_7 : decode cX4_firstNotSo 7 = .ok (.if_icmp .ge 54, 3) := dck_get daX4_firstNotSo_t0 6 rfl
theorem dX4_firstNotSo_10 : decode cX4_firstNotSo 10 = .ok (.aload_n 0, 1) := dck_get daX4_firstNotSo_t0 7 rfl
theorem dX4_firstNotSo_11 : decode cX4_firstNotSo 11 = .ok (.getfield 10, 3) := dck_get daX4_firstNotSo_t0 8 rfl
theorem dX4_firstNotSo_14 : decode cX4_firstNotSo 14 = .ok (.iload_n 2, 1) := dck_get daX4_firstNotSo_t0 9 rfl
theorem dX4_firstNotSo_15 : decode cX4_firstNotSo 15 = .ok (.invokevirtual 74, 3) := dck_get daX4_firstNotSo_t0 10 rfl
theorem dX4_firstNotSo_18 : decode cX4_firstNotSo 18 = .ok (.ifCond .ne 6, 3) := dck_get daX4_firstNotSo_t0 11 rfl
theorem dX4_firstNotSo_21 : decode cX4_firstNotSo 21 = .ok (.goto 34, 3) := dck_get daX4_firstNotSo_t0 12 rfl
theorem dX4_firstNotSo_24 : decode cX4_firstNotSo 24 = .ok (.iload_n 1, 1) := dck_get daX4_firstNotSo_t0 13 rfl
theorem dX4_firstNotSo_25 : decode cX4_firstNotSo 25 = .ok (.aload_n 0, 1) := dck_get daX4_firstNotSo_t0 14 rfl
theorem dX4_firstNotSo_26 : decode cX4_firstNotSo 26 = .ok (.getfield 160, 3) := dck_get daX4_firstNotSo_t0 15 rfl
theorem dX4_firstNotSo_29 : decode cX4_firstNotSo 29 = .ok (.if_icmp .ge 21, 3) := dck_get daX4_firstNotSo_t0 16 rfl
theorem dX4_firstNotSo_32 : decode cX4_firstNotSo 32 = .ok (.aload_n 0, 1) := dck_get daX4_firstNotSo_t0 17 rfl
theorem dX4_firstNotSo_33 : decode cX4_firstNotSo 33 = .ok (.getfield 36, 3) := dck_get daX4_firstNotSo_t0 18 rfl
theorem dX4_firstNotSo_36 : decode cX4_firstNotSo 36 = .ok (.iload_n 1, 1) := dck_get daX4_firstNotSo_t0 19 rfl
def dtX4_firstNotSo_t1 : List (Nat × Instr × Nat) := [(37, .iaload, 1), (38, .aload_n 0, 1), (39, .getfield 10, 3), (42, .getfield 83, 3), (45, .iload_n 2, 1), (46, .iaload, 1), (47, .if_icmp .eq 5, 3), (50, .iload_n 1, 1), (51, .ireturn, 1), (52, .iinc 1 1, 3), (55, .iinc 2 1, 3), (58, .goto (-54), 3), (61, .iload_n 1, 1), (62, .aload_n 0, 1), (63, .getfield 160, 3), (66, .if_icmp .ge 7, 3), (69, .iload_n 1, 1), (70, .goto 5, 3), (73, .bipush (-9), 2), (75, .ireturn, 1)]
theorem daX4_firstNotSo_t1 : dtX4_firstNotSo_t1.all (dck cX4_firstNotSo) = true := by decide +kernel
theorem dX4_firstNotSo_37 : decode cX4_firstNotSo 37 = .ok (.iaload, 1) := dck_get daX4_firstNotSo_t1 0 rfl
theorem dX4_firstNotSo_38 : decode cX4_firstNotSo 38 = .ok (.aload_n 0, 1) := dck_get daX4_firstNotSo_t1 1 rfl
theorem dX4_firstNotSo_39 : decode cX4_firstNotSo 39 = .ok (.getfield 10, 3) := dck_get daX4_firstNotSo_t1 2 rfl
theorem dX4_firstNotSo_42 : decode cX4_firstNotSo 42 = .ok (.getfield 83, 3) := dck_get daX4_firstNotSo_t1 3 rfl
theorem dX4_firstNotSo_45 : decode cX4_firstNotSo 45 = .ok (.iload_n 2, 1) := dck_get daX4_firstNotSo_t1 4 rfl
theorem dX4_firstNotSo_46 : decode cX4_firstNotSo 46 = .ok (.iaload, 1) := dck_get daX4_firstNotSo_t1 5 rfl
theorem dX4_firstNotSo_47 : decode cX4_firstNotSo 47 = .ok (.if_icmp .eq 5, 3) := dck_get daX4_firstNotSo_t1 6 rfl
theorem dX4_firstNotSo_50 : decode cX4_firstNotSo 50 = .ok (.iload_n 1, 1) := dck_get daX4_firstNotSo_t1 7 rfl
theorem dX4_firstNotSo_51 : decode cX4_firstNotSo 51 = .ok (.ireturn, 1) := dck_get daX4_firstNotSo_t1 8 rfl
theorem dX4_firstNotSo_52 : decode cX4_firstNotSo 52 = .ok (.iinc 1 1, 3) := dck_get daX4_firstNotSo_t1 9 rfl
theorem dX4_firstNotSo_55 : decode cX4_firstNotSo 55 = .ok (.iinc 2 1, 3) := dck_get daX4_firstNotSo_t1 10 rfl
theorem dX4_firstNotSo_58 : decode cX4_firstNotSo 58 = .ok (.goto (-54), 3) := dck_get daX4_firstNotSo_t1 11 rfl
theorem dX4_firstNotSo_61 : decode cX4_firstNotSo 61 = .ok (.iload_n 1, 1) := dck_get daX4_firstNotSo_t1 12 rfl
theorem dX4_firstNotSo_62 : decode cX4_firstNotSo 62 = .ok (.aload_n 0, 1) := dck_get daX4_firstNotSo_t1 13 rfl
theorem dX4_firstNotSo_63 : decode cX4_firstNotSo 63 = .ok (.getfield 160, 3) := dck_get daX4_firstNotSo_t1 14 rfl
theorem dX4_firstNotSo_66 : decode cX4_firstNotSo 66 = .ok (.if_icmp .ge 7, 3) := dck_get daX4_firstNotSo_t1 15 rfl
theorem dX4_firstNotSo_69 : decode cX4_firstNotSo 69 = .ok (.iload_n 1, 1) := dck_get daX4_firstNotSo_t1 16 rfl
theorem dX4_firstNotSo_70 : decode cX4_firstNotSo 70 = .ok (.goto 5, 3) := dck_get daX4_firstNotSo_t1 17 rfl
theorem dX4_firstNotSo_73 : decode cX4_firstNotSo 73 = .ok (.bipush (-9), 2) := dck_get daX4_firstNotSo_t1 18 rfl
theorem dX4_firstNotSo_75 : decode cX4_firstNotSo 75 = .ok (.ireturn, 1) := dck_get daX4_firstNotSo_t1 19 rfl
def dtX5_init_t0 : List (Nat × Instr × Nat) := [(0, .aload_n 0, 1), (1, .invokespecial 1, 3), (4, .aload_n 0, 1), (5, .bipush 7, 2), (7, .newarray .int, 2), (9, .putfield 7, 3), (12, .aload_n 0, 1), (13, .bipush 8, 2), (15, .newarray .int, 2), (17, .putfield 13, 3), (20, .aload_n 0, 1), (21, .bipush 8, 2), (23, .newarray .int, 2), (25, .putfield 16, 3), (28, .aload_n 0, 1), (29, .bipush 8, 2), (31, .newarray .int, 2), (33, .putfield 19, 3), (36, .aload_n 0, 1), (37, .bipush 8, 2)]
theorem daX5_init_t0 : dtX5_init_t0.all (dck cX5_init) = true := by decide +kernel
theorem dX5_init_0 : decode cX5_init 0 = .ok (.aload_n 0, 1) := dck_get daX5_init_t0 0 rfl
theorem dX5_init_1 : decode cX5_init 1 = .ok (.invokespecial 1, 3) := dck_get daX5_init_t0 1 rfl
theorem dX5_init_4 : decode cX5_init 4 = .ok (.aload_n 0, 1) := dck_get daX5_init_t0 2 rfl
theorem dX5_init_5 : decode cX5_init 5 = .ok (.bipush 7, 2) := dck_get daX5_init_t0 3 rfl
theorem dX5_init_7 : decode cX5_init 7 = .ok (.newarray .int, 2) := dck_get daX5_init_t0 4 rfl
theorem dX5_init_9 : decode cX5_init 9 = .ok (.putfield 7, 3) := dck_get daX5_init_t0 5 rfl
theorem dX5_init_12 : decode cX5_init 12 = .ok (.aload_n 0, 1) := dck_get daX5_init_t0 6 rfl
theorem dX5_init_13 : decode cX5_init 13 = .ok (.bipush 8, 2) := dck_get daX5_init_t0 7 rfl
theorem dX5_init_15 : decode cX5_init 15 = .ok (.newarray .int, 2) := dck_get daX5_init_t0 8 rfl
theorem dX5_init_17 : decode cX5_init 17 = .ok (.putfield 13, 3) := dck_get daX5_init_t0 9 rfl
theorem dX5_init_20 : decode cX5_init 20 = .ok (.aload_n 0, 1) := dck_get daX5_init_t0 10 rfl
theorem dX5_init_21 : decode cX5_init 21 = .ok (.bipush 8, 2) := dck_get daX5_init_t0 11 rfl
theorem dX5_init_23 : decode cX5_init 23 = .ok (.newarray .int, 2) := dck_get daX5_init_t0 12 rfl
theorem dX5_init_25 : decode cX5_init 25 = .ok (.putfield 16, 3) := dck_get daX5_init_t0 13 rfl
theorem dX5_init_28 : decode cX5_init 28 = .ok (.aload_n 0, 1) := dck_get daX5_init_t0 14 rfl
theorem dX5_init_29 : decode cX5_init 29 = .ok (.bipush 8, 2) := dck_get daX5_init_t0 15 rfl
theorem dX5_init_31 : decode cX5_init 31 = .ok (.newarray .int, 2) := dck_get daX5_init_t0 16 rfl
theorem dX5_init_33 : decode cX5_init 33 = .ok (.putfield 19, 3) := dck_get daX5_init_t0 17 rfl
theorem dX5_init_36 : decode cX5_init 36 = .ok (.aload_n 0, 1) := dck_get daX5_init_t0 18 rfl
theorem dX5_init_37 : decode cX5_init 37 = .ok (.bipush 8, 2) := dck_get daX5_init_t0 19 rfl
def dtX5_init_t1 : List (Nat × Instr × Nat) := [(39, .newarray .int, 2), (41, .putfield 22, 3), (44, .aload_n 0, 1), (45, .bipush 8, 2), (47, .newarray .int, 2), (49, .putfield 25, 3), (52, .aload_n 0, 1), (53, .bipush 80, 2), (55, .newarray .int, 2), (57, .putfield 28, 3), (60, .aload_n 0, 1), (61, .bipush 40, 2), (63, .newarray .int, 2), (65, .putfield 31, 3), (68, .aload_n 0, 1), (69, .bipush 40, 2), (71, .newarray .int, 2), (73, .putfield 34, 3), (76, .aload_n 0, 1), (77, .bipush 120, 2)]
theorem daX5_init_t1 : dtX5_init_t1.all (dck cX5_init) = true := by decide +kernel
theorem dX5_init_39 : decode cX5_init 39 = .ok (.newarray .int, 2) := dck_get daX5_init_t1 0 rfl
theorem dX5_init_41 : decode cX5_init 41 = .ok (.putfield 22, 3) := dck_get daX5_init_t1 1 rfl
theorem dX5_init_44 : decode cX5_init 44 = .ok (.aload_n 0, 1) := dck_get daX5_init_t1 2 rfl
theorem dX5_init_45 : decode cX5_init 45 = .ok (.bipush 8, 2) := dck_get daX5_init_t1 3 rfl
theorem dX5_init_47 : decode cX5_init 47 = .ok (.newarray .int, 2) := dck_get daX5_init_t1 4 rfl
theorem dX5_init_49 : decode cX5_init 49 = .ok (.putfield 25, 3) := dck_get daX5_init_t1 5 rfl
theorem dX5_init_52 : decode cX5_init 52 = .ok (.aload_n 0, 1) := dck_get daX5_init_t1 6 rfl
theorem dX5_init_53 : decode cX5_init 53 = .ok (.bipush 80, 2) := dck_get daX5_init_t1 7 rfl
theorem dX5_init_55 : decode cX5_init 55 = .ok (.newarray .int, 2) := dck_get daX5_init_t1 8 rfl
theorem dX5_init_57 : decode cX5_init 57 = .ok (.putfield 28, 3) := dck_get daX5_init_t1 9 rfl
theorem dX5_init_60 : decode cX5_init 60 = .ok (.aload_n 0, 1) := dck_get daX5_init_t1 10 rfl
theorem dX5_init_61 : decode cX5_init 61 = .ok (.bipush 40, 2) := dck_get daX5_init_t1 11 rfl
theorem dX5_init_63 : decode cX5_init 63 = .ok (.newarray .int, 2) := dck_get daX5_init_t1 12 rfl
theorem dX5_init_65 : decode cX5_init 65 = .ok (.putfield 31, 3) := dck_get daX5_init_t1 13 rfl
theorem dX5_init_68 : decode cX5_init 68 = .ok (.aload_n 0, 1) := dck_get daX5_init_t1 14 rfl
theorem dX5_init_69 : decode cX5_init 69 = .ok (.bipush 40, 2) := dck_get daX5_init_t1 15 rfl
theorem dX5_init_71 : decode cX5_init 71 = .ok (.newarray .int, 2) := dck_get daX5_init_t1 16 rfl
theorem dX5_init_73 : decode cX5_init 73 = .ok (.putfield 34, 3) := dck_get daX5_init_t1 17 rfl
theorem dX5_init_76 : decode cX5_init 76 = .ok (.aload_n 0, 1) := dck_get daX5_init_t1 18 rfl
theorem dX5_init_77 : decode cX5_init 77 = .ok (.bipush 120, 2) := dck_get daX5_init_t1 19 rfl
def dtX5_init_t2 : List (Nat × Instr × Nat) := [(79, .newarray .int, 2), (81, .putfield 37, 3), (84, .aload_n 0, 1), (85, .bipush 40, 2), (87, .newarray .int, 2), (89, .putfield 40, 3), (92, .aload_n 0, 1), (93, .bipush 40, 2), (95, .newarray .int, 2), (97, .putfield 43, 3), (100, .aload_n 0, 1), (101, .sipush 130, 3), (104, .newarray .int, 2), (106, .putfield 46, 3), (109, .aload_n 0, 1), (110, .bipush 8, 2), (112, .newarray .int, 2), (114, .putfield 49, 3), (117, .aload_n 0, 1), (118, .bipush 8, 2)]
theorem daX5_init_t2 : dtX5_init_t2.all (dck cX5_init) = true := by decide +kernel
theorem dX5_init_79 : decode cX5_init 79 = .ok (.newarray .int, 2) := dck_get daX5_init_t2 0 rfl
theorem dX5_init_81 : decode cX5_init 81 = .ok (.putfield 37, 3) := dck_get daX5_init_t2 1 rfl
theorem dX5_init_84 : decode cX5_init 84 = .ok (.aload_n 0, 1) := dck_get daX5_init_t2 2 rfl
theorem dX5_init_85 : decode cX5_init 85 = .ok (.bipush 40, 2) := dck_get daX5_init_t2 3 rfl
theorem dX5_init_87 : decode cX5_init 87 = .ok (.newarray .int, 2) := dck_get daX5_init_t2 4 rfl
theorem dX5_init_89 : decode cX5_init 89 = .ok (.putfield 40, 3) := dck_get daX5_init_t2 5 rfl
theorem dX5_init_92 : decode cX5_init 92 = .ok (.aload_n 0, 1) := dck_get daX5_init_t2 6 rfl
theorem dX5_init_93 : decode cX5_init 93 = .ok (.bipush 40, 2) := dck_get daX5_init_t2 7 rfl
theorem dX5_init_95 : decode cX5_init 95 = .ok (.newarray .int, 2) := dck_get daX5_init_t2 8 rfl
theorem dX5_init_97 : decode cX5_init 97 = .ok (.putfield 43, 3) := dck_get daX5_init_t2 9 rfl
theorem dX5_init_100 : decode cX5_init 100 = .ok (.aload_n 0, 1) := dck_get daX5_init_t2 10 rfl
theorem dX5_init_101 : decode cX5_init 101 = .ok (.sipush 130, 3) := dck_get daX5_init_t2 11 rfl
theorem dX5_init_104 : decode cX5_init 104 = .ok (.newarray .int, 2) := dck_get daX5_init_t2 12 rfl
theorem dX5_init_106 : decode cX5_init 106 = .ok (.putfield 46, 3) := dck_get daX5_init_t2 13 rfl
theorem dX5_init_109 : decode cX5_init 109 = .ok (.aload_n 0, 1) := dck_get daX5_init_t2 14 rfl
theorem dX5_init_110 : decode cX5_init 110 = .ok (.bipush 8, 2) := dck_get daX5_init_t2 15 rfl
theorem dX5_init_112 : decode cX5_init 112 = .ok (.newarray .int, 2) := dck_get daX5_init_t2 16 rfl
theorem dX5_init_114 : decode cX5_init 114 = .ok (.putfield 49, 3) := dck_get daX5_init_t2 17 rfl
theorem dX5_init_117 : decode cX5_init 117 = .ok (.aload_n 0, 1) := dck_get daX5_init_t2 18 rfl
theorem dX5_init_118 : decode cX5_init 118 = .ok (.bipush 8, 2) := dck_get daX5_init_t2 19 rfl
def dtX5_init_t3 : List (Nat × Instr × Nat) := [(120, .newarray .int, 2), (122, .putfield 52, 3), (125, .return_, 1)]
theorem daX5_init_t3 : dtX5_init_t3.all (dck cX5_init) = true := by decide +kernel
theorem dX5_init_120 : decode cX5_init 120 = .ok (.newarray .int, 2) := dck_get daX5_init_t3 0 rfl
theorem dX5_init_122 : decode cX5_init 122 = .ok (.putfield 52, 3) := dck_get daX5_init_t3 1 rfl
theorem dX5_init_125 : decode cX5_init 125 = .ok (.return_, 1) := dck_get daX5_init_t3 2 rfl
def dtX5_no_t0 : List (Nat × Instr × Nat) := [(0, .aload_n 0, 1), (1, .getfield 7, 3), (4, .iload_n 1, 1), (5, .ineg, 1), (6, .dup2, 1), (7, .iaload, 1), (8, .iconst 1, 1), (9, .iadd, 1), (10, .iastore, 1), (11, .iload_n 1, 1), (12, .ireturn, 1)]
theorem daX5_no_t0 : dtX5_no_t0.all (dck cX5_no) = true := by decide +kernel
theorem dX5_no_0 : decode cX5_no 0 = .ok (.aload_n 0, 1) := dck_get daX5_no_t0 0 rfl
theorem dX5_no_1 : decode cX5_no 1 = .ok (.getfield 7, 3) := dck_get daX5_no_t0 1 rfl
theorem dX5_no_4 : decode cX5_no 4 = .ok (.iload_n 1, 1) := dck_get daX5_no_t0 2 rfl
theorem dX5_no_5 : decode cX5_no 5 = .ok (.ineg, 1) := dck_get daX5_no_t0 3 rfl
theorem dX5_no_6 : decode cX5_no 6 = .ok (.dup2, 1) := dck_get daX5_no_t0 4 rfl
theorem dX5_no_7 : decode cX5_no 7 = .ok (.iaload, 1) := dck_get daX5_no_t0 5 rfl
theorem dX5_no_8 : decode cX5_no 8 = .ok (.iconst 1, 1) := dck_get daX5_no_t0 6 rfl
theorem dX5_no_9 : decode cX5_no 9 = .ok (.iadd, 1) := dck_get daX5_no_t0 7 rfl
theorem dX5_no_10 : decode cX5_no 10 = .ok (.iastore, 1) := dck_get daX5_no_t0 8 rfl
theorem dX5_no_11 : decode cX5_no 11 = .ok (.iload_n 1, 1) := dck_get daX5_no_t0 9 rfl
theorem dX5_no_12 : decode cX5_no 12 = .ok (.ireturn, 1) := dck_get daX5_no_t0 10 rfl
def dtX5_lowest_t0 : List (Nat × Instr × Nat) := [(0, .aload_n 0, 1), (1, .getfield 7, 3), (4, .iload_n 1, 1), (5, .ineg, 1), (6, .dup2, 1), (7, .iaload, 1), (8, .iconst 1, 1), (9, .iadd, 1), (10, .iastore, 1), (11, .ldc2_w 55, 3), (14, .iload_n 1, 1), (15, .i2l, 1), (16, .lsub, 1), (17, .lreturn, 1)]
theorem daX5_lowest_t0 : dtX5_lowest_t0.all (dck cX5_lowest) = true := by decide +kernel
theorem dX5_lowest_0 : decode cX5_lowest 0 = .ok (.aload_n 0, 1) := dck_get daX5_lowest_t0 0 rfl
theorem dX5_lowest_1 : decode cX5_lowest 1 = .ok (.getfield 7, 3) := dck_get daX5_lowest_t0 1 rfl
theorem dX5_lowest_4 : decode cX5_lowest 4 = .ok (.iload_n 1, 1) := dck_get daX5_lowest_t0 2 rfl
theorem dX5_lowest_5 : decode cX5_lowest 5 = .ok (.ineg, 1) := dck_get daX5_lowest_t0 3 rfl
theorem dX5_lowest_6 : decode cX5_lowest 6 = .ok (.dup2, 1) := dck_get daX5_lowest_t0 4 rfl
theorem dX5_lowest_7 : decode cX5_lowest 7 = .ok (.iaload, 1) := dck_get daX5_lowest_t0 5 rfl
theorem dX5_lowest_8 : decode cX5_lowest 8 = .ok (.iconst 1, 1) := dck_get daX5_lowest_t0 6 rfl
theorem dX5_lowest_9 : decode cX5_lowest 9 = .ok (.iadd, 1) := dck_get daX5_lowest_t0 7 rfl
theorem dX5_lowest_10 : decode cX5_lowest 10 = .ok (.iastore, 1) := dck_get daX5_lowest_t0 8 rfl
theorem dX5_lowest_11 : decode cX5_lowest 11 = .ok (.ldc2_w 55, 3) := dck_get daX5_lowest_t0 9 rfl
theorem dX5_lowest_14 : decode cX5_lowest 14 = .ok (.iload_n 1, 1) := dck_get daX5_lowest_t0 10 rfl
theorem dX5_lowest_15 : decode cX5_lowest 15 = .ok (.i2l, 1) := dck_get daX5_lowest_t0 11 rfl
theorem dX5_lowest_16 : decode cX5_lowest 16 = .ok (.lsub, 1) := dck_get daX5_lowest_t0 12 rfl
theorem dX5_lowest_17 : decode cX5_lowest 17 = .ok (.lreturn, 1) := dck_get daX5_lowest_t0 13 rfl
def dtX5_isIn_t0 : List (Nat × Instr × Nat) := [(0, .iload_n 0, 1), (1, .iload_n 1, 1), (2, .if_icmp .lt 12, 3), (5, .iload_n 0, 1), (6, .iload_n 2, 1), (7, .if_icmp .gt 7, 3), (10, .iconst 1, 1), (11, .goto 4, 3), (14, .iconst 0, 1), (15, .ireturn, 1)]
theorem daX5_isIn_t0 : dtX5_isIn_t0.all (dck cX5_isIn) = true := by decide +kernel
theorem dX5_isIn_0 : decode cX5_isIn 0 = .ok (.iload_n 0, 1) := dck_get daX5_isIn_t0 0 rfl
theorem dX5_isIn_1 : decode cX5_isIn 1 = .ok (.iload_n 1, 1) := dck_get daX5_isIn_t0 1 rfl
theorem dX5_isIn_2 : decode cX5_isIn 2 = .ok (.if_icmp .lt 12, 3) := dck_get daX5_isIn_t0 2 rfl
theorem dX5_isIn_5 : decode cX5_isIn 5 = .ok (.iload_n 0, 1) := dck_get daX5_isIn_t0 3 rfl
theorem dX5_isIn_6 : decode cX5_isIn 6 = .ok (.iload_n 2, 1) := dck_get daX5_isIn_t0 4 rfl
theorem dX5_isIn_7 : decode cX5_isIn 7 = .ok (.if_icmp .gt 7, 3) := dck_get daX5_isIn_t0 5 rfl
theorem dX5_isIn_10 : decode cX5_isIn 10 = .ok (.iconst 1, 1) := dck_get daX5_isIn_t0 6 rfl
theorem dX5_isIn_11 : decode cX5_isIn 11 = .ok (.goto 4, 3) := dck_get daX5_isIn_t0 7 rfl
theorem dX5_isIn_14 : decode cX5_isIn 14 = .ok (.iconst 0, 1) := dck_get daX5_isIn_t0 8 rfl
theorem dX5_isIn_15 : decode cX5_isIn 15 = .ok (.ireturn, 1) := dck_get daX5_isIn_t0 9 rfl
def dtX5_bound_t0 : List (Nat × Instr × Nat) := [(0, .iload_n 0, 1), (1, .iload_n 1, 1), (2, .if_icmp .ge 8, 3), (5, .bipush (-4), 2), (7, .goto 14, 3), (10, .iload_n 0, 1), (11, .iload_n 2, 1), (12, .if_icmp .le 8, 3), (15, .bipush (-6), 2), (17, .goto 4, 3), (20, .iconst 0, 1), (21, .ireturn, 1)]
theorem daX5_bound_t0 : dtX5_bound_t0.all (dck cX5_bound) = true := by decide +kernel
theorem dX5_bound_0 : decode cX5_bound 0 = .ok (.iload_n 0, 1) := dck_get daX5_bound_t0 0 rfl
theorem dX5_bound_1 : decode cX5_bound 1 = .ok (.iload_n 1, 1) := dck_get daX5_bound_t0 1 rfl
theorem dX5_bound_2 : decode cX5_bound 2 = .ok (.if_icmp .ge 8, 3) := dck_get daX5_bound_t0 2 rfl
theorem dX5_bound_5 : decode cX5_bound 5 = .ok (.bipush (-4), 2) := dck_get daX5_bound_t0 3 rfl
theorem dX5_bound_7 : decode cX5_bound 7 = .ok (.goto 14, 3) := dck_get daX5_bound_t0 4 rfl
theorem dX5_bound_10 : decode cX5_bound 10 = .ok (.iload_n 0, 1) := dck_get daX5_bound_t0 5 rfl
theorem dX5_bound_11 : decode cX5_bound 11 = .ok (.iload_n 2, 1) := dck_get daX5_bound_t0 6 rfl
theorem dX5_bound_12 : decode cX5_bound 12 = .ok (.if_icmp .le 8, 3) := dck_get daX5_bound_t0 7 rfl
theorem dX5_bound_15 : decode cX5_bound 15 = .ok (.bipush (-6), 2) := dck_get daX5_bound_t0 8 rfl
theorem dX5_bound_17 : decode cX5_bound 17 = .ok (.goto 4, 3) := dck_get daX5_bound_t0 9 rfl
theorem dX5_bound_20 : decode cX5_bound 20 = .ok (.iconst 0, 1) := dck_get daX5_bound_t0 10 rfl
theorem dX5_bound_21 : decode cX5_bound 21 = .ok (.ireturn, 1) := dck_get daX5_bound_t0 11 rfl
def dtX5_least_t0 : List (Nat × Instr × Nat) := [(0, .iload_n 0, 1), (1, .iload_n 1, 1), (2, .if_icmp .ge 7, 3), (5, .iload_n 0, 1), (6, .goto 4, 3), (9, .iload_n 1, 1), (10, .ireturn, 1)]
theorem daX5_least_t0 : dtX5_least_t0.all (dck cX5_least) = true := by decide +kernel
theorem dX5_least_0 : decode cX5_least 0 = .ok (.iload_n 0, 1) := dck_get daX5_least_t0 0 rfl
theorem dX5_least_1 : decode cX5_least 1 = .ok (.iload_n 1, 1) := dck_get daX5_least_t0 1 rfl
theorem dX5_least_2 : decode cX5_least 2 = .ok (.if_icmp .ge 7, 3) := dck_get daX5_least_t0 2 rfl
theorem dX5_least_5 : decode cX5_least 5 = .ok (.iload_n 0, 1) := dck_get daX5_least_t0 3 rfl
theorem dX5_least_6 : decode cX5_least 6 = .ok (.goto 4, 3) := dck_get daX5_least_t0 4 rfl
theorem dX5_least_9 : decode cX5_least 9 = .ok (.iload_n 1, 1) := dck_get daX5_least_t0 5 rfl
theorem dX5_least_10 : decode cX5_least 10 = .ok (.ireturn, 1) := dck_get daX5_least_t0 6 rfl
def dtX5_isAlive_t0 : List (Nat × Instr × Nat) := [(0, .iload_n 1, 1), (1, .ifCond .lt 24, 3), (4, .iload_n 1, 1), (5, .aload_n 0, 1), (6, .getfield 57, 3), (9, .if_icmp .ge 16, 3), (12, .aload_n 0, 1), (13, .getfield 19, 3), (16, .iload_n 1, 1), (17, .iaload, 1), (18, .ifCond .lt 7, 3), (21, .iconst 1, 1), (22, .goto 4, 3), (25, .iconst 0, 1), (26, .ireturn, 1)]
theorem daX5_isAlive_t0 : dtX5_isAlive_t0.all (dck cX5_isAlive) = true := by decide +kernel
theorem dX5_isAlive_0 : decode cX5_isAlive 0 = .ok (.iload_n 1, 1) := dck_get daX5_isAlive_t0 0 rfl
theorem dX5_isAlive_1 : decode cX5_isAlive 1 = .ok (.ifCond .lt 24, 3) := dck_get daX5_isAlive_t0 1 rfl
theorem dX5_isAlive_4 : decode cX5_isAlive 4 = .ok (.iload_n 1, 1) := dck_get daX5_isAlive_t0 2 rfl
theorem dX5_isAlive_5 : decode cX5_isAlive 5 = .ok (.aload_n 0, 1) := dck_get daX5_isAlive_t0 3 rfl
theorem dX5_isAlive_6 : decode cX5_isAlive 6 = .ok (.getfield 57, 3) := dck_get daX5_isAlive_t0 4 rfl
theorem dX5_isAlive_9 : decode cX5_isAlive 9 = .ok (.if_icmp .ge 16, 3) := dck_get daX5_isAlive_t0 5 rfl
theorem dX5_isAlive_12 : decode cX5_isAlive 12 = .ok (.aload_n 0, 1) := dck_get daX5_isAlive_t0 6 rfl
theorem dX5_isAlive_13 : decode cX5_isAlive 13 = .ok (.getfield 19, 3) := dck_get daX5_isAlive_t0 7 rfl
theorem dX5_isAlive_16 : decode cX5_isAlive 16 = .ok (.iload_n 1, 1) := dck_get daX5_isAlive_t0 8 rfl
theorem dX5_isAlive_17 : decode cX5_isAlive 17 = .ok (.iaload, 1) := dck_get daX5_isAlive_t0 9 rfl
theorem dX5_isAlive_18 : decode cX5_isAlive 18 = .ok (.ifCond .lt 7, 3) := dck_get daX5_isAlive_t0 10 rfl
theorem dX5_isAlive_21 : decode cX5_isAlive 21 = .ok (.iconst 1, 1) := dck_get daX5_isAlive_t0 11 rfl
theorem dX5_isAlive_22 : decode cX5_isAlive 22 = .ok (.goto 4, 3) := dck_get daX5_isAlive_t0 12 rfl
theorem dX5_isAlive_25 : decode cX5_isAlive 25 = .ok (.iconst 0, 1) := dck_get daX5_isAlive_t0 13 rfl
theorem dX5_isAlive_26 : decode cX5_isAlive 26 = .ok (.ireturn, 1) := dck_get daX5_isAlive_t0 14 rfl
def dtX5_isFloor_t0 : List (Nat × Instr × Nat) := [(0, .iload_n 0, 1), (1, .ifCond .lt 13, 3), (4, .iload_n 0, 1), (5, .bipush 10, 2), (7, .if_icmp .ge 7, 3), (10, .iconst 1, 1), (11, .goto 4, 3), (14, .iconst 0, 1), (15, .ireturn, 1)]
theorem daX5_isFloor_t0 : dtX5_isFloor_t0.all (dck cX5_isFloor) = true := by decide +kernel
theorem dX5_isFloor_0 : decode cX5_isFloor 0 = .ok (.iload_n 0, 1) := dck_get daX5_isFloor_t0 0 rfl
theorem dX5_isFloor_1 : decode cX5_isFloor 1 = .ok (.ifCond .lt 13, 3) := dck_get daX5_isFloor_t0 1 rfl
theorem dX5_isFloor_4 : decode cX5_isFloor 4 = .ok (.iload_n 0, 1) := dck_get daX5_isFloor_t0 2 rfl
theorem dX5_isFloor_5 : decode cX5_isFloor 5 = .ok (.bipush 10, 2) := dck_get daX5_isFloor_t0 3 rfl
theorem dX5_isFloor_7 : decode cX5_isFloor 7 = .ok (.if_icmp .ge 7, 3) := dck_get daX5_isFloor_t0 4 rfl
theorem dX5_isFloor_10 : decode cX5_isFloor 10 = .ok (.iconst 1, 1) := dck_get daX5_isFloor_t0 5 rfl
theorem dX5_isFloor_11 : decode cX5_isFloor 11 = .ok (.goto 4, 3) := dck_get daX5_isFloor_t0 6 rfl
theorem dX5_isFloor_14 : decode cX5_isFloor 14 = .ok (.iconst 0, 1) := dck_get daX5_isFloor_t0 7 rfl
theorem dX5_isFloor_15 : decode cX5_isFloor 15 = .ok (.ireturn, 1) := dck_get daX5_isFloor_t0 8 rfl
def dtX5_whoOn_t0 : List (Nat × Instr × Nat) := [(0, .iconst 0, 1), (1, .istore_n 2, 1), (2, .iload_n 2, 1), (3, .aload_n 0, 1), (4, .getfield 57, 3), (7, .if_icmp .ge 21, 3), (10, .aload_n 0, 1), (11, .getfield 19, 3), (14, .iload_n 2, 1), (15, .iaload, 1), (16, .iload_n 1, 1), (17, .if_icmp .ne 5, 3), (20, .iload_n 2, 1), (21, .ireturn, 1), (22, .iinc 2 1, 3), (25, .goto (-23), 3), (28, .bipush (-9), 2), (30, .ireturn, 1)]
theorem daX5_whoOn_t0 : dtX5_whoOn_t0.all (dck cX5_whoOn) = true := by decide +kernel
theorem dX5_whoOn_0 : decode cX5_whoOn 0 = .ok (.iconst 0, 1) := dck_get daX5_whoOn_t0 0 rfl
theorem dX5_whoOn_1 : decode cX5_whoOn 1 = .ok (.istore_n 2, 1) := dck_get daX5_whoOn_t0 1 rfl
theorem dX5_whoOn_2 : decode cX5_whoOn 2 = .ok (.iload_n 2, 1) := dck_get daX5_whoOn_t0 2 rfl
theorem dX5_whoOn_3 : decode cX5_whoOn 3 = .ok (.aload_n 0, 1) := dck_get daX5_whoOn_t0 3 rfl
theorem dX5_whoOn_4 : decode cX5_whoOn 4 = .ok (.getfield 57, 3) := dck_get daX5_whoOn_t0 4 rfl
theorem dX5_whoOn_7 : decode cX5_whoOn 7 = .ok (.if_icmp .ge 21, 3) := dck_get daX5_whoOn_t0 5 rfl
theorem dX5_whoOn_10 : decode cX5_whoOn 10 = .ok (.aload_n 0, 1) := dck_get daX5_whoOn_t0 6 rfl
theorem dX5_whoOn_11 : decode cX5_whoOn 11 = .ok (.getfield 19, 3) := dck_get daX5_whoOn_t0 7 rfl
theorem dX5_whoOn_14 : decode cX5_whoOn 14 = .ok (.iload_n 2, 1) := dck_get daX5_whoOn_t0 8 rfl
theorem dX5_whoOn_15 : decode cX5_whoOn 15 = .ok (.iaload, 1) := dck_get daX5_whoOn_t0 9 rfl
theorem dX5_whoOn_16 : decode cX5_whoOn 16 = .ok (.iload_n 1, 1) := dck_get daX5_whoOn_t0 10 rfl
theorem dX5_whoOn_17 : decode cX5_whoOn 17 = .ok (.if_icmp .ne 5, 3) := dck_get daX5_whoOn_t0 11 rfl
theorem dX5_whoOn_20 : decode cX5_whoOn 20 = .ok (.iload_n 2, 1) := dck_get daX5_whoOn_t0 12 rfl
theorem dX5_whoOn_21 : decode cX5_whoOn 21 = .ok (.ireturn, 1) := dck_get daX5_whoOn_t0 13 rfl
theorem dX5_whoOn_22 : decode cX5_whoOn 22 = .ok (.iinc 2 1, 3) := dck_get daX5_whoOn_t0 14 rfl
theorem dX5_whoOn_25 : decode cX5_whoOn 25 = .ok (.goto (-23), 3) := dck_get daX5_whoOn_t0 15 rfl
theorem dX5_whoOn_28 : decode cX5_whoOn 28 = .ok (.bipush (-9), 2) := dck_get daX5_whoOn_t0 16 rfl
theorem dX5_whoOn_30 : decode cX5_whoOn 30 = .ok (.ireturn, 1) := dck_get daX5_whoOn_t0 17 rfl
def dtX5_aliveBits_t0 : List (Nat × Instr × Nat) := [(0, .iconst 0, 1), (1, .istore_n 1, 1), (2, .iconst 0, 1), (3, .istore_n 2, 1), (4, .iload_n 2, 1), (5, .aload_n 0, 1), (6, .getfield 57, 3), (9, .if_icmp .ge 28, 3), (12, .iload_n 1, 1), (13, .aload_n 0, 1), (14, .getfield 19, 3), (17, .iload_n 2, 1), (18, .iaload, 1), (19, .ifCond .lt 9, 3), (22, .iconst 1, 1), (23, .iload_n 2, 1), (24, .ishl, 1), (25, .goto 4, 3), (28, .iconst 0, 1), (29, .ior, 1)]
theorem daX5_aliveBits_t0 : dtX5_aliveBits_t0.all (dck cX5_aliveBits) = true := by decide +kernel
theorem dX5_aliveBits_0 : decode cX5_aliveBits 0 = .ok (.iconst 0, 1) := dck_get daX5_aliveBits_t0 0 rfl
theorem dX5_aliveBits_1 : decode cX5_aliveBits 1 = .ok (.istore_n 1, 1) := dck_get daX5_aliveBits_t0 1 rfl
theorem dX5_aliveBits_2 : decode cX5_aliveBits 2 = .ok (.iconst 0, 1) := dck_get daX5_aliveBits_t0 2 rfl
theorem dX5_aliveBits_3 : decode cX5_aliveBits 3 = .ok (.istore_n 2, 1) := dck_get daX5_aliveBits_t0 3 rfl
theorem dX5_aliveBits_4 : decode cX5_aliveBits 4 = .ok (.iload_n 2, 1) := dck_get daX5_aliveBits_t0 4 rfl
theorem dX5_aliveBits_5 : decode cX5_aliveBits 5 = .ok (.aload_n 0, 1) := dck_get daX5_aliveBits_t0 5 rfl
theorem dX5_aliveBits_6 : decode cX5_aliveBits 6 = .ok (.getfield 57, 3) := dck_get daX5_aliveBits_t0 6 rfl
theorem dX5_aliveBits_9 : decode cX5_aliveBits 9 = .ok (.if_icmp .ge 28, 3) := dck_get daX5_aliveBits_t0 7 rfl
theorem dX5_aliveBits_12 : decode cX5_aliveBits 12 = .ok (.iload_n 1, 1) := dck_get daX5_aliveBits_t0 8 rfl
theorem dX5_aliveBits_13 : decode cX5_aliveBits 13 = .ok (.aload_n 0, 1) := dck_get daX5_aliveBits_t0 9 rfl
theorem dX5_aliveBits_14 : decode cX5_aliveBits 14 = .ok (.getfield 19, 3) := dck_get daX5_aliveBits_t0 10 rfl
theorem dX5_aliveBits_17 : decode cX5_aliveBits 17 = .ok (.iload_n 2, 1) := dck_get daX5_aliveBits_t0 11 rfl
theorem dX5_aliveBits_18 : decode cX5_aliveBits 18 = .ok (.iaload, 1) := dck_get daX5_aliveBits_t0 12 rfl
theorem dX5_aliveBits_19 : decode cX5_aliveBits 19 = .ok (.ifCond .lt 9, 3) := dck_get daX5_aliveBits_t0 13 rfl
theorem dX5_aliveBits_22 : decode cX5_aliveBits 22 = .ok (.iconst 1, 1) := dck_get daX5_aliveBits_t0 14 rfl
theorem dX5_aliveBits_23 : decode cX5_aliveBits 23 = .ok (.iload_n 2, 1) := dck_get daX5_aliveBits_t0 15 rfl
theorem dX5_aliveBits_24 : decode cX5_aliveBits 24 = .ok (.ishl, 1) := dck_get daX5_aliveBits_t0 16 rfl
theorem dX5_aliveBits_25 : decode cX5_aliveBits 25 = .ok (.goto 4, 3) := dck_get daX5_aliveBits_t0 17 rfl
theorem dX5_aliveBits_28 : decode cX5_aliveBits 28 = .ok (.iconst 0, 1) := dck_get daX5_aliveBits_t0 18 rfl
theorem dX5_aliveBits_29 : decode cX5_aliveBits 29 = .ok (.ior, 1) := dck_get daX5_aliveBits_t0 19 rfl
def dtX5_aliveBits_t1 : List (Nat × Instr × Nat) := [(30, .istore_n 1, 1), (31, .iinc 2 1, 3), (34, .goto (-30), 3), (37, .iload_n 1, 1), (38, .ireturn, 1)]
theorem daX5_aliveBits_t1 : dtX5_aliveBits_t1.all (dck cX5_aliveBits) = true := by decide +kernel
theorem dX5_aliveBits_30 : decode cX5_aliveBits 30 = .ok (.istore_n 1, 1) := dck_get daX5_aliveBits_t1 0 rfl
theorem dX5_aliveBits_31 : decode cX5_aliveBits 31 = .ok (.iinc 2 1, 3) := dck_get daX5_aliveBits_t1 1 rfl
theorem dX5_aliveBits_34 : decode cX5_aliveBits 34 = .ok (.goto (-30), 3) := dck_get daX5_aliveBits_t1 2 rfl
theorem dX5_aliveBits_37 : decode cX5_aliveBits 37 = .ok (.iload_n 1, 1) := dck_get daX5_aliveBits_t1 3 rfl
theorem dX5_aliveBits_38 : decode cX5_aliveBits 38 = .ok (.ireturn, 1) := dck_get daX5_aliveBits_t1 4 rfl
def dtX5_bits_t0 : List (Nat × Instr × Nat) := [(0, .iconst 0, 1), (1, .istore_n 1, 1), (2, .iconst 0, 1), (3, .istore_n 2, 1), (4, .iload_n 2, 1), (5, .bipush 31, 2), (7, .if_icmp .ge 17, 3), (10, .iload_n 1, 1), (11, .iload_n 0, 1), (12, .iload_n 2, 1), (13, .ishr, 1), (14, .iconst 1, 1), (15, .iand, 1), (16, .iadd, 1), (17, .istore_n 1, 1), (18, .iinc 2 1, 3), (21, .goto (-17), 3), (24, .iload_n 1, 1), (25, .ireturn, 1)]
theorem daX5_bits_t0 : dtX5_bits_t0.all (dck cX5_bits) = true := by decide +kernel
theorem dX5_bits_0 : decode cX5_bits 0 = .ok (.iconst 0, 1) := dck_get daX5_bits_t0 0 rfl
theorem dX5_bits_1 : decode cX5_bits 1 = .ok (.istore_n 1, 1) := dck_get daX5_bits_t0 1 rfl
theorem dX5_bits_2 : decode cX5_bits 2 = .ok (.iconst 0, 1) := dck_get daX5_bits_t0 2 rfl
theorem dX5_bits_3 : decode cX5_bits 3 = .ok (.istore_n 2, 1) := dck_get daX5_bits_t0 3 rfl
theorem dX5_bits_4 : decode cX5_bits 4 = .ok (.iload_n 2, 1) := dck_get daX5_bits_t0 4 rfl
theorem dX5_bits_5 : decode cX5_bits 5 = .ok (.bipush 31, 2) := dck_get daX5_bits_t0 5 rfl
theorem dX5_bits_7 : decode cX5_bits 7 = .ok (.if_icmp .ge 17, 3) := dck_get daX5_bits_t0 6 rfl
theorem dX5_bits_10 : decode cX5_bits 10 = .ok (.iload_n 1, 1) := dck_get daX5_bits_t0 7 rfl
theorem dX5_bits_11 : decode cX5_bits 11 = .ok (.iload_n 0, 1) := dck_get daX5_bits_t0 8 rfl
theorem dX5_bits_12 : decode cX5_bits 12 = .ok (.iload_n 2, 1) := dck_get daX5_bits_t0 9 rfl
theorem dX5_bits_13 : decode cX5_bits 13 = .ok (.ishr, 1) := dck_get daX5_bits_t0 10 rfl
theorem dX5_bits_14 : decode cX5_bits 14 = .ok (.iconst 1, 1) := dck_get daX5_bits_t0 11 rfl
theorem dX5_bits_15 : decode cX5_bits 15 = .ok (.iand, 1) := dck_get daX5_bits_t0 12 rfl
theorem dX5_bits_16 : decode cX5_bits 16 = .ok (.iadd, 1) := dck_get daX5_bits_t0 13 rfl
theorem dX5_bits_17 : decode cX5_bits 17 = .ok (.istore_n 1, 1) := dck_get daX5_bits_t0 14 rfl
theorem dX5_bits_18 : decode cX5_bits 18 = .ok (.iinc 2 1, 3) := dck_get daX5_bits_t0 15 rfl
theorem dX5_bits_21 : decode cX5_bits 21 = .ok (.goto (-17), 3) := dck_get daX5_bits_t0 16 rfl
theorem dX5_bits_24 : decode cX5_bits 24 = .ok (.iload_n 1, 1) := dck_get daX5_bits_t0 17 rfl
theorem dX5_bits_25 : decode cX5_bits 25 = .ok (.ireturn, 1) := dck_get daX5_bits_t0 18 rfl
set_option maxRecDepth 20000 in
theorem gw_wsX5_bound : wsX5_bound.all goodWord = true := by decide +kernel
set_option maxRecDepth 20000 in
theorem ggX5_letter_X5_bound : GoodIn wsX5_letter wsX5_bound := goodIn_sub (List.forall_mem_cons.mpr ⟨(List.mem_of_getElem? (i := 6) rfl), (fun _ h => absurd h List.not_mem_nil)⟩) gw_wsX5_bound
set_option maxRecDepth 20000 in
theorem gX5_letter_X5_bound : GoodIn wsX5_letter (va_wsS RX5 61 yX5_bound wsX5_bound) := goodIn_app (goodIn_sub (List.forall_mem_cons.mpr ⟨(List.mem_of_getElem? (i := 3) rfl), (List.forall_mem_cons.mpr ⟨(List.mem_of_getElem? (i := 4) rfl), (List.forall_mem_cons.mpr ⟨(List.mem_of_getElem? (i := 5) rfl), (fun _ h => absurd h List.not_mem_nil)⟩)⟩)⟩) (by decide +kernel)) ggX5_letter_X5_bound
set_option maxRecDepth 20000 in
theorem gw_wsX5_no : wsX5_no.all goodWord = true := by decide +kernel
set_option maxRecDepth 20000 in
theorem ggX5_letter_X5_no : GoodIn wsX5_letter wsX5_no := goodIn_sub (List.forall_mem_cons.mpr ⟨(List.mem_of_getElem? (i := 10) rfl), (List.forall_mem_append.mpr ⟨(List.forall_mem_cons.mpr ⟨(List.mem_of_getElem? (i := 11) rfl), (fun _ h => absurd h List.not_mem_nil)⟩), (fun _ h => (List.mem_cons_of_mem _ (List.mem_append_right _ h)))⟩)⟩) gw_wsX5_no
set_option maxRecDepth 20000 in
theorem gX5_letter_X5_no : GoodIn wsX5_letter (wsV RX5 68 RX5 yX5_no wsX5_no) := goodIn_app (goodIn_sub (List.forall_mem_cons.mpr ⟨(List.mem_of_getElem? (i := 7) rfl), (List.forall_mem_cons.mpr ⟨(List.mem_of_getElem? (i := 8) rfl), (List.forall_mem_cons.mpr ⟨(List.mem_of_getElem? (i := 9) rfl), (List.forall_mem_cons.mpr ⟨(List.mem_of_getElem? (i := 5) rfl), (fun _ h => absurd h List.not_mem_nil)⟩)⟩)⟩)⟩) (by decide +kernel)) ggX5_letter_X5_no
def dtX5_letter_t0 : List (Nat × Instr × Nat) := [(0, .iload_n 1, 1), (1, .iconst 0, 1), (2, .sipush 255, 3), (5, .invokestatic 61, 3), (8, .istore_n 2, 1), (9, .iload_n 2, 1), (10, .ifCond .ne 15, 3), (13, .aload_n 0, 1), (14, .getfield 65, 3), (17, .bipush 80, 2), (19, .if_icmp .ne 6, 3), (22, .bipush (-6), 2), (24, .istore_n 2, 1), (25, .iload_n 2, 1), (26, .ifCond .eq 9, 3), (29, .aload_n 0, 1), (30, .iload_n 2, 1), (31, .invokevirtual 68, 3), (34, .ireturn, 1), (35, .aload_n 0, 1)]
theorem daX5_letter_t0 : dtX5_letter_t0.all (dck cX5_letter) = true := by decide +kernel
theorem dX5_letter_0 : decode cX5_letter 0 = .ok (.iload_n 1, 1) := dck_get daX5_letter_t0 0 rfl
theorem dX5_letter_1 : decode cX5_letter 1 = .ok (.iconst 0, 1) := dck_get daX5_letter_t0 1 rfl
theorem dX5_letter_2 : decode cX5_letter 2 = .ok (.sipush 255, 3) := dck_get daX5_letter_t0 2 rfl
theorem dX5_letter_5 : decode cX5_letter 5 = .ok (.invokestatic 61, 3) := dck_get daX5_letter_t0 3 rfl
theorem dX5_letter_8 : decode cX5_letter 8 = .ok (.istore_n 2, 1) := dck_get daX5_letter_t0 4 rfl
theorem dX5_letter_9 : decode cX5_letter 9 = .ok (.iload_n 2, 1) := dck_get daX5_letter_t0 5 rfl
theorem dX5_letter_10 : decode cX5_letter 10 = .ok (.ifCond .ne 15, 3) := dck_get daX5_letter_t0 6 rfl
theorem dX5_letter_13 : decode cX5_letter 13 = .ok (.aload_n 0, 1) := dck_get daX5_letter_t0 7 rfl
theorem dX5_letter_14 : decode cX5_letter 14 = .ok (.getfield 65, 3) := dck_get daX5_letter_t0 8 rfl
theorem dX5_letter_17 : decode cX5_letter 17 = .ok (.bipush 80, 2) := dck_get daX5_letter_t0 9 rfl
theorem dX5_letter_19 : decode cX5_letter 19 = .ok (.if_icmp .ne 6, 3) := dck_get daX5_letter_t0 10 rfl
theorem dX5_letter_22 : decode cX5_letter 22 = .ok (.bipush (-6), 2) := dck_get daX5_letter_t0 11 rfl
theorem dX5_letter_24 : decode cX5_letter 24 = .ok (.istore_n 2, 1) := dck_get daX5_letter_t0 12 rfl
theorem dX5_letter_25 : decode cX5_letter 25 = .ok (.iload_n 2, 1) := dck_get daX5_letter_t0 13 rfl
theorem dX5_letter_26 : decode cX5_letter 26 = .ok (.ifCond .eq 9, 3) := dck_get daX5_letter_t0 14 rfl
theorem dX5_letter_29 : decode cX5_letter 29 = .ok (.aload_n 0, 1) := dck_get daX5_letter_t0 15 rfl
theorem dX5_letter_30 : decode cX5_letter 30 = .ok (.iload_n 2, 1) := dck_get daX5_letter_t0 16 rfl
theorem dX5_letter_31 : decode cX5_letter 31 = .ok (.invokevirtual 68, 3) := dck_get daX5_letter_t0 17 rfl
theorem dX5_letter_34 : decode cX5_letter 34 = .ok (.ireturn, 1) := dck_get daX5_letter_t0 18 rfl
theorem dX5_letter_35 : decode cX5_letter 35 = .ok (.aload_n 0, 1) := dck_get daX5_letter_t0 19 rfl
def dtX5_letter_t1 : List (Nat × Instr × Nat) := [(36, .getfield 28, 3), (39, .aload_n 0, 1), (40, .getfield 65, 3), (43, .iload_n 1, 1), (44, .iastore, 1), (45, .aload_n 0, 1), (46, .dup, 1), (47, .getfield 65, 3), (50, .iconst 1, 1), (51, .iadd, 1), (52, .putfield 65, 3), (55, .aload_n 0, 1), (56, .getfield 65, 3), (59, .ireturn, 1)]
theorem daX5_letter_t1 : dtX5_letter_t1.all (dck cX5_letter) = true := by decide +kernel
theorem dX5_letter_36 : decode cX5_letter 36 = .ok (.getfield 28, 3) := dck_get daX5_letter_t1 0 rfl
theorem dX5_letter_39 : decode cX5_letter 39 = .ok (.aload_n 0, 1) := dck_get daX5_letter_t1 1 rfl
theorem dX5_letter_40 : decode cX5_letter 40 = .ok (.getfield 65, 3) := dck_get daX5_letter_t1 2 rfl
theorem dX5_letter_43 : decode cX5_letter 43 = .ok (.iload_n 1, 1) := dck_get daX5_letter_t1 3 rfl
theorem dX5_letter_44 : decode cX5_letter 44 = .ok (.iastore, 1) := dck_get daX5_letter_t1 4 rfl
theorem dX5_letter_45 : decode cX5_letter 45 = .ok (.aload_n 0, 1) := dck_get daX5_letter_t1 5 rfl
theorem dX5_letter_46 : decode cX5_letter 46 = .ok (.dup, 1) := dck_get daX5_letter_t1 6 rfl
theorem dX5_letter_47 : decode cX5_letter 47 = .ok (.getfield 65, 3) := dck_get daX5_letter_t1 7 rfl
theorem dX5_letter_50 : decode cX5_letter 50 = .ok (.iconst 1, 1) := dck_get daX5_letter_t1 8 rfl
theorem dX5_letter_51 : decode cX5_letter 51 = .ok (.iadd, 1) := dck_get daX5_letter_t1 9 rfl
theorem dX5_letter_52 : decode cX5_letter 52 = .ok (.putfield 65, 3) := dck_get daX5_letter_t1 10 rfl
theorem dX5_letter_55 : decode cX5_letter 55 = .ok (.aload_n 0, 1) := dck_get daX5_letter_t1 11 rfl
theorem dX5_letter_56 : decode cX5_letter 56 = .ok (.getfield 65, 3) := dck_get daX5_letter_t1 12 rfl
theorem dX5_letter_59 : decode cX5_letter 59 = .ok (.ireturn, 1) := dck_get daX5_letter_t1 13 rfl
def dtX5_next_t0 : List (Nat × Instr × Nat) := [(0, .aload_n 0, 1), (1, .getfield 72, 3), (4, .aload_n 0, 1), (5, .getfield 65, 3), (8, .if_icmp .ge 15, 3), (11, .aload_n 0, 1), (12, .getfield 28, 3), (15, .aload_n 0, 1), (16, .getfield 72, 3), (19, .iaload, 1), (20, .goto 4, 3), (23, .iconst (-1), 1), (24, .ireturn, 1)]
theorem daX5_next_t0 : dtX5_next_t0.all (dck cX5_next) = true := by decide +kernel
theorem dX5_next_0 : decode cX5_next 0 = .ok (.aload_n 0, 1) := dck_get daX5_next_t0 0 rfl
theorem dX5_next_1 : decode cX5_next 1 = .ok (.getfield 72, 3) := dck_get daX5_next_t0 1 rfl
theorem dX5_next_4 : decode cX5_next 4 = .ok (.aload_n 0, 1) := dck_get daX5_next_t0 2 rfl
theorem dX5_next_5 : decode cX5_next 5 = .ok (.getfield 65, 3) := dck_get daX5_next_t0 3 rfl
theorem dX5_next_8 : decode cX5_next 8 = .ok (.if_icmp .ge 15, 3) := dck_get daX5_next_t0 4 rfl
theorem dX5_next_11 : decode cX5_next 11 = .ok (.aload_n 0, 1) := dck_get daX5_next_t0 5 rfl
theorem dX5_next_12 : decode cX5_next 12 = .ok (.getfield 28, 3) := dck_get daX5_next_t0 6 rfl
theorem dX5_next_15 : decode cX5_next 15 = .ok (.aload_n 0, 1) := dck_get daX5_next_t0 7 rfl
theorem dX5_next_16 : decode cX5_next 16 = .ok (.getfield 72, 3) := dck_get daX5_next_t0 8 rfl
theorem dX5_next_19 : decode cX5_next 19 = .ok (.iaload, 1) := dck_get daX5_next_t0 9 rfl
theorem dX5_next_20 : decode cX5_next 20 = .ok (.goto 4, 3) := dck_get daX5_next_t0 10 rfl
theorem dX5_next_23 : decode cX5_next 23 = .ok (.iconst (-1), 1) := dck_get daX5_next_t0 11 rfl
theorem dX5_next_24 : decode cX5_next 24 = .ok (.ireturn, 1) := dck_get daX5_next_t0 12 rfl
set_option maxRecDepth 20000 in
theorem gw_wsX5_next : wsX5_next.all goodWord = true := by decide +kernel
set_option maxRecDepth 20000 in
theorem ggX5_isDigit_X5_next : GoodIn wsX5_isDigit wsX5_next := goodIn_sub (List.forall_mem_cons.mpr ⟨(List.mem_of_getElem? (i := 5) rfl), (List.forall_mem_append.mpr ⟨(List.forall_mem_cons.mpr ⟨(List.mem_of_getElem? (i := 6) rfl), (List.forall_mem_cons.mpr ⟨(List.mem_of_getElem? (i := 7) rfl), (List.forall_mem_cons.mpr ⟨(List.mem_of_getElem? (i := 8) rfl), (fun _ h => absurd h List.not_mem_nil)⟩)⟩)⟩), (fun _ h => (List.mem_cons_of_mem _ (List.mem_append_right _ h)))⟩)⟩) gw_wsX5_next
set_option maxRecDepth 20000 in
theorem gX5_isDigit_X5_next : GoodIn wsX5_isDigit (wsV RX5 75 RX5 yX5_next wsX5_next) := goodIn_app (goodIn_sub (List.forall_mem_cons.mpr ⟨(List.mem_of_getElem? (i := 1) rfl), (List.forall_mem_cons.mpr ⟨(List.mem_of_getElem? (i := 2) rfl), (List.forall_mem_cons.mpr ⟨(List.mem_of_getElem? (i := 3) rfl), (List.forall_mem_cons.mpr ⟨(List.mem_of_getElem? (i := 4) rfl), (fun _ h => absurd h List.not_mem_nil)⟩)⟩)⟩)⟩) (by decide +kernel)) ggX5_isDigit_X5_next
set_option maxRecDepth 20000 in
theorem gw_wsX5_isIn : wsX5_isIn.all goodWord = true := by decide +kernel
set_option maxRecDepth 20000 in
theorem ggX5_isDigit_X5_isIn : GoodIn wsX5_isDigit wsX5_isIn := goodIn_sub (List.forall_mem_cons.mpr ⟨(List.mem_of_getElem? (i := 11) rfl), (fun _ h => absurd h List.not_mem_nil)⟩) gw_wsX5_isIn
set_option maxRecDepth 20000 in
theorem gX5_isDigit_X5_isIn : GoodIn wsX5_isDigit (va_wsS RX5 79 yX5_isIn wsX5_isIn) := goodIn_app (goodIn_sub (List.forall_mem_cons.mpr ⟨(List.mem_of_getElem? (i := 9) rfl), (List.forall_mem_cons.mpr ⟨(List.mem_of_getElem? (i := 10) rfl), (List.forall_mem_cons.mpr ⟨(List.mem_of_getElem? (i := 4) rfl), (fun _ h => absurd h List.not_mem_nil)⟩)⟩)⟩) (by decide +kernel)) ggX5_isDigit_X5_isIn
def dtX5_isDigit_t0 : List (Nat × Instr × Nat) := [(0, .aload_n 0, 1), (1, .invokevirtual 75, 3), (4, .bipush 48, 2), (6, .bipush 57, 2), (8, .invokestatic 79, 3), (11, .ireturn, 1)]
theorem daX5_isDigit_t0 : dtX5_isDigit_t0.all (dck cX5_isDigit) = true := by decide +kernel
theorem dX5_isDigit_0 : decode cX5_isDigit 0 = .ok (.aload_n 0, 1) := dck_get daX5_isDigit_t0 0 rfl
theorem dX5_isDigit_1 : decode cX5_isDigit 1 = .ok (.invokevirtual 75, 3) := dck_get daX5_isDigit_t0 1 rfl
theorem dX5_isDigit_4 : decode cX5_isDigit 4 = .ok (.bipush 48, 2) := dck_get daX5_isDigit_t0 2 rfl
theorem dX5_isDigit_6 : decode cX5_isDigit 6 = .ok (.bipush 57, 2) := dck_get daX5_isDigit_t0 3 rfl
theorem dX5_isDigit_8 : decode cX5_isDigit 8 = .ok (.invokestatic 79, 3) := dck_get daX5_isDigit_t0 4 rfl
theorem dX5_isDigit_11 : decode cX5_isDigit 11 = .ok (.ireturn, 1) := dck_get daX5_isDigit_t0 5 rfl
set_option maxRecDepth 20000 in
theorem gw_wsX5_isDigit : wsX5_isDigit.all goodWord = true := by decide +kernel
set_option maxRecDepth 20000 in
theorem ggX5_readsNumber_X5_isDigit : GoodIn wsX5_readsNumber wsX5_isDigit := goodIn_sub (List.forall_mem_cons.mpr ⟨(List.mem_of_getElem? (i := 7) rfl), (List.forall_mem_append.mpr ⟨(List.forall_mem_cons.mpr ⟨(List.mem_of_getElem? (i := 8) rfl), (List.forall_mem_cons.mpr ⟨(List.mem_of_getElem? (i := 9) rfl), (List.forall_mem_cons.mpr ⟨(List.mem_of_getElem? (i := 10) rfl), (List.forall_mem_cons.mpr ⟨(List.mem_of_getElem? (i := 6) rfl), (List.forall_mem_cons.mpr ⟨(List.mem_of_getElem? (i := 11) rfl), (List.forall_mem_cons.mpr ⟨(List.mem_of_getElem? (i := 1) rfl), (List.forall_mem_cons.mpr ⟨(List.mem_of_getElem? (i := 12) rfl), (List.forall_mem_cons.mpr ⟨(List.mem_of_getElem? (i := 13) rfl), (List.forall_mem_cons.mpr ⟨(List.mem_of_getElem? (i := 14) rfl), (List.forall_mem_cons.mpr ⟨(List.mem_of_getElem? (i := 15) rfl), (List.forall_mem_cons.mpr ⟨(List.mem_of_getElem? (i := 16) rfl), (fun _ h => absurd h List.not_mem_nil)⟩)⟩)⟩)⟩)⟩)⟩)⟩)⟩)⟩)⟩)⟩), (fun _ h => (List.mem_cons_of_mem _ (List.mem_append_right _ h)))⟩)⟩) gw_wsX5_isDigit
set_option maxRecDepth 20000 in
theorem gX5_readsNumber_X5_isDigit : GoodIn wsX5_readsNumber (wsV RX5 83 RX5 yX5_isDigit wsX5_isDigit) := goodIn_app (goodIn_sub (List.forall_mem_cons.mpr ⟨(List.mem_of_getElem? (i := 3) rfl), (List.forall_mem_cons.mpr ⟨(List.mem_of_getElem? (i := 4) rfl), (List.forall_mem_cons.mpr ⟨(List.mem_of_getElem? (i := 5) rfl), (List.forall_mem_cons.mpr ⟨(List.mem_of_getElem? (i := 6) rfl), (fun _ h => absurd h List.not_mem_nil)⟩)⟩)⟩)⟩) (by decide +kernel)) ggX5_readsNumber_X5_isDigit
set_option maxRecDepth 20000 in
theorem ggX5_readsNumber_X5_next : GoodIn wsX5_readsNumber wsX5_next := goodIn_sub (List.forall_mem_cons.mpr ⟨(List.mem_of_getElem? (i := 11) rfl), (List.forall_mem_append.mpr ⟨(List.forall_mem_cons.mpr ⟨(List.mem_of_getElem? (i := 1) rfl), (List.forall_mem_cons.mpr ⟨(List.mem_of_getElem? (i := 12) rfl), (List.forall_mem_cons.mpr ⟨(List.mem_of_getElem? (i := 13) rfl), (fun _ h => absurd h List.not_mem_nil)⟩)⟩)⟩), (fun _ h => (List.mem_cons_of_mem _ (List.mem_append_right _ h)))⟩)⟩) gw_wsX5_next
set_option maxRecDepth 20000 in
theorem gX5_readsNumber_X5_next : GoodIn wsX5_readsNumber (wsV RX5 75 RX5 yX5_next wsX5_next) := goodIn_app (goodIn_sub (List.forall_mem_cons.mpr ⟨(List.mem_of_getElem? (i := 8) rfl), (List.forall_mem_cons.mpr ⟨(List.mem_of_getElem? (i := 9) rfl), (List.forall_mem_cons.mpr ⟨(List.mem_of_getElem? (i := 10) rfl), (List.forall_mem_cons.mpr ⟨(List.mem_of_getElem? (i := 6) rfl), (fun _ h => absurd h List.not_mem_nil)⟩)⟩)⟩)⟩) (by decide +kernel)) ggX5_readsNumber_X5_next
def dtX5_readsNumber_t0 : List (Nat × Instr × Nat) := [(0, .aload_n 0, 1), (1, .invokevirtual 83, 3), (4, .ifCond .ne 5, 3), (7, .iconst 0, 1), (8, .ireturn, 1), (9, .iconst 0, 1), (10, .istore_n 3, 1), (11, .iconst 0, 1), (12, .istore 4, 2), (14, .iload 4, 2), (16, .iload_n 2, 1), (17, .if_icmp .ge 39, 3), (20, .aload_n 0, 1), (21, .invokevirtual 83, 3), (24, .ifCond .eq 32, 3), (27, .bipush 10, 2), (29, .iload_n 3, 1), (30, .imul, 1), (31, .aload_n 0, 1), (32, .invokevirtual 75, 3)]
theorem daX5_readsNumber_t0 : dtX5_readsNumber_t0.all (dck cX5_readsNumber) = true := by decide +kernel
theorem dX5_readsNumber_0 : decode cX5_readsNumber 0 = .ok (.aload_n 0, 1) := dck_get daX5_readsNumber_t0 0 rfl
theorem dX5_readsNumber_1 : decode cX5_readsNumber 1 = .ok (.invokevirtual 83, 3) := dck_get daX5_readsNumber_t0 1 rfl
theorem dX5_readsNumber_4 : decode cX5_readsNumber 4 = .ok (.ifCond .ne 5, 3) := dck_get daX5_readsNumber_t0 2 rfl
theorem dX5_readsNumber_7 : decode cX5_readsNumber 7 = .ok (.iconst 0, 1) := dck_get daX5_readsNumber_t0 3 rfl
theorem dX5_readsNumber_8 : decode cX5_readsNumber 8 = .ok (.ireturn, 1) := dck_get daX5_readsNumber_t0 4 rfl
theorem dX5_readsNumber_9 : decode cX5_readsNumber 9 = .ok (.iconst 0, 1) := dck_get daX5_readsNumber_t0 5 rfl
theorem dX5_readsNumber_10 : decode cX5_readsNumber 10 = .ok (.istore_n 3, 1) := dck_get daX5_readsNumber_t0 6 rfl
theorem dX5_readsNumber_11 : decode cX5_readsNumber 11 = .ok (.iconst 0, 1) := dck_get daX5_readsNumber_t0 7 rfl
theorem dX5_readsNumber_12 : decode cX5_readsNumber 12 = .ok (.istore 4, 2) := dck_get daX5_readsNumber_t0 8 rfl
theorem dX5_readsNumber_14 : decode cX5_readsNumber 14 = .ok (.iload 4, 2) := dck_get daX5_readsNumber_t0 9 rfl
theorem dX5_readsNumber_16 : decode cX5_readsNumber 16 = .ok (.iload_n 2, 1) := dck_get daX5_readsNumber_t0 10 rfl
theorem dX5_readsNumber_17 : decode cX5_readsNumber 17 = .ok (.if_icmp .ge 39, 3) := dck_get daX5_readsNumber_t0 11 rfl
theorem dX5_readsNumber_20 : decode cX5_readsNumber 20 = .ok (.aload_n 0, 1) := dck_get daX5_readsNumber_t0 12 rfl
theorem dX5_readsNumber_21 : decode cX5_readsNumber 21 = .ok (.invokevirtual 83, 3) := dck_get daX5_readsNumber_t0 13 rfl
theorem dX5_readsNumber_24 : decode cX5_readsNumber 24 = .ok (.ifCond .eq 32, 3) := dck_get daX5_readsNumber_t0 14 rfl
theorem dX5_readsNumber_27 : decode cX5_readsNumber 27 = .ok (.bipush 10, 2) := dck_get daX5_readsNumber_t0 15 rfl
theorem dX5_readsNumber_29 : decode cX5_readsNumber 29 = .ok (.iload_n 3, 1) := dck_get daX5_readsNumber_t0 16 rfl
theorem dX5_readsNumber_30 : decode cX5_readsNumber 30 = .ok (.imul, 1) := dck_get daX5_readsNumber_t0 17 rfl
theorem dX5_readsNumber_31 : decode cX5_readsNumber 31 = .ok (.aload_n 0, 1) := dck_get daX5_readsNumber_t0 18 rfl
theorem dX5_readsNumber_32 : decode cX5_readsNumber 32 = .ok (.invokevirtual 75, 3) := dck_get daX5_readsNumber_t0 19 rfl
def dtX5_readsNumber_t1 : List (Nat × Instr × Nat) := [(35, .iadd, 1), (36, .bipush 48, 2), (38, .isub, 1), (39, .istore_n 3, 1), (40, .aload_n 0, 1), (41, .dup, 1), (42, .getfield 72, 3), (45, .iconst 1, 1), (46, .iadd, 1), (47, .putfield 72, 3), (50, .iinc 4 1, 3), (53, .goto (-39), 3), (56, .aload_n 0, 1), (57, .getfield 37, 3), (60, .iload_n 1, 1), (61, .iload_n 3, 1), (62, .iastore, 1), (63, .iconst 1, 1), (64, .ireturn, 1)]
theorem daX5_readsNumber_t1 : dtX5_readsNumber_t1.all (dck cX5_readsNumber) = true := by decide +kernel
theorem dX5_readsNumber_35 : decode cX5_readsNumber 35 = .ok (.iadd, 1) := dck_get daX5_readsNumber_t1 0 rfl
theorem dX5_readsNumber_36 : decode cX5_readsNumber 36 = .ok (.bipush 48, 2) := dck_get daX5_readsNumber_t1 1 rfl
theorem dX5_readsNumber_38 : decode cX5_readsNumber 38 = .ok (.isub, 1) := dck_get daX5_readsNumber_t1 2 rfl
theorem dX5_readsNumber_39 : decode cX5_readsNumber 39 = .ok (.istore_n 3, 1) := dck_get daX5_readsNumber_t1 3 rfl
theorem dX5_readsNumber_40 : decode cX5_readsNumber 40 = .ok (.aload_n 0, 1) := dck_get daX5_readsNumber_t1 4 rfl
theorem dX5_readsNumber_41 : decode cX5_readsNumber 41 = .ok (.dup, 1) := dck_get daX5_readsNumber_t1 5 rfl
theorem dX5_readsNumber_42 : decode cX5_readsNumber 42 = .ok (.getfield 72, 3) := dck_get daX5_readsNumber_t1 6 rfl
theorem dX5_readsNumber_45 : decode cX5_readsNumber 45 = .ok (.iconst 1, 1) := dck_get daX5_readsNumber_t1 7 rfl
theorem dX5_readsNumber_46 : decode cX5_readsNumber 46 = .ok (.iadd, 1) := dck_get daX5_readsNumber_t1 8 rfl
theorem dX5_readsNumber_47 : decode cX5_readsNumber 47 = .ok (.putfield 72, 3) := dck_get daX5_readsNumber_t1 9 rfl
theorem dX5_readsNumber_50 : decode cX5_readsNumber 50 = .ok (.iinc 4 1, 3) := dck_get daX5_readsNumber_t1 10 rfl
theorem dX5_readsNumber_53 : decode cX5_readsNumber 53 = .ok (.goto (-39), 3) := dck_get daX5_readsNumber_t1 11 rfl
theorem dX5_readsNumber_56 : decode cX5_readsNumber 56 = .ok (.aload_n 0, 1) := dck_get daX5_readsNumber_t1 12 rfl
theorem dX5_readsNumber_57 : decode cX5_readsNumber 57 = .ok (.getfield 37, 3) := dck_get daX5_readsNumber_t1 13 rfl
theorem dX5_readsNumber_60 : decode cX5_readsNumber 60 = .ok (.iload_n 1, 1) := dck_get daX5_readsNumber_t1 14 rfl
theorem dX5_readsNumber_61 : decode cX5_readsNumber 61 = .ok (.iload_n 3, 1) := dck_get daX5_readsNumber_t1 15 rfl
theorem dX5_readsNumber_62 : decode cX5_readsNumber 62 = .ok (.iastore, 1) := dck_get daX5_readsNumber_t1 16 rfl
theorem dX5_readsNumber_63 : decode cX5_readsNumber 63 = .ok (.iconst 1, 1) := dck_get daX5_readsNumber_t1 17 rfl
theorem dX5_readsNumber_64 : decode cX5_readsNumber 64 = .ok (.ireturn, 1) := dck_get daX5_readsNumber_t1 18 rfl
def dtX5_kindOf_t0 : List (Nat × Instr × Nat) := [(0, .iload_n 0, 1), (1, .lookupswitch 71 #[(99, 65), (100, 67), (105, 63), (108, 59), (115, 61), (121, 69)], 59), (60, .iconst 0, 1), (61, .ireturn, 1), (62, .iconst 1, 1), (63, .ireturn, 1), (64, .iconst 2, 1), (65, .ireturn, 1), (66, .iconst 3, 1), (67, .ireturn, 1), (68, .iconst 4, 1), (69, .ireturn, 1), (70, .iconst 5, 1), (71, .ireturn, 1), (72, .iconst (-1), 1), (73, .ireturn, 1)]
theorem daX5_kindOf_t0 : dtX5_kindOf_t0.all (dck cX5_kindOf) = true := by decide +kernel
theorem dX5_kindOf_0 : decode cX5_kindOf 0 = .ok (.iload_n 0, 1) := dck_get daX5_kindOf_t0 0 rfl
theorem dX5_kindOf_1 : decode cX5_kindOf 1 = .ok (.lookupswitch 71 #[(99, 65), (100, 67), (105, 63), (108, 59), (115, 61), (121, 69)], 59) := dck_get daX5_kindOf_t0 1 rfl
theorem dX5_kindOf_60 : decode cX5_kindOf 60 = .ok (.iconst 0, 1) := dck_get daX5_kindOf_t0 2 rfl
theorem dX5_kindOf_61 : decode cX5_kindOf 61 = .ok (.ireturn, 1) := dck_get daX5_kindOf_t0 3 rfl
theorem dX5_kindOf_62 : decode cX5_kindOf 62 = .ok (.iconst 1, 1) := dck_get daX5_kindOf_t0 4 rfl
theorem dX5_kindOf_63 : decode cX5_kindOf 63 = .ok (.ireturn, 1) := dck_get daX5_kindOf_t0 5 rfl
theorem dX5_kindOf_64 : decode cX5_kindOf 64 = .ok (.iconst 2, 1) := dck_get daX5_kindOf_t0 6 rfl
theorem dX5_kindOf_65 : decode cX5_kindOf 65 = .ok (.ireturn, 1) := dck_get daX5_kindOf_t0 7 rfl
theorem dX5_kindOf_66 : decode cX5_kindOf 66 = .ok (.iconst 3, 1) := dck_get daX5_kindOf_t0 8 rfl
theorem dX5_kindOf_67 : decode cX5_kindOf 67 = .ok (.ireturn, 1) := dck_get daX5_kindOf_t0 9 rfl
theorem dX5_kindOf_68 : decode cX5_kindOf 68 = .ok (.iconst 4, 1) := dck_get daX5_kindOf_t0 10 rfl
theorem dX5_kindOf_69 : decode cX5_kindOf 69 = .ok (.ireturn, 1) := dck_get daX5_kindOf_t0 11 rfl
theorem dX5_kindOf_70 : decode cX5_kindOf 70 = .ok (.iconst 5, 1) := dck_get daX5_kindOf_t0 12 rfl
theorem dX5_kindOf_71 : decode cX5_kindOf 71 = .ok (.ireturn, 1) := dck_get daX5_kindOf_t0 13 rfl
theorem dX5_kindOf_72 : decode cX5_kindOf 72 = .ok (.iconst (-1), 1) := dck_get daX5_kindOf_t0 14 rfl
theorem dX5_kindOf_73 : decode cX5_kindOf 73 = .ok (.ireturn, 1) := dck_get daX5_kindOf_t0 15 rfl
set_option maxRecDepth 20000 in
theorem ggX5_readsLodger_X5_next : GoodIn wsX5_readsLodger wsX5_next := goodIn_sub (List.forall_mem_cons.mpr ⟨(List.mem_of_getElem? (i := 7) rfl), (List.forall_mem_append.mpr ⟨(List.forall_mem_cons.mpr ⟨(List.mem_of_getElem? (i := 2) rfl), (List.forall_mem_cons.mpr ⟨(List.mem_of_getElem? (i := 8) rfl), (List.forall_mem_cons.mpr ⟨(List.mem_of_getElem? (i := 9) rfl), (fun _ h => absurd h List.not_mem_nil)⟩)⟩)⟩), (fun _ h => (List.mem_cons_of_mem _ (List.mem_append_right _ h)))⟩)⟩) gw_wsX5_next
set_option maxRecDepth 20000 in
theorem gX5_readsLodger_X5_next : GoodIn wsX5_readsLodger (wsV RX5 75 RX5 yX5_next wsX5_next) := goodIn_app (goodIn_sub (List.forall_mem_cons.mpr ⟨(List.mem_of_getElem? (i := 3) rfl), (List.forall_mem_cons.mpr ⟨(List.mem_of_getElem? (i := 4) rfl), (List.forall_mem_cons.mpr ⟨(List.mem_of_getElem? (i := 5) rfl), (List.forall_mem_cons.mpr ⟨(List.mem_of_getElem? (i := 6) rfl), (fun _ h => absurd h List.not_mem_nil)⟩)⟩)⟩)⟩) (by decide +kernel)) ggX5_readsLodger_X5_next
set_option maxRecDepth 20000 in
theorem gw_wsX5_kindOf : wsX5_kindOf.all goodWord = true := by decide +kernel
set_option maxRecDepth 20000 in
theorem ggX5_readsLodger_X5_kindOf : GoodIn wsX5_readsLodger wsX5_kindOf := goodIn_sub (List.forall_mem_cons.mpr ⟨(List.mem_of_getElem? (i := 12) rfl), (fun _ h => absurd h List.not_mem_nil)⟩) gw_wsX5_kindOf
set_option maxRecDepth 20000 in
theorem gX5_readsLodger_X5_kindOf : GoodIn wsX5_readsLodger (va_wsS RX5 87 yX5_kindOf wsX5_kindOf) := goodIn_app (goodIn_sub (List.forall_mem_cons.mpr ⟨(List.mem_of_getElem? (i := 10) rfl), (List.forall_mem_cons.mpr ⟨(List.mem_of_getElem? (i := 11) rfl), (List.forall_mem_cons.mpr ⟨(List.mem_of_getElem? (i := 6) rfl), (fun _ h => absurd h List.not_mem_nil)⟩)⟩)⟩) (by decide +kernel)) ggX5_readsLodger_X5_kindOf
set_option maxRecDepth 20000 in
theorem gw_wsX5_readsNumber : wsX5_readsNumber.all goodWord = true := by decide +kernel
set_option maxRecDepth 20000 in
theorem ggX5_readsLodger_X5_readsNumber : GoodIn wsX5_readsLodger wsX5_readsNumber := goodIn_sub (List.forall_mem_cons.mpr ⟨(List.mem_of_getElem? (i := 16) rfl), (List.forall_mem_append.mpr ⟨(List.forall_mem_cons.mpr ⟨(List.mem_of_getElem? (i := 2) rfl), (List.forall_mem_cons.mpr ⟨(List.mem_of_getElem? (i := 1) rfl), (List.forall_mem_cons.mpr ⟨(List.mem_of_getElem? (i := 17) rfl), (List.forall_mem_cons.mpr ⟨(List.mem_of_getElem? (i := 18) rfl), (List.forall_mem_cons.mpr ⟨(List.mem_of_getElem? (i := 19) rfl), (List.forall_mem_cons.mpr ⟨(List.mem_of_getElem? (i := 6) rfl), (List.forall_mem_cons.mpr ⟨(List.mem_of_getElem? (i := 20) rfl), (List.forall_mem_cons.mpr ⟨(List.mem_of_getElem? (i := 3) rfl), (List.forall_mem_cons.mpr ⟨(List.mem_of_getElem? (i := 4) rfl), (List.forall_mem_cons.mpr ⟨(List.mem_of_getElem? (i := 5) rfl), (List.forall_mem_cons.mpr ⟨(List.mem_of_getElem? (i := 7) rfl), (List.forall_mem_cons.mpr ⟨(List.mem_of_getElem? (i := 8) rfl), (List.forall_mem_cons.mpr ⟨(List.mem_of_getElem? (i := 9) rfl), (List.forall_mem_cons.mpr ⟨(List.mem_of_getElem? (i := 21) rfl), (List.forall_mem_cons.mpr ⟨(List.mem_of_getElem? (i := 22) rfl), (List.forall_mem_cons.mpr ⟨(List.mem_of_getElem? (i := 23) rfl), (fun _ h => absurd h List.not_mem_nil)⟩)⟩)⟩)⟩)⟩)⟩)⟩)⟩)⟩)⟩)⟩)⟩)⟩)⟩)⟩)⟩), (fun _ h => (List.mem_cons_of_mem _ (List.mem_append_right _ h)))⟩)⟩) gw_wsX5_readsNumber
set_option maxRecDepth 20000 in
theorem gX5_readsLodger_X5_readsNumber : GoodIn wsX5_readsLodger (wsV RX5 90 RX5 yX5_readsNumber wsX5_readsNumber) := goodIn_app (goodIn_sub (List.forall_mem_cons.mpr ⟨(List.mem_of_getElem? (i := 13) rfl), (List.forall_mem_cons.mpr ⟨(List.mem_of_getElem? (i := 14) rfl), (List.forall_mem_cons.mpr ⟨(List.mem_of_getElem? (i := 15) rfl), (List.forall_mem_cons.mpr ⟨(List.mem_of_getElem? (i := 6) rfl), (fun _ h => absurd h List.not_mem_nil)⟩)⟩)⟩)⟩) (by decide +kernel)) ggX5_readsLodger_X5_readsNumber
def dtX5_readsLodger_t0 : List (Nat × Instr × Nat) := [(0, .aload_n 0, 1), (1, .getfield 37, 3), (4, .iload_n 1, 1), (5, .aload_n 0, 1), (6, .invokevirtual 75, 3), (9, .invokestatic 87, 3), (12, .iastore, 1), (13, .aload_n 0, 1), (14, .getfield 37, 3), (17, .iload_n 1, 1), (18, .iaload, 1), (19, .ifCond .ge 5, 3), (22, .iconst 0, 1), (23, .ireturn, 1), (24, .aload_n 0, 1), (25, .dup, 1), (26, .getfield 72, 3), (29, .iconst 1, 1), (30, .iadd, 1), (31, .putfield 72, 3)]
theorem daX5_readsLodger_t0 : dtX5_readsLodger_t0.all (dck cX5_readsLodger) = true := by decide +kernel
theorem dX5_readsLodger_0 : decode cX5_readsLodger 0 = .ok (.aload_n 0, 1) := dck_get daX5_readsLodger_t0 0 rfl
theorem dX5_readsLodger_1 : decode cX5_readsLodger 1 = .ok (.getfield 37, 3) := dck_get daX5_readsLodger_t0 1 rfl
theorem dX5_readsLodger_4 : decode cX5_readsLodger 4 = .ok (.iload_n 1, 1) := dck_get daX5_readsLodger_t0 2 rfl
theorem dX5_readsLodger_5 : decode cX5_readsLodger 5 = .ok (.aload_n 0, 1) := dck_get daX5_readsLodger_t0 3 rfl
theorem dX5_readsLodger_6 : decode cX5_readsLodger 6 = .ok (.invokevirtual 75, 3) := dck_get daX5_readsLodger_t0 4 rfl
theorem dX5_readsLodger_9 : decode cX5_readsLodger 9 = .ok (.invokestatic 87, 3) := dck_get daX5_readsLodger_t0 5 rfl
theorem dX5_readsLodger_12 : decode cX5_readsLodger 12 = .ok (.iastore, 1) := dck_get daX5_readsLodger_t0 6 rfl
theorem dX5_readsLodger_13 : decode cX5_readsLodger 13 = .ok (.aload_n 0, 1) := dck_get daX5_readsLodger_t0 7 rfl
theorem dX5_readsLodger_14 : decode cX5_readsLodger 14 = .ok (.getfield 37, 3) := dck_get daX5_readsLodger_t0 8 rfl
theorem dX5_readsLodger_17 : decode cX5_readsLodger 17 = .ok (.iload_n 1, 1) := dck_get daX5_readsLodger_t0 9 rfl
theorem dX5_readsLodger_18 : decode cX5_readsLodger 18 = .ok (.iaload, 1) := dck_get daX5_readsLodger_t0 10 rfl
theorem dX5_readsLodger_19 : decode cX5_readsLodger 19 = .ok (.ifCond .ge 5, 3) := dck_get daX5_readsLodger_t0 11 rfl
theorem dX5_readsLodger_22 : decode cX5_readsLodger 22 = .ok (.iconst 0, 1) := dck_get daX5_readsLodger_t0 12 rfl
theorem dX5_readsLodger_23 : decode cX5_readsLodger 23 = .ok (.ireturn, 1) := dck_get daX5_readsLodger_t0 13 rfl
theorem dX5_readsLodger_24 : decode cX5_readsLodger 24 = .ok (.aload_n 0, 1) := dck_get daX5_readsLodger_t0 14 rfl
theorem dX5_readsLodger_25 : decode cX5_readsLodger 25 = .ok (.dup, 1) := dck_get daX5_readsLodger_t0 15 rfl
theorem dX5_readsLodger_26 : decode cX5_readsLodger 26 = .ok (.getfield 72, 3) := dck_get daX5_readsLodger_t0 16 rfl
theorem dX5_readsLodger_29 : decode cX5_readsLodger 29 = .ok (.iconst 1, 1) := dck_get daX5_readsLodger_t0 17 rfl
theorem dX5_readsLodger_30 : decode cX5_readsLodger 30 = .ok (.iadd, 1) := dck_get daX5_readsLodger_t0 18 rfl
theorem dX5_readsLodger_31 : decode cX5_readsLodger 31 = .ok (.putfield 72, 3) := dck_get daX5_readsLodger_t0 19 rfl
def dtX5_readsLodger_t1 : List (Nat × Instr × Nat) := [(34, .aload_n 0, 1), (35, .iload_n 1, 1), (36, .iconst 1, 1), (37, .iadd, 1), (38, .iconst 2, 1), (39, .invokevirtual 90, 3), (42, .ifCond .eq 12, 3), (45, .aload_n 0, 1), (46, .invokevirtual 75, 3), (49, .bipush 44, 2), (51, .if_icmp .eq 5, 3), (54, .iconst 0, 1), (55, .ireturn, 1), (56, .aload_n 0, 1), (57, .dup, 1), (58, .getfield 72, 3), (61, .iconst 1, 1), (62, .iadd, 1), (63, .putfield 72, 3), (66, .aload_n 0, 1)]
theorem daX5_readsLodger_t1 : dtX5_readsLodger_t1.all (dck cX5_readsLodger) = true := by decide +kernel
theorem dX5_readsLodger_34 : decode cX5_readsLodger 34 = .ok (.aload_n 0, 1) := dck_get daX5_readsLodger_t1 0 rfl
theorem dX5_readsLodger_35 : decode cX5_readsLodger 35 = .ok (.iload_n 1, 1) := dck_get daX5_readsLodger_t1 1 rfl
theorem dX5_readsLodger_36 : decode cX5_readsLodger 36 = .ok (.iconst 1, 1) := dck_get daX5_readsLodger_t1 2 rfl
theorem dX5_readsLodger_37 : decode cX5_readsLodger 37 = .ok (.iadd, 1) := dck_get daX5_readsLodger_t1 3 rfl
theorem dX5_readsLodger_38 : decode cX5_readsLodger 38 = .ok (.iconst 2, 1) := dck_get daX5_readsLodger_t1 4 rfl
theorem dX5_readsLodger_39 : decode cX5_readsLodger 39 = .ok (.invokevirtual 90, 3) := dck_get daX5_readsLodger_t1 5 rfl
theorem dX5_readsLodger_42 : decode cX5_readsLodger 42 = .ok (.ifCond .eq 12, 3) := dck_get daX5_readsLodger_t1 6 rfl
theorem dX5_readsLodger_45 : decode cX5_readsLodger 45 = .ok (.aload_n 0, 1) := dck_get daX5_readsLodger_t1 7 rfl
theorem dX5_readsLodger_46 : decode cX5_readsLodger 46 = .ok (.invokevirtual 75, 3) := dck_get daX5_readsLodger_t1 8 rfl
theorem dX5_readsLodger_49 : decode cX5_readsLodger 49 = .ok (.bipush 44, 2) := dck_get daX5_readsLodger_t1 9 rfl
theorem dX5_readsLodger_51 : decode cX5_readsLodger 51 = .ok (.if_icmp .eq 5, 3) := dck_get daX5_readsLodger_t1 10 rfl
theorem dX5_readsLodger_54 : decode cX5_readsLodger 54 = .ok (.iconst 0, 1) := dck_get daX5_readsLodger_t1 11 rfl
theorem dX5_readsLodger_55 : decode cX5_readsLodger 55 = .ok (.ireturn, 1) := dck_get daX5_readsLodger_t1 12 rfl
theorem dX5_readsLodger_56 : decode cX5_readsLodger 56 = .ok (.aload_n 0, 1) := dck_get daX5_readsLodger_t1 13 rfl
theorem dX5_readsLodger_57 : decode cX5_readsLodger 57 = .ok (.dup, 1) := dck_get daX5_readsLodger_t1 14 rfl
theorem dX5_readsLodger_58 : decode cX5_readsLodger 58 = .ok (.getfield 72, 3) := dck_get daX5_readsLodger_t1 15 rfl
theorem dX5_readsLodger_61 : decode cX5_readsLodger 61 = .ok (.iconst 1, 1) := dck_get daX5_readsLodger_t1 16 rfl
theorem dX5_readsLodger_62 : decode cX5_readsLodger 62 = .ok (.iadd, 1) := dck_get daX5_readsLodger_t1 17 rfl
theorem dX5_readsLodger_63 : decode cX5_readsLodger 63 = .ok (.putfield 72, 3) := dck_get daX5_readsLodger_t1 18 rfl
theorem dX5_readsLodger_66 : decode cX5_readsLodger 66 = .ok (.aload_n 0, 1) := dck_get daX5_readsLodger_t1 19 rfl
def dtX5_readsLodger_t2 : List (Nat × Instr × Nat) := [(67, .iload_n 1, 1), (68, .iconst 2, 1), (69, .iadd, 1), (70, .iconst 1, 1), (71, .invokevirtual 90, 3), (74, .ireturn, 1)]
theorem daX5_readsLodger_t2 : dtX5_readsLodger_t2.all (dck cX5_readsLodger) = true := by decide +kernel
theorem dX5_readsLodger_67 : decode cX5_readsLodger 67 = .ok (.iload_n 1, 1) := dck_get daX5_readsLodger_t2 0 rfl
theorem dX5_readsLodger_68 : decode cX5_readsLodger 68 = .ok (.iconst 2, 1) := dck_get daX5_readsLodger_t2 1 rfl
theorem dX5_readsLodger_69 : decode cX5_readsLodger 69 = .ok (.iadd, 1) := dck_get daX5_readsLodger_t2 2 rfl
theorem dX5_readsLodger_70 : decode cX5_readsLodger 70 = .ok (.iconst 1, 1) := dck_get daX5_readsLodger_t2 3 rfl
theorem dX5_readsLodger_71 : decode cX5_readsLodger 71 = .ok (.invokevirtual 90, 3) := dck_get daX5_readsLodger_t2 4 rfl
theorem dX5_readsLodger_74 : decode cX5_readsLodger 74 = .ok (.ireturn, 1) := dck_get daX5_readsLodger_t2 5 rfl
set_option maxRecDepth 20000 in
theorem ggX5_readsDeaths_X5_isDigit : GoodIn wsX5_readsDeaths wsX5_isDigit := goodIn_sub (List.forall_mem_cons.mpr ⟨(List.mem_of_getElem? (i := 9) rfl), (List.forall_mem_append.mpr ⟨(List.forall_mem_cons.mpr ⟨(List.mem_of_getElem? (i := 10) rfl), (List.forall_mem_cons.mpr ⟨(List.mem_of_getElem? (i := 11) rfl), (List.forall_mem_cons.mpr ⟨(List.mem_of_getElem? (i := 12) rfl), (List.forall_mem_cons.mpr ⟨(List.mem_of_getElem? (i := 8) rfl), (List.forall_mem_cons.mpr ⟨(List.mem_of_getElem? (i := 13) rfl), (List.forall_mem_cons.mpr ⟨(List.mem_of_getElem? (i := 3) rfl), (List.forall_mem_cons.mpr ⟨(List.mem_of_getElem? (i := 14) rfl), (List.forall_mem_cons.mpr ⟨(List.mem_of_getElem? (i := 15) rfl), (List.forall_mem_cons.mpr ⟨(List.mem_of_getElem? (i := 16) rfl), (List.forall_mem_cons.mpr ⟨(List.mem_of_getElem? (i := 17) rfl), (List.forall_mem_cons.mpr ⟨(List.mem_of_getElem? (i := 18) rfl), (fun _ h => absurd h List.not_mem_nil)⟩)⟩)⟩)⟩)⟩)⟩)⟩)⟩)⟩)⟩)⟩), (fun _ h => (List.mem_cons_of_mem _ (List.mem_append_right _ h)))⟩)⟩) gw_wsX5_isDigit
set_option maxRecDepth 20000 in
theorem gX5_readsDeaths_X5_isDigit : GoodIn wsX5_readsDeaths (wsV RX5 83 RX5 yX5_isDigit wsX5_isDigit) := goodIn_app (goodIn_sub (List.forall_mem_cons.mpr ⟨(List.mem_of_getElem? (i := 5) rfl), (List.forall_mem_cons.mpr ⟨(List.mem_of_getElem? (i := 6) rfl), (List.forall_mem_cons.mpr ⟨(List.mem_of_getElem? (i := 7) rfl), (List.forall_mem_cons.mpr ⟨(List.mem_of_getElem? (i := 8) rfl), (fun _ h => absurd h List.not_mem_nil)⟩)⟩)⟩)⟩) (by decide +kernel)) ggX5_readsDeaths_X5_isDigit
def dtX5_readsDeaths_t0 : List (Nat × Instr × Nat) := [(0, .aload_n 0, 1), (1, .getfield 40, 3), (4, .aload_n 0, 1), (5, .getfield 94, 3), (8, .aload_n 0, 1), (9, .getfield 72, 3), (12, .iastore, 1), (13, .aload_n 0, 1), (14, .getfield 72, 3), (17, .aload_n 0, 1), (18, .getfield 40, 3), (21, .aload_n 0, 1), (22, .getfield 94, 3), (25, .iaload, 1), (26, .isub, 1), (27, .bipush 8, 2), (29, .if_icmp .ge 23, 3), (32, .aload_n 0, 1), (33, .invokevirtual 83, 3), (36, .ifCond .eq 16, 3)]
theorem daX5_readsDeaths_t0 : dtX5_readsDeaths_t0.all (dck cX5_readsDeaths) = true := by decide +kernel
theorem dX5_readsDeaths_0 : decode cX5_readsDeaths 0 = .ok (.aload_n 0, 1) := dck_get daX5_readsDeaths_t0 0 rfl
theorem dX5_readsDeaths_1 : decode cX5_readsDeaths 1 = .ok (.getfield 40, 3) := dck_get daX5_readsDeaths_t0 1 rfl
theorem dX5_readsDeaths_4 : decode cX5_readsDeaths 4 = .ok (.aload_n 0, 1) := dck_get daX5_readsDeaths_t0 2 rfl
theorem dX5_readsDeaths_5 : decode cX5_readsDeaths 5 = .ok (.getfield 94, 3) := dck_get daX5_readsDeaths_t0 3 rfl
theorem dX5_readsDeaths_8 : decode cX5_readsDeaths 8 = .ok (.aload_n 0, 1) := dck_get daX5_readsDeaths_t0 4 rfl
theorem dX5_readsDeaths_9 : decode cX5_readsDeaths 9 = .ok (.getfield 72, 3) := dck_get daX5_readsDeaths_t0 5 rfl
theorem dX5_readsDeaths_12 : decode cX5_readsDeaths 12 = .ok (.iastore, 1) := dck_get daX5_readsDeaths_t0 6 rfl
theorem dX5_readsDeaths_13 : decode cX5_readsDeaths 13 = .ok (.aload_n 0, 1) := dck_get daX5_readsDeaths_t0 7 rfl
theorem dX5_readsDeaths_14 : decode cX5_readsDeaths 14 = .ok (.getfield 72, 3) := dck_get daX5_readsDeaths_t0 8 rfl
theorem dX5_readsDeaths_17 : decode cX5_readsDeaths 17 = .ok (.aload_n 0, 1) := dck_get daX5_readsDeaths_t0 9 rfl
theorem dX5_readsDeaths_18 : decode cX5_readsDeaths 18 = .ok (.getfield 40, 3) := dck_get daX5_readsDeaths_t0 10 rfl
theorem dX5_readsDeaths_21 : decode cX5_readsDeaths 21 = .ok (.aload_n 0, 1) := dck_get daX5_readsDeaths_t0 11 rfl
theorem dX5_readsDeaths_22 : decode cX5_readsDeaths 22 = .ok (.getfield 94, 3) := dck_get daX5_readsDeaths_t0 12 rfl
theorem dX5_readsDeaths_25 : decode cX5_readsDeaths 25 = .ok (.iaload, 1) := dck_get daX5_readsDeaths_t0 13 rfl
theorem dX5_readsDeaths_26 : decode cX5_readsDeaths 26 = .ok (.isub, 1) := dck_get daX5_readsDeaths_t0 14 rfl
theorem dX5_readsDeaths_27 : decode cX5_readsDeaths 27 = .ok (.bipush 8, 2) := dck_get daX5_readsDeaths_t0 15 rfl
theorem dX5_readsDeaths_29 : decode cX5_readsDeaths 29 = .ok (.if_icmp .ge 23, 3) := dck_get daX5_readsDeaths_t0 16 rfl
theorem dX5_readsDeaths_32 : decode cX5_readsDeaths 32 = .ok (.aload_n 0, 1) := dck_get daX5_readsDeaths_t0 17 rfl
theorem dX5_readsDeaths_33 : decode cX5_readsDeaths 33 = .ok (.invokevirtual 83, 3) := dck_get daX5_readsDeaths_t0 18 rfl
theorem dX5_readsDeaths_36 : decode cX5_readsDeaths 36 = .ok (.ifCond .eq 16, 3) := dck_get daX5_readsDeaths_t0 19 rfl
def dtX5_readsDeaths_t1 : List (Nat × Instr × Nat) := [(39, .aload_n 0, 1), (40, .dup, 1), (41, .getfield 72, 3), (44, .iconst 1, 1), (45, .iadd, 1), (46, .putfield 72, 3), (49, .goto (-36), 3), (52, .aload_n 0, 1), (53, .getfield 43, 3), (56, .aload_n 0, 1), (57, .getfield 94, 3), (60, .aload_n 0, 1), (61, .getfield 72, 3), (64, .iastore, 1), (65, .iconst 1, 1), (66, .ireturn, 1)]
theorem daX5_readsDeaths_t1 : dtX5_readsDeaths_t1.all (dck cX5_readsDeaths) = true := by decide +kernel
theorem dX5_readsDeaths_39 : decode cX5_readsDeaths 39 = .ok (.aload_n 0, 1) := dck_get daX5_readsDeaths_t1 0 rfl
theorem dX5_readsDeaths_40 : decode cX5_readsDeaths 40 = .ok (.dup, 1) := dck_get daX5_readsDeaths_t1 1 rfl
theorem dX5_readsDeaths_41 : decode cX5_readsDeaths 41 = .ok (.getfield 72, 3) := dck_get daX5_readsDeaths_t1 2 rfl
theorem dX5_readsDeaths_44 : decode cX5_readsDeaths 44 = .ok (.iconst 1, 1) := dck_get daX5_readsDeaths_t1 3 rfl
theorem dX5_readsDeaths_45 : decode cX5_readsDeaths 45 = .ok (.iadd, 1) := dck_get daX5_readsDeaths_t1 4 rfl
theorem dX5_readsDeaths_46 : decode cX5_readsDeaths 46 = .ok (.putfield 72, 3) := dck_get daX5_readsDeaths_t1 5 rfl
theorem dX5_readsDeaths_49 : decode cX5_readsDeaths 49 = .ok (.goto (-36), 3) := dck_get daX5_readsDeaths_t1 6 rfl
theorem dX5_readsDeaths_52 : decode cX5_readsDeaths 52 = .ok (.aload_n 0, 1) := dck_get daX5_readsDeaths_t1 7 rfl
theorem dX5_readsDeaths_53 : decode cX5_readsDeaths 53 = .ok (.getfield 43, 3) := dck_get daX5_readsDeaths_t1 8 rfl
theorem dX5_readsDeaths_56 : decode cX5_readsDeaths 56 = .ok (.aload_n 0, 1) := dck_get daX5_readsDeaths_t1 9 rfl
theorem dX5_readsDeaths_57 : decode cX5_readsDeaths 57 = .ok (.getfield 94, 3) := dck_get daX5_readsDeaths_t1 10 rfl
theorem dX5_readsDeaths_60 : decode cX5_readsDeaths 60 = .ok (.aload_n 0, 1) := dck_get daX5_readsDeaths_t1 11 rfl
theorem dX5_readsDeaths_61 : decode cX5_readsDeaths 61 = .ok (.getfield 72, 3) := dck_get daX5_readsDeaths_t1 12 rfl
theorem dX5_readsDeaths_64 : decode cX5_readsDeaths 64 = .ok (.iastore, 1) := dck_get daX5_readsDeaths_t1 13 rfl
theorem dX5_readsDeaths_65 : decode cX5_readsDeaths 65 = .ok (.iconst 1, 1) := dck_get daX5_readsDeaths_t1 14 rfl
theorem dX5_readsDeaths_66 : decode cX5_readsDeaths 66 = .ok (.ireturn, 1) := dck_get daX5_readsDeaths_t1 15 rfl
set_option maxRecDepth 20000 in
theorem ggX5_statement_X5_next : GoodIn wsX5_statement wsX5_next := goodIn_sub (List.forall_mem_cons.mpr ⟨(List.mem_of_getElem? (i := 9) rfl), (List.forall_mem_append.mpr ⟨(List.forall_mem_cons.mpr ⟨(List.mem_of_getElem? (i := 4) rfl), (List.forall_mem_cons.mpr ⟨(List.mem_of_getElem? (i := 10) rfl), (List.forall_mem_cons.mpr ⟨(List.mem_of_getElem? (i := 11) rfl), (fun _ h => absurd h List.not_mem_nil)⟩)⟩)⟩), (fun _ h => (List.mem_cons_of_mem _ (List.mem_append_right _ h)))⟩)⟩) gw_wsX5_next
set_option maxRecDepth 20000 in
theorem gX5_statement_X5_next : GoodIn wsX5_statement (wsV RX5 75 RX5 yX5_next wsX5_next) := goodIn_app (goodIn_sub (List.forall_mem_cons.mpr ⟨(List.mem_of_getElem? (i := 5) rfl), (List.forall_mem_cons.mpr ⟨(List.mem_of_getElem? (i := 6) rfl), (List.forall_mem_cons.mpr ⟨(List.mem_of_getElem? (i := 7) rfl), (List.forall_mem_cons.mpr ⟨(List.mem_of_getElem? (i := 8) rfl), (fun _ h => absurd h List.not_mem_nil)⟩)⟩)⟩)⟩) (by decide +kernel)) ggX5_statement_X5_next
set_option maxRecDepth 20000 in
theorem gw_wsX5_readsLodger : wsX5_readsLodger.all goodWord = true := by decide +kernel
set_option maxRecDepth 20000 in
theorem ggX5_statement_X5_readsLodger : GoodIn wsX5_statement wsX5_readsLodger := goodIn_sub (List.forall_mem_cons.mpr ⟨(List.mem_of_getElem? (i := 15) rfl), (List.forall_mem_append.mpr ⟨(List.forall_mem_cons.mpr ⟨(List.mem_of_getElem? (i := 16) rfl), (List.forall_mem_cons.mpr ⟨(List.mem_of_getElem? (i := 4) rfl), (List.forall_mem_cons.mpr ⟨(List.mem_of_getElem? (i := 5) rfl), (List.forall_mem_cons.mpr ⟨(List.mem_of_getElem? (i := 6) rfl), (List.forall_mem_cons.mpr ⟨(List.mem_of_getElem? (i := 7) rfl), (List.forall_mem_cons.mpr ⟨(List.mem_of_getElem? (i := 8) rfl), (List.forall_mem_cons.mpr ⟨(List.mem_of_getElem? (i := 9) rfl), (List.forall_mem_cons.mpr ⟨(List.mem_of_getElem? (i := 10) rfl), (List.forall_mem_cons.mpr ⟨(List.mem_of_getElem? (i := 11) rfl), (List.forall_mem_cons.mpr ⟨(List.mem_of_getElem? (i := 17) rfl), (List.forall_mem_cons.mpr ⟨(List.mem_of_getElem? (i := 18) rfl), (List.forall_mem_cons.mpr ⟨(List.mem_of_getElem? (i := 19) rfl), (List.forall_mem_cons.mpr ⟨(List.mem_of_getElem? (i := 20) rfl), (List.forall_mem_cons.mpr ⟨(List.mem_of_getElem? (i := 21) rfl), (List.forall_mem_cons.mpr ⟨(List.mem_of_getElem? (i := 22) rfl), (List.forall_mem_cons.mpr ⟨(List.mem_of_getElem? (i := 23) rfl), (List.forall_mem_cons.mpr ⟨(List.mem_of_getElem? (i := 24) rfl), (List.forall_mem_cons.mpr ⟨(List.mem_of_getElem? (i := 25) rfl), (List.forall_mem_cons.mpr ⟨(List.mem_of_getElem? (i := 26) rfl), (List.forall_mem_cons.mpr ⟨(List.mem_of_getElem? (i := 27) rfl), (List.forall_mem_cons.mpr ⟨(List.mem_of_getElem? (i := 28) rfl), (List.forall_mem_cons.mpr ⟨(List.mem_of_getElem? (i := 29) rfl), (List.forall_mem_cons.mpr ⟨(List.mem_of_getElem? (i := 30) rfl), (fun _ h => absurd h List.not_mem_nil)⟩)⟩)⟩)⟩)⟩)⟩)⟩)⟩)⟩)⟩)⟩)⟩)⟩)⟩)⟩)⟩)⟩)⟩)⟩)⟩)⟩)⟩)⟩), (fun _ h => (List.mem_cons_of_mem _ (List.mem_append_right _ h)))⟩)⟩) gw_wsX5_readsLodger
set_option maxRecDepth 20000 in
theorem gX5_statement_X5_readsLodger : GoodIn wsX5_statement (wsV RX5 97 RX5 yX5_readsLodger wsX5_readsLodger) := goodIn_app (goodIn_sub (List.forall_mem_cons.mpr ⟨(List.mem_of_getElem? (i := 12) rfl), (List.forall_mem_cons.mpr ⟨(List.mem_of_getElem? (i := 13) rfl), (List.forall_mem_cons.mpr ⟨(List.mem_of_getElem? (i := 14) rfl), (List.forall_mem_cons.mpr ⟨(List.mem_of_getElem? (i := 8) rfl), (fun _ h => absurd h List.not_mem_nil)⟩)⟩)⟩)⟩) (by decide +kernel)) ggX5_statement_X5_readsLodger
set_option maxRecDepth 20000 in
theorem ggX5_statement_X5_readsNumber : GoodIn wsX5_statement wsX5_readsNumber := goodIn_sub (List.forall_mem_cons.mpr ⟨(List.mem_of_getElem? (i := 23) rfl), (List.forall_mem_append.mpr ⟨(List.forall_mem_cons.mpr ⟨(List.mem_of_getElem? (i := 4) rfl), (List.forall_mem_cons.mpr ⟨(List.mem_of_getElem? (i := 16) rfl), (List.forall_mem_cons.mpr ⟨(List.mem_of_getElem? (i := 24) rfl), (List.forall_mem_cons.mpr ⟨(List.mem_of_getElem? (i := 25) rfl), (List.forall_mem_cons.mpr ⟨(List.mem_of_getElem? (i := 26) rfl), (List.forall_mem_cons.mpr ⟨(List.mem_of_getElem? (i := 8) rfl), (List.forall_mem_cons.mpr ⟨(List.mem_of_getElem? (i := 27) rfl), (List.forall_mem_cons.mpr ⟨(List.mem_of_getElem? (i := 5) rfl), (List.forall_mem_cons.mpr ⟨(List.mem_of_getElem? (i := 6) rfl), (List.forall_mem_cons.mpr ⟨(List.mem_of_getElem? (i := 7) rfl), (List.forall_mem_cons.mpr ⟨(List.mem_of_getElem? (i := 9) rfl), (List.forall_mem_cons.mpr ⟨(List.mem_of_getElem? (i := 10) rfl), (List.forall_mem_cons.mpr ⟨(List.mem_of_getElem? (i := 11) rfl), (List.forall_mem_cons.mpr ⟨(List.mem_of_getElem? (i := 28) rfl), (List.forall_mem_cons.mpr ⟨(List.mem_of_getElem? (i := 29) rfl), (List.forall_mem_cons.mpr ⟨(List.mem_of_getElem? (i := 30) rfl), (fun _ h => absurd h List.not_mem_nil)⟩)⟩)⟩)⟩)⟩)⟩)⟩)⟩)⟩)⟩)⟩)⟩)⟩)⟩)⟩)⟩), (fun _ h => (List.mem_cons_of_mem _ (List.mem_append_right _ h)))⟩)⟩) gw_wsX5_readsNumber
set_option maxRecDepth 20000 in
theorem gX5_statement_X5_readsNumber : GoodIn wsX5_statement (wsV RX5 90 RX5 yX5_readsNumber wsX5_readsNumber) := goodIn_app (goodIn_sub (List.forall_mem_cons.mpr ⟨(List.mem_of_getElem? (i := 20) rfl), (List.forall_mem_cons.mpr ⟨(List.mem_of_getElem? (i := 21) rfl), (List.forall_mem_cons.mpr ⟨(List.mem_of_getElem? (i := 22) rfl), (List.forall_mem_cons.mpr ⟨(List.mem_of_getElem? (i := 8) rfl), (fun _ h => absurd h List.not_mem_nil)⟩)⟩)⟩)⟩) (by decide +kernel)) ggX5_statement_X5_readsNumber
set_option maxRecDepth 20000 in
theorem gw_wsX5_readsDeaths : wsX5_readsDeaths.all goodWord = true := by decide +kernel
set_option maxRecDepth 20000 in
theorem ggX5_statement_X5_readsDeaths : GoodIn wsX5_statement wsX5_readsDeaths := goodIn_sub (List.forall_mem_cons.mpr ⟨(List.mem_of_getElem? (i := 34) rfl), (List.forall_mem_append.mpr ⟨(List.forall_mem_cons.mpr ⟨(List.mem_of_getElem? (i := 35) rfl), (List.forall_mem_cons.mpr ⟨(List.mem_of_getElem? (i := 2) rfl), (List.forall_mem_cons.mpr ⟨(List.mem_of_getElem? (i := 4) rfl), (List.forall_mem_cons.mpr ⟨(List.mem_of_getElem? (i := 36) rfl), (List.forall_mem_cons.mpr ⟨(List.mem_of_getElem? (i := 24) rfl), (List.forall_mem_cons.mpr ⟨(List.mem_of_getElem? (i := 25) rfl), (List.forall_mem_cons.mpr ⟨(List.mem_of_getElem? (i := 26) rfl), (List.forall_mem_cons.mpr ⟨(List.mem_of_getElem? (i := 8) rfl), (List.forall_mem_cons.mpr ⟨(List.mem_of_getElem? (i := 27) rfl), (List.forall_mem_cons.mpr ⟨(List.mem_of_getElem? (i := 5) rfl), (List.forall_mem_cons.mpr ⟨(List.mem_of_getElem? (i := 6) rfl), (List.forall_mem_cons.mpr ⟨(List.mem_of_getElem? (i := 7) rfl), (List.forall_mem_cons.mpr ⟨(List.mem_of_getElem? (i := 9) rfl), (List.forall_mem_cons.mpr ⟨(List.mem_of_getElem? (i := 10) rfl), (List.forall_mem_cons.mpr ⟨(List.mem_of_getElem? (i := 11) rfl), (List.forall_mem_cons.mpr ⟨(List.mem_of_getElem? (i := 28) rfl), (List.forall_mem_cons.mpr ⟨(List.mem_of_getElem? (i := 29) rfl), (List.forall_mem_cons.mpr ⟨(List.mem_of_getElem? (i := 30) rfl), (fun _ h => absurd h List.not_mem_nil)⟩)⟩)⟩)⟩)⟩)⟩)⟩)⟩)⟩)⟩)⟩)⟩)⟩)⟩)⟩)⟩)⟩)⟩), (fun _ h => (List.mem_cons_of_mem _ (List.mem_append_right _ h)))⟩)⟩) gw_wsX5_readsDeaths
set_option maxRecDepth 20000 in
theorem gX5_statement_X5_readsDeaths : GoodIn wsX5_statement (wsV RX5 101 RX5 yX5_readsDeaths wsX5_readsDeaths) := goodIn_app (goodIn_sub (List.forall_mem_cons.mpr ⟨(List.mem_of_getElem? (i := 31) rfl), (List.forall_mem_cons.mpr ⟨(List.mem_of_getElem? (i := 32) rfl), (List.forall_mem_cons.mpr ⟨(List.mem_of_getElem? (i := 33) rfl), (List.forall_mem_cons.mpr ⟨(List.mem_of_getElem? (i := 8) rfl), (fun _ h => absurd h List.not_mem_nil)⟩)⟩)⟩)⟩) (by decide +kernel)) ggX5_statement_X5_readsDeaths
def dtX5_statement_t0 : List (Nat × Instr × Nat) := [(0, .aload_n 0, 1), (1, .invokevirtual 75, 3), (4, .istore_n 1, 1), (5, .iload_n 1, 1), (6, .bipush 108, 2), (8, .if_icmp .eq 17, 3), (11, .iload_n 1, 1), (12, .bipush 119, 2), (14, .if_icmp .eq 11, 3), (17, .iload_n 1, 1), (18, .bipush 121, 2), (20, .if_icmp .eq 5, 3), (23, .iconst 0, 1), (24, .ireturn, 1), (25, .aload_n 0, 1), (26, .getfield 31, 3), (29, .aload_n 0, 1), (30, .getfield 94, 3), (33, .iload_n 1, 1), (34, .iastore, 1)]
theorem daX5_statement_t0 : dtX5_statement_t0.all (dck cX5_statement) = true := by decide +kernel
theorem dX5_statement_0 : decode cX5_statement 0 = .ok (.aload_n 0, 1) := dck_get daX5_statement_t0 0 rfl
theorem dX5_statement_1 : decode cX5_statement 1 = .ok (.invokevirtual 75, 3) := dck_get daX5_statement_t0 1 rfl
theorem dX5_statement_4 : decode cX5_statement 4 = .ok (.istore_n 1, 1) := dck_get daX5_statement_t0 2 rfl
theorem dX5_statement_5 : decode cX5_statement 5 = .ok (.iload_n 1, 1) := dck_get daX5_statement_t0 3 rfl
theorem dX5_statement_6 : decode cX5_statement 6 = .ok (.bipush 108, 2) := dck_get daX5_statement_t0 4 rfl
theorem dX5_statement_8 : decode cX5_statement 8 = .ok (.if_icmp .eq 17, 3) := dck_get daX5_statement_t0 5 rfl
theorem dX5_statement_11 : decode cX5_statement 11 = .ok (.iload_n 1, 1) := dck_get daX5_statement_t0 6 rfl
theorem dX5_statement_12 : decode cX5_statement 12 = .ok (.bipush 119, 2) := dck_get daX5_statement_t0 7 rfl
theorem dX5_statement_14 : decode cX5_statement 14 = .ok (.if_icmp .eq 11, 3) := dck_get daX5_statement_t0 8 rfl
theorem dX5_statement_17 : decode cX5_statement 17 = .ok (.iload_n 1, 1) := dck_get daX5_statement_t0 9 rfl
theorem dX5_statement_18 : decode cX5_statement 18 = .ok (.bipush 121, 2) := dck_get daX5_statement_t0 10 rfl
theorem dX5_statement_20 : decode cX5_statement 20 = .ok (.if_icmp .eq 5, 3) := dck_get daX5_statement_t0 11 rfl
theorem dX5_statement_23 : decode cX5_statement 23 = .ok (.iconst 0, 1) := dck_get daX5_statement_t0 12 rfl
theorem dX5_statement_24 : decode cX5_statement 24 = .ok (.ireturn, 1) := dck_get daX5_statement_t0 13 rfl
theorem dX5_statement_25 : decode cX5_statement 25 = .ok (.aload_n 0, 1) := dck_get daX5_statement_t0 14 rfl
theorem dX5_statement_26 : decode cX5_statement 26 = .ok (.getfield 31, 3) := dck_get daX5_statement_t0 15 rfl
theorem dX5_statement_29 : decode cX5_statement 29 = .ok (.aload_n 0, 1) := dck_get daX5_statement_t0 16 rfl
theorem dX5_statement_30 : decode cX5_statement 30 = .ok (.getfield 94, 3) := dck_get daX5_statement_t0 17 rfl
theorem dX5_statement_33 : decode cX5_statement 33 = .ok (.iload_n 1, 1) := dck_get daX5_statement_t0 18 rfl
theorem dX5_statement_34 : decode cX5_statement 34 = .ok (.iastore, 1) := dck_get daX5_statement_t0 19 rfl
def dtX5_statement_t1 : List (Nat × Instr × Nat) := [(35, .aload_n 0, 1), (36, .getfield 34, 3), (39, .aload_n 0, 1), (40, .getfield 94, 3), (43, .aload_n 0, 1), (44, .getfield 72, 3), (47, .iastore, 1), (48, .aload_n 0, 1), (49, .dup, 1), (50, .getfield 72, 3), (53, .iconst 1, 1), (54, .iadd, 1), (55, .putfield 72, 3), (58, .iconst 3, 1), (59, .aload_n 0, 1), (60, .getfield 94, 3), (63, .imul, 1), (64, .istore_n 2, 1), (65, .iload_n 1, 1), (66, .bipush 108, 2)]
theorem daX5_statement_t1 : dtX5_statement_t1.all (dck cX5_statement) = true := by decide +kernel
theorem dX5_statement_35 : decode cX5_statement 35 = .ok (.aload_n 0, 1) := dck_get daX5_statement_t1 0 rfl
theorem dX5_statement_36 : decode cX5_statement 36 = .ok (.getfield 34, 3) := dck_get daX5_statement_t1 1 rfl
theorem dX5_statement_39 : decode cX5_statement 39 = .ok (.aload_n 0, 1) := dck_get daX5_statement_t1 2 rfl
theorem dX5_statement_40 : decode cX5_statement 40 = .ok (.getfield 94, 3) := dck_get daX5_statement_t1 3 rfl
theorem dX5_statement_43 : decode cX5_statement 43 = .ok (.aload_n 0, 1) := dck_get daX5_statement_t1 4 rfl
theorem dX5_statement_44 : decode cX5_statement 44 = .ok (.getfield 72, 3) := dck_get daX5_statement_t1 5 rfl
theorem dX5_statement_47 : decode cX5_statement 47 = .ok (.iastore, 1) := dck_get daX5_statement_t1 6 rfl
theorem dX5_statement_48 : decode cX5_statement 48 = .ok (.aload_n 0, 1) := dck_get daX5_statement_t1 7 rfl
theorem dX5_statement_49 : decode cX5_statement 49 = .ok (.dup, 1) := dck_get daX5_statement_t1 8 rfl
theorem dX5_statement_50 : decode cX5_statement 50 = .ok (.getfield 72, 3) := dck_get daX5_statement_t1 9 rfl
theorem dX5_statement_53 : decode cX5_statement 53 = .ok (.iconst 1, 1) := dck_get daX5_statement_t1 10 rfl
theorem dX5_statement_54 : decode cX5_statement 54 = .ok (.iadd, 1) := dck_get daX5_statement_t1 11 rfl
theorem dX5_statement_55 : decode cX5_statement 55 = .ok (.putfield 72, 3) := dck_get daX5_statement_t1 12 rfl
theorem dX5_statement_58 : decode cX5_statement 58 = .ok (.iconst 3, 1) := dck_get daX5_statement_t1 13 rfl
theorem dX5_statement_59 : decode cX5_statement 59 = .ok (.aload_n 0, 1) := dck_get daX5_statement_t1 14 rfl
theorem dX5_statement_60 : decode cX5_statement 60 = .ok (.getfield 94, 3) := dck_get daX5_statement_t1 15 rfl
theorem dX5_statement_63 : decode cX5_statement 63 = .ok (.imul, 1) := dck_get daX5_statement_t1 16 rfl
theorem dX5_statement_64 : decode cX5_statement 64 = .ok (.istore_n 2, 1) := dck_get daX5_statement_t1 17 rfl
theorem dX5_statement_65 : decode cX5_statement 65 = .ok (.iload_n 1, 1) := dck_get daX5_statement_t1 18 rfl
theorem dX5_statement_66 : decode cX5_statement 66 = .ok (.bipush 108, 2) := dck_get daX5_statement_t1 19 rfl
def dtX5_statement_t2 : List (Nat × Instr × Nat) := [(68, .if_icmp .ne 11, 3), (71, .aload_n 0, 1), (72, .iload_n 2, 1), (73, .invokevirtual 97, 3), (76, .goto 41, 3), (79, .iload_n 1, 1), (80, .bipush 119, 2), (82, .if_icmp .ne 31, 3), (85, .aload_n 0, 1), (86, .iload_n 2, 1), (87, .iconst 1, 1), (88, .invokevirtual 90, 3), (91, .ifCond .eq 18, 3), (94, .aload_n 0, 1), (95, .iload_n 2, 1), (96, .iconst 1, 1), (97, .iadd, 1), (98, .iconst 1, 1), (99, .invokevirtual 90, 3), (102, .ifCond .eq 7, 3)]
theorem daX5_statement_t2 : dtX5_statement_t2.all (dck cX5_statement) = true := by decide +kernel
theorem dX5_statement_68 : decode cX5_statement 68 = .ok (.if_icmp .ne 11, 3) := dck_get daX5_statement_t2 0 rfl
theorem dX5_statement_71 : decode cX5_statement 71 = .ok (.aload_n 0, 1) := dck_get daX5_statement_t2 1 rfl
theorem dX5_statement_72 : decode cX5_statement 72 = .ok (.iload_n 2, 1) := dck_get daX5_statement_t2 2 rfl
theorem dX5_statement_73 : decode cX5_statement 73 = .ok (.invokevirtual 97, 3) := dck_get daX5_statement_t2 3 rfl
theorem dX5_statement_76 : decode cX5_statement 76 = .ok (.goto 41, 3) := dck_get daX5_statement_t2 4 rfl
theorem dX5_statement_79 : decode cX5_statement 79 = .ok (.iload_n 1, 1) := dck_get daX5_statement_t2 5 rfl
theorem dX5_statement_80 : decode cX5_statement 80 = .ok (.bipush 119, 2) := dck_get daX5_statement_t2 6 rfl
theorem dX5_statement_82 : decode cX5_statement 82 = .ok (.if_icmp .ne 31, 3) := dck_get daX5_statement_t2 7 rfl
theorem dX5_statement_85 : decode cX5_statement 85 = .ok (.aload_n 0, 1) := dck_get daX5_statement_t2 8 rfl
theorem dX5_statement_86 : decode cX5_statement 86 = .ok (.iload_n 2, 1) := dck_get daX5_statement_t2 9 rfl
theorem dX5_statement_87 : decode cX5_statement 87 = .ok (.iconst 1, 1) := dck_get daX5_statement_t2 10 rfl
theorem dX5_statement_88 : decode cX5_statement 88 = .ok (.invokevirtual 90, 3) := dck_get daX5_statement_t2 11 rfl
theorem dX5_statement_91 : decode cX5_statement 91 = .ok (.ifCond .eq 18, 3) := dck_get daX5_statement_t2 12 rfl
theorem dX5_statement_94 : decode cX5_statement 94 = .ok (.aload_n 0, 1) := dck_get daX5_statement_t2 13 rfl
theorem dX5_statement_95 : decode cX5_statement 95 = .ok (.iload_n 2, 1) := dck_get daX5_statement_t2 14 rfl
theorem dX5_statement_96 : decode cX5_statement 96 = .ok (.iconst 1, 1) := dck_get daX5_statement_t2 15 rfl
theorem dX5_statement_97 : decode cX5_statement 97 = .ok (.iadd, 1) := dck_get daX5_statement_t2 16 rfl
theorem dX5_statement_98 : decode cX5_statement 98 = .ok (.iconst 1, 1) := dck_get daX5_statement_t2 17 rfl
theorem dX5_statement_99 : decode cX5_statement 99 = .ok (.invokevirtual 90, 3) := dck_get daX5_statement_t2 18 rfl
theorem dX5_statement_102 : decode cX5_statement 102 = .ok (.ifCond .eq 7, 3) := dck_get daX5_statement_t2 19 rfl
def dtX5_statement_t3 : List (Nat × Instr × Nat) := [(105, .iconst 1, 1), (106, .goto 11, 3), (109, .iconst 0, 1), (110, .goto 7, 3), (113, .aload_n 0, 1), (114, .invokevirtual 101, 3), (117, .istore_n 3, 1), (118, .iload_n 3, 1), (119, .ifCond .eq 12, 3), (122, .aload_n 0, 1), (123, .invokevirtual 75, 3), (126, .bipush 59, 2), (128, .if_icmp .eq 5, 3), (131, .iconst 0, 1), (132, .ireturn, 1), (133, .aload_n 0, 1), (134, .dup, 1), (135, .getfield 72, 3), (138, .iconst 1, 1), (139, .iadd, 1)]
theorem daX5_statement_t3 : dtX5_statement_t3.all (dck cX5_statement) = true := by decide +kernel
theorem dX5_statement_105 : decode cX5_statement 105 = .ok (.iconst 1, 1) := dck_get daX5_statement_t3 0 rfl
theorem dX5_statement_106 : decode cX5_statement 106 = .ok (.goto 11, 3) := dck_get daX5_statement_t3 1 rfl
theorem dX5_statement_109 : decode cX5_statement 109 = .ok (.iconst 0, 1) := dck_get daX5_statement_t3 2 rfl
theorem dX5_statement_110 : decode cX5_statement 110 = .ok (.goto 7, 3) := dck_get daX5_statement_t3 3 rfl
theorem dX5_statement_113 : decode cX5_statement 113 = .ok (.aload_n 0, 1) := dck_get daX5_statement_t3 4 rfl
theorem dX5_statement_114 : decode cX5_statement 114 = .ok (.invokevirtual 101, 3) := dck_get daX5_statement_t3 5 rfl
theorem dX5_statement_117 : decode cX5_statement 117 = .ok (.istore_n 3, 1) := dck_get daX5_statement_t3 6 rfl
theorem dX5_statement_118 : decode cX5_statement 118 = .ok (.iload_n 3, 1) := dck_get daX5_statement_t3 7 rfl
theorem dX5_statement_119 : decode cX5_statement 119 = .ok (.ifCond .eq 12, 3) := dck_get daX5_statement_t3 8 rfl
theorem dX5_statement_122 : decode cX5_statement 122 = .ok (.aload_n 0, 1) := dck_get daX5_statement_t3 9 rfl
theorem dX5_statement_123 : decode cX5_statement 123 = .ok (.invokevirtual 75, 3) := dck_get daX5_statement_t3 10 rfl
theorem dX5_statement_126 : decode cX5_statement 126 = .ok (.bipush 59, 2) := dck_get daX5_statement_t3 11 rfl
theorem dX5_statement_128 : decode cX5_statement 128 = .ok (.if_icmp .eq 5, 3) := dck_get daX5_statement_t3 12 rfl
theorem dX5_statement_131 : decode cX5_statement 131 = .ok (.iconst 0, 1) := dck_get daX5_statement_t3 13 rfl
theorem dX5_statement_132 : decode cX5_statement 132 = .ok (.ireturn, 1) := dck_get daX5_statement_t3 14 rfl
theorem dX5_statement_133 : decode cX5_statement 133 = .ok (.aload_n 0, 1) := dck_get daX5_statement_t3 15 rfl
theorem dX5_statement_134 : decode cX5_statement 134 = .ok (.dup, 1) := dck_get daX5_statement_t3 16 rfl
theorem dX5_statement_135 : decode cX5_statement 135 = .ok (.getfield 72, 3) := dck_get daX5_statement_t3 17 rfl
theorem dX5_statement_138 : decode cX5_statement 138 = .ok (.iconst 1, 1) := dck_get daX5_statement_t3 18 rfl
theorem dX5_statement_139 : decode cX5_statement 139 = .ok (.iadd, 1) := dck_get daX5_statement_t3 19 rfl
def dtX5_statement_t4 : List (Nat × Instr × Nat) := [(140, .putfield 72, 3), (143, .iconst 1, 1), (144, .ireturn, 1)]
theorem daX5_statement_t4 : dtX5_statement_t4.all (dck cX5_statement) = true := by decide +kernel
theorem dX5_statement_140 : decode cX5_statement 140 = .ok (.putfield 72, 3) := dck_get daX5_statement_t4 0 rfl
theorem dX5_statement_143 : decode cX5_statement 143 = .ok (.iconst 1, 1) := dck_get daX5_statement_t4 1 rfl
theorem dX5_statement_144 : decode cX5_statement 144 = .ok (.ireturn, 1) := dck_get daX5_statement_t4 2 rfl
set_option maxRecDepth 20000 in
theorem gw_wsX5_isAlive : wsX5_isAlive.all goodWord = true := by decide +kernel
set_option maxRecDepth 20000 in
theorem ggX5_comesYear_X5_isAlive : GoodIn wsX5_comesYear wsX5_isAlive := goodIn_sub (List.forall_mem_cons.mpr ⟨(List.mem_of_getElem? (i := 9) rfl), (List.forall_mem_append.mpr ⟨(List.forall_mem_cons.mpr ⟨(List.mem_of_getElem? (i := 10) rfl), (List.forall_mem_cons.mpr ⟨(List.mem_of_getElem? (i := 11) rfl), (fun _ h => absurd h List.not_mem_nil)⟩)⟩), (fun _ h => (List.mem_cons_of_mem _ (List.mem_append_right _ h)))⟩)⟩) gw_wsX5_isAlive
set_option maxRecDepth 20000 in
theorem gX5_comesYear_X5_isAlive : GoodIn wsX5_comesYear (wsV RX5 104 RX5 yX5_isAlive wsX5_isAlive) := goodIn_app (goodIn_sub (List.forall_mem_cons.mpr ⟨(List.mem_of_getElem? (i := 5) rfl), (List.forall_mem_cons.mpr ⟨(List.mem_of_getElem? (i := 6) rfl), (List.forall_mem_cons.mpr ⟨(List.mem_of_getElem? (i := 7) rfl), (List.forall_mem_cons.mpr ⟨(List.mem_of_getElem? (i := 8) rfl), (fun _ h => absurd h List.not_mem_nil)⟩)⟩)⟩)⟩) (by decide +kernel)) ggX5_comesYear_X5_isAlive
set_option maxRecDepth 20000 in
theorem gw_wsX5_goesYear : wsX5_goesYear.all goodWord = true := by decide +kernel
set_option maxRecDepth 20000 in
theorem ggX5_comesYear_X5_goesYear : GoodIn wsX5_comesYear wsX5_goesYear := goodIn_sub (List.forall_mem_cons.mpr ⟨(List.mem_of_getElem? (i := 15) rfl), (List.forall_mem_append.mpr ⟨(List.forall_mem_cons.mpr ⟨(List.mem_of_getElem? (i := 10) rfl), (List.forall_mem_cons.mpr ⟨(List.mem_of_getElem? (i := 16) rfl), (List.forall_mem_cons.mpr ⟨(List.mem_of_getElem? (i := 11) rfl), (List.forall_mem_cons.mpr ⟨(List.mem_of_getElem? (i := 17) rfl), (List.forall_mem_cons.mpr ⟨(List.mem_of_getElem? (i := 4) rfl), (List.forall_mem_cons.mpr ⟨(List.mem_of_getElem? (i := 18) rfl), (List.forall_mem_cons.mpr ⟨(List.mem_of_getElem? (i := 19) rfl), (List.forall_mem_cons.mpr ⟨(List.mem_of_getElem? (i := 20) rfl), (List.forall_mem_cons.mpr ⟨(List.mem_of_getElem? (i := 8) rfl), (List.forall_mem_cons.mpr ⟨(List.mem_of_getElem? (i := 21) rfl), (List.forall_mem_cons.mpr ⟨(List.mem_of_getElem? (i := 22) rfl), (List.forall_mem_cons.mpr ⟨(List.mem_of_getElem? (i := 23) rfl), (List.forall_mem_cons.mpr ⟨(List.mem_of_getElem? (i := 24) rfl), (List.forall_mem_cons.mpr ⟨(List.mem_of_getElem? (i := 25) rfl), (fun _ h => absurd h List.not_mem_nil)⟩)⟩)⟩)⟩)⟩)⟩)⟩)⟩)⟩)⟩)⟩)⟩)⟩)⟩), (fun _ h => (List.mem_cons_of_mem _ (List.mem_append_right _ h)))⟩)⟩) gw_wsX5_goesYear
set_option maxRecDepth 20000 in
theorem gX5_comesYear_X5_goesYear : GoodIn wsX5_comesYear (wsV RX5 110 RX5 yX5_goesYear wsX5_goesYear) := goodIn_app (goodIn_sub (List.forall_mem_cons.mpr ⟨(List.mem_of_getElem? (i := 12) rfl), (List.forall_mem_cons.mpr ⟨(List.mem_of_getElem? (i := 13) rfl), (List.forall_mem_cons.mpr ⟨(List.mem_of_getElem? (i := 14) rfl), (List.forall_mem_cons.mpr ⟨(List.mem_of_getElem? (i := 8) rfl), (fun _ h => absurd h List.not_mem_nil)⟩)⟩)⟩)⟩) (by decide +kernel)) ggX5_comesYear_X5_goesYear
def dtX5_comesYear_t0 : List (Nat × Instr × Nat) := [(0, .iconst 0, 1), (1, .istore_n 2, 1), (2, .aload_n 0, 1), (3, .getfield 40, 3), (6, .iload_n 1, 1), (7, .iaload, 1), (8, .istore_n 3, 1), (9, .iload_n 3, 1), (10, .aload_n 0, 1), (11, .getfield 43, 3), (14, .iload_n 1, 1), (15, .iaload, 1), (16, .if_icmp .ge 48, 3), (19, .aload_n 0, 1), (20, .getfield 28, 3), (23, .iload_n 3, 1), (24, .iaload, 1), (25, .bipush 48, 2), (27, .isub, 1), (28, .istore 4, 2)]
theorem daX5_comesYear_t0 : dtX5_comesYear_t0.all (dck cX5_comesYear) = true := by decide +kernel
theorem dX5_comesYear_0 : decode cX5_comesYear 0 = .ok (.iconst 0, 1) := dck_get daX5_comesYear_t0 0 rfl
