theorem dX3_wishTold_15 : decode cX3_wishTold 15 = .ok (.aload_n 0, 1) := dck_get daX3_wishTold_t0 8 rfl
theorem dX3_wishTold_16 : decode cX3_wishTold 16 = .ok (.getfield 24, 3) := dck_get daX3_wishTold_t0 9 rfl
theorem dX3_wishTold_19 : decode cX3_wishTold 19 = .ok (.iload_n 1, 1) := dck_get daX3_wishTold_t0 10 rfl
theorem dX3_wishTold_20 : decode cX3_wishTold 20 = .ok (.iaload, 1) := dck_get daX3_wishTold_t0 11 rfl
theorem dX3_wishTold_21 : decode cX3_wishTold 21 = .ok (.ireturn, 1) := dck_get daX3_wishTold_t0 12 rfl
set_option maxRecDepth 20000 in
theorem gw_wsX3_ageAfter : wsX3_ageAfter.all goodWord = true := by decide +kernel
set_option maxRecDepth 20000 in
theorem ggX3_chanceAfter_X3_ageAfter : GoodIn wsX3_chanceAfter wsX3_ageAfter := goodIn_sub (List.forall_mem_cons.mpr ⟨(List.mem_of_getElem? (i := 6) rfl), (List.forall_mem_append.mpr ⟨(List.forall_mem_cons.mpr ⟨(List.mem_of_getElem? (i := 7) rfl), (List.forall_mem_cons.mpr ⟨(List.mem_of_getElem? (i := 8) rfl), (List.forall_mem_cons.mpr ⟨(List.mem_of_getElem? (i := 9) rfl), (List.forall_mem_cons.mpr ⟨(List.mem_of_getElem? (i := 10) rfl), (List.forall_mem_cons.mpr ⟨(List.mem_of_getElem? (i := 11) rfl), (fun _ h => absurd h List.not_mem_nil)⟩)⟩)⟩)⟩)⟩), (fun _ h => (List.mem_cons_of_mem _ (List.mem_append_right _ h)))⟩)⟩) gw_wsX3_ageAfter
set_option maxRecDepth 20000 in
theorem gX3_chanceAfter_X3_ageAfter : GoodIn wsX3_chanceAfter (wsV RX3 56 RX3 yX3_ageAfter wsX3_ageAfter) := goodIn_app (goodIn_sub (List.forall_mem_cons.mpr ⟨(List.mem_of_getElem? (i := 2) rfl), (List.forall_mem_cons.mpr ⟨(List.mem_of_getElem? (i := 3) rfl), (List.forall_mem_cons.mpr ⟨(List.mem_of_getElem? (i := 4) rfl), (List.forall_mem_cons.mpr ⟨(List.mem_of_getElem? (i := 5) rfl), (fun _ h => absurd h List.not_mem_nil)⟩)⟩)⟩)⟩) (by decide +kernel)) ggX3_chanceAfter_X3_ageAfter
set_option maxRecDepth 20000 in
theorem gw_wsX0_chance : wsX0_chance.all goodWord = true := by decide +kernel
set_option maxRecDepth 20000 in
theorem ggX3_chanceAfter_X0_chance : GoodIn wsX3_chanceAfter wsX0_chance := goodIn_sub (List.forall_mem_cons.mpr ⟨(List.mem_of_getElem? (i := 15) rfl), (List.forall_mem_cons.mpr ⟨(List.mem_of_getElem? (i := 16) rfl), (List.forall_mem_cons.mpr ⟨(List.mem_of_getElem? (i := 17) rfl), (List.forall_mem_cons.mpr ⟨(List.mem_of_getElem? (i := 10) rfl), (List.forall_mem_cons.mpr ⟨(List.mem_of_getElem? (i := 18) rfl), (List.forall_mem_cons.mpr ⟨(List.mem_of_getElem? (i := 19) rfl), (List.forall_mem_cons.mpr ⟨(List.mem_of_getElem? (i := 20) rfl), (List.forall_mem_cons.mpr ⟨(List.mem_of_getElem? (i := 14) rfl), (List.forall_mem_cons.mpr ⟨(List.mem_of_getElem? (i := 21) rfl), (List.forall_mem_cons.mpr ⟨(List.mem_of_getElem? (i := 22) rfl), (List.forall_mem_cons.mpr ⟨(List.mem_of_getElem? (i := 23) rfl), (List.forall_mem_cons.mpr ⟨(List.mem_of_getElem? (i := 24) rfl), (List.forall_mem_cons.mpr ⟨(List.mem_of_getElem? (i := 25) rfl), (List.forall_mem_cons.mpr ⟨(List.mem_of_getElem? (i := 9) rfl), (List.forall_mem_cons.mpr ⟨(List.mem_of_getElem? (i := 11) rfl), (fun _ h => absurd h List.not_mem_nil)⟩)⟩)⟩)⟩)⟩)⟩)⟩)⟩)⟩)⟩)⟩)⟩)⟩)⟩)⟩) gw_wsX0_chance
set_option maxRecDepth 20000 in
theorem gX3_chanceAfter_X0_chance : GoodIn wsX3_chanceAfter (va_wsS RX3 59 yX0_chance wsX0_chance) := goodIn_app (goodIn_sub (List.forall_mem_cons.mpr ⟨(List.mem_of_getElem? (i := 12) rfl), (List.forall_mem_cons.mpr ⟨(List.mem_of_getElem? (i := 13) rfl), (List.forall_mem_cons.mpr ⟨(List.mem_of_getElem? (i := 14) rfl), (fun _ h => absurd h List.not_mem_nil)⟩)⟩)⟩) (by decide +kernel)) ggX3_chanceAfter_X0_chance
def dtX3_chanceAfter_t0 : List (Nat × Instr × Nat) := [(0, .aload_n 0, 1), (1, .getfield 9, 3), (4, .iload_n 1, 1), (5, .iaload, 1), (6, .aload_n 0, 1), (7, .iload_n 1, 1), (8, .iload_n 2, 1), (9, .invokevirtual 56, 3), (12, .invokestatic 59, 3), (15, .ireturn, 1)]
theorem daX3_chanceAfter_t0 : dtX3_chanceAfter_t0.all (dck cX3_chanceAfter) = true := by decide +kernel
theorem dX3_chanceAfter_0 : decode cX3_chanceAfter 0 = .ok (.aload_n 0, 1) := dck_get daX3_chanceAfter_t0 0 rfl
theorem dX3_chanceAfter_1 : decode cX3_chanceAfter 1 = .ok (.getfield 9, 3) := dck_get daX3_chanceAfter_t0 1 rfl
theorem dX3_chanceAfter_4 : decode cX3_chanceAfter 4 = .ok (.iload_n 1, 1) := dck_get daX3_chanceAfter_t0 2 rfl
theorem dX3_chanceAfter_5 : decode cX3_chanceAfter 5 = .ok (.iaload, 1) := dck_get daX3_chanceAfter_t0 3 rfl
theorem dX3_chanceAfter_6 : decode cX3_chanceAfter 6 = .ok (.aload_n 0, 1) := dck_get daX3_chanceAfter_t0 4 rfl
theorem dX3_chanceAfter_7 : decode cX3_chanceAfter 7 = .ok (.iload_n 1, 1) := dck_get daX3_chanceAfter_t0 5 rfl
theorem dX3_chanceAfter_8 : decode cX3_chanceAfter 8 = .ok (.iload_n 2, 1) := dck_get daX3_chanceAfter_t0 6 rfl
theorem dX3_chanceAfter_9 : decode cX3_chanceAfter 9 = .ok (.invokevirtual 56, 3) := dck_get daX3_chanceAfter_t0 7 rfl
theorem dX3_chanceAfter_12 : decode cX3_chanceAfter 12 = .ok (.invokestatic 59, 3) := dck_get daX3_chanceAfter_t0 8 rfl
theorem dX3_chanceAfter_15 : decode cX3_chanceAfter 15 = .ok (.ireturn, 1) := dck_get daX3_chanceAfter_t0 9 rfl
set_option maxRecDepth 20000 in
theorem ggX3_climbAfter_X3_ageAfter : GoodIn wsX3_climbAfter wsX3_ageAfter := goodIn_sub (List.forall_mem_cons.mpr ⟨(List.mem_of_getElem? (i := 6) rfl), (List.forall_mem_append.mpr ⟨(List.forall_mem_cons.mpr ⟨(List.mem_of_getElem? (i := 7) rfl), (List.forall_mem_cons.mpr ⟨(List.mem_of_getElem? (i := 8) rfl), (List.forall_mem_cons.mpr ⟨(List.mem_of_getElem? (i := 9) rfl), (List.forall_mem_cons.mpr ⟨(List.mem_of_getElem? (i := 10) rfl), (List.forall_mem_cons.mpr ⟨(List.mem_of_getElem? (i := 11) rfl), (fun _ h => absurd h List.not_mem_nil)⟩)⟩)⟩)⟩)⟩), (fun _ h => (List.mem_cons_of_mem _ (List.mem_append_right _ h)))⟩)⟩) gw_wsX3_ageAfter
set_option maxRecDepth 20000 in
theorem gX3_climbAfter_X3_ageAfter : GoodIn wsX3_climbAfter (wsV RX3 56 RX3 yX3_ageAfter wsX3_ageAfter) := goodIn_app (goodIn_sub (List.forall_mem_cons.mpr ⟨(List.mem_of_getElem? (i := 2) rfl), (List.forall_mem_cons.mpr ⟨(List.mem_of_getElem? (i := 3) rfl), (List.forall_mem_cons.mpr ⟨(List.mem_of_getElem? (i := 4) rfl), (List.forall_mem_cons.mpr ⟨(List.mem_of_getElem? (i := 5) rfl), (fun _ h => absurd h List.not_mem_nil)⟩)⟩)⟩)⟩) (by decide +kernel)) ggX3_climbAfter_X3_ageAfter
set_option maxRecDepth 20000 in
theorem gw_wsX0_climb : wsX0_climb.all goodWord = true := by decide +kernel
set_option maxRecDepth 20000 in
theorem ggX3_climbAfter_X0_climb : GoodIn wsX3_climbAfter wsX0_climb := goodIn_sub (List.forall_mem_cons.mpr ⟨(List.mem_of_getElem? (i := 15) rfl), (List.forall_mem_cons.mpr ⟨(List.mem_of_getElem? (i := 16) rfl), (List.forall_mem_cons.mpr ⟨(List.mem_of_getElem? (i := 9) rfl), (List.forall_mem_cons.mpr ⟨(List.mem_of_getElem? (i := 10) rfl), (List.forall_mem_cons.mpr ⟨(List.mem_of_getElem? (i := 11) rfl), (fun _ h => absurd h List.not_mem_nil)⟩)⟩)⟩)⟩)⟩) gw_wsX0_climb
set_option maxRecDepth 20000 in
theorem gX3_climbAfter_X0_climb : GoodIn wsX3_climbAfter (va_wsS RX3 62 yX0_climb wsX0_climb) := goodIn_app (goodIn_sub (List.forall_mem_cons.mpr ⟨(List.mem_of_getElem? (i := 12) rfl), (List.forall_mem_cons.mpr ⟨(List.mem_of_getElem? (i := 13) rfl), (List.forall_mem_cons.mpr ⟨(List.mem_of_getElem? (i := 14) rfl), (fun _ h => absurd h List.not_mem_nil)⟩)⟩)⟩) (by decide +kernel)) ggX3_climbAfter_X0_climb
def dtX3_climbAfter_t0 : List (Nat × Instr × Nat) := [(0, .aload_n 0, 1), (1, .getfield 9, 3), (4, .iload_n 1, 1), (5, .iaload, 1), (6, .aload_n 0, 1), (7, .iload_n 1, 1), (8, .iload_n 2, 1), (9, .invokevirtual 56, 3), (12, .invokestatic 62, 3), (15, .ireturn, 1)]
theorem daX3_climbAfter_t0 : dtX3_climbAfter_t0.all (dck cX3_climbAfter) = true := by decide +kernel
theorem dX3_climbAfter_0 : decode cX3_climbAfter 0 = .ok (.aload_n 0, 1) := dck_get daX3_climbAfter_t0 0 rfl
theorem dX3_climbAfter_1 : decode cX3_climbAfter 1 = .ok (.getfield 9, 3) := dck_get daX3_climbAfter_t0 1 rfl
theorem dX3_climbAfter_4 : decode cX3_climbAfter 4 = .ok (.iload_n 1, 1) := dck_get daX3_climbAfter_t0 2 rfl
theorem dX3_climbAfter_5 : decode cX3_climbAfter 5 = .ok (.iaload, 1) := dck_get daX3_climbAfter_t0 3 rfl
theorem dX3_climbAfter_6 : decode cX3_climbAfter 6 = .ok (.aload_n 0, 1) := dck_get daX3_climbAfter_t0 4 rfl
theorem dX3_climbAfter_7 : decode cX3_climbAfter 7 = .ok (.iload_n 1, 1) := dck_get daX3_climbAfter_t0 5 rfl
theorem dX3_climbAfter_8 : decode cX3_climbAfter 8 = .ok (.iload_n 2, 1) := dck_get daX3_climbAfter_t0 6 rfl
theorem dX3_climbAfter_9 : decode cX3_climbAfter 9 = .ok (.invokevirtual 56, 3) := dck_get daX3_climbAfter_t0 7 rfl
theorem dX3_climbAfter_12 : decode cX3_climbAfter 12 = .ok (.invokestatic 62, 3) := dck_get daX3_climbAfter_t0 8 rfl
theorem dX3_climbAfter_15 : decode cX3_climbAfter 15 = .ok (.ireturn, 1) := dck_get daX3_climbAfter_t0 9 rfl
set_option maxRecDepth 20000 in
theorem gw_wsX3_climbAfter : wsX3_climbAfter.all goodWord = true := by decide +kernel
set_option maxRecDepth 20000 in
theorem ggX3_isOutOfReach_X3_climbAfter : GoodIn wsX3_isOutOfReach wsX3_climbAfter := goodIn_sub (List.forall_mem_cons.mpr ⟨(List.mem_of_getElem? (i := 6) rfl), (List.forall_mem_append.mpr ⟨(List.forall_mem_cons.mpr ⟨(List.mem_of_getElem? (i := 7) rfl), (List.forall_mem_cons.mpr ⟨(List.mem_of_getElem? (i := 8) rfl), (List.forall_mem_cons.mpr ⟨(List.mem_of_getElem? (i := 9) rfl), (List.forall_mem_cons.mpr ⟨(List.mem_of_getElem? (i := 10) rfl), (List.forall_mem_cons.mpr ⟨(List.mem_of_getElem? (i := 5) rfl), (List.forall_mem_cons.mpr ⟨(List.mem_of_getElem? (i := 11) rfl), (List.forall_mem_cons.mpr ⟨(List.mem_of_getElem? (i := 12) rfl), (List.forall_mem_cons.mpr ⟨(List.mem_of_getElem? (i := 13) rfl), (List.forall_mem_cons.mpr ⟨(List.mem_of_getElem? (i := 14) rfl), (List.forall_mem_cons.mpr ⟨(List.mem_of_getElem? (i := 15) rfl), (List.forall_mem_cons.mpr ⟨(List.mem_of_getElem? (i := 16) rfl), (List.forall_mem_cons.mpr ⟨(List.mem_of_getElem? (i := 17) rfl), (List.forall_mem_cons.mpr ⟨(List.mem_of_getElem? (i := 18) rfl), (List.forall_mem_cons.mpr ⟨(List.mem_of_getElem? (i := 19) rfl), (List.forall_mem_cons.mpr ⟨(List.mem_of_getElem? (i := 20) rfl), (List.forall_mem_cons.mpr ⟨(List.mem_of_getElem? (i := 21) rfl), (fun _ h => absurd h List.not_mem_nil)⟩)⟩)⟩)⟩)⟩)⟩)⟩)⟩)⟩)⟩)⟩)⟩)⟩)⟩)⟩)⟩), (fun _ h => (List.mem_cons_of_mem _ (List.mem_append_right _ h)))⟩)⟩) gw_wsX3_climbAfter
set_option maxRecDepth 20000 in
theorem gX3_isOutOfReach_X3_climbAfter : GoodIn wsX3_isOutOfReach (wsV RX3 65 RX3 yX3_climbAfter wsX3_climbAfter) := goodIn_app (goodIn_sub (List.forall_mem_cons.mpr ⟨(List.mem_of_getElem? (i := 2) rfl), (List.forall_mem_cons.mpr ⟨(List.mem_of_getElem? (i := 3) rfl), (List.forall_mem_cons.mpr ⟨(List.mem_of_getElem? (i := 4) rfl), (List.forall_mem_cons.mpr ⟨(List.mem_of_getElem? (i := 5) rfl), (fun _ h => absurd h List.not_mem_nil)⟩)⟩)⟩)⟩) (by decide +kernel)) ggX3_isOutOfReach_X3_climbAfter
def dtX3_isOutOfReach_t0 : List (Nat × Instr × Nat) := [(0, .aload_n 0, 1), (1, .getfield 18, 3), (4, .iload_n 1, 1), (5, .iaload, 1), (6, .aload_n 0, 1), (7, .iload_n 1, 1), (8, .iload_n 2, 1), (9, .invokevirtual 65, 3), (12, .if_icmp .le 7, 3), (15, .iconst 1, 1), (16, .goto 4, 3), (19, .iconst 0, 1), (20, .ireturn, 1)]
theorem daX3_isOutOfReach_t0 : dtX3_isOutOfReach_t0.all (dck cX3_isOutOfReach) = true := by decide +kernel
theorem dX3_isOutOfReach_0 : decode cX3_isOutOfReach 0 = .ok (.aload_n 0, 1) := dck_get daX3_isOutOfReach_t0 0 rfl
theorem dX3_isOutOfReach_1 : decode cX3_isOutOfReach 1 = .ok (.getfield 18, 3) := dck_get daX3_isOutOfReach_t0 1 rfl
theorem dX3_isOutOfReach_4 : decode cX3_isOutOfReach 4 = .ok (.iload_n 1, 1) := dck_get daX3_isOutOfReach_t0 2 rfl
theorem dX3_isOutOfReach_5 : decode cX3_isOutOfReach 5 = .ok (.iaload, 1) := dck_get daX3_isOutOfReach_t0 3 rfl
theorem dX3_isOutOfReach_6 : decode cX3_isOutOfReach 6 = .ok (.aload_n 0, 1) := dck_get daX3_isOutOfReach_t0 4 rfl
theorem dX3_isOutOfReach_7 : decode cX3_isOutOfReach 7 = .ok (.iload_n 1, 1) := dck_get daX3_isOutOfReach_t0 5 rfl
theorem dX3_isOutOfReach_8 : decode cX3_isOutOfReach 8 = .ok (.iload_n 2, 1) := dck_get daX3_isOutOfReach_t0 6 rfl
theorem dX3_isOutOfReach_9 : decode cX3_isOutOfReach 9 = .ok (.invokevirtual 65, 3) := dck_get daX3_isOutOfReach_t0 7 rfl
theorem dX3_isOutOfReach_12 : decode cX3_isOutOfReach 12 = .ok (.if_icmp .le 7, 3) := dck_get daX3_isOutOfReach_t0 8 rfl
theorem dX3_isOutOfReach_15 : decode cX3_isOutOfReach 15 = .ok (.iconst 1, 1) := dck_get daX3_isOutOfReach_t0 9 rfl
theorem dX3_isOutOfReach_16 : decode cX3_isOutOfReach 16 = .ok (.goto 4, 3) := dck_get daX3_isOutOfReach_t0 10 rfl
theorem dX3_isOutOfReach_19 : decode cX3_isOutOfReach 19 = .ok (.iconst 0, 1) := dck_get daX3_isOutOfReach_t0 11 rfl
theorem dX3_isOutOfReach_20 : decode cX3_isOutOfReach 20 = .ok (.ireturn, 1) := dck_get daX3_isOutOfReach_t0 12 rfl
def dtX3_staysDown_t0 : List (Nat × Instr × Nat) := [(0, .aload_n 0, 1), (1, .getfield 9, 3), (4, .iload_n 1, 1), (5, .iaload, 1), (6, .iconst 3, 1), (7, .if_icmp .ne 16, 3), (10, .aload_n 0, 1), (11, .getfield 18, 3), (14, .iload_n 1, 1), (15, .iaload, 1), (16, .ifCond .ne 7, 3), (19, .iconst 1, 1), (20, .goto 4, 3), (23, .iconst 0, 1), (24, .ireturn, 1)]
theorem daX3_staysDown_t0 : dtX3_staysDown_t0.all (dck cX3_staysDown) = true := by decide +kernel
theorem dX3_staysDown_0 : decode cX3_staysDown 0 = .ok (.aload_n 0, 1) := dck_get daX3_staysDown_t0 0 rfl
theorem dX3_staysDown_1 : decode cX3_staysDown 1 = .ok (.getfield 9, 3) := dck_get daX3_staysDown_t0 1 rfl
theorem dX3_staysDown_4 : decode cX3_staysDown 4 = .ok (.iload_n 1, 1) := dck_get daX3_staysDown_t0 2 rfl
theorem dX3_staysDown_5 : decode cX3_staysDown 5 = .ok (.iaload, 1) := dck_get daX3_staysDown_t0 3 rfl
theorem dX3_staysDown_6 : decode cX3_staysDown 6 = .ok (.iconst 3, 1) := dck_get daX3_staysDown_t0 4 rfl
theorem dX3_staysDown_7 : decode cX3_staysDown 7 = .ok (.if_icmp .ne 16, 3) := dck_get daX3_staysDown_t0 5 rfl
theorem dX3_staysDown_10 : decode cX3_staysDown 10 = .ok (.aload_n 0, 1) := dck_get daX3_staysDown_t0 6 rfl
theorem dX3_staysDown_11 : decode cX3_staysDown 11 = .ok (.getfield 18, 3) := dck_get daX3_staysDown_t0 7 rfl
theorem dX3_staysDown_14 : decode cX3_staysDown 14 = .ok (.iload_n 1, 1) := dck_get daX3_staysDown_t0 8 rfl
theorem dX3_staysDown_15 : decode cX3_staysDown 15 = .ok (.iaload, 1) := dck_get daX3_staysDown_t0 9 rfl
theorem dX3_staysDown_16 : decode cX3_staysDown 16 = .ok (.ifCond .ne 7, 3) := dck_get daX3_staysDown_t0 10 rfl
theorem dX3_staysDown_19 : decode cX3_staysDown 19 = .ok (.iconst 1, 1) := dck_get daX3_staysDown_t0 11 rfl
theorem dX3_staysDown_20 : decode cX3_staysDown 20 = .ok (.goto 4, 3) := dck_get daX3_staysDown_t0 12 rfl
theorem dX3_staysDown_23 : decode cX3_staysDown 23 = .ok (.iconst 0, 1) := dck_get daX3_staysDown_t0 13 rfl
theorem dX3_staysDown_24 : decode cX3_staysDown 24 = .ok (.ireturn, 1) := dck_get daX3_staysDown_t0 14 rfl
set_option maxRecDepth 20000 in
theorem ggX3_floorsOf_X3_holds : GoodIn wsX3_floorsOf wsX3_holds := goodIn_sub (List.forall_mem_cons.mpr ⟨(List.mem_of_getElem? (i := 5) rfl), (fun _ h => absurd h List.not_mem_nil)⟩) gw_wsX3_holds
set_option maxRecDepth 20000 in
theorem gX3_floorsOf_X3_holds : GoodIn wsX3_floorsOf (va_wsS RX3 68 yX3_holds wsX3_holds) := goodIn_app (goodIn_sub (List.forall_mem_cons.mpr ⟨(List.mem_of_getElem? (i := 2) rfl), (List.forall_mem_cons.mpr ⟨(List.mem_of_getElem? (i := 3) rfl), (List.forall_mem_cons.mpr ⟨(List.mem_of_getElem? (i := 4) rfl), (fun _ h => absurd h List.not_mem_nil)⟩)⟩)⟩) (by decide +kernel)) ggX3_floorsOf_X3_holds
def dtX3_floorsOf_t0 : List (Nat × Instr × Nat) := [(0, .iconst 0, 1), (1, .istore_n 2, 1), (2, .iconst 0, 1), (3, .istore_n 3, 1), (4, .iload_n 3, 1), (5, .bipush 8, 2), (7, .if_icmp .ge 28, 3), (10, .iload_n 1, 1), (11, .iload_n 3, 1), (12, .invokestatic 68, 3), (15, .ifCond .eq 14, 3), (18, .iload_n 2, 1), (19, .iconst 1, 1), (20, .aload_n 0, 1), (21, .getfield 18, 3), (24, .iload_n 3, 1), (25, .iaload, 1), (26, .ishl, 1), (27, .ior, 1), (28, .istore_n 2, 1)]
theorem daX3_floorsOf_t0 : dtX3_floorsOf_t0.all (dck cX3_floorsOf) = true := by decide +kernel
theorem dX3_floorsOf_0 : decode cX3_floorsOf 0 = .ok (.iconst 0, 1) := dck_get daX3_floorsOf_t0 0 rfl
theorem dX3_floorsOf_1 : decode cX3_floorsOf 1 = .ok (.istore_n 2, 1) := dck_get daX3_floorsOf_t0 1 rfl
theorem dX3_floorsOf_2 : decode cX3_floorsOf 2 = .ok (.iconst 0, 1) := dck_get daX3_floorsOf_t0 2 rfl
theorem dX3_floorsOf_3 : decode cX3_floorsOf 3 = .ok (.istore_n 3, 1) := dck_get daX3_floorsOf_t0 3 rfl
theorem dX3_floorsOf_4 : decode cX3_floorsOf 4 = .ok (.iload_n 3, 1) := dck_get daX3_floorsOf_t0 4 rfl
theorem dX3_floorsOf_5 : decode cX3_floorsOf 5 = .ok (.bipush 8, 2) := dck_get daX3_floorsOf_t0 5 rfl
theorem dX3_floorsOf_7 : decode cX3_floorsOf 7 = .ok (.if_icmp .ge 28, 3) := dck_get daX3_floorsOf_t0 6 rfl
theorem dX3_floorsOf_10 : decode cX3_floorsOf 10 = .ok (.iload_n 1, 1) := dck_get daX3_floorsOf_t0 7 rfl
theorem dX3_floorsOf_11 : decode cX3_floorsOf 11 = .ok (.iload_n 3, 1) := dck_get daX3_floorsOf_t0 8 rfl
theorem dX3_floorsOf_12 : decode cX3_floorsOf 12 = .ok (.invokestatic 68, 3) := dck_get daX3_floorsOf_t0 9 rfl
theorem dX3_floorsOf_15 : decode cX3_floorsOf 15 = .ok (.ifCond .eq 14, 3) := dck_get daX3_floorsOf_t0 10 rfl
theorem dX3_floorsOf_18 : decode cX3_floorsOf 18 = .ok (.iload_n 2, 1) := dck_get daX3_floorsOf_t0 11 rfl
theorem dX3_floorsOf_19 : decode cX3_floorsOf 19 = .ok (.iconst 1, 1) := dck_get daX3_floorsOf_t0 12 rfl
theorem dX3_floorsOf_20 : decode cX3_floorsOf 20 = .ok (.aload_n 0, 1) := dck_get daX3_floorsOf_t0 13 rfl
theorem dX3_floorsOf_21 : decode cX3_floorsOf 21 = .ok (.getfield 18, 3) := dck_get daX3_floorsOf_t0 14 rfl
theorem dX3_floorsOf_24 : decode cX3_floorsOf 24 = .ok (.iload_n 3, 1) := dck_get daX3_floorsOf_t0 15 rfl
theorem dX3_floorsOf_25 : decode cX3_floorsOf 25 = .ok (.iaload, 1) := dck_get daX3_floorsOf_t0 16 rfl
theorem dX3_floorsOf_26 : decode cX3_floorsOf 26 = .ok (.ishl, 1) := dck_get daX3_floorsOf_t0 17 rfl
theorem dX3_floorsOf_27 : decode cX3_floorsOf 27 = .ok (.ior, 1) := dck_get daX3_floorsOf_t0 18 rfl
theorem dX3_floorsOf_28 : decode cX3_floorsOf 28 = .ok (.istore_n 2, 1) := dck_get daX3_floorsOf_t0 19 rfl
def dtX3_floorsOf_t1 : List (Nat × Instr × Nat) := [(29, .iinc 3 1, 3), (32, .goto (-28), 3), (35, .iload_n 2, 1), (36, .ireturn, 1)]
theorem daX3_floorsOf_t1 : dtX3_floorsOf_t1.all (dck cX3_floorsOf) = true := by decide +kernel
theorem dX3_floorsOf_29 : decode cX3_floorsOf 29 = .ok (.iinc 3 1, 3) := dck_get daX3_floorsOf_t1 0 rfl
theorem dX3_floorsOf_32 : decode cX3_floorsOf 32 = .ok (.goto (-28), 3) := dck_get daX3_floorsOf_t1 1 rfl
theorem dX3_floorsOf_35 : decode cX3_floorsOf 35 = .ok (.iload_n 2, 1) := dck_get daX3_floorsOf_t1 2 rfl
theorem dX3_floorsOf_36 : decode cX3_floorsOf 36 = .ok (.ireturn, 1) := dck_get daX3_floorsOf_t1 3 rfl
set_option maxRecDepth 20000 in
theorem ggX3_floorsUp_X3_staysDown : GoodIn wsX3_floorsUp wsX3_staysDown := goodIn_sub (List.forall_mem_cons.mpr ⟨(List.mem_of_getElem? (i := 6) rfl), (List.forall_mem_append.mpr ⟨(List.forall_mem_cons.mpr ⟨(List.mem_of_getElem? (i := 7) rfl), (List.forall_mem_cons.mpr ⟨(List.mem_of_getElem? (i := 1) rfl), (fun _ h => absurd h List.not_mem_nil)⟩)⟩), (fun _ h => (List.mem_cons_of_mem _ (List.mem_append_right _ h)))⟩)⟩) gw_wsX3_staysDown
set_option maxRecDepth 20000 in
theorem gX3_floorsUp_X3_staysDown : GoodIn wsX3_floorsUp (wsV RX3 72 RX3 yX3_staysDown wsX3_staysDown) := goodIn_app (goodIn_sub (List.forall_mem_cons.mpr ⟨(List.mem_of_getElem? (i := 2) rfl), (List.forall_mem_cons.mpr ⟨(List.mem_of_getElem? (i := 3) rfl), (List.forall_mem_cons.mpr ⟨(List.mem_of_getElem? (i := 4) rfl), (List.forall_mem_cons.mpr ⟨(List.mem_of_getElem? (i := 5) rfl), (fun _ h => absurd h List.not_mem_nil)⟩)⟩)⟩)⟩) (by decide +kernel)) ggX3_floorsUp_X3_staysDown
set_option maxRecDepth 20000 in
theorem gw_wsJ6_bitCount_0f7a4 : wsJ6_bitCount_0f7a4.all goodWord = true := by decide +kernel
set_option maxRecDepth 20000 in
theorem ggX3_floorsUp_J6_bitCount_0f7a4 : GoodIn wsX3_floorsUp wsJ6_bitCount_0f7a4 := goodIn_sub (List.forall_mem_cons.mpr ⟨(List.mem_of_getElem? (i := 11) rfl), (List.forall_mem_cons.mpr ⟨(List.mem_of_getElem? (i := 12) rfl), (List.forall_mem_cons.mpr ⟨(List.mem_of_getElem? (i := 13) rfl), (List.forall_mem_cons.mpr ⟨(List.mem_of_getElem? (i := 14) rfl), (fun _ h => absurd h List.not_mem_nil)⟩)⟩)⟩)⟩) gw_wsJ6_bitCount_0f7a4
set_option maxRecDepth 20000 in
theorem gX3_floorsUp_J6_bitCount_0f7a4 : GoodIn wsX3_floorsUp (va_wsS RX3 75 yJ6_bitCount_0f7a4 wsJ6_bitCount_0f7a4) := goodIn_app (goodIn_sub (List.forall_mem_cons.mpr ⟨(List.mem_of_getElem? (i := 8) rfl), (List.forall_mem_cons.mpr ⟨(List.mem_of_getElem? (i := 9) rfl), (List.forall_mem_cons.mpr ⟨(List.mem_of_getElem? (i := 10) rfl), (fun _ h => absurd h List.not_mem_nil)⟩)⟩)⟩) (by decide +kernel)) ggX3_floorsUp_J6_bitCount_0f7a4
def dtX3_floorsUp_t0 : List (Nat × Instr × Nat) := [(0, .aload_n 0, 1), (1, .iload_n 1, 1), (2, .invokevirtual 72, 3), (5, .ifCond .eq 7, 3), (8, .iconst 0, 1), (9, .goto 16, 3), (12, .iload_n 2, 1), (13, .aload_n 0, 1), (14, .getfield 18, 3), (17, .iload_n 1, 1), (18, .iaload, 1), (19, .iconst 1, 1), (20, .iadd, 1), (21, .ishr, 1), (22, .invokestatic 75, 3), (25, .ireturn, 1)]
theorem daX3_floorsUp_t0 : dtX3_floorsUp_t0.all (dck cX3_floorsUp) = true := by decide +kernel
theorem dX3_floorsUp_0 : decode cX3_floorsUp 0 = .ok (.aload_n 0, 1) := dck_get daX3_floorsUp_t0 0 rfl
theorem dX3_floorsUp_1 : decode cX3_floorsUp 1 = .ok (.iload_n 1, 1) := dck_get daX3_floorsUp_t0 1 rfl
theorem dX3_floorsUp_2 : decode cX3_floorsUp 2 = .ok (.invokevirtual 72, 3) := dck_get daX3_floorsUp_t0 2 rfl
theorem dX3_floorsUp_5 : decode cX3_floorsUp 5 = .ok (.ifCond .eq 7, 3) := dck_get daX3_floorsUp_t0 3 rfl
theorem dX3_floorsUp_8 : decode cX3_floorsUp 8 = .ok (.iconst 0, 1) := dck_get daX3_floorsUp_t0 4 rfl
theorem dX3_floorsUp_9 : decode cX3_floorsUp 9 = .ok (.goto 16, 3) := dck_get daX3_floorsUp_t0 5 rfl
theorem dX3_floorsUp_12 : decode cX3_floorsUp 12 = .ok (.iload_n 2, 1) := dck_get daX3_floorsUp_t0 6 rfl
theorem dX3_floorsUp_13 : decode cX3_floorsUp 13 = .ok (.aload_n 0, 1) := dck_get daX3_floorsUp_t0 7 rfl
theorem dX3_floorsUp_14 : decode cX3_floorsUp 14 = .ok (.getfield 18, 3) := dck_get daX3_floorsUp_t0 8 rfl
theorem dX3_floorsUp_17 : decode cX3_floorsUp 17 = .ok (.iload_n 1, 1) := dck_get daX3_floorsUp_t0 9 rfl
theorem dX3_floorsUp_18 : decode cX3_floorsUp 18 = .ok (.iaload, 1) := dck_get daX3_floorsUp_t0 10 rfl
theorem dX3_floorsUp_19 : decode cX3_floorsUp 19 = .ok (.iconst 1, 1) := dck_get daX3_floorsUp_t0 11 rfl
theorem dX3_floorsUp_20 : decode cX3_floorsUp 20 = .ok (.iadd, 1) := dck_get daX3_floorsUp_t0 12 rfl
theorem dX3_floorsUp_21 : decode cX3_floorsUp 21 = .ok (.ishr, 1) := dck_get daX3_floorsUp_t0 13 rfl
theorem dX3_floorsUp_22 : decode cX3_floorsUp 22 = .ok (.invokestatic 75, 3) := dck_get daX3_floorsUp_t0 14 rfl
theorem dX3_floorsUp_25 : decode cX3_floorsUp 25 = .ok (.ireturn, 1) := dck_get daX3_floorsUp_t0 15 rfl
set_option maxRecDepth 20000 in
theorem gw_wsX3_floorsOf : wsX3_floorsOf.all goodWord = true := by decide +kernel
set_option maxRecDepth 20000 in
theorem ggX3_passYear_X3_floorsOf : GoodIn wsX3_passYear wsX3_floorsOf := goodIn_sub (List.forall_mem_cons.mpr ⟨(List.mem_of_getElem? (i := 8) rfl), (List.forall_mem_append.mpr ⟨(List.forall_mem_cons.mpr ⟨(List.mem_of_getElem? (i := 1) rfl), (List.forall_mem_cons.mpr ⟨(List.mem_of_getElem? (i := 9) rfl), (List.forall_mem_cons.mpr ⟨(List.mem_of_getElem? (i := 10) rfl), (List.forall_mem_cons.mpr ⟨(List.mem_of_getElem? (i := 7) rfl), (List.forall_mem_cons.mpr ⟨(List.mem_of_getElem? (i := 11) rfl), (fun _ h => absurd h List.not_mem_nil)⟩)⟩)⟩)⟩)⟩), (fun _ h => (List.mem_cons_of_mem _ (List.mem_append_right _ h)))⟩)⟩) gw_wsX3_floorsOf
set_option maxRecDepth 20000 in
theorem gX3_passYear_X3_floorsOf : GoodIn wsX3_passYear (wsV RX3 80 RX3 yX3_floorsOf wsX3_floorsOf) := goodIn_app (goodIn_sub (List.forall_mem_cons.mpr ⟨(List.mem_of_getElem? (i := 4) rfl), (List.forall_mem_cons.mpr ⟨(List.mem_of_getElem? (i := 5) rfl), (List.forall_mem_cons.mpr ⟨(List.mem_of_getElem? (i := 6) rfl), (List.forall_mem_cons.mpr ⟨(List.mem_of_getElem? (i := 7) rfl), (fun _ h => absurd h List.not_mem_nil)⟩)⟩)⟩)⟩) (by decide +kernel)) ggX3_passYear_X3_floorsOf
set_option maxRecDepth 20000 in
theorem ggX3_passYear_X3_living : GoodIn wsX3_passYear wsX3_living := goodIn_sub (List.forall_mem_cons.mpr ⟨(List.mem_of_getElem? (i := 15) rfl), (List.forall_mem_append.mpr ⟨(List.forall_mem_cons.mpr ⟨(List.mem_of_getElem? (i := 16) rfl), (List.forall_mem_cons.mpr ⟨(List.mem_of_getElem? (i := 17) rfl), (List.forall_mem_cons.mpr ⟨(List.mem_of_getElem? (i := 18) rfl), (List.forall_mem_cons.mpr ⟨(List.mem_of_getElem? (i := 7) rfl), (List.forall_mem_cons.mpr ⟨(List.mem_of_getElem? (i := 19) rfl), (List.forall_mem_cons.mpr ⟨(List.mem_of_getElem? (i := 20) rfl), (List.forall_mem_cons.mpr ⟨(List.mem_of_getElem? (i := 1) rfl), (fun _ h => absurd h List.not_mem_nil)⟩)⟩)⟩)⟩)⟩)⟩)⟩), (fun _ h => (List.mem_cons_of_mem _ (List.mem_append_right _ h)))⟩)⟩) gw_wsX3_living
set_option maxRecDepth 20000 in
theorem gX3_passYear_X3_living : GoodIn wsX3_passYear (wsV RX3 34 RX3 yX3_living wsX3_living) := goodIn_app (goodIn_sub (List.forall_mem_cons.mpr ⟨(List.mem_of_getElem? (i := 12) rfl), (List.forall_mem_cons.mpr ⟨(List.mem_of_getElem? (i := 13) rfl), (List.forall_mem_cons.mpr ⟨(List.mem_of_getElem? (i := 14) rfl), (List.forall_mem_cons.mpr ⟨(List.mem_of_getElem? (i := 7) rfl), (fun _ h => absurd h List.not_mem_nil)⟩)⟩)⟩)⟩) (by decide +kernel)) ggX3_passYear_X3_living
set_option maxRecDepth 20000 in
theorem ggX3_passYear_X3_holds : GoodIn wsX3_passYear wsX3_holds := goodIn_sub (List.forall_mem_cons.mpr ⟨(List.mem_of_getElem? (i := 11) rfl), (fun _ h => absurd h List.not_mem_nil)⟩) gw_wsX3_holds
set_option maxRecDepth 20000 in
theorem gX3_passYear_X3_holds : GoodIn wsX3_passYear (va_wsS RX3 68 yX3_holds wsX3_holds) := goodIn_app (goodIn_sub (List.forall_mem_cons.mpr ⟨(List.mem_of_getElem? (i := 9) rfl), (List.forall_mem_cons.mpr ⟨(List.mem_of_getElem? (i := 10) rfl), (List.forall_mem_cons.mpr ⟨(List.mem_of_getElem? (i := 7) rfl), (fun _ h => absurd h List.not_mem_nil)⟩)⟩)⟩) (by decide +kernel)) ggX3_passYear_X3_holds
set_option maxRecDepth 20000 in
theorem gw_wsX3_floorsUp : wsX3_floorsUp.all goodWord = true := by decide +kernel
set_option maxRecDepth 20000 in
theorem ggX3_passYear_X3_floorsUp : GoodIn wsX3_passYear wsX3_floorsUp := goodIn_sub (List.forall_mem_cons.mpr ⟨(List.mem_of_getElem? (i := 24) rfl), (List.forall_mem_append.mpr ⟨(List.forall_mem_cons.mpr ⟨(List.mem_of_getElem? (i := 1) rfl), (List.forall_mem_cons.mpr ⟨(List.mem_of_getElem? (i := 25) rfl), (List.forall_mem_cons.mpr ⟨(List.mem_of_getElem? (i := 26) rfl), (List.forall_mem_cons.mpr ⟨(List.mem_of_getElem? (i := 27) rfl), (List.forall_mem_cons.mpr ⟨(List.mem_of_getElem? (i := 7) rfl), (List.forall_mem_cons.mpr ⟨(List.mem_of_getElem? (i := 28) rfl), (List.forall_mem_cons.mpr ⟨(List.mem_of_getElem? (i := 29) rfl), (List.forall_mem_cons.mpr ⟨(List.mem_of_getElem? (i := 30) rfl), (List.forall_mem_cons.mpr ⟨(List.mem_of_getElem? (i := 31) rfl), (List.forall_mem_cons.mpr ⟨(List.mem_of_getElem? (i := 32) rfl), (List.forall_mem_cons.mpr ⟨(List.mem_of_getElem? (i := 33) rfl), (List.forall_mem_cons.mpr ⟨(List.mem_of_getElem? (i := 34) rfl), (List.forall_mem_cons.mpr ⟨(List.mem_of_getElem? (i := 35) rfl), (List.forall_mem_cons.mpr ⟨(List.mem_of_getElem? (i := 36) rfl), (fun _ h => absurd h List.not_mem_nil)⟩)⟩)⟩)⟩)⟩)⟩)⟩)⟩)⟩)⟩)⟩)⟩)⟩)⟩), (fun _ h => (List.mem_cons_of_mem _ (List.mem_append_right _ h)))⟩)⟩) gw_wsX3_floorsUp
set_option maxRecDepth 20000 in
theorem gX3_passYear_X3_floorsUp : GoodIn wsX3_passYear (wsV RX3 83 RX3 yX3_floorsUp wsX3_floorsUp) := goodIn_app (goodIn_sub (List.forall_mem_cons.mpr ⟨(List.mem_of_getElem? (i := 21) rfl), (List.forall_mem_cons.mpr ⟨(List.mem_of_getElem? (i := 22) rfl), (List.forall_mem_cons.mpr ⟨(List.mem_of_getElem? (i := 23) rfl), (List.forall_mem_cons.mpr ⟨(List.mem_of_getElem? (i := 7) rfl), (fun _ h => absurd h List.not_mem_nil)⟩)⟩)⟩)⟩) (by decide +kernel)) ggX3_passYear_X3_floorsUp
set_option maxRecDepth 20000 in
theorem ggX3_passYear_X3_ageAfter : GoodIn wsX3_passYear wsX3_ageAfter := goodIn_sub (List.forall_mem_cons.mpr ⟨(List.mem_of_getElem? (i := 40) rfl), (List.forall_mem_append.mpr ⟨(List.forall_mem_cons.mpr ⟨(List.mem_of_getElem? (i := 2) rfl), (List.forall_mem_cons.mpr ⟨(List.mem_of_getElem? (i := 41) rfl), (List.forall_mem_cons.mpr ⟨(List.mem_of_getElem? (i := 42) rfl), (List.forall_mem_cons.mpr ⟨(List.mem_of_getElem? (i := 43) rfl), (List.forall_mem_cons.mpr ⟨(List.mem_of_getElem? (i := 44) rfl), (fun _ h => absurd h List.not_mem_nil)⟩)⟩)⟩)⟩)⟩), (fun _ h => (List.mem_cons_of_mem _ (List.mem_append_right _ h)))⟩)⟩) gw_wsX3_ageAfter
set_option maxRecDepth 20000 in
theorem gX3_passYear_X3_ageAfter : GoodIn wsX3_passYear (wsV RX3 56 RX3 yX3_ageAfter wsX3_ageAfter) := goodIn_app (goodIn_sub (List.forall_mem_cons.mpr ⟨(List.mem_of_getElem? (i := 37) rfl), (List.forall_mem_cons.mpr ⟨(List.mem_of_getElem? (i := 38) rfl), (List.forall_mem_cons.mpr ⟨(List.mem_of_getElem? (i := 39) rfl), (List.forall_mem_cons.mpr ⟨(List.mem_of_getElem? (i := 7) rfl), (fun _ h => absurd h List.not_mem_nil)⟩)⟩)⟩)⟩) (by decide +kernel)) ggX3_passYear_X3_ageAfter
def dtX3_passYear_t0 : List (Nat × Instr × Nat) := [(0, .aload_n 0, 1), (1, .iload_n 1, 1), (2, .invokevirtual 80, 3), (5, .istore_n 2, 1), (6, .aload_n 0, 1), (7, .invokevirtual 34, 3), (10, .istore_n 3, 1), (11, .iconst 0, 1), (12, .istore 4, 2), (14, .iconst 0, 1), (15, .istore 5, 2), (17, .iload 5, 2), (19, .bipush 8, 2), (21, .if_icmp .ge 91, 3), (24, .iload_n 3, 1), (25, .iload 5, 2), (27, .invokestatic 68, 3), (30, .ifCond .ne 6, 3), (33, .goto 73, 3), (36, .aload_n 0, 1)]
theorem daX3_passYear_t0 : dtX3_passYear_t0.all (dck cX3_passYear) = true := by decide +kernel
theorem dX3_passYear_0 : decode cX3_passYear 0 = .ok (.aload_n 0, 1) := dck_get daX3_passYear_t0 0 rfl
theorem dX3_passYear_1 : decode cX3_passYear 1 = .ok (.iload_n 1, 1) := dck_get daX3_passYear_t0 1 rfl
theorem dX3_passYear_2 : decode cX3_passYear 2 = .ok (.invokevirtual 80, 3) := dck_get daX3_passYear_t0 2 rfl
theorem dX3_passYear_5 : decode cX3_passYear 5 = .ok (.istore_n 2, 1) := dck_get daX3_passYear_t0 3 rfl
theorem dX3_passYear_6 : decode cX3_passYear 6 = .ok (.aload_n 0, 1) := dck_get daX3_passYear_t0 4 rfl
theorem dX3_passYear_7 : decode cX3_passYear 7 = .ok (.invokevirtual 34, 3) := dck_get daX3_passYear_t0 5 rfl
theorem dX3_passYear_10 : decode cX3_passYear 10 = .ok (.istore_n 3, 1) := dck_get daX3_passYear_t0 6 rfl
theorem dX3_passYear_11 : decode cX3_passYear 11 = .ok (.iconst 0, 1) := dck_get daX3_passYear_t0 7 rfl
theorem dX3_passYear_12 : decode cX3_passYear 12 = .ok (.istore 4, 2) := dck_get daX3_passYear_t0 8 rfl
theorem dX3_passYear_14 : decode cX3_passYear 14 = .ok (.iconst 0, 1) := dck_get daX3_passYear_t0 9 rfl
theorem dX3_passYear_15 : decode cX3_passYear 15 = .ok (.istore 5, 2) := dck_get daX3_passYear_t0 10 rfl
theorem dX3_passYear_17 : decode cX3_passYear 17 = .ok (.iload 5, 2) := dck_get daX3_passYear_t0 11 rfl
theorem dX3_passYear_19 : decode cX3_passYear 19 = .ok (.bipush 8, 2) := dck_get daX3_passYear_t0 12 rfl
theorem dX3_passYear_21 : decode cX3_passYear 21 = .ok (.if_icmp .ge 91, 3) := dck_get daX3_passYear_t0 13 rfl
theorem dX3_passYear_24 : decode cX3_passYear 24 = .ok (.iload_n 3, 1) := dck_get daX3_passYear_t0 14 rfl
theorem dX3_passYear_25 : decode cX3_passYear 25 = .ok (.iload 5, 2) := dck_get daX3_passYear_t0 15 rfl
theorem dX3_passYear_27 : decode cX3_passYear 27 = .ok (.invokestatic 68, 3) := dck_get daX3_passYear_t0 16 rfl
theorem dX3_passYear_30 : decode cX3_passYear 30 = .ok (.ifCond .ne 6, 3) := dck_get daX3_passYear_t0 17 rfl
theorem dX3_passYear_33 : decode cX3_passYear 33 = .ok (.goto 73, 3) := dck_get daX3_passYear_t0 18 rfl
theorem dX3_passYear_36 : decode cX3_passYear 36 = .ok (.aload_n 0, 1) := dck_get daX3_passYear_t0 19 rfl
def dtX3_passYear_t1 : List (Nat × Instr × Nat) := [(37, .iload 5, 2), (39, .iload_n 2, 1), (40, .invokevirtual 83, 3), (43, .istore 6, 2), (45, .iload_n 1, 1), (46, .iload 5, 2), (48, .invokestatic 68, 3), (51, .istore 7, 2), (53, .iload 7, 2), (55, .ifCond .ne 11, 3), (58, .iload 6, 2), (60, .ifCond .le 6, 3), (63, .iinc 4 1, 3), (66, .aload_n 0, 1), (67, .getfield 18, 3), (70, .iload 5, 2), (72, .iload 7, 2), (74, .ifCond .eq 7, 3), (77, .iconst (-1), 1), (78, .goto 13, 3)]
theorem daX3_passYear_t1 : dtX3_passYear_t1.all (dck cX3_passYear) = true := by decide +kernel
theorem dX3_passYear_37 : decode cX3_passYear 37 = .ok (.iload 5, 2) := dck_get daX3_passYear_t1 0 rfl
theorem dX3_passYear_39 : decode cX3_passYear 39 = .ok (.iload_n 2, 1) := dck_get daX3_passYear_t1 1 rfl
theorem dX3_passYear_40 : decode cX3_passYear 40 = .ok (.invokevirtual 83, 3) := dck_get daX3_passYear_t1 2 rfl
theorem dX3_passYear_43 : decode cX3_passYear 43 = .ok (.istore 6, 2) := dck_get daX3_passYear_t1 3 rfl
theorem dX3_passYear_45 : decode cX3_passYear 45 = .ok (.iload_n 1, 1) := dck_get daX3_passYear_t1 4 rfl
theorem dX3_passYear_46 : decode cX3_passYear 46 = .ok (.iload 5, 2) := dck_get daX3_passYear_t1 5 rfl
theorem dX3_passYear_48 : decode cX3_passYear 48 = .ok (.invokestatic 68, 3) := dck_get daX3_passYear_t1 6 rfl
theorem dX3_passYear_51 : decode cX3_passYear 51 = .ok (.istore 7, 2) := dck_get daX3_passYear_t1 7 rfl
theorem dX3_passYear_53 : decode cX3_passYear 53 = .ok (.iload 7, 2) := dck_get daX3_passYear_t1 8 rfl
theorem dX3_passYear_55 : decode cX3_passYear 55 = .ok (.ifCond .ne 11, 3) := dck_get daX3_passYear_t1 9 rfl
theorem dX3_passYear_58 : decode cX3_passYear 58 = .ok (.iload 6, 2) := dck_get daX3_passYear_t1 10 rfl
theorem dX3_passYear_60 : decode cX3_passYear 60 = .ok (.ifCond .le 6, 3) := dck_get daX3_passYear_t1 11 rfl
theorem dX3_passYear_63 : decode cX3_passYear 63 = .ok (.iinc 4 1, 3) := dck_get daX3_passYear_t1 12 rfl
theorem dX3_passYear_66 : decode cX3_passYear 66 = .ok (.aload_n 0, 1) := dck_get daX3_passYear_t1 13 rfl
theorem dX3_passYear_67 : decode cX3_passYear 67 = .ok (.getfield 18, 3) := dck_get daX3_passYear_t1 14 rfl
theorem dX3_passYear_70 : decode cX3_passYear 70 = .ok (.iload 5, 2) := dck_get daX3_passYear_t1 15 rfl
theorem dX3_passYear_72 : decode cX3_passYear 72 = .ok (.iload 7, 2) := dck_get daX3_passYear_t1 16 rfl
theorem dX3_passYear_74 : decode cX3_passYear 74 = .ok (.ifCond .eq 7, 3) := dck_get daX3_passYear_t1 17 rfl
theorem dX3_passYear_77 : decode cX3_passYear 77 = .ok (.iconst (-1), 1) := dck_get daX3_passYear_t1 18 rfl
theorem dX3_passYear_78 : decode cX3_passYear 78 = .ok (.goto 13, 3) := dck_get daX3_passYear_t1 19 rfl
def dtX3_passYear_t2 : List (Nat × Instr × Nat) := [(81, .aload_n 0, 1), (82, .getfield 18, 3), (85, .iload 5, 2), (87, .iaload, 1), (88, .iload 6, 2), (90, .iadd, 1), (91, .iastore, 1), (92, .aload_n 0, 1), (93, .getfield 15, 3), (96, .iload 5, 2), (98, .aload_n 0, 1), (99, .iload 5, 2), (101, .iconst 1, 1), (102, .invokevirtual 56, 3), (105, .iastore, 1), (106, .iinc 5 1, 3), (109, .goto (-92), 3), (112, .aload_n 0, 1), (113, .dup, 1), (114, .getfield 31, 3)]
theorem daX3_passYear_t2 : dtX3_passYear_t2.all (dck cX3_passYear) = true := by decide +kernel
theorem dX3_passYear_81 : decode cX3_passYear 81 = .ok (.aload_n 0, 1) := dck_get daX3_passYear_t2 0 rfl
theorem dX3_passYear_82 : decode cX3_passYear 82 = .ok (.getfield 18, 3) := dck_get daX3_passYear_t2 1 rfl
theorem dX3_passYear_85 : decode cX3_passYear 85 = .ok (.iload 5, 2) := dck_get daX3_passYear_t2 2 rfl
theorem dX3_passYear_87 : decode cX3_passYear 87 = .ok (.iaload, 1) := dck_get daX3_passYear_t2 3 rfl
theorem dX3_passYear_88 : decode cX3_passYear 88 = .ok (.iload 6, 2) := dck_get daX3_passYear_t2 4 rfl
theorem dX3_passYear_90 : decode cX3_passYear 90 = .ok (.iadd, 1) := dck_get daX3_passYear_t2 5 rfl
theorem dX3_passYear_91 : decode cX3_passYear 91 = .ok (.iastore, 1) := dck_get daX3_passYear_t2 6 rfl
theorem dX3_passYear_92 : decode cX3_passYear 92 = .ok (.aload_n 0, 1) := dck_get daX3_passYear_t2 7 rfl
theorem dX3_passYear_93 : decode cX3_passYear 93 = .ok (.getfield 15, 3) := dck_get daX3_passYear_t2 8 rfl
theorem dX3_passYear_96 : decode cX3_passYear 96 = .ok (.iload 5, 2) := dck_get daX3_passYear_t2 9 rfl
theorem dX3_passYear_98 : decode cX3_passYear 98 = .ok (.aload_n 0, 1) := dck_get daX3_passYear_t2 10 rfl
theorem dX3_passYear_99 : decode cX3_passYear 99 = .ok (.iload 5, 2) := dck_get daX3_passYear_t2 11 rfl
theorem dX3_passYear_101 : decode cX3_passYear 101 = .ok (.iconst 1, 1) := dck_get daX3_passYear_t2 12 rfl
theorem dX3_passYear_102 : decode cX3_passYear 102 = .ok (.invokevirtual 56, 3) := dck_get daX3_passYear_t2 13 rfl
theorem dX3_passYear_105 : decode cX3_passYear 105 = .ok (.iastore, 1) := dck_get daX3_passYear_t2 14 rfl
theorem dX3_passYear_106 : decode cX3_passYear 106 = .ok (.iinc 5 1, 3) := dck_get daX3_passYear_t2 15 rfl
theorem dX3_passYear_109 : decode cX3_passYear 109 = .ok (.goto (-92), 3) := dck_get daX3_passYear_t2 16 rfl
theorem dX3_passYear_112 : decode cX3_passYear 112 = .ok (.aload_n 0, 1) := dck_get daX3_passYear_t2 17 rfl
theorem dX3_passYear_113 : decode cX3_passYear 113 = .ok (.dup, 1) := dck_get daX3_passYear_t2 18 rfl
theorem dX3_passYear_114 : decode cX3_passYear 114 = .ok (.getfield 31, 3) := dck_get daX3_passYear_t2 19 rfl
def dtX3_passYear_t3 : List (Nat × Instr × Nat) := [(117, .iconst 1, 1), (118, .iadd, 1), (119, .putfield 31, 3), (122, .iload 4, 2), (124, .ireturn, 1)]
theorem daX3_passYear_t3 : dtX3_passYear_t3.all (dck cX3_passYear) = true := by decide +kernel
theorem dX3_passYear_117 : decode cX3_passYear 117 = .ok (.iconst 1, 1) := dck_get daX3_passYear_t3 0 rfl
theorem dX3_passYear_118 : decode cX3_passYear 118 = .ok (.iadd, 1) := dck_get daX3_passYear_t3 1 rfl
theorem dX3_passYear_119 : decode cX3_passYear 119 = .ok (.putfield 31, 3) := dck_get daX3_passYear_t3 2 rfl
theorem dX3_passYear_122 : decode cX3_passYear 122 = .ok (.iload 4, 2) := dck_get daX3_passYear_t3 3 rfl
theorem dX3_passYear_124 : decode cX3_passYear 124 = .ok (.ireturn, 1) := dck_get daX3_passYear_t3 4 rfl
set_option maxRecDepth 20000 in
theorem ggX3_burden_X3_floorsOf : GoodIn wsX3_burden wsX3_floorsOf := goodIn_sub (List.forall_mem_cons.mpr ⟨(List.mem_of_getElem? (i := 6) rfl), (List.forall_mem_append.mpr ⟨(List.forall_mem_cons.mpr ⟨(List.mem_of_getElem? (i := 7) rfl), (List.forall_mem_cons.mpr ⟨(List.mem_of_getElem? (i := 8) rfl), (List.forall_mem_cons.mpr ⟨(List.mem_of_getElem? (i := 9) rfl), (List.forall_mem_cons.mpr ⟨(List.mem_of_getElem? (i := 5) rfl), (List.forall_mem_cons.mpr ⟨(List.mem_of_getElem? (i := 10) rfl), (fun _ h => absurd h List.not_mem_nil)⟩)⟩)⟩)⟩)⟩), (fun _ h => (List.mem_cons_of_mem _ (List.mem_append_right _ h)))⟩)⟩) gw_wsX3_floorsOf
set_option maxRecDepth 20000 in
theorem gX3_burden_X3_floorsOf : GoodIn wsX3_burden (wsV RX3 80 RX3 yX3_floorsOf wsX3_floorsOf) := goodIn_app (goodIn_sub (List.forall_mem_cons.mpr ⟨(List.mem_of_getElem? (i := 2) rfl), (List.forall_mem_cons.mpr ⟨(List.mem_of_getElem? (i := 3) rfl), (List.forall_mem_cons.mpr ⟨(List.mem_of_getElem? (i := 4) rfl), (List.forall_mem_cons.mpr ⟨(List.mem_of_getElem? (i := 5) rfl), (fun _ h => absurd h List.not_mem_nil)⟩)⟩)⟩)⟩) (by decide +kernel)) ggX3_burden_X3_floorsOf
set_option maxRecDepth 20000 in
theorem ggX3_burden_X3_isAlive : GoodIn wsX3_burden wsX3_isAlive := goodIn_sub (List.forall_mem_cons.mpr ⟨(List.mem_of_getElem? (i := 14) rfl), (List.forall_mem_append.mpr ⟨(List.forall_mem_cons.mpr ⟨(List.mem_of_getElem? (i := 15) rfl), (List.forall_mem_cons.mpr ⟨(List.mem_of_getElem? (i := 7) rfl), (fun _ h => absurd h List.not_mem_nil)⟩)⟩), (fun _ h => (List.mem_cons_of_mem _ (List.mem_append_right _ h)))⟩)⟩) gw_wsX3_isAlive
set_option maxRecDepth 20000 in
theorem gX3_burden_X3_isAlive : GoodIn wsX3_burden (wsV RX3 38 RX3 yX3_isAlive wsX3_isAlive) := goodIn_app (goodIn_sub (List.forall_mem_cons.mpr ⟨(List.mem_of_getElem? (i := 11) rfl), (List.forall_mem_cons.mpr ⟨(List.mem_of_getElem? (i := 12) rfl), (List.forall_mem_cons.mpr ⟨(List.mem_of_getElem? (i := 13) rfl), (List.forall_mem_cons.mpr ⟨(List.mem_of_getElem? (i := 5) rfl), (fun _ h => absurd h List.not_mem_nil)⟩)⟩)⟩)⟩) (by decide +kernel)) ggX3_burden_X3_isAlive
set_option maxRecDepth 20000 in
theorem ggX3_burden_X3_holds : GoodIn wsX3_burden wsX3_holds := goodIn_sub (List.forall_mem_cons.mpr ⟨(List.mem_of_getElem? (i := 10) rfl), (fun _ h => absurd h List.not_mem_nil)⟩) gw_wsX3_holds
set_option maxRecDepth 20000 in
theorem gX3_burden_X3_holds : GoodIn wsX3_burden (va_wsS RX3 68 yX3_holds wsX3_holds) := goodIn_app (goodIn_sub (List.forall_mem_cons.mpr ⟨(List.mem_of_getElem? (i := 8) rfl), (List.forall_mem_cons.mpr ⟨(List.mem_of_getElem? (i := 9) rfl), (List.forall_mem_cons.mpr ⟨(List.mem_of_getElem? (i := 5) rfl), (fun _ h => absurd h List.not_mem_nil)⟩)⟩)⟩) (by decide +kernel)) ggX3_burden_X3_holds
set_option maxRecDepth 20000 in
theorem ggX3_burden_X3_floorsUp : GoodIn wsX3_burden wsX3_floorsUp := goodIn_sub (List.forall_mem_cons.mpr ⟨(List.mem_of_getElem? (i := 19) rfl), (List.forall_mem_append.mpr ⟨(List.forall_mem_cons.mpr ⟨(List.mem_of_getElem? (i := 7) rfl), (List.forall_mem_cons.mpr ⟨(List.mem_of_getElem? (i := 20) rfl), (List.forall_mem_cons.mpr ⟨(List.mem_of_getElem? (i := 21) rfl), (List.forall_mem_cons.mpr ⟨(List.mem_of_getElem? (i := 22) rfl), (List.forall_mem_cons.mpr ⟨(List.mem_of_getElem? (i := 5) rfl), (List.forall_mem_cons.mpr ⟨(List.mem_of_getElem? (i := 23) rfl), (List.forall_mem_cons.mpr ⟨(List.mem_of_getElem? (i := 24) rfl), (List.forall_mem_cons.mpr ⟨(List.mem_of_getElem? (i := 25) rfl), (List.forall_mem_cons.mpr ⟨(List.mem_of_getElem? (i := 26) rfl), (List.forall_mem_cons.mpr ⟨(List.mem_of_getElem? (i := 27) rfl), (List.forall_mem_cons.mpr ⟨(List.mem_of_getElem? (i := 28) rfl), (List.forall_mem_cons.mpr ⟨(List.mem_of_getElem? (i := 29) rfl), (List.forall_mem_cons.mpr ⟨(List.mem_of_getElem? (i := 30) rfl), (List.forall_mem_cons.mpr ⟨(List.mem_of_getElem? (i := 31) rfl), (fun _ h => absurd h List.not_mem_nil)⟩)⟩)⟩)⟩)⟩)⟩)⟩)⟩)⟩)⟩)⟩)⟩)⟩)⟩), (fun _ h => (List.mem_cons_of_mem _ (List.mem_append_right _ h)))⟩)⟩) gw_wsX3_floorsUp
set_option maxRecDepth 20000 in
theorem gX3_burden_X3_floorsUp : GoodIn wsX3_burden (wsV RX3 83 RX3 yX3_floorsUp wsX3_floorsUp) := goodIn_app (goodIn_sub (List.forall_mem_cons.mpr ⟨(List.mem_of_getElem? (i := 16) rfl), (List.forall_mem_cons.mpr ⟨(List.mem_of_getElem? (i := 17) rfl), (List.forall_mem_cons.mpr ⟨(List.mem_of_getElem? (i := 18) rfl), (List.forall_mem_cons.mpr ⟨(List.mem_of_getElem? (i := 5) rfl), (fun _ h => absurd h List.not_mem_nil)⟩)⟩)⟩)⟩) (by decide +kernel)) ggX3_burden_X3_floorsUp
def dtX3_burden_t0 : List (Nat × Instr × Nat) := [(0, .aload_n 0, 1), (1, .iload_n 1, 1), (2, .invokevirtual 80, 3), (5, .istore_n 2, 1), (6, .iconst 0, 1), (7, .istore_n 3, 1), (8, .iconst 0, 1), (9, .istore 4, 2), (11, .iload 4, 2), (13, .bipush 8, 2), (15, .if_icmp .ge 45, 3), (18, .aload_n 0, 1), (19, .iload 4, 2), (21, .invokevirtual 38, 3), (24, .ifCond .eq 30, 3), (27, .iload_n 1, 1), (28, .iload 4, 2), (30, .invokestatic 68, 3), (33, .ifCond .ne 21, 3), (36, .iload_n 3, 1)]
theorem daX3_burden_t0 : dtX3_burden_t0.all (dck cX3_burden) = true := by decide +kernel
theorem dX3_burden_0 : decode cX3_burden 0 = .ok (.aload_n 0, 1) := dck_get daX3_burden_t0 0 rfl
theorem dX3_burden_1 : decode cX3_burden 1 = .ok (.iload_n 1, 1) := dck_get daX3_burden_t0 1 rfl
theorem dX3_burden_2 : decode cX3_burden 2 = .ok (.invokevirtual 80, 3) := dck_get daX3_burden_t0 2 rfl
theorem dX3_burden_5 : decode cX3_burden 5 = .ok (.istore_n 2, 1) := dck_get daX3_burden_t0 3 rfl
theorem dX3_burden_6 : decode cX3_burden 6 = .ok (.iconst 0, 1) := dck_get daX3_burden_t0 4 rfl
theorem dX3_burden_7 : decode cX3_burden 7 = .ok (.istore_n 3, 1) := dck_get daX3_burden_t0 5 rfl
theorem dX3_burden_8 : decode cX3_burden 8 = .ok (.iconst 0, 1) := dck_get daX3_burden_t0 6 rfl
theorem dX3_burden_9 : decode cX3_burden 9 = .ok (.istore 4, 2) := dck_get daX3_burden_t0 7 rfl
theorem dX3_burden_11 : decode cX3_burden 11 = .ok (.iload 4, 2) := dck_get daX3_burden_t0 8 rfl
theorem dX3_burden_13 : decode cX3_burden 13 = .ok (.bipush 8, 2) := dck_get daX3_burden_t0 9 rfl
theorem dX3_burden_15 : decode cX3_burden 15 = .ok (.if_icmp .ge 45, 3) := dck_get daX3_burden_t0 10 rfl
theorem dX3_burden_18 : decode cX3_burden 18 = .ok (.aload_n 0, 1) := dck_get daX3_burden_t0 11 rfl
theorem dX3_burden_19 : decode cX3_burden 19 = .ok (.iload 4, 2) := dck_get daX3_burden_t0 12 rfl
theorem dX3_burden_21 : decode cX3_burden 21 = .ok (.invokevirtual 38, 3) := dck_get daX3_burden_t0 13 rfl
theorem dX3_burden_24 : decode cX3_burden 24 = .ok (.ifCond .eq 30, 3) := dck_get daX3_burden_t0 14 rfl
theorem dX3_burden_27 : decode cX3_burden 27 = .ok (.iload_n 1, 1) := dck_get daX3_burden_t0 15 rfl
theorem dX3_burden_28 : decode cX3_burden 28 = .ok (.iload 4, 2) := dck_get daX3_burden_t0 16 rfl
theorem dX3_burden_30 : decode cX3_burden 30 = .ok (.invokestatic 68, 3) := dck_get daX3_burden_t0 17 rfl
theorem dX3_burden_33 : decode cX3_burden 33 = .ok (.ifCond .ne 21, 3) := dck_get daX3_burden_t0 18 rfl
theorem dX3_burden_36 : decode cX3_burden 36 = .ok (.iload_n 3, 1) := dck_get daX3_burden_t0 19 rfl
def dtX3_burden_t1 : List (Nat × Instr × Nat) := [(37, .aload_n 0, 1), (38, .getfield 21, 3), (41, .iload 4, 2), (43, .iaload, 1), (44, .aload_n 0, 1), (45, .iload 4, 2), (47, .iload_n 2, 1), (48, .invokevirtual 83, 3), (51, .imul, 1), (52, .iadd, 1), (53, .istore_n 3, 1), (54, .iinc 4 1, 3), (57, .goto (-46), 3), (60, .iload_n 3, 1), (61, .ireturn, 1)]
theorem daX3_burden_t1 : dtX3_burden_t1.all (dck cX3_burden) = true := by decide +kernel
theorem dX3_burden_37 : decode cX3_burden 37 = .ok (.aload_n 0, 1) := dck_get daX3_burden_t1 0 rfl
theorem dX3_burden_38 : decode cX3_burden 38 = .ok (.getfield 21, 3) := dck_get daX3_burden_t1 1 rfl
theorem dX3_burden_41 : decode cX3_burden 41 = .ok (.iload 4, 2) := dck_get daX3_burden_t1 2 rfl
theorem dX3_burden_43 : decode cX3_burden 43 = .ok (.iaload, 1) := dck_get daX3_burden_t1 3 rfl
theorem dX3_burden_44 : decode cX3_burden 44 = .ok (.aload_n 0, 1) := dck_get daX3_burden_t1 4 rfl
theorem dX3_burden_45 : decode cX3_burden 45 = .ok (.iload 4, 2) := dck_get daX3_burden_t1 5 rfl
theorem dX3_burden_47 : decode cX3_burden 47 = .ok (.iload_n 2, 1) := dck_get daX3_burden_t1 6 rfl
theorem dX3_burden_48 : decode cX3_burden 48 = .ok (.invokevirtual 83, 3) := dck_get daX3_burden_t1 7 rfl
theorem dX3_burden_51 : decode cX3_burden 51 = .ok (.imul, 1) := dck_get daX3_burden_t1 8 rfl
theorem dX3_burden_52 : decode cX3_burden 52 = .ok (.iadd, 1) := dck_get daX3_burden_t1 9 rfl
theorem dX3_burden_53 : decode cX3_burden 53 = .ok (.istore_n 3, 1) := dck_get daX3_burden_t1 10 rfl
theorem dX3_burden_54 : decode cX3_burden 54 = .ok (.iinc 4 1, 3) := dck_get daX3_burden_t1 11 rfl
theorem dX3_burden_57 : decode cX3_burden 57 = .ok (.goto (-46), 3) := dck_get daX3_burden_t1 12 rfl
theorem dX3_burden_60 : decode cX3_burden 60 = .ok (.iload_n 3, 1) := dck_get daX3_burden_t1 13 rfl
theorem dX3_burden_61 : decode cX3_burden 61 = .ok (.ireturn, 1) := dck_get daX3_burden_t1 14 rfl
set_option maxRecDepth 20000 in
theorem ggX3_likeliestAbove_X3_isAlive : GoodIn wsX3_likeliestAbove wsX3_isAlive := goodIn_sub (List.forall_mem_cons.mpr ⟨(List.mem_of_getElem? (i := 6) rfl), (List.forall_mem_append.mpr ⟨(List.forall_mem_cons.mpr ⟨(List.mem_of_getElem? (i := 7) rfl), (List.forall_mem_cons.mpr ⟨(List.mem_of_getElem? (i := 1) rfl), (fun _ h => absurd h List.not_mem_nil)⟩)⟩), (fun _ h => (List.mem_cons_of_mem _ (List.mem_append_right _ h)))⟩)⟩) gw_wsX3_isAlive
set_option maxRecDepth 20000 in
theorem gX3_likeliestAbove_X3_isAlive : GoodIn wsX3_likeliestAbove (wsV RX3 38 RX3 yX3_isAlive wsX3_isAlive) := goodIn_app (goodIn_sub (List.forall_mem_cons.mpr ⟨(List.mem_of_getElem? (i := 2) rfl), (List.forall_mem_cons.mpr ⟨(List.mem_of_getElem? (i := 3) rfl), (List.forall_mem_cons.mpr ⟨(List.mem_of_getElem? (i := 4) rfl), (List.forall_mem_cons.mpr ⟨(List.mem_of_getElem? (i := 5) rfl), (fun _ h => absurd h List.not_mem_nil)⟩)⟩)⟩)⟩) (by decide +kernel)) ggX3_likeliestAbove_X3_isAlive
set_option maxRecDepth 20000 in
theorem ggX3_likeliestAbove_X3_holds : GoodIn wsX3_likeliestAbove wsX3_holds := goodIn_sub (List.forall_mem_cons.mpr ⟨(List.mem_of_getElem? (i := 10) rfl), (fun _ h => absurd h List.not_mem_nil)⟩) gw_wsX3_holds
set_option maxRecDepth 20000 in
theorem gX3_likeliestAbove_X3_holds : GoodIn wsX3_likeliestAbove (va_wsS RX3 68 yX3_holds wsX3_holds) := goodIn_app (goodIn_sub (List.forall_mem_cons.mpr ⟨(List.mem_of_getElem? (i := 8) rfl), (List.forall_mem_cons.mpr ⟨(List.mem_of_getElem? (i := 9) rfl), (List.forall_mem_cons.mpr ⟨(List.mem_of_getElem? (i := 5) rfl), (fun _ h => absurd h List.not_mem_nil)⟩)⟩)⟩) (by decide +kernel)) ggX3_likeliestAbove_X3_holds
set_option maxRecDepth 20000 in
theorem ggX3_likeliestAbove_X3_chanceAfter : GoodIn wsX3_likeliestAbove wsX3_chanceAfter := goodIn_sub (List.forall_mem_cons.mpr ⟨(List.mem_of_getElem? (i := 14) rfl), (List.forall_mem_append.mpr ⟨(List.forall_mem_append.mpr ⟨(List.forall_mem_cons.mpr ⟨(List.mem_of_getElem? (i := 15) rfl), (List.forall_mem_cons.mpr ⟨(List.mem_of_getElem? (i := 16) rfl), (List.forall_mem_cons.mpr ⟨(List.mem_of_getElem? (i := 17) rfl), (List.forall_mem_cons.mpr ⟨(List.mem_of_getElem? (i := 18) rfl), (List.forall_mem_cons.mpr ⟨(List.mem_of_getElem? (i := 5) rfl), (List.forall_mem_cons.mpr ⟨(List.mem_of_getElem? (i := 19) rfl), (List.forall_mem_cons.mpr ⟨(List.mem_of_getElem? (i := 20) rfl), (List.forall_mem_cons.mpr ⟨(List.mem_of_getElem? (i := 21) rfl), (List.forall_mem_cons.mpr ⟨(List.mem_of_getElem? (i := 22) rfl), (List.forall_mem_cons.mpr ⟨(List.mem_of_getElem? (i := 23) rfl), (List.forall_mem_cons.mpr ⟨(List.mem_of_getElem? (i := 24) rfl), (List.forall_mem_cons.mpr ⟨(List.mem_of_getElem? (i := 25) rfl), (List.forall_mem_cons.mpr ⟨(List.mem_of_getElem? (i := 26) rfl), (List.forall_mem_cons.mpr ⟨(List.mem_of_getElem? (i := 27) rfl), (List.forall_mem_cons.mpr ⟨(List.mem_of_getElem? (i := 28) rfl), (List.forall_mem_cons.mpr ⟨(List.mem_of_getElem? (i := 29) rfl), (List.forall_mem_cons.mpr ⟨(List.mem_of_getElem? (i := 30) rfl), (List.forall_mem_cons.mpr ⟨(List.mem_of_getElem? (i := 31) rfl), (List.forall_mem_cons.mpr ⟨(List.mem_of_getElem? (i := 32) rfl), (List.forall_mem_cons.mpr ⟨(List.mem_of_getElem? (i := 33) rfl), (List.forall_mem_cons.mpr ⟨(List.mem_of_getElem? (i := 34) rfl), (List.forall_mem_cons.mpr ⟨(List.mem_of_getElem? (i := 35) rfl), (List.forall_mem_cons.mpr ⟨(List.mem_of_getElem? (i := 36) rfl), (List.forall_mem_cons.mpr ⟨(List.mem_of_getElem? (i := 37) rfl), (fun _ h => absurd h List.not_mem_nil)⟩)⟩)⟩)⟩)⟩)⟩)⟩)⟩)⟩)⟩)⟩)⟩)⟩)⟩)⟩)⟩)⟩)⟩)⟩)⟩)⟩)⟩)⟩)⟩), (List.forall_mem_cons.mpr ⟨(List.mem_of_getElem? (i := 38) rfl), (fun _ h => absurd h List.not_mem_nil)⟩)⟩), (fun _ h => (List.mem_cons_of_mem _ (List.mem_append_right _ h)))⟩)⟩) gw_wsX3_chanceAfter
set_option maxRecDepth 20000 in
theorem gX3_likeliestAbove_X3_chanceAfter : GoodIn wsX3_likeliestAbove (wsV RX3 86 RX3 yX3_chanceAfter wsX3_chanceAfter) := goodIn_app (goodIn_sub (List.forall_mem_cons.mpr ⟨(List.mem_of_getElem? (i := 11) rfl), (List.forall_mem_cons.mpr ⟨(List.mem_of_getElem? (i := 12) rfl), (List.forall_mem_cons.mpr ⟨(List.mem_of_getElem? (i := 13) rfl), (List.forall_mem_cons.mpr ⟨(List.mem_of_getElem? (i := 5) rfl), (fun _ h => absurd h List.not_mem_nil)⟩)⟩)⟩)⟩) (by decide +kernel)) ggX3_likeliestAbove_X3_chanceAfter
def dtX3_likeliestAbove_t0 : List (Nat × Instr × Nat) := [(0, .iconst 0, 1), (1, .istore_n 3, 1), (2, .iconst 0, 1), (3, .istore 4, 2), (5, .iload 4, 2), (7, .iload_n 2, 1), (8, .if_icmp .ge 110, 3), (11, .iload 4, 2), (13, .bipush 8, 2), (15, .if_icmp .ge 103, 3), (18, .iconst (-1), 1), (19, .istore 5, 2), (21, .iconst 0, 1), (22, .istore 6, 2), (24, .iload 6, 2), (26, .bipush 8, 2), (28, .if_icmp .ge 72, 3), (31, .aload_n 0, 1), (32, .iload 6, 2), (34, .invokevirtual 38, 3)]
theorem daX3_likeliestAbove_t0 : dtX3_likeliestAbove_t0.all (dck cX3_likeliestAbove) = true := by decide +kernel
theorem dX3_likeliestAbove_0 : decode cX3_likeliestAbove 0 = .ok (.iconst 0, 1) := dck_get daX3_likeliestAbove_t0 0 rfl
theorem dX3_likeliestAbove_1 : decode cX3_likeliestAbove 1 = .ok (.istore_n 3, 1) := dck_get daX3_likeliestAbove_t0 1 rfl
theorem dX3_likeliestAbove_2 : decode cX3_likeliestAbove 2 = .ok (.iconst 0, 1) := dck_get daX3_likeliestAbove_t0 2 rfl
theorem dX3_likeliestAbove_3 : decode cX3_likeliestAbove 3 = .ok (.istore 4, 2) := dck_get daX3_likeliestAbove_t0 3 rfl
theorem dX3_likeliestAbove_5 : decode cX3_likeliestAbove 5 = .ok (.iload 4, 2) := dck_get daX3_likeliestAbove_t0 4 rfl
theorem dX3_likeliestAbove_7 : decode cX3_likeliestAbove 7 = .ok (.iload_n 2, 1) := dck_get daX3_likeliestAbove_t0 5 rfl
theorem dX3_likeliestAbove_8 : decode cX3_likeliestAbove 8 = .ok (.if_icmp .ge 110, 3) := dck_get daX3_likeliestAbove_t0 6 rfl
theorem dX3_likeliestAbove_11 : decode cX3_likeliestAbove 11 = .ok (.iload 4, 2) := dck_get daX3_likeliestAbove_t0 7 rfl
theorem dX3_likeliestAbove_13 : decode cX3_likeliestAbove 13 = .ok (.bipush 8, 2) := dck_get daX3_likeliestAbove_t0 8 rfl
theorem dX3_likeliestAbove_15 : decode cX3_likeliestAbove 15 = .ok (.if_icmp .ge 103, 3) := dck_get daX3_likeliestAbove_t0 9 rfl
theorem dX3_likeliestAbove_18 : decode cX3_likeliestAbove 18 = .ok (.iconst (-1), 1) := dck_get daX3_likeliestAbove_t0 10 rfl
theorem dX3_likeliestAbove_19 : decode cX3_likeliestAbove 19 = .ok (.istore 5, 2) := dck_get daX3_likeliestAbove_t0 11 rfl
theorem dX3_likeliestAbove_21 : decode cX3_likeliestAbove 21 = .ok (.iconst 0, 1) := dck_get daX3_likeliestAbove_t0 12 rfl
theorem dX3_likeliestAbove_22 : decode cX3_likeliestAbove 22 = .ok (.istore 6, 2) := dck_get daX3_likeliestAbove_t0 13 rfl
theorem dX3_likeliestAbove_24 : decode cX3_likeliestAbove 24 = .ok (.iload 6, 2) := dck_get daX3_likeliestAbove_t0 14 rfl
theorem dX3_likeliestAbove_26 : decode cX3_likeliestAbove 26 = .ok (.bipush 8, 2) := dck_get daX3_likeliestAbove_t0 15 rfl
theorem dX3_likeliestAbove_28 : decode cX3_likeliestAbove 28 = .ok (.if_icmp .ge 72, 3) := dck_get daX3_likeliestAbove_t0 16 rfl
theorem dX3_likeliestAbove_31 : decode cX3_likeliestAbove 31 = .ok (.aload_n 0, 1) := dck_get daX3_likeliestAbove_t0 17 rfl
theorem dX3_likeliestAbove_32 : decode cX3_likeliestAbove 32 = .ok (.iload 6, 2) := dck_get daX3_likeliestAbove_t0 18 rfl
theorem dX3_likeliestAbove_34 : decode cX3_likeliestAbove 34 = .ok (.invokevirtual 38, 3) := dck_get daX3_likeliestAbove_t0 19 rfl
def dtX3_likeliestAbove_t1 : List (Nat × Instr × Nat) := [(37, .ifCond .eq 57, 3), (40, .iload_n 3, 1), (41, .iload 6, 2), (43, .invokestatic 68, 3), (46, .ifCond .ne 48, 3), (49, .aload_n 0, 1), (50, .getfield 18, 3), (53, .iload 6, 2), (55, .iaload, 1), (56, .aload_n 0, 1), (57, .getfield 18, 3), (60, .iload_n 1, 1), (61, .iaload, 1), (62, .if_icmp .gt 6, 3), (65, .goto 29, 3), (68, .iload 5, 2), (70, .ifCond .lt 20, 3), (73, .aload_n 0, 1), (74, .iload 6, 2), (76, .iconst 0, 1)]
theorem daX3_likeliestAbove_t1 : dtX3_likeliestAbove_t1.all (dck cX3_likeliestAbove) = true := by decide +kernel
theorem dX3_likeliestAbove_37 : decode cX3_likeliestAbove 37 = .ok (.ifCond .eq 57, 3) := dck_get daX3_likeliestAbove_t1 0 rfl
theorem dX3_likeliestAbove_40 : decode cX3_likeliestAbove 40 = .ok (.iload_n 3, 1) := dck_get daX3_likeliestAbove_t1 1 rfl
theorem dX3_likeliestAbove_41 : decode cX3_likeliestAbove 41 = .ok (.iload 6, 2) := dck_get daX3_likeliestAbove_t1 2 rfl
theorem dX3_likeliestAbove_43 : decode cX3_likeliestAbove 43 = .ok (.invokestatic 68, 3) := dck_get daX3_likeliestAbove_t1 3 rfl
theorem dX3_likeliestAbove_46 : decode cX3_likeliestAbove 46 = .ok (.ifCond .ne 48, 3) := dck_get daX3_likeliestAbove_t1 4 rfl
theorem dX3_likeliestAbove_49 : decode cX3_likeliestAbove 49 = .ok (.aload_n 0, 1) := dck_get daX3_likeliestAbove_t1 5 rfl
theorem dX3_likeliestAbove_50 : decode cX3_likeliestAbove 50 = .ok (.getfield 18, 3) := dck_get daX3_likeliestAbove_t1 6 rfl
theorem dX3_likeliestAbove_53 : decode cX3_likeliestAbove 53 = .ok (.iload 6, 2) := dck_get daX3_likeliestAbove_t1 7 rfl
theorem dX3_likeliestAbove_55 : decode cX3_likeliestAbove 55 = .ok (.iaload, 1) := dck_get daX3_likeliestAbove_t1 8 rfl
theorem dX3_likeliestAbove_56 : decode cX3_likeliestAbove 56 = .ok (.aload_n 0, 1) := dck_get daX3_likeliestAbove_t1 9 rfl
theorem dX3_likeliestAbove_57 : decode cX3_likeliestAbove 57 = .ok (.getfield 18, 3) := dck_get daX3_likeliestAbove_t1 10 rfl
theorem dX3_likeliestAbove_60 : decode cX3_likeliestAbove 60 = .ok (.iload_n 1, 1) := dck_get daX3_likeliestAbove_t1 11 rfl
theorem dX3_likeliestAbove_61 : decode cX3_likeliestAbove 61 = .ok (.iaload, 1) := dck_get daX3_likeliestAbove_t1 12 rfl
theorem dX3_likeliestAbove_62 : decode cX3_likeliestAbove 62 = .ok (.if_icmp .gt 6, 3) := dck_get daX3_likeliestAbove_t1 13 rfl
theorem dX3_likeliestAbove_65 : decode cX3_likeliestAbove 65 = .ok (.goto 29, 3) := dck_get daX3_likeliestAbove_t1 14 rfl
theorem dX3_likeliestAbove_68 : decode cX3_likeliestAbove 68 = .ok (.iload 5, 2) := dck_get daX3_likeliestAbove_t1 15 rfl
theorem dX3_likeliestAbove_70 : decode cX3_likeliestAbove 70 = .ok (.ifCond .lt 20, 3) := dck_get daX3_likeliestAbove_t1 16 rfl
theorem dX3_likeliestAbove_73 : decode cX3_likeliestAbove 73 = .ok (.aload_n 0, 1) := dck_get daX3_likeliestAbove_t1 17 rfl
theorem dX3_likeliestAbove_74 : decode cX3_likeliestAbove 74 = .ok (.iload 6, 2) := dck_get daX3_likeliestAbove_t1 18 rfl
theorem dX3_likeliestAbove_76 : decode cX3_likeliestAbove 76 = .ok (.iconst 0, 1) := dck_get daX3_likeliestAbove_t1 19 rfl
def dtX3_likeliestAbove_t2 : List (Nat × Instr × Nat) := [(77, .invokevirtual 86, 3), (80, .aload_n 0, 1), (81, .iload 5, 2), (83, .iconst 0, 1), (84, .invokevirtual 86, 3), (87, .if_icmp .le 7, 3), (90, .iload 6, 2), (92, .istore 5, 2), (94, .iinc 6 1, 3), (97, .goto (-73), 3), (100, .iload 5, 2), (102, .ifCond .lt 10, 3), (105, .iload_n 3, 1), (106, .iconst 1, 1), (107, .iload 5, 2), (109, .ishl, 1), (110, .ior, 1), (111, .istore_n 3, 1), (112, .iinc 4 1, 3), (115, .goto (-110), 3)]
theorem daX3_likeliestAbove_t2 : dtX3_likeliestAbove_t2.all (dck cX3_likeliestAbove) = true := by decide +kernel
theorem dX3_likeliestAbove_77 : decode cX3_likeliestAbove 77 = .ok (.invokevirtual 86, 3) := dck_get daX3_likeliestAbove_t2 0 rfl
theorem dX3_likeliestAbove_80 : decode cX3_likeliestAbove 80 = .ok (.aload_n 0, 1) := dck_get daX3_likeliestAbove_t2 1 rfl
theorem dX3_likeliestAbove_81 : decode cX3_likeliestAbove 81 = .ok (.iload 5, 2) := dck_get daX3_likeliestAbove_t2 2 rfl
theorem dX3_likeliestAbove_83 : decode cX3_likeliestAbove 83 = .ok (.iconst 0, 1) := dck_get daX3_likeliestAbove_t2 3 rfl
theorem dX3_likeliestAbove_84 : decode cX3_likeliestAbove 84 = .ok (.invokevirtual 86, 3) := dck_get daX3_likeliestAbove_t2 4 rfl
theorem dX3_likeliestAbove_87 : decode cX3_likeliestAbove 87 = .ok (.if_icmp .le 7, 3) := dck_get daX3_likeliestAbove_t2 5 rfl
theorem dX3_likeliestAbove_90 : decode cX3_likeliestAbove 90 = .ok (.iload 6, 2) := dck_get daX3_likeliestAbove_t2 6 rfl
theorem dX3_likeliestAbove_92 : decode cX3_likeliestAbove 92 = .ok (.istore 5, 2) := dck_get daX3_likeliestAbove_t2 7 rfl
theorem dX3_likeliestAbove_94 : decode cX3_likeliestAbove 94 = .ok (.iinc 6 1, 3) := dck_get daX3_likeliestAbove_t2 8 rfl
theorem dX3_likeliestAbove_97 : decode cX3_likeliestAbove 97 = .ok (.goto (-73), 3) := dck_get daX3_likeliestAbove_t2 9 rfl
theorem dX3_likeliestAbove_100 : decode cX3_likeliestAbove 100 = .ok (.iload 5, 2) := dck_get daX3_likeliestAbove_t2 10 rfl
theorem dX3_likeliestAbove_102 : decode cX3_likeliestAbove 102 = .ok (.ifCond .lt 10, 3) := dck_get daX3_likeliestAbove_t2 11 rfl
theorem dX3_likeliestAbove_105 : decode cX3_likeliestAbove 105 = .ok (.iload_n 3, 1) := dck_get daX3_likeliestAbove_t2 12 rfl
theorem dX3_likeliestAbove_106 : decode cX3_likeliestAbove 106 = .ok (.iconst 1, 1) := dck_get daX3_likeliestAbove_t2 13 rfl
theorem dX3_likeliestAbove_107 : decode cX3_likeliestAbove 107 = .ok (.iload 5, 2) := dck_get daX3_likeliestAbove_t2 14 rfl
theorem dX3_likeliestAbove_109 : decode cX3_likeliestAbove 109 = .ok (.ishl, 1) := dck_get daX3_likeliestAbove_t2 15 rfl
theorem dX3_likeliestAbove_110 : decode cX3_likeliestAbove 110 = .ok (.ior, 1) := dck_get daX3_likeliestAbove_t2 16 rfl
theorem dX3_likeliestAbove_111 : decode cX3_likeliestAbove 111 = .ok (.istore_n 3, 1) := dck_get daX3_likeliestAbove_t2 17 rfl
theorem dX3_likeliestAbove_112 : decode cX3_likeliestAbove 112 = .ok (.iinc 4 1, 3) := dck_get daX3_likeliestAbove_t2 18 rfl
theorem dX3_likeliestAbove_115 : decode cX3_likeliestAbove 115 = .ok (.goto (-110), 3) := dck_get daX3_likeliestAbove_t2 19 rfl
def dtX3_likeliestAbove_t3 : List (Nat × Instr × Nat) := [(118, .iload_n 3, 1), (119, .ireturn, 1)]
theorem daX3_likeliestAbove_t3 : dtX3_likeliestAbove_t3.all (dck cX3_likeliestAbove) = true := by decide +kernel
theorem dX3_likeliestAbove_118 : decode cX3_likeliestAbove 118 = .ok (.iload_n 3, 1) := dck_get daX3_likeliestAbove_t3 0 rfl
theorem dX3_likeliestAbove_119 : decode cX3_likeliestAbove 119 = .ok (.ireturn, 1) := dck_get daX3_likeliestAbove_t3 1 rfl
set_option maxRecDepth 20000 in
theorem ggX3_inRings_X3_isAlive : GoodIn wsX3_inRings wsX3_isAlive := goodIn_sub (List.forall_mem_cons.mpr ⟨(List.mem_of_getElem? (i := 5) rfl), (List.forall_mem_append.mpr ⟨(List.forall_mem_cons.mpr ⟨(List.mem_of_getElem? (i := 6) rfl), (List.forall_mem_cons.mpr ⟨(List.mem_of_getElem? (i := 7) rfl), (fun _ h => absurd h List.not_mem_nil)⟩)⟩), (fun _ h => (List.mem_cons_of_mem _ (List.mem_append_right _ h)))⟩)⟩) gw_wsX3_isAlive
set_option maxRecDepth 20000 in
theorem gX3_inRings_X3_isAlive : GoodIn wsX3_inRings (wsV RX3 38 RX3 yX3_isAlive wsX3_isAlive) := goodIn_app (goodIn_sub (List.forall_mem_cons.mpr ⟨(List.mem_of_getElem? (i := 1) rfl), (List.forall_mem_cons.mpr ⟨(List.mem_of_getElem? (i := 2) rfl), (List.forall_mem_cons.mpr ⟨(List.mem_of_getElem? (i := 3) rfl), (List.forall_mem_cons.mpr ⟨(List.mem_of_getElem? (i := 4) rfl), (fun _ h => absurd h List.not_mem_nil)⟩)⟩)⟩)⟩) (by decide +kernel)) ggX3_inRings_X3_isAlive
set_option maxRecDepth 20000 in
theorem gw_wsX3_isInRing : wsX3_isInRing.all goodWord = true := by decide +kernel
set_option maxRecDepth 20000 in
theorem ggX3_inRings_X3_isInRing : GoodIn wsX3_inRings wsX3_isInRing := goodIn_sub (List.forall_mem_cons.mpr ⟨(List.mem_of_getElem? (i := 11) rfl), (List.forall_mem_append.mpr ⟨(List.forall_mem_cons.mpr ⟨(List.mem_of_getElem? (i := 12) rfl), (List.forall_mem_cons.mpr ⟨(List.mem_of_getElem? (i := 13) rfl), (List.forall_mem_cons.mpr ⟨(List.mem_of_getElem? (i := 14) rfl), (List.forall_mem_cons.mpr ⟨(List.mem_of_getElem? (i := 15) rfl), (List.forall_mem_cons.mpr ⟨(List.mem_of_getElem? (i := 4) rfl), (List.forall_mem_cons.mpr ⟨(List.mem_of_getElem? (i := 16) rfl), (List.forall_mem_cons.mpr ⟨(List.mem_of_getElem? (i := 7) rfl), (List.forall_mem_cons.mpr ⟨(List.mem_of_getElem? (i := 1) rfl), (List.forall_mem_cons.mpr ⟨(List.mem_of_getElem? (i := 2) rfl), (List.forall_mem_cons.mpr ⟨(List.mem_of_getElem? (i := 3) rfl), (List.forall_mem_cons.mpr ⟨(List.mem_of_getElem? (i := 5) rfl), (List.forall_mem_cons.mpr ⟨(List.mem_of_getElem? (i := 6) rfl), (fun _ h => absurd h List.not_mem_nil)⟩)⟩)⟩)⟩)⟩)⟩)⟩)⟩)⟩)⟩)⟩)⟩), (fun _ h => (List.mem_cons_of_mem _ (List.mem_append_right _ h)))⟩)⟩) gw_wsX3_isInRing
set_option maxRecDepth 20000 in
theorem gX3_inRings_X3_isInRing : GoodIn wsX3_inRings (wsV RX3 89 RX3 yX3_isInRing wsX3_isInRing) := goodIn_app (goodIn_sub (List.forall_mem_cons.mpr ⟨(List.mem_of_getElem? (i := 8) rfl), (List.forall_mem_cons.mpr ⟨(List.mem_of_getElem? (i := 9) rfl), (List.forall_mem_cons.mpr ⟨(List.mem_of_getElem? (i := 10) rfl), (List.forall_mem_cons.mpr ⟨(List.mem_of_getElem? (i := 4) rfl), (fun _ h => absurd h List.not_mem_nil)⟩)⟩)⟩)⟩) (by decide +kernel)) ggX3_inRings_X3_isInRing
def dtX3_inRings_t0 : List (Nat × Instr × Nat) := [(0, .iconst 0, 1), (1, .istore_n 1, 1), (2, .iconst 0, 1), (3, .istore_n 2, 1), (4, .iload_n 2, 1), (5, .bipush 8, 2), (7, .if_icmp .ge 31, 3), (10, .aload_n 0, 1), (11, .iload_n 2, 1), (12, .invokevirtual 38, 3), (15, .ifCond .eq 17, 3), (18, .aload_n 0, 1), (19, .iload_n 2, 1), (20, .invokevirtual 89, 3), (23, .ifCond .eq 9, 3), (26, .iload_n 1, 1), (27, .iconst 1, 1), (28, .iload_n 2, 1), (29, .ishl, 1), (30, .ior, 1)]
theorem daX3_inRings_t0 : dtX3_inRings_t0.all (dck cX3_inRings) = true := by decide +kernel
theorem dX3_inRings_0 : decode cX3_inRings 0 = .ok (.iconst 0, 1) := dck_get daX3_inRings_t0 0 rfl
theorem dX3_inRings_1 : decode cX3_inRings 1 = .ok (.istore_n 1, 1) := dck_get daX3_inRings_t0 1 rfl
theorem dX3_inRings_2 : decode cX3_inRings 2 = .ok (.iconst 0, 1) := dck_get daX3_inRings_t0 2 rfl
theorem dX3_inRings_3 : decode cX3_inRings 3 = .ok (.istore_n 2, 1) := dck_get daX3_inRings_t0 3 rfl
theorem dX3_inRings_4 : decode cX3_inRings 4 = .ok (.iload_n 2, 1) := dck_get daX3_inRings_t0 4 rfl
theorem dX3_inRings_5 : decode cX3_inRings 5 = .ok (.bipush 8, 2) := dck_get daX3_inRings_t0 5 rfl
theorem dX3_inRings_7 : decode cX3_inRings 7 = .ok (.if_icmp .ge 31, 3) := dck_get daX3_inRings_t0 6 rfl
theorem dX3_inRings_10 : decode cX3_inRings 10 = .ok (.aload_n 0, 1) := dck_get daX3_inRings_t0 7 rfl
theorem dX3_inRings_11 : decode cX3_inRings 11 = .ok (.iload_n 2, 1) := dck_get daX3_inRings_t0 8 rfl
theorem dX3_inRings_12 : decode cX3_inRings 12 = .ok (.invokevirtual 38, 3) := dck_get daX3_inRings_t0 9 rfl
theorem dX3_inRings_15 : decode cX3_inRings 15 = .ok (.ifCond .eq 17, 3) := dck_get daX3_inRings_t0 10 rfl
theorem dX3_inRings_18 : decode cX3_inRings 18 = .ok (.aload_n 0, 1) := dck_get daX3_inRings_t0 11 rfl
theorem dX3_inRings_19 : decode cX3_inRings 19 = .ok (.iload_n 2, 1) := dck_get daX3_inRings_t0 12 rfl
theorem dX3_inRings_20 : decode cX3_inRings 20 = .ok (.invokevirtual 89, 3) := dck_get daX3_inRings_t0 13 rfl
theorem dX3_inRings_23 : decode cX3_inRings 23 = .ok (.ifCond .eq 9, 3) := dck_get daX3_inRings_t0 14 rfl
theorem dX3_inRings_26 : decode cX3_inRings 26 = .ok (.iload_n 1, 1) := dck_get daX3_inRings_t0 15 rfl
theorem dX3_inRings_27 : decode cX3_inRings 27 = .ok (.iconst 1, 1) := dck_get daX3_inRings_t0 16 rfl
theorem dX3_inRings_28 : decode cX3_inRings 28 = .ok (.iload_n 2, 1) := dck_get daX3_inRings_t0 17 rfl
theorem dX3_inRings_29 : decode cX3_inRings 29 = .ok (.ishl, 1) := dck_get daX3_inRings_t0 18 rfl
theorem dX3_inRings_30 : decode cX3_inRings 30 = .ok (.ior, 1) := dck_get daX3_inRings_t0 19 rfl
def dtX3_inRings_t1 : List (Nat × Instr × Nat) := [(31, .istore_n 1, 1), (32, .iinc 2 1, 3), (35, .goto (-31), 3), (38, .iload_n 1, 1), (39, .ireturn, 1)]
theorem daX3_inRings_t1 : dtX3_inRings_t1.all (dck cX3_inRings) = true := by decide +kernel
theorem dX3_inRings_31 : decode cX3_inRings 31 = .ok (.istore_n 1, 1) := dck_get daX3_inRings_t1 0 rfl
theorem dX3_inRings_32 : decode cX3_inRings 32 = .ok (.iinc 2 1, 3) := dck_get daX3_inRings_t1 1 rfl
theorem dX3_inRings_35 : decode cX3_inRings 35 = .ok (.goto (-31), 3) := dck_get daX3_inRings_t1 2 rfl
theorem dX3_inRings_38 : decode cX3_inRings 38 = .ok (.iload_n 1, 1) := dck_get daX3_inRings_t1 3 rfl
theorem dX3_inRings_39 : decode cX3_inRings 39 = .ok (.ireturn, 1) := dck_get daX3_inRings_t1 4 rfl
set_option maxRecDepth 20000 in
theorem gw_wsX3_inRings : wsX3_inRings.all goodWord = true := by decide +kernel
set_option maxRecDepth 20000 in
theorem ggX3_changeRings_X3_inRings : GoodIn wsX3_changeRings wsX3_inRings := goodIn_sub (List.forall_mem_cons.mpr ⟨(List.mem_of_getElem? (i := 7) rfl), (List.forall_mem_append.mpr ⟨(List.forall_mem_cons.mpr ⟨(List.mem_of_getElem? (i := 8) rfl), (List.forall_mem_cons.mpr ⟨(List.mem_of_getElem? (i := 9) rfl), (List.forall_mem_cons.mpr ⟨(List.mem_of_getElem? (i := 10) rfl), (List.forall_mem_cons.mpr ⟨(List.mem_of_getElem? (i := 6) rfl), (List.forall_mem_cons.mpr ⟨(List.mem_of_getElem? (i := 11) rfl), (List.forall_mem_cons.mpr ⟨(List.mem_of_getElem? (i := 12) rfl), (List.forall_mem_cons.mpr ⟨(List.mem_of_getElem? (i := 1) rfl), (List.forall_mem_cons.mpr ⟨(List.mem_of_getElem? (i := 13) rfl), (List.forall_mem_cons.mpr ⟨(List.mem_of_getElem? (i := 14) rfl), (List.forall_mem_cons.mpr ⟨(List.mem_of_getElem? (i := 15) rfl), (List.forall_mem_cons.mpr ⟨(List.mem_of_getElem? (i := 16) rfl), (List.forall_mem_cons.mpr ⟨(List.mem_of_getElem? (i := 2) rfl), (List.forall_mem_cons.mpr ⟨(List.mem_of_getElem? (i := 17) rfl), (List.forall_mem_cons.mpr ⟨(List.mem_of_getElem? (i := 18) rfl), (List.forall_mem_cons.mpr ⟨(List.mem_of_getElem? (i := 19) rfl), (List.forall_mem_cons.mpr ⟨(List.mem_of_getElem? (i := 20) rfl), (fun _ h => absurd h List.not_mem_nil)⟩)⟩)⟩)⟩)⟩)⟩)⟩)⟩)⟩)⟩)⟩)⟩)⟩)⟩)⟩)⟩), (fun _ h => (List.mem_cons_of_mem _ (List.mem_append_right _ h)))⟩)⟩) gw_wsX3_inRings
set_option maxRecDepth 20000 in
theorem gX3_changeRings_X3_inRings : GoodIn wsX3_changeRings (wsV RX3 92 RX3 yX3_inRings wsX3_inRings) := goodIn_app (goodIn_sub (List.forall_mem_cons.mpr ⟨(List.mem_of_getElem? (i := 3) rfl), (List.forall_mem_cons.mpr ⟨(List.mem_of_getElem? (i := 4) rfl), (List.forall_mem_cons.mpr ⟨(List.mem_of_getElem? (i := 5) rfl), (List.forall_mem_cons.mpr ⟨(List.mem_of_getElem? (i := 6) rfl), (fun _ h => absurd h List.not_mem_nil)⟩)⟩)⟩)⟩) (by decide +kernel)) ggX3_changeRings_X3_inRings
set_option maxRecDepth 20000 in
theorem ggX3_changeRings_X3_holds : GoodIn wsX3_changeRings wsX3_holds := goodIn_sub (List.forall_mem_cons.mpr ⟨(List.mem_of_getElem? (i := 23) rfl), (fun _ h => absurd h List.not_mem_nil)⟩) gw_wsX3_holds
set_option maxRecDepth 20000 in
theorem gX3_changeRings_X3_holds : GoodIn wsX3_changeRings (va_wsS RX3 68 yX3_holds wsX3_holds) := goodIn_app (goodIn_sub (List.forall_mem_cons.mpr ⟨(List.mem_of_getElem? (i := 21) rfl), (List.forall_mem_cons.mpr ⟨(List.mem_of_getElem? (i := 22) rfl), (List.forall_mem_cons.mpr ⟨(List.mem_of_getElem? (i := 6) rfl), (fun _ h => absurd h List.not_mem_nil)⟩)⟩)⟩) (by decide +kernel)) ggX3_changeRings_X3_holds
def dtX3_changeRings_t0 : List (Nat × Instr × Nat) := [(0, .aload_n 0, 1), (1, .invokevirtual 92, 3), (4, .istore_n 1, 1), (5, .iconst 0, 1), (6, .istore_n 2, 1), (7, .iconst 0, 1), (8, .istore_n 3, 1), (9, .iload_n 3, 1), (10, .bipush 8, 2), (12, .if_icmp .ge 57, 3), (15, .iload_n 1, 1), (16, .iload_n 3, 1), (17, .invokestatic 68, 3), (20, .ifCond .ne 6, 3), (23, .goto 40, 3), (26, .aload_n 0, 1), (27, .getfield 18, 3), (30, .iload_n 3, 1), (31, .iaload, 1), (32, .aload_n 0, 1)]
theorem daX3_changeRings_t0 : dtX3_changeRings_t0.all (dck cX3_changeRings) = true := by decide +kernel
theorem dX3_changeRings_0 : decode cX3_changeRings 0 = .ok (.aload_n 0, 1) := dck_get daX3_changeRings_t0 0 rfl
theorem dX3_changeRings_1 : decode cX3_changeRings 1 = .ok (.invokevirtual 92, 3) := dck_get daX3_changeRings_t0 1 rfl
theorem dX3_changeRings_4 : decode cX3_changeRings 4 = .ok (.istore_n 1, 1) := dck_get daX3_changeRings_t0 2 rfl
theorem dX3_changeRings_5 : decode cX3_changeRings 5 = .ok (.iconst 0, 1) := dck_get daX3_changeRings_t0 3 rfl
theorem dX3_changeRings_6 : decode cX3_changeRings 6 = .ok (.istore_n 2, 1) := dck_get daX3_changeRings_t0 4 rfl
theorem dX3_changeRings_7 : decode cX3_changeRings 7 = .ok (.iconst 0, 1) := dck_get daX3_changeRings_t0 5 rfl
theorem dX3_changeRings_8 : decode cX3_changeRings 8 = .ok (.istore_n 3, 1) := dck_get daX3_changeRings_t0 6 rfl
theorem dX3_changeRings_9 : decode cX3_changeRings 9 = .ok (.iload_n 3, 1) := dck_get daX3_changeRings_t0 7 rfl
theorem dX3_changeRings_10 : decode cX3_changeRings 10 = .ok (.bipush 8, 2) := dck_get daX3_changeRings_t0 8 rfl
theorem dX3_changeRings_12 : decode cX3_changeRings 12 = .ok (.if_icmp .ge 57, 3) := dck_get daX3_changeRings_t0 9 rfl
theorem dX3_changeRings_15 : decode cX3_changeRings 15 = .ok (.iload_n 1, 1) := dck_get daX3_changeRings_t0 10 rfl
theorem dX3_changeRings_16 : decode cX3_changeRings 16 = .ok (.iload_n 3, 1) := dck_get daX3_changeRings_t0 11 rfl
theorem dX3_changeRings_17 : decode cX3_changeRings 17 = .ok (.invokestatic 68, 3) := dck_get daX3_changeRings_t0 12 rfl
theorem dX3_changeRings_20 : decode cX3_changeRings 20 = .ok (.ifCond .ne 6, 3) := dck_get daX3_changeRings_t0 13 rfl
theorem dX3_changeRings_23 : decode cX3_changeRings 23 = .ok (.goto 40, 3) := dck_get daX3_changeRings_t0 14 rfl
theorem dX3_changeRings_26 : decode cX3_changeRings 26 = .ok (.aload_n 0, 1) := dck_get daX3_changeRings_t0 15 rfl
theorem dX3_changeRings_27 : decode cX3_changeRings 27 = .ok (.getfield 18, 3) := dck_get daX3_changeRings_t0 16 rfl
theorem dX3_changeRings_30 : decode cX3_changeRings 30 = .ok (.iload_n 3, 1) := dck_get daX3_changeRings_t0 17 rfl
theorem dX3_changeRings_31 : decode cX3_changeRings 31 = .ok (.iaload, 1) := dck_get daX3_changeRings_t0 18 rfl
theorem dX3_changeRings_32 : decode cX3_changeRings 32 = .ok (.aload_n 0, 1) := dck_get daX3_changeRings_t0 19 rfl
def dtX3_changeRings_t1 : List (Nat × Instr × Nat) := [(33, .getfield 24, 3), (36, .iload_n 3, 1), (37, .iaload, 1), (38, .if_icmp .eq 6, 3), (41, .iinc 2 1, 3), (44, .aload_n 0, 1), (45, .getfield 18, 3), (48, .iload_n 3, 1), (49, .aload_n 0, 1), (50, .getfield 24, 3), (53, .iload_n 3, 1), (54, .iaload, 1), (55, .iastore, 1), (56, .aload_n 0, 1), (57, .getfield 24, 3), (60, .iload_n 3, 1), (61, .iconst (-1), 1), (62, .iastore, 1), (63, .iinc 3 1, 3), (66, .goto (-57), 3)]
theorem daX3_changeRings_t1 : dtX3_changeRings_t1.all (dck cX3_changeRings) = true := by decide +kernel
theorem dX3_changeRings_33 : decode cX3_changeRings 33 = .ok (.getfield 24, 3) := dck_get daX3_changeRings_t1 0 rfl
theorem dX3_changeRings_36 : decode cX3_changeRings 36 = .ok (.iload_n 3, 1) := dck_get daX3_changeRings_t1 1 rfl
theorem dX3_changeRings_37 : decode cX3_changeRings 37 = .ok (.iaload, 1) := dck_get daX3_changeRings_t1 2 rfl
theorem dX3_changeRings_38 : decode cX3_changeRings 38 = .ok (.if_icmp .eq 6, 3) := dck_get daX3_changeRings_t1 3 rfl
theorem dX3_changeRings_41 : decode cX3_changeRings 41 = .ok (.iinc 2 1, 3) := dck_get daX3_changeRings_t1 4 rfl
theorem dX3_changeRings_44 : decode cX3_changeRings 44 = .ok (.aload_n 0, 1) := dck_get daX3_changeRings_t1 5 rfl
theorem dX3_changeRings_45 : decode cX3_changeRings 45 = .ok (.getfield 18, 3) := dck_get daX3_changeRings_t1 6 rfl
theorem dX3_changeRings_48 : decode cX3_changeRings 48 = .ok (.iload_n 3, 1) := dck_get daX3_changeRings_t1 7 rfl
theorem dX3_changeRings_49 : decode cX3_changeRings 49 = .ok (.aload_n 0, 1) := dck_get daX3_changeRings_t1 8 rfl
theorem dX3_changeRings_50 : decode cX3_changeRings 50 = .ok (.getfield 24, 3) := dck_get daX3_changeRings_t1 9 rfl
theorem dX3_changeRings_53 : decode cX3_changeRings 53 = .ok (.iload_n 3, 1) := dck_get daX3_changeRings_t1 10 rfl
theorem dX3_changeRings_54 : decode cX3_changeRings 54 = .ok (.iaload, 1) := dck_get daX3_changeRings_t1 11 rfl
theorem dX3_changeRings_55 : decode cX3_changeRings 55 = .ok (.iastore, 1) := dck_get daX3_changeRings_t1 12 rfl
theorem dX3_changeRings_56 : decode cX3_changeRings 56 = .ok (.aload_n 0, 1) := dck_get daX3_changeRings_t1 13 rfl
theorem dX3_changeRings_57 : decode cX3_changeRings 57 = .ok (.getfield 24, 3) := dck_get daX3_changeRings_t1 14 rfl
theorem dX3_changeRings_60 : decode cX3_changeRings 60 = .ok (.iload_n 3, 1) := dck_get daX3_changeRings_t1 15 rfl
theorem dX3_changeRings_61 : decode cX3_changeRings 61 = .ok (.iconst (-1), 1) := dck_get daX3_changeRings_t1 16 rfl
theorem dX3_changeRings_62 : decode cX3_changeRings 62 = .ok (.iastore, 1) := dck_get daX3_changeRings_t1 17 rfl
theorem dX3_changeRings_63 : decode cX3_changeRings 63 = .ok (.iinc 3 1, 3) := dck_get daX3_changeRings_t1 18 rfl
theorem dX3_changeRings_66 : decode cX3_changeRings 66 = .ok (.goto (-57), 3) := dck_get daX3_changeRings_t1 19 rfl
def dtX3_changeRings_t2 : List (Nat × Instr × Nat) := [(69, .iload_n 2, 1), (70, .ireturn, 1)]
theorem daX3_changeRings_t2 : dtX3_changeRings_t2.all (dck cX3_changeRings) = true := by decide +kernel
theorem dX3_changeRings_69 : decode cX3_changeRings 69 = .ok (.iload_n 2, 1) := dck_get daX3_changeRings_t2 0 rfl
theorem dX3_changeRings_70 : decode cX3_changeRings 70 = .ok (.ireturn, 1) := dck_get daX3_changeRings_t2 1 rfl
set_option maxRecDepth 20000 in
theorem ggX3_livingByLot_X3_living : GoodIn wsX3_livingByLot wsX3_living := goodIn_sub (List.forall_mem_cons.mpr ⟨(List.mem_of_getElem? (i := 8) rfl), (List.forall_mem_append.mpr ⟨(List.forall_mem_cons.mpr ⟨(List.mem_of_getElem? (i := 9) rfl), (List.forall_mem_cons.mpr ⟨(List.mem_of_getElem? (i := 10) rfl), (List.forall_mem_cons.mpr ⟨(List.mem_of_getElem? (i := 11) rfl), (List.forall_mem_cons.mpr ⟨(List.mem_of_getElem? (i := 7) rfl), (List.forall_mem_cons.mpr ⟨(List.mem_of_getElem? (i := 12) rfl), (List.forall_mem_cons.mpr ⟨(List.mem_of_getElem? (i := 13) rfl), (List.forall_mem_cons.mpr ⟨(List.mem_of_getElem? (i := 14) rfl), (fun _ h => absurd h List.not_mem_nil)⟩)⟩)⟩)⟩)⟩)⟩)⟩), (fun _ h => (List.mem_cons_of_mem _ (List.mem_append_right _ h)))⟩)⟩) gw_wsX3_living
set_option maxRecDepth 20000 in
theorem gX3_livingByLot_X3_living : GoodIn wsX3_livingByLot (wsV RX3 34 RX3 yX3_living wsX3_living) := goodIn_app (goodIn_sub (List.forall_mem_cons.mpr ⟨(List.mem_of_getElem? (i := 4) rfl), (List.forall_mem_cons.mpr ⟨(List.mem_of_getElem? (i := 5) rfl), (List.forall_mem_cons.mpr ⟨(List.mem_of_getElem? (i := 6) rfl), (List.forall_mem_cons.mpr ⟨(List.mem_of_getElem? (i := 7) rfl), (fun _ h => absurd h List.not_mem_nil)⟩)⟩)⟩)⟩) (by decide +kernel)) ggX3_livingByLot_X3_living
set_option maxRecDepth 20000 in
theorem ggX3_livingByLot_X3_holds : GoodIn wsX3_livingByLot wsX3_holds := goodIn_sub (List.forall_mem_cons.mpr ⟨(List.mem_of_getElem? (i := 17) rfl), (fun _ h => absurd h List.not_mem_nil)⟩) gw_wsX3_holds
set_option maxRecDepth 20000 in
theorem gX3_livingByLot_X3_holds : GoodIn wsX3_livingByLot (va_wsS RX3 68 yX3_holds wsX3_holds) := goodIn_app (goodIn_sub (List.forall_mem_cons.mpr ⟨(List.mem_of_getElem? (i := 15) rfl), (List.forall_mem_cons.mpr ⟨(List.mem_of_getElem? (i := 16) rfl), (List.forall_mem_cons.mpr ⟨(List.mem_of_getElem? (i := 7) rfl), (fun _ h => absurd h List.not_mem_nil)⟩)⟩)⟩) (by decide +kernel)) ggX3_livingByLot_X3_holds
set_option maxRecDepth 20000 in
theorem ggX3_livingByLot_X3_chanceAfter : GoodIn wsX3_livingByLot wsX3_chanceAfter := goodIn_sub (List.forall_mem_cons.mpr ⟨(List.mem_of_getElem? (i := 21) rfl), (List.forall_mem_append.mpr ⟨(List.forall_mem_append.mpr ⟨(List.forall_mem_cons.mpr ⟨(List.mem_of_getElem? (i := 22) rfl), (List.forall_mem_cons.mpr ⟨(List.mem_of_getElem? (i := 23) rfl), (List.forall_mem_cons.mpr ⟨(List.mem_of_getElem? (i := 24) rfl), (List.forall_mem_cons.mpr ⟨(List.mem_of_getElem? (i := 25) rfl), (List.forall_mem_cons.mpr ⟨(List.mem_of_getElem? (i := 7) rfl), (List.forall_mem_cons.mpr ⟨(List.mem_of_getElem? (i := 26) rfl), (List.forall_mem_cons.mpr ⟨(List.mem_of_getElem? (i := 27) rfl), (List.forall_mem_cons.mpr ⟨(List.mem_of_getElem? (i := 28) rfl), (List.forall_mem_cons.mpr ⟨(List.mem_of_getElem? (i := 29) rfl), (List.forall_mem_cons.mpr ⟨(List.mem_of_getElem? (i := 30) rfl), (List.forall_mem_cons.mpr ⟨(List.mem_of_getElem? (i := 31) rfl), (List.forall_mem_cons.mpr ⟨(List.mem_of_getElem? (i := 32) rfl), (List.forall_mem_cons.mpr ⟨(List.mem_of_getElem? (i := 33) rfl), (List.forall_mem_cons.mpr ⟨(List.mem_of_getElem? (i := 34) rfl), (List.forall_mem_cons.mpr ⟨(List.mem_of_getElem? (i := 35) rfl), (List.forall_mem_cons.mpr ⟨(List.mem_of_getElem? (i := 36) rfl), (List.forall_mem_cons.mpr ⟨(List.mem_of_getElem? (i := 37) rfl), (List.forall_mem_cons.mpr ⟨(List.mem_of_getElem? (i := 38) rfl), (List.forall_mem_cons.mpr ⟨(List.mem_of_getElem? (i := 39) rfl), (List.forall_mem_cons.mpr ⟨(List.mem_of_getElem? (i := 40) rfl), (List.forall_mem_cons.mpr ⟨(List.mem_of_getElem? (i := 41) rfl), (List.forall_mem_cons.mpr ⟨(List.mem_of_getElem? (i := 42) rfl), (List.forall_mem_cons.mpr ⟨(List.mem_of_getElem? (i := 43) rfl), (List.forall_mem_cons.mpr ⟨(List.mem_of_getElem? (i := 44) rfl), (fun _ h => absurd h List.not_mem_nil)⟩)⟩)⟩)⟩)⟩)⟩)⟩)⟩)⟩)⟩)⟩)⟩)⟩)⟩)⟩)⟩)⟩)⟩)⟩)⟩)⟩)⟩)⟩)⟩), (List.forall_mem_cons.mpr ⟨(List.mem_of_getElem? (i := 45) rfl), (fun _ h => absurd h List.not_mem_nil)⟩)⟩), (fun _ h => (List.mem_cons_of_mem _ (List.mem_append_right _ h)))⟩)⟩) gw_wsX3_chanceAfter
set_option maxRecDepth 20000 in
theorem gX3_livingByLot_X3_chanceAfter : GoodIn wsX3_livingByLot (wsV RX3 86 RX3 yX3_chanceAfter wsX3_chanceAfter) := goodIn_app (goodIn_sub (List.forall_mem_cons.mpr ⟨(List.mem_of_getElem? (i := 18) rfl), (List.forall_mem_cons.mpr ⟨(List.mem_of_getElem? (i := 19) rfl), (List.forall_mem_cons.mpr ⟨(List.mem_of_getElem? (i := 20) rfl), (List.forall_mem_cons.mpr ⟨(List.mem_of_getElem? (i := 7) rfl), (fun _ h => absurd h List.not_mem_nil)⟩)⟩)⟩)⟩) (by decide +kernel)) ggX3_livingByLot_X3_chanceAfter
def dtX3_livingByLot_t0 : List (Nat × Instr × Nat) := [(0, .aload_n 0, 1), (1, .invokevirtual 34, 3), (4, .istore_n 3, 1), (5, .iload_n 2, 1), (6, .istore 4, 2), (8, .iconst 0, 1), (9, .istore 5, 2), (11, .iload 5, 2), (13, .iload_n 1, 1), (14, .if_icmp .ge 83, 3), (17, .iconst 0, 1), (18, .istore 6, 2), (20, .iload 6, 2), (22, .bipush 8, 2), (24, .if_icmp .ge 67, 3), (27, .iload_n 3, 1), (28, .iload 6, 2), (30, .invokestatic 68, 3), (33, .ifCond .ne 6, 3), (36, .goto 49, 3)]
theorem daX3_livingByLot_t0 : dtX3_livingByLot_t0.all (dck cX3_livingByLot) = true := by decide +kernel
theorem dX3_livingByLot_0 : decode cX3_livingByLot 0 = .ok (.aload_n 0, 1) := dck_get daX3_livingByLot_t0 0 rfl
theorem dX3_livingByLot_1 : decode cX3_livingByLot 1 = .ok (.invokevirtual 34, 3) := dck_get daX3_livingByLot_t0 1 rfl
theorem dX3_livingByLot_4 : decode cX3_livingByLot 4 = .ok (.istore_n 3, 1) := dck_get daX3_livingByLot_t0 2 rfl
theorem dX3_livingByLot_5 : decode cX3_livingByLot 5 = .ok (.iload_n 2, 1) := dck_get daX3_livingByLot_t0 3 rfl
theorem dX3_livingByLot_6 : decode cX3_livingByLot 6 = .ok (.istore 4, 2) := dck_get daX3_livingByLot_t0 4 rfl
theorem dX3_livingByLot_8 : decode cX3_livingByLot 8 = .ok (.iconst 0, 1) := dck_get daX3_livingByLot_t0 5 rfl
theorem dX3_livingByLot_9 : decode cX3_livingByLot 9 = .ok (.istore 5, 2) := dck_get daX3_livingByLot_t0 6 rfl
theorem dX3_livingByLot_11 : decode cX3_livingByLot 11 = .ok (.iload 5, 2) := dck_get daX3_livingByLot_t0 7 rfl
theorem dX3_livingByLot_13 : decode cX3_livingByLot 13 = .ok (.iload_n 1, 1) := dck_get daX3_livingByLot_t0 8 rfl
theorem dX3_livingByLot_14 : decode cX3_livingByLot 14 = .ok (.if_icmp .ge 83, 3) := dck_get daX3_livingByLot_t0 9 rfl
theorem dX3_livingByLot_17 : decode cX3_livingByLot 17 = .ok (.iconst 0, 1) := dck_get daX3_livingByLot_t0 10 rfl
theorem dX3_livingByLot_18 : decode cX3_livingByLot 18 = .ok (.istore 6, 2) := dck_get daX3_livingByLot_t0 11 rfl
theorem dX3_livingByLot_20 : decode cX3_livingByLot 20 = .ok (.iload 6, 2) := dck_get daX3_livingByLot_t0 12 rfl
theorem dX3_livingByLot_22 : decode cX3_livingByLot 22 = .ok (.bipush 8, 2) := dck_get daX3_livingByLot_t0 13 rfl
theorem dX3_livingByLot_24 : decode cX3_livingByLot 24 = .ok (.if_icmp .ge 67, 3) := dck_get daX3_livingByLot_t0 14 rfl
theorem dX3_livingByLot_27 : decode cX3_livingByLot 27 = .ok (.iload_n 3, 1) := dck_get daX3_livingByLot_t0 15 rfl
theorem dX3_livingByLot_28 : decode cX3_livingByLot 28 = .ok (.iload 6, 2) := dck_get daX3_livingByLot_t0 16 rfl
theorem dX3_livingByLot_30 : decode cX3_livingByLot 30 = .ok (.invokestatic 68, 3) := dck_get daX3_livingByLot_t0 17 rfl
theorem dX3_livingByLot_33 : decode cX3_livingByLot 33 = .ok (.ifCond .ne 6, 3) := dck_get daX3_livingByLot_t0 18 rfl
theorem dX3_livingByLot_36 : decode cX3_livingByLot 36 = .ok (.goto 49, 3) := dck_get daX3_livingByLot_t0 19 rfl
def dtX3_livingByLot_t1 : List (Nat × Instr × Nat) := [(39, .iload 4, 2), (41, .ldc 95, 2), (43, .imul, 1), (44, .ldc 96, 2), (46, .iadd, 1), (47, .istore 4, 2), (49, .iload 4, 2), (51, .ldc 97, 2), (53, .iand, 1), (54, .sipush 256, 3), (57, .idiv, 1), (58, .bipush 10, 2), (60, .irem, 1), (61, .istore 7, 2), (63, .iload 7, 2), (65, .aload_n 0, 1), (66, .iload 6, 2), (68, .iload 5, 2), (70, .invokevirtual 86, 3), (73, .if_icmp .ge 12, 3)]
theorem daX3_livingByLot_t1 : dtX3_livingByLot_t1.all (dck cX3_livingByLot) = true := by decide +kernel
theorem dX3_livingByLot_39 : decode cX3_livingByLot 39 = .ok (.iload 4, 2) := dck_get daX3_livingByLot_t1 0 rfl
theorem dX3_livingByLot_41 : decode cX3_livingByLot 41 = .ok (.ldc 95, 2) := dck_get daX3_livingByLot_t1 1 rfl
theorem dX3_livingByLot_43 : decode cX3_livingByLot 43 = .ok (.imul, 1) := dck_get daX3_livingByLot_t1 2 rfl
theorem dX3_livingByLot_44 : decode cX3_livingByLot 44 = .ok (.ldc 96, 2) := dck_get daX3_livingByLot_t1 3 rfl
theorem dX3_livingByLot_46 : decode cX3_livingByLot 46 = .ok (.iadd, 1) := dck_get daX3_livingByLot_t1 4 rfl
theorem dX3_livingByLot_47 : decode cX3_livingByLot 47 = .ok (.istore 4, 2) := dck_get daX3_livingByLot_t1 5 rfl
theorem dX3_livingByLot_49 : decode cX3_livingByLot 49 = .ok (.iload 4, 2) := dck_get daX3_livingByLot_t1 6 rfl
theorem dX3_livingByLot_51 : decode cX3_livingByLot 51 = .ok (.ldc 97, 2) := dck_get daX3_livingByLot_t1 7 rfl
theorem dX3_livingByLot_53 : decode cX3_livingByLot 53 = .ok (.iand, 1) := dck_get daX3_livingByLot_t1 8 rfl
theorem dX3_livingByLot_54 : decode cX3_livingByLot 54 = .ok (.sipush 256, 3) := dck_get daX3_livingByLot_t1 9 rfl
theorem dX3_livingByLot_57 : decode cX3_livingByLot 57 = .ok (.idiv, 1) := dck_get daX3_livingByLot_t1 10 rfl
theorem dX3_livingByLot_58 : decode cX3_livingByLot 58 = .ok (.bipush 10, 2) := dck_get daX3_livingByLot_t1 11 rfl
theorem dX3_livingByLot_60 : decode cX3_livingByLot 60 = .ok (.irem, 1) := dck_get daX3_livingByLot_t1 12 rfl
theorem dX3_livingByLot_61 : decode cX3_livingByLot 61 = .ok (.istore 7, 2) := dck_get daX3_livingByLot_t1 13 rfl
theorem dX3_livingByLot_63 : decode cX3_livingByLot 63 = .ok (.iload 7, 2) := dck_get daX3_livingByLot_t1 14 rfl
theorem dX3_livingByLot_65 : decode cX3_livingByLot 65 = .ok (.aload_n 0, 1) := dck_get daX3_livingByLot_t1 15 rfl
theorem dX3_livingByLot_66 : decode cX3_livingByLot 66 = .ok (.iload 6, 2) := dck_get daX3_livingByLot_t1 16 rfl
theorem dX3_livingByLot_68 : decode cX3_livingByLot 68 = .ok (.iload 5, 2) := dck_get daX3_livingByLot_t1 17 rfl
theorem dX3_livingByLot_70 : decode cX3_livingByLot 70 = .ok (.invokevirtual 86, 3) := dck_get daX3_livingByLot_t1 18 rfl
theorem dX3_livingByLot_73 : decode cX3_livingByLot 73 = .ok (.if_icmp .ge 12, 3) := dck_get daX3_livingByLot_t1 19 rfl
def dtX3_livingByLot_t2 : List (Nat × Instr × Nat) := [(76, .iload_n 3, 1), (77, .iconst 1, 1), (78, .iload 6, 2), (80, .ishl, 1), (81, .iconst (-1), 1), (82, .ixor, 1), (83, .iand, 1), (84, .istore_n 3, 1), (85, .iinc 6 1, 3), (88, .goto (-68), 3), (91, .iinc 5 1, 3), (94, .goto (-83), 3), (97, .iload_n 3, 1), (98, .ireturn, 1)]
theorem daX3_livingByLot_t2 : dtX3_livingByLot_t2.all (dck cX3_livingByLot) = true := by decide +kernel
theorem dX3_livingByLot_76 : decode cX3_livingByLot 76 = .ok (.iload_n 3, 1) := dck_get daX3_livingByLot_t2 0 rfl
theorem dX3_livingByLot_77 : decode cX3_livingByLot 77 = .ok (.iconst 1, 1) := dck_get daX3_livingByLot_t2 1 rfl
theorem dX3_livingByLot_78 : decode cX3_livingByLot 78 = .ok (.iload 6, 2) := dck_get daX3_livingByLot_t2 2 rfl
theorem dX3_livingByLot_80 : decode cX3_livingByLot 80 = .ok (.ishl, 1) := dck_get daX3_livingByLot_t2 3 rfl
theorem dX3_livingByLot_81 : decode cX3_livingByLot 81 = .ok (.iconst (-1), 1) := dck_get daX3_livingByLot_t2 4 rfl
theorem dX3_livingByLot_82 : decode cX3_livingByLot 82 = .ok (.ixor, 1) := dck_get daX3_livingByLot_t2 5 rfl
theorem dX3_livingByLot_83 : decode cX3_livingByLot 83 = .ok (.iand, 1) := dck_get daX3_livingByLot_t2 6 rfl
theorem dX3_livingByLot_84 : decode cX3_livingByLot 84 = .ok (.istore_n 3, 1) := dck_get daX3_livingByLot_t2 7 rfl
theorem dX3_livingByLot_85 : decode cX3_livingByLot 85 = .ok (.iinc 6 1, 3) := dck_get daX3_livingByLot_t2 8 rfl
theorem dX3_livingByLot_88 : decode cX3_livingByLot 88 = .ok (.goto (-68), 3) := dck_get daX3_livingByLot_t2 9 rfl
theorem dX3_livingByLot_91 : decode cX3_livingByLot 91 = .ok (.iinc 5 1, 3) := dck_get daX3_livingByLot_t2 10 rfl
theorem dX3_livingByLot_94 : decode cX3_livingByLot 94 = .ok (.goto (-83), 3) := dck_get daX3_livingByLot_t2 11 rfl
theorem dX3_livingByLot_97 : decode cX3_livingByLot 97 = .ok (.iload_n 3, 1) := dck_get daX3_livingByLot_t2 12 rfl
theorem dX3_livingByLot_98 : decode cX3_livingByLot 98 = .ok (.ireturn, 1) := dck_get daX3_livingByLot_t2 13 rfl
def dtX3_ageAfter_t0 : List (Nat × Instr × Nat) := [(0, .bipush 99, 2), (2, .aload_n 0, 1), (3, .getfield 15, 3), (6, .iload_n 1, 1), (7, .iaload, 1), (8, .iload_n 2, 1), (9, .iadd, 1), (10, .invokestatic 98, 3), (13, .ireturn, 1)]
theorem daX3_ageAfter_t0 : dtX3_ageAfter_t0.all (dck cX3_ageAfter) = true := by decide +kernel
theorem dX3_ageAfter_0 : decode cX3_ageAfter 0 = .ok (.bipush 99, 2) := dck_get daX3_ageAfter_t0 0 rfl
theorem dX3_ageAfter_2 : decode cX3_ageAfter 2 = .ok (.aload_n 0, 1) := dck_get daX3_ageAfter_t0 1 rfl
theorem dX3_ageAfter_3 : decode cX3_ageAfter 3 = .ok (.getfield 15, 3) := dck_get daX3_ageAfter_t0 2 rfl
theorem dX3_ageAfter_6 : decode cX3_ageAfter 6 = .ok (.iload_n 1, 1) := dck_get daX3_ageAfter_t0 3 rfl
theorem dX3_ageAfter_7 : decode cX3_ageAfter 7 = .ok (.iaload, 1) := dck_get daX3_ageAfter_t0 4 rfl
theorem dX3_ageAfter_8 : decode cX3_ageAfter 8 = .ok (.iload_n 2, 1) := dck_get daX3_ageAfter_t0 5 rfl
theorem dX3_ageAfter_9 : decode cX3_ageAfter 9 = .ok (.iadd, 1) := dck_get daX3_ageAfter_t0 6 rfl
theorem dX3_ageAfter_10 : decode cX3_ageAfter 10 = .ok (.invokestatic 98, 3) := dck_get daX3_ageAfter_t0 7 rfl
theorem dX3_ageAfter_13 : decode cX3_ageAfter 13 = .ok (.ireturn, 1) := dck_get daX3_ageAfter_t0 8 rfl
set_option maxRecDepth 20000 in
theorem ggX3_isInRing_X3_whoLivesOn : GoodIn wsX3_isInRing wsX3_whoLivesOn := goodIn_sub (List.forall_mem_cons.mpr ⟨(List.mem_of_getElem? (i := 6) rfl), (List.forall_mem_append.mpr ⟨(List.forall_mem_cons.mpr ⟨(List.mem_of_getElem? (i := 7) rfl), (List.forall_mem_cons.mpr ⟨(List.mem_of_getElem? (i := 8) rfl), (List.forall_mem_cons.mpr ⟨(List.mem_of_getElem? (i := 9) rfl), (List.forall_mem_cons.mpr ⟨(List.mem_of_getElem? (i := 10) rfl), (List.forall_mem_cons.mpr ⟨(List.mem_of_getElem? (i := 5) rfl), (List.forall_mem_cons.mpr ⟨(List.mem_of_getElem? (i := 11) rfl), (List.forall_mem_cons.mpr ⟨(List.mem_of_getElem? (i := 12) rfl), (fun _ h => absurd h List.not_mem_nil)⟩)⟩)⟩)⟩)⟩)⟩)⟩), (fun _ h => (List.mem_cons_of_mem _ (List.mem_append_right _ h)))⟩)⟩) gw_wsX3_whoLivesOn
set_option maxRecDepth 20000 in
theorem gX3_isInRing_X3_whoLivesOn : GoodIn wsX3_isInRing (wsV RX3 52 RX3 yX3_whoLivesOn wsX3_whoLivesOn) := goodIn_app (goodIn_sub (List.forall_mem_cons.mpr ⟨(List.mem_of_getElem? (i := 2) rfl), (List.forall_mem_cons.mpr ⟨(List.mem_of_getElem? (i := 3) rfl), (List.forall_mem_cons.mpr ⟨(List.mem_of_getElem? (i := 4) rfl), (List.forall_mem_cons.mpr ⟨(List.mem_of_getElem? (i := 5) rfl), (fun _ h => absurd h List.not_mem_nil)⟩)⟩)⟩)⟩) (by decide +kernel)) ggX3_isInRing_X3_whoLivesOn
def dtX3_isInRing_t0 : List (Nat × Instr × Nat) := [(0, .iload_n 1, 1), (1, .istore_n 2, 1), (2, .iconst 0, 1), (3, .istore_n 3, 1), (4, .iload_n 3, 1), (5, .bipush 8, 2), (7, .if_icmp .ge 47, 3), (10, .aload_n 0, 1), (11, .getfield 24, 3), (14, .iload_n 2, 1), (15, .iaload, 1), (16, .iconst (-1), 1), (17, .if_icmp .ne 7, 3), (20, .iconst (-1), 1), (21, .goto 13, 3), (24, .aload_n 0, 1), (25, .aload_n 0, 1), (26, .getfield 24, 3), (29, .iload_n 2, 1), (30, .iaload, 1)]
theorem daX3_isInRing_t0 : dtX3_isInRing_t0.all (dck cX3_isInRing) = true := by decide +kernel
theorem dX3_isInRing_0 : decode cX3_isInRing 0 = .ok (.iload_n 1, 1) := dck_get daX3_isInRing_t0 0 rfl
theorem dX3_isInRing_1 : decode cX3_isInRing 1 = .ok (.istore_n 2, 1) := dck_get daX3_isInRing_t0 1 rfl
theorem dX3_isInRing_2 : decode cX3_isInRing 2 = .ok (.iconst 0, 1) := dck_get daX3_isInRing_t0 2 rfl
theorem dX3_isInRing_3 : decode cX3_isInRing 3 = .ok (.istore_n 3, 1) := dck_get daX3_isInRing_t0 3 rfl
theorem dX3_isInRing_4 : decode cX3_isInRing 4 = .ok (.iload_n 3, 1) := dck_get daX3_isInRing_t0 4 rfl
theorem dX3_isInRing_5 : decode cX3_isInRing 5 = .ok (.bipush 8, 2) := dck_get daX3_isInRing_t0 5 rfl
theorem dX3_isInRing_7 : decode cX3_isInRing 7 = .ok (.if_icmp .ge 47, 3) := dck_get daX3_isInRing_t0 6 rfl
theorem dX3_isInRing_10 : decode cX3_isInRing 10 = .ok (.aload_n 0, 1) := dck_get daX3_isInRing_t0 7 rfl
theorem dX3_isInRing_11 : decode cX3_isInRing 11 = .ok (.getfield 24, 3) := dck_get daX3_isInRing_t0 8 rfl
theorem dX3_isInRing_14 : decode cX3_isInRing 14 = .ok (.iload_n 2, 1) := dck_get daX3_isInRing_t0 9 rfl
theorem dX3_isInRing_15 : decode cX3_isInRing 15 = .ok (.iaload, 1) := dck_get daX3_isInRing_t0 10 rfl
theorem dX3_isInRing_16 : decode cX3_isInRing 16 = .ok (.iconst (-1), 1) := dck_get daX3_isInRing_t0 11 rfl
theorem dX3_isInRing_17 : decode cX3_isInRing 17 = .ok (.if_icmp .ne 7, 3) := dck_get daX3_isInRing_t0 12 rfl
theorem dX3_isInRing_20 : decode cX3_isInRing 20 = .ok (.iconst (-1), 1) := dck_get daX3_isInRing_t0 13 rfl
theorem dX3_isInRing_21 : decode cX3_isInRing 21 = .ok (.goto 13, 3) := dck_get daX3_isInRing_t0 14 rfl
theorem dX3_isInRing_24 : decode cX3_isInRing 24 = .ok (.aload_n 0, 1) := dck_get daX3_isInRing_t0 15 rfl
theorem dX3_isInRing_25 : decode cX3_isInRing 25 = .ok (.aload_n 0, 1) := dck_get daX3_isInRing_t0 16 rfl
theorem dX3_isInRing_26 : decode cX3_isInRing 26 = .ok (.getfield 24, 3) := dck_get daX3_isInRing_t0 17 rfl
theorem dX3_isInRing_29 : decode cX3_isInRing 29 = .ok (.iload_n 2, 1) := dck_get daX3_isInRing_t0 18 rfl
theorem dX3_isInRing_30 : decode cX3_isInRing 30 = .ok (.iaload, 1) := dck_get daX3_isInRing_t0 19 rfl
def dtX3_isInRing_t1 : List (Nat × Instr × Nat) := [(31, .invokevirtual 52, 3), (34, .istore_n 2, 1), (35, .iload_n 2, 1), (36, .ifCond .ge 5, 3), (39, .iconst 0, 1), (40, .ireturn, 1), (41, .iload_n 2, 1), (42, .iload_n 1, 1), (43, .if_icmp .ne 5, 3), (46, .iconst 1, 1), (47, .ireturn, 1), (48, .iinc 3 1, 3), (51, .goto (-47), 3), (54, .iconst 0, 1), (55, .ireturn, 1)]
theorem daX3_isInRing_t1 : dtX3_isInRing_t1.all (dck cX3_isInRing) = true := by decide +kernel
theorem dX3_isInRing_31 : decode cX3_isInRing 31 = .ok (.invokevirtual 52, 3) := dck_get daX3_isInRing_t1 0 rfl
theorem dX3_isInRing_34 : decode cX3_isInRing 34 = .ok (.istore_n 2, 1) := dck_get daX3_isInRing_t1 1 rfl
theorem dX3_isInRing_35 : decode cX3_isInRing 35 = .ok (.iload_n 2, 1) := dck_get daX3_isInRing_t1 2 rfl
theorem dX3_isInRing_36 : decode cX3_isInRing 36 = .ok (.ifCond .ge 5, 3) := dck_get daX3_isInRing_t1 3 rfl
theorem dX3_isInRing_39 : decode cX3_isInRing 39 = .ok (.iconst 0, 1) := dck_get daX3_isInRing_t1 4 rfl
theorem dX3_isInRing_40 : decode cX3_isInRing 40 = .ok (.ireturn, 1) := dck_get daX3_isInRing_t1 5 rfl
theorem dX3_isInRing_41 : decode cX3_isInRing 41 = .ok (.iload_n 2, 1) := dck_get daX3_isInRing_t1 6 rfl
theorem dX3_isInRing_42 : decode cX3_isInRing 42 = .ok (.iload_n 1, 1) := dck_get daX3_isInRing_t1 7 rfl
theorem dX3_isInRing_43 : decode cX3_isInRing 43 = .ok (.if_icmp .ne 5, 3) := dck_get daX3_isInRing_t1 8 rfl
theorem dX3_isInRing_46 : decode cX3_isInRing 46 = .ok (.iconst 1, 1) := dck_get daX3_isInRing_t1 9 rfl
theorem dX3_isInRing_47 : decode cX3_isInRing 47 = .ok (.ireturn, 1) := dck_get daX3_isInRing_t1 10 rfl
theorem dX3_isInRing_48 : decode cX3_isInRing 48 = .ok (.iinc 3 1, 3) := dck_get daX3_isInRing_t1 11 rfl
theorem dX3_isInRing_51 : decode cX3_isInRing 51 = .ok (.goto (-47), 3) := dck_get daX3_isInRing_t1 12 rfl
theorem dX3_isInRing_54 : decode cX3_isInRing 54 = .ok (.iconst 0, 1) := dck_get daX3_isInRing_t1 13 rfl
theorem dX3_isInRing_55 : decode cX3_isInRing 55 = .ok (.ireturn, 1) := dck_get daX3_isInRing_t1 14 rfl
def dtX3_holds_t0 : List (Nat × Instr × Nat) := [(0, .iload_n 0, 1), (1, .iload_n 1, 1), (2, .ishr, 1), (3, .iconst 1, 1), (4, .iand, 1), (5, .ifCond .eq 7, 3), (8, .iconst 1, 1), (9, .goto 4, 3), (12, .iconst 0, 1), (13, .ireturn, 1)]
theorem daX3_holds_t0 : dtX3_holds_t0.all (dck cX3_holds) = true := by decide +kernel
theorem dX3_holds_0 : decode cX3_holds 0 = .ok (.iload_n 0, 1) := dck_get daX3_holds_t0 0 rfl
theorem dX3_holds_1 : decode cX3_holds 1 = .ok (.iload_n 1, 1) := dck_get daX3_holds_t0 1 rfl
theorem dX3_holds_2 : decode cX3_holds 2 = .ok (.ishr, 1) := dck_get daX3_holds_t0 2 rfl
theorem dX3_holds_3 : decode cX3_holds 3 = .ok (.iconst 1, 1) := dck_get daX3_holds_t0 3 rfl
theorem dX3_holds_4 : decode cX3_holds 4 = .ok (.iand, 1) := dck_get daX3_holds_t0 4 rfl
theorem dX3_holds_5 : decode cX3_holds 5 = .ok (.ifCond .eq 7, 3) := dck_get daX3_holds_t0 5 rfl
theorem dX3_holds_8 : decode cX3_holds 8 = .ok (.iconst 1, 1) := dck_get daX3_holds_t0 6 rfl
theorem dX3_holds_9 : decode cX3_holds 9 = .ok (.goto 4, 3) := dck_get daX3_holds_t0 7 rfl
theorem dX3_holds_12 : decode cX3_holds 12 = .ok (.iconst 0, 1) := dck_get daX3_holds_t0 8 rfl
theorem dX3_holds_13 : decode cX3_holds 13 = .ok (.ireturn, 1) := dck_get daX3_holds_t0 9 rfl
set_option maxRecDepth 20000 in
theorem gw_wsX3_init : wsX3_init.all goodWord = true := by decide +kernel
set_option maxRecDepth 20000 in
theorem ggX4_init_X3_init : GoodIn wsX4_init wsX3_init := goodIn_sub (List.forall_mem_cons.mpr ⟨(List.mem_of_getElem? (i := 22) rfl), (List.forall_mem_append.mpr ⟨(List.forall_mem_cons.mpr ⟨(List.mem_of_getElem? (i := 23) rfl), (List.forall_mem_cons.mpr ⟨(List.mem_of_getElem? (i := 2) rfl), (List.forall_mem_cons.mpr ⟨(List.mem_of_getElem? (i := 3) rfl), (List.forall_mem_cons.mpr ⟨(List.mem_of_getElem? (i := 18) rfl), (List.forall_mem_cons.mpr ⟨(List.mem_of_getElem? (i := 24) rfl), (List.forall_mem_cons.mpr ⟨(List.mem_of_getElem? (i := 25) rfl), (List.forall_mem_cons.mpr ⟨(List.mem_of_getElem? (i := 26) rfl), (List.forall_mem_cons.mpr ⟨(List.mem_of_getElem? (i := 27) rfl), (List.forall_mem_cons.mpr ⟨(List.mem_of_getElem? (i := 28) rfl), (fun _ h => absurd h List.not_mem_nil)⟩)⟩)⟩)⟩)⟩)⟩)⟩)⟩)⟩), (fun _ h => (List.mem_cons_of_mem _ (List.mem_append_left _ (List.mem_append_left _ (List.mem_append_left _ (List.mem_append_right _ h))))))⟩)⟩) gw_wsX3_init
set_option maxRecDepth 20000 in
theorem gX4_init_X3_init_n9 : GoodIn wsX4_init (wsX3_init) := ggX4_init_X3_init
set_option maxRecDepth 20000 in
theorem gw_wsX2_init : wsX2_init.all goodWord = true := by decide +kernel
set_option maxRecDepth 20000 in
theorem ggX4_init_X2_init : GoodIn wsX4_init wsX2_init := goodIn_sub (List.forall_mem_cons.mpr ⟨(List.mem_of_getElem? (i := 30) rfl), (List.forall_mem_append.mpr ⟨(List.forall_mem_cons.mpr ⟨(List.mem_of_getElem? (i := 31) rfl), (List.forall_mem_cons.mpr ⟨(List.mem_of_getElem? (i := 2) rfl), (List.forall_mem_cons.mpr ⟨(List.mem_of_getElem? (i := 3) rfl), (List.forall_mem_cons.mpr ⟨(List.mem_of_getElem? (i := 18) rfl), (List.forall_mem_cons.mpr ⟨(List.mem_of_getElem? (i := 32) rfl), (fun _ h => absurd h List.not_mem_nil)⟩)⟩)⟩)⟩)⟩), (fun _ h => (List.mem_cons_of_mem _ (List.mem_append_left _ (List.mem_append_right _ h))))⟩)⟩) gw_wsX2_init
set_option maxRecDepth 20000 in
theorem gX4_init_X2_init_n24 : GoodIn wsX4_init (wsX2_init) := ggX4_init_X2_init
set_option maxRecDepth 20000 in
theorem gw_wsX1_init : wsX1_init.all goodWord = true := by decide +kernel
set_option maxRecDepth 20000 in
theorem ggX4_init_X1_init : GoodIn wsX4_init wsX1_init := goodIn_sub (List.forall_mem_cons.mpr ⟨(List.mem_of_getElem? (i := 34) rfl), (List.forall_mem_append.mpr ⟨(List.forall_mem_cons.mpr ⟨(List.mem_of_getElem? (i := 35) rfl), (List.forall_mem_cons.mpr ⟨(List.mem_of_getElem? (i := 2) rfl), (List.forall_mem_cons.mpr ⟨(List.mem_of_getElem? (i := 3) rfl), (List.forall_mem_cons.mpr ⟨(List.mem_of_getElem? (i := 36) rfl), (List.forall_mem_cons.mpr ⟨(List.mem_of_getElem? (i := 37) rfl), (fun _ h => absurd h List.not_mem_nil)⟩)⟩)⟩)⟩)⟩), (fun _ h => (List.mem_cons_of_mem _ (List.mem_append_right _ h)))⟩)⟩) gw_wsX1_init
set_option maxRecDepth 20000 in
theorem gX4_init_X1_init_n31 : GoodIn wsX4_init (wsX1_init) := ggX4_init_X1_init
def dtX4_init_t0 : List (Nat × Instr × Nat) := [(0, .aload_n 0, 1), (1, .invokespecial 1, 3), (4, .aload_n 0, 1), (5, .new 7, 3), (8, .dup, 1), (9, .invokespecial 9, 3), (12, .putfield 10, 3), (15, .aload_n 0, 1), (16, .new 7, 3), (19, .dup, 1), (20, .invokespecial 9, 3), (23, .putfield 16, 3), (26, .aload_n 0, 1), (27, .new 7, 3), (30, .dup, 1), (31, .invokespecial 9, 3), (34, .putfield 19, 3), (37, .aload_n 0, 1), (38, .new 22, 3), (41, .dup, 1)]
theorem daX4_init_t0 : dtX4_init_t0.all (dck cX4_init) = true := by decide +kernel
theorem dX4_init_0 : decode cX4_init 0 = .ok (.aload_n 0, 1) := dck_get daX4_init_t0 0 rfl
theorem dX4_init_1 : decode cX4_init 1 = .ok (.invokespecial 1, 3) := dck_get daX4_init_t0 1 rfl
theorem dX4_init_4 : decode cX4_init 4 = .ok (.aload_n 0, 1) := dck_get daX4_init_t0 2 rfl
theorem dX4_init_5 : decode cX4_init 5 = .ok (.new 7, 3) := dck_get daX4_init_t0 3 rfl
theorem dX4_init_8 : decode cX4_init 8 = .ok (.dup, 1) := dck_get daX4_init_t0 4 rfl
theorem dX4_init_9 : decode cX4_init 9 = .ok (.invokespecial 9, 3) := dck_get daX4_init_t0 5 rfl
theorem dX4_init_12 : decode cX4_init 12 = .ok (.putfield 10, 3) := dck_get daX4_init_t0 6 rfl
theorem dX4_init_15 : decode cX4_init 15 = .ok (.aload_n 0, 1) := dck_get daX4_init_t0 7 rfl
theorem dX4_init_16 : decode cX4_init 16 = .ok (.new 7, 3) := dck_get daX4_init_t0 8 rfl
theorem dX4_init_19 : decode cX4_init 19 = .ok (.dup, 1) := dck_get daX4_init_t0 9 rfl
theorem dX4_init_20 : decode cX4_init 20 = .ok (.invokespecial 9, 3) := dck_get daX4_init_t0 10 rfl
theorem dX4_init_23 : decode cX4_init 23 = .ok (.putfield 16, 3) := dck_get daX4_init_t0 11 rfl
theorem dX4_init_26 : decode cX4_init 26 = .ok (.aload_n 0, 1) := dck_get daX4_init_t0 12 rfl
theorem dX4_init_27 : decode cX4_init 27 = .ok (.new 7, 3) := dck_get daX4_init_t0 13 rfl
theorem dX4_init_30 : decode cX4_init 30 = .ok (.dup, 1) := dck_get daX4_init_t0 14 rfl
theorem dX4_init_31 : decode cX4_init 31 = .ok (.invokespecial 9, 3) := dck_get daX4_init_t0 15 rfl
theorem dX4_init_34 : decode cX4_init 34 = .ok (.putfield 19, 3) := dck_get daX4_init_t0 16 rfl
theorem dX4_init_37 : decode cX4_init 37 = .ok (.aload_n 0, 1) := dck_get daX4_init_t0 17 rfl
theorem dX4_init_38 : decode cX4_init 38 = .ok (.new 22, 3) := dck_get daX4_init_t0 18 rfl
theorem dX4_init_41 : decode cX4_init 41 = .ok (.dup, 1) := dck_get daX4_init_t0 19 rfl
def dtX4_init_t1 : List (Nat × Instr × Nat) := [(42, .invokespecial 24, 3), (45, .putfield 25, 3), (48, .aload_n 0, 1), (49, .new 29, 3), (52, .dup, 1), (53, .invokespecial 31, 3), (56, .putfield 32, 3), (59, .aload_n 0, 1), (60, .bipush 8, 2), (62, .newarray .int, 2), (64, .putfield 36, 3), (67, .aload_n 0, 1), (68, .bipush 7, 2), (70, .newarray .int, 2), (72, .putfield 40, 3), (75, .return_, 1)]
theorem daX4_init_t1 : dtX4_init_t1.all (dck cX4_init) = true := by decide +kernel
theorem dX4_init_42 : decode cX4_init 42 = .ok (.invokespecial 24, 3) := dck_get daX4_init_t1 0 rfl
theorem dX4_init_45 : decode cX4_init 45 = .ok (.putfield 25, 3) := dck_get daX4_init_t1 1 rfl
theorem dX4_init_48 : decode cX4_init 48 = .ok (.aload_n 0, 1) := dck_get daX4_init_t1 2 rfl
theorem dX4_init_49 : decode cX4_init 49 = .ok (.new 29, 3) := dck_get daX4_init_t1 3 rfl
theorem dX4_init_52 : decode cX4_init 52 = .ok (.dup, 1) := dck_get daX4_init_t1 4 rfl
theorem dX4_init_53 : decode cX4_init 53 = .ok (.invokespecial 31, 3) := dck_get daX4_init_t1 5 rfl
theorem dX4_init_56 : decode cX4_init 56 = .ok (.putfield 32, 3) := dck_get daX4_init_t1 6 rfl
theorem dX4_init_59 : decode cX4_init 59 = .ok (.aload_n 0, 1) := dck_get daX4_init_t1 7 rfl
theorem dX4_init_60 : decode cX4_init 60 = .ok (.bipush 8, 2) := dck_get daX4_init_t1 8 rfl
theorem dX4_init_62 : decode cX4_init 62 = .ok (.newarray .int, 2) := dck_get daX4_init_t1 9 rfl
theorem dX4_init_64 : decode cX4_init 64 = .ok (.putfield 36, 3) := dck_get daX4_init_t1 10 rfl
theorem dX4_init_67 : decode cX4_init 67 = .ok (.aload_n 0, 1) := dck_get daX4_init_t1 11 rfl
theorem dX4_init_68 : decode cX4_init 68 = .ok (.bipush 7, 2) := dck_get daX4_init_t1 12 rfl
theorem dX4_init_70 : decode cX4_init 70 = .ok (.newarray .int, 2) := dck_get daX4_init_t1 13 rfl
theorem dX4_init_72 : decode cX4_init 72 = .ok (.putfield 40, 3) := dck_get daX4_init_t1 14 rfl
theorem dX4_init_75 : decode cX4_init 75 = .ok (.return_, 1) := dck_get daX4_init_t1 15 rfl
set_option maxRecDepth 20000 in
theorem gw_wsX4_refuse : wsX4_refuse.all goodWord = true := by decide +kernel
set_option maxRecDepth 20000 in
theorem ggX4_letter_X4_refuse : GoodIn wsX4_letter wsX4_refuse := goodIn_sub (List.forall_mem_cons.mpr ⟨(List.mem_of_getElem? (i := 6) rfl), (List.forall_mem_append.mpr ⟨(List.forall_mem_cons.mpr ⟨(List.mem_of_getElem? (i := 7) rfl), (fun _ h => absurd h List.not_mem_nil)⟩), (fun _ h => (List.mem_cons_of_mem _ (List.mem_append_left _ (List.mem_append_right _ h))))⟩)⟩) gw_wsX4_refuse
set_option maxRecDepth 20000 in
theorem gX4_letter_X4_refuse : GoodIn wsX4_letter (wsV RX4 43 RX4 yX4_refuse wsX4_refuse) := goodIn_app (goodIn_sub (List.forall_mem_cons.mpr ⟨(List.mem_of_getElem? (i := 2) rfl), (List.forall_mem_cons.mpr ⟨(List.mem_of_getElem? (i := 3) rfl), (List.forall_mem_cons.mpr ⟨(List.mem_of_getElem? (i := 4) rfl), (List.forall_mem_cons.mpr ⟨(List.mem_of_getElem? (i := 5) rfl), (fun _ h => absurd h List.not_mem_nil)⟩)⟩)⟩)⟩) (by decide +kernel)) ggX4_letter_X4_refuse
set_option maxRecDepth 20000 in
theorem gw_wsX2_isFull : wsX2_isFull.all goodWord = true := by decide +kernel
set_option maxRecDepth 20000 in
theorem ggX4_letter_X2_isFull : GoodIn wsX4_letter wsX2_isFull := goodIn_sub (List.forall_mem_cons.mpr ⟨(List.mem_of_getElem? (i := 12) rfl), (List.forall_mem_append.mpr ⟨(List.forall_mem_cons.mpr ⟨(List.mem_of_getElem? (i := 13) rfl), (fun _ h => absurd h List.not_mem_nil)⟩), (fun _ h => (List.mem_cons_of_mem _ (List.mem_append_right _ h)))⟩)⟩) gw_wsX2_isFull
set_option maxRecDepth 20000 in
theorem gX4_letter_X2_isFull : GoodIn wsX4_letter (wsV RX4 47 RX2 yX2_isFull wsX2_isFull) := goodIn_app (goodIn_sub (List.forall_mem_cons.mpr ⟨(List.mem_of_getElem? (i := 8) rfl), (List.forall_mem_cons.mpr ⟨(List.mem_of_getElem? (i := 9) rfl), (List.forall_mem_cons.mpr ⟨(List.mem_of_getElem? (i := 10) rfl), (List.forall_mem_cons.mpr ⟨(List.mem_of_getElem? (i := 11) rfl), (fun _ h => absurd h List.not_mem_nil)⟩)⟩)⟩)⟩) (by decide +kernel)) ggX4_letter_X2_isFull
set_option maxRecDepth 20000 in
theorem gw_wsX2_add : wsX2_add.all goodWord = true := by decide +kernel
set_option maxRecDepth 20000 in
theorem ggX4_letter_X2_add : GoodIn wsX4_letter wsX2_add := goodIn_sub (List.forall_mem_cons.mpr ⟨(List.mem_of_getElem? (i := 17) rfl), (List.forall_mem_append.mpr ⟨(List.forall_mem_cons.mpr ⟨(List.mem_of_getElem? (i := 13) rfl), (List.forall_mem_cons.mpr ⟨(List.mem_of_getElem? (i := 18) rfl), (fun _ h => absurd h List.not_mem_nil)⟩)⟩), (fun _ h => (List.mem_cons_of_mem _ (List.mem_append_right _ h)))⟩)⟩) gw_wsX2_add
set_option maxRecDepth 20000 in
theorem gX4_letter_X2_add : GoodIn wsX4_letter (wsV RX4 51 RX2 yX2_add wsX2_add) := goodIn_app (goodIn_sub (List.forall_mem_cons.mpr ⟨(List.mem_of_getElem? (i := 14) rfl), (List.forall_mem_cons.mpr ⟨(List.mem_of_getElem? (i := 15) rfl), (List.forall_mem_cons.mpr ⟨(List.mem_of_getElem? (i := 16) rfl), (List.forall_mem_cons.mpr ⟨(List.mem_of_getElem? (i := 11) rfl), (fun _ h => absurd h List.not_mem_nil)⟩)⟩)⟩)⟩) (by decide +kernel)) ggX4_letter_X2_add
def dtX4_letter_t0 : List (Nat × Instr × Nat) := [(0, .iload_n 1, 1), (1, .ifCond .ge 10, 3), (4, .aload_n 0, 1), (5, .bipush (-4), 2), (7, .invokevirtual 43, 3), (10, .ireturn, 1), (11, .iload_n 1, 1), (12, .sipush 255, 3), (15, .if_icmp .gt 13, 3), (18, .aload_n 0, 1), (19, .getfield 25, 3), (22, .invokevirtual 47, 3), (25, .ifCond .eq 10, 3), (28, .aload_n 0, 1), (29, .bipush (-6), 2), (31, .invokevirtual 43, 3), (34, .ireturn, 1), (35, .aload_n 0, 1), (36, .getfield 25, 3), (39, .iload_n 1, 1)]
theorem daX4_letter_t0 : dtX4_letter_t0.all (dck cX4_letter) = true := by decide +kernel
theorem dX4_letter_0 : decode cX4_letter 0 = .ok (.iload_n 1, 1) := dck_get daX4_letter_t0 0 rfl
theorem dX4_letter_1 : decode cX4_letter 1 = .ok (.ifCond .ge 10, 3) := dck_get daX4_letter_t0 1 rfl
theorem dX4_letter_4 : decode cX4_letter 4 = .ok (.aload_n 0, 1) := dck_get daX4_letter_t0 2 rfl
theorem dX4_letter_5 : decode cX4_letter 5 = .ok (.bipush (-4), 2) := dck_get daX4_letter_t0 3 rfl
theorem dX4_letter_7 : decode cX4_letter 7 = .ok (.invokevirtual 43, 3) := dck_get daX4_letter_t0 4 rfl
theorem dX4_letter_10 : decode cX4_letter 10 = .ok (.ireturn, 1) := dck_get daX4_letter_t0 5 rfl
theorem dX4_letter_11 : decode cX4_letter 11 = .ok (.iload_n 1, 1) := dck_get daX4_letter_t0 6 rfl
theorem dX4_letter_12 : decode cX4_letter 12 = .ok (.sipush 255, 3) := dck_get daX4_letter_t0 7 rfl
theorem dX4_letter_15 : decode cX4_letter 15 = .ok (.if_icmp .gt 13, 3) := dck_get daX4_letter_t0 8 rfl
theorem dX4_letter_18 : decode cX4_letter 18 = .ok (.aload_n 0, 1) := dck_get daX4_letter_t0 9 rfl
theorem dX4_letter_19 : decode cX4_letter 19 = .ok (.getfield 25, 3) := dck_get daX4_letter_t0 10 rfl
theorem dX4_letter_22 : decode cX4_letter 22 = .ok (.invokevirtual 47, 3) := dck_get daX4_letter_t0 11 rfl
theorem dX4_letter_25 : decode cX4_letter 25 = .ok (.ifCond .eq 10, 3) := dck_get daX4_letter_t0 12 rfl
theorem dX4_letter_28 : decode cX4_letter 28 = .ok (.aload_n 0, 1) := dck_get daX4_letter_t0 13 rfl
theorem dX4_letter_29 : decode cX4_letter 29 = .ok (.bipush (-6), 2) := dck_get daX4_letter_t0 14 rfl
theorem dX4_letter_31 : decode cX4_letter 31 = .ok (.invokevirtual 43, 3) := dck_get daX4_letter_t0 15 rfl
theorem dX4_letter_34 : decode cX4_letter 34 = .ok (.ireturn, 1) := dck_get daX4_letter_t0 16 rfl
theorem dX4_letter_35 : decode cX4_letter 35 = .ok (.aload_n 0, 1) := dck_get daX4_letter_t0 17 rfl
theorem dX4_letter_36 : decode cX4_letter 36 = .ok (.getfield 25, 3) := dck_get daX4_letter_t0 18 rfl
theorem dX4_letter_39 : decode cX4_letter 39 = .ok (.iload_n 1, 1) := dck_get daX4_letter_t0 19 rfl
def dtX4_letter_t1 : List (Nat × Instr × Nat) := [(40, .invokevirtual 51, 3), (43, .ireturn, 1)]
theorem daX4_letter_t1 : dtX4_letter_t1.all (dck cX4_letter) = true := by decide +kernel
theorem dX4_letter_40 : decode cX4_letter 40 = .ok (.invokevirtual 51, 3) := dck_get daX4_letter_t1 0 rfl
theorem dX4_letter_43 : decode cX4_letter 43 = .ok (.ireturn, 1) := dck_get daX4_letter_t1 1 rfl
set_option maxRecDepth 20000 in
theorem gw_wsX4_takeHouse : wsX4_takeHouse.all goodWord = true := by decide +kernel
set_option maxRecDepth 20000 in
theorem ggX4_house_X4_takeHouse : GoodIn wsX4_house wsX4_takeHouse := goodIn_sub (List.forall_mem_cons.mpr ⟨(List.mem_of_getElem? (i := 6) rfl), (List.forall_mem_append.mpr ⟨(List.forall_mem_append.mpr ⟨(List.forall_mem_append.mpr ⟨(List.forall_mem_append.mpr ⟨(List.forall_mem_cons.mpr ⟨(List.mem_of_getElem? (i := 1) rfl), (List.forall_mem_cons.mpr ⟨(List.mem_of_getElem? (i := 7) rfl), (List.forall_mem_cons.mpr ⟨(List.mem_of_getElem? (i := 8) rfl), (List.forall_mem_cons.mpr ⟨(List.mem_of_getElem? (i := 9) rfl), (List.forall_mem_cons.mpr ⟨(List.mem_of_getElem? (i := 10) rfl), (List.forall_mem_cons.mpr ⟨(List.mem_of_getElem? (i := 11) rfl), (List.forall_mem_cons.mpr ⟨(List.mem_of_getElem? (i := 12) rfl), (List.forall_mem_cons.mpr ⟨(List.mem_of_getElem? (i := 13) rfl), (List.forall_mem_cons.mpr ⟨(List.mem_of_getElem? (i := 14) rfl), (List.forall_mem_cons.mpr ⟨(List.mem_of_getElem? (i := 15) rfl), (List.forall_mem_cons.mpr ⟨(List.mem_of_getElem? (i := 16) rfl), (List.forall_mem_cons.mpr ⟨(List.mem_of_getElem? (i := 17) rfl), (List.forall_mem_cons.mpr ⟨(List.mem_of_getElem? (i := 18) rfl), (List.forall_mem_cons.mpr ⟨(List.mem_of_getElem? (i := 19) rfl), (List.forall_mem_cons.mpr ⟨(List.mem_of_getElem? (i := 20) rfl), (List.forall_mem_cons.mpr ⟨(List.mem_of_getElem? (i := 21) rfl), (List.forall_mem_cons.mpr ⟨(List.mem_of_getElem? (i := 22) rfl), (List.forall_mem_cons.mpr ⟨(List.mem_of_getElem? (i := 23) rfl), (List.forall_mem_cons.mpr ⟨(List.mem_of_getElem? (i := 24) rfl), (List.forall_mem_cons.mpr ⟨(List.mem_of_getElem? (i := 25) rfl), (List.forall_mem_cons.mpr ⟨(List.mem_of_getElem? (i := 26) rfl), (List.forall_mem_cons.mpr ⟨(List.mem_of_getElem? (i := 27) rfl), (List.forall_mem_cons.mpr ⟨(List.mem_of_getElem? (i := 28) rfl), (List.forall_mem_cons.mpr ⟨(List.mem_of_getElem? (i := 29) rfl), (fun _ h => absurd h List.not_mem_nil)⟩)⟩)⟩)⟩)⟩)⟩)⟩)⟩)⟩)⟩)⟩)⟩)⟩)⟩)⟩)⟩)⟩)⟩)⟩)⟩)⟩)⟩)⟩)⟩), (List.forall_mem_append.mpr ⟨(List.forall_mem_cons.mpr ⟨(List.mem_of_getElem? (i := 30) rfl), (List.forall_mem_cons.mpr ⟨(List.mem_of_getElem? (i := 31) rfl), (List.forall_mem_cons.mpr ⟨(List.mem_of_getElem? (i := 32) rfl), (List.forall_mem_cons.mpr ⟨(List.mem_of_getElem? (i := 33) rfl), (List.forall_mem_cons.mpr ⟨(List.mem_of_getElem? (i := 34) rfl), (List.forall_mem_cons.mpr ⟨(List.mem_of_getElem? (i := 35) rfl), (List.forall_mem_cons.mpr ⟨(List.mem_of_getElem? (i := 36) rfl), (List.forall_mem_cons.mpr ⟨(List.mem_of_getElem? (i := 37) rfl), (List.forall_mem_cons.mpr ⟨(List.mem_of_getElem? (i := 38) rfl), (List.forall_mem_cons.mpr ⟨(List.mem_of_getElem? (i := 39) rfl), (List.forall_mem_cons.mpr ⟨(List.mem_of_getElem? (i := 40) rfl), (List.forall_mem_cons.mpr ⟨(List.mem_of_getElem? (i := 41) rfl), (List.forall_mem_cons.mpr ⟨(List.mem_of_getElem? (i := 42) rfl), (List.forall_mem_cons.mpr ⟨(List.mem_of_getElem? (i := 43) rfl), (List.forall_mem_cons.mpr ⟨(List.mem_of_getElem? (i := 44) rfl), (List.forall_mem_cons.mpr ⟨(List.mem_of_getElem? (i := 45) rfl), (List.forall_mem_cons.mpr ⟨(List.mem_of_getElem? (i := 46) rfl), (List.forall_mem_cons.mpr ⟨(List.mem_of_getElem? (i := 47) rfl), (List.forall_mem_cons.mpr ⟨(List.mem_of_getElem? (i := 48) rfl), (List.forall_mem_cons.mpr ⟨(List.mem_of_getElem? (i := 49) rfl), (List.forall_mem_cons.mpr ⟨(List.mem_of_getElem? (i := 50) rfl), (List.forall_mem_cons.mpr ⟨(List.mem_of_getElem? (i := 51) rfl), (List.forall_mem_cons.mpr ⟨(List.mem_of_getElem? (i := 52) rfl), (List.forall_mem_cons.mpr ⟨(List.mem_of_getElem? (i := 53) rfl), (fun _ h => absurd h List.not_mem_nil)⟩)⟩)⟩)⟩)⟩)⟩)⟩)⟩)⟩)⟩)⟩)⟩)⟩)⟩)⟩)⟩)⟩)⟩)⟩)⟩)⟩)⟩)⟩)⟩), (List.forall_mem_append.mpr ⟨(List.forall_mem_cons.mpr ⟨(List.mem_of_getElem? (i := 54) rfl), (List.forall_mem_cons.mpr ⟨(List.mem_of_getElem? (i := 55) rfl), (List.forall_mem_cons.mpr ⟨(List.mem_of_getElem? (i := 56) rfl), (List.forall_mem_cons.mpr ⟨(List.mem_of_getElem? (i := 57) rfl), (List.forall_mem_cons.mpr ⟨(List.mem_of_getElem? (i := 58) rfl), (List.forall_mem_cons.mpr ⟨(List.mem_of_getElem? (i := 59) rfl), (List.forall_mem_cons.mpr ⟨(List.mem_of_getElem? (i := 60) rfl), (List.forall_mem_cons.mpr ⟨(List.mem_of_getElem? (i := 61) rfl), (List.forall_mem_cons.mpr ⟨(List.mem_of_getElem? (i := 62) rfl), (List.forall_mem_cons.mpr ⟨(List.mem_of_getElem? (i := 63) rfl), (List.forall_mem_cons.mpr ⟨(List.mem_of_getElem? (i := 64) rfl), (List.forall_mem_cons.mpr ⟨(List.mem_of_getElem? (i := 65) rfl), (List.forall_mem_cons.mpr ⟨(List.mem_of_getElem? (i := 66) rfl), (List.forall_mem_cons.mpr ⟨(List.mem_of_getElem? (i := 67) rfl), (List.forall_mem_cons.mpr ⟨(List.mem_of_getElem? (i := 68) rfl), (List.forall_mem_cons.mpr ⟨(List.mem_of_getElem? (i := 69) rfl), (List.forall_mem_cons.mpr ⟨(List.mem_of_getElem? (i := 70) rfl), (List.forall_mem_cons.mpr ⟨(List.mem_of_getElem? (i := 71) rfl), (List.forall_mem_cons.mpr ⟨(List.mem_of_getElem? (i := 72) rfl), (List.forall_mem_cons.mpr ⟨(List.mem_of_getElem? (i := 73) rfl), (List.forall_mem_cons.mpr ⟨(List.mem_of_getElem? (i := 74) rfl), (List.forall_mem_cons.mpr ⟨(List.mem_of_getElem? (i := 75) rfl), (List.forall_mem_cons.mpr ⟨(List.mem_of_getElem? (i := 76) rfl), (List.forall_mem_cons.mpr ⟨(List.mem_of_getElem? (i := 77) rfl), (fun _ h => absurd h List.not_mem_nil)⟩)⟩)⟩)⟩)⟩)⟩)⟩)⟩)⟩)⟩)⟩)⟩)⟩)⟩)⟩)⟩)⟩)⟩)⟩)⟩)⟩)⟩)⟩)⟩), (List.forall_mem_append.mpr ⟨(List.forall_mem_cons.mpr ⟨(List.mem_of_getElem? (i := 78) rfl), (List.forall_mem_cons.mpr ⟨(List.mem_of_getElem? (i := 79) rfl), (List.forall_mem_cons.mpr ⟨(List.mem_of_getElem? (i := 80) rfl), (List.forall_mem_cons.mpr ⟨(List.mem_of_getElem? (i := 81) rfl), (List.forall_mem_cons.mpr ⟨(List.mem_of_getElem? (i := 82) rfl), (List.forall_mem_cons.mpr ⟨(List.mem_of_getElem? (i := 83) rfl), (List.forall_mem_cons.mpr ⟨(List.mem_of_getElem? (i := 84) rfl), (List.forall_mem_cons.mpr ⟨(List.mem_of_getElem? (i := 85) rfl), (List.forall_mem_cons.mpr ⟨(List.mem_of_getElem? (i := 86) rfl), (List.forall_mem_cons.mpr ⟨(List.mem_of_getElem? (i := 87) rfl), (List.forall_mem_cons.mpr ⟨(List.mem_of_getElem? (i := 88) rfl), (List.forall_mem_cons.mpr ⟨(List.mem_of_getElem? (i := 89) rfl), (List.forall_mem_cons.mpr ⟨(List.mem_of_getElem? (i := 90) rfl), (List.forall_mem_cons.mpr ⟨(List.mem_of_getElem? (i := 91) rfl), (List.forall_mem_cons.mpr ⟨(List.mem_of_getElem? (i := 92) rfl), (List.forall_mem_cons.mpr ⟨(List.mem_of_getElem? (i := 93) rfl), (List.forall_mem_cons.mpr ⟨(List.mem_of_getElem? (i := 94) rfl), (List.forall_mem_cons.mpr ⟨(List.mem_of_getElem? (i := 95) rfl), (List.forall_mem_cons.mpr ⟨(List.mem_of_getElem? (i := 96) rfl), (List.forall_mem_cons.mpr ⟨(List.mem_of_getElem? (i := 97) rfl), (List.forall_mem_cons.mpr ⟨(List.mem_of_getElem? (i := 98) rfl), (List.forall_mem_cons.mpr ⟨(List.mem_of_getElem? (i := 99) rfl), (List.forall_mem_cons.mpr ⟨(List.mem_of_getElem? (i := 100) rfl), (List.forall_mem_cons.mpr ⟨(List.mem_of_getElem? (i := 101) rfl), (fun _ h => absurd h List.not_mem_nil)⟩)⟩)⟩)⟩)⟩)⟩)⟩)⟩)⟩)⟩)⟩)⟩)⟩)⟩)⟩)⟩)⟩)⟩)⟩)⟩)⟩)⟩)⟩)⟩), (List.forall_mem_append.mpr ⟨(List.forall_mem_cons.mpr ⟨(List.mem_of_getElem? (i := 102) rfl), (List.forall_mem_cons.mpr ⟨(List.mem_of_getElem? (i := 103) rfl), (List.forall_mem_cons.mpr ⟨(List.mem_of_getElem? (i := 104) rfl), (List.forall_mem_cons.mpr ⟨(List.mem_of_getElem? (i := 105) rfl), (List.forall_mem_cons.mpr ⟨(List.mem_of_getElem? (i := 106) rfl), (List.forall_mem_cons.mpr ⟨(List.mem_of_getElem? (i := 107) rfl), (List.forall_mem_cons.mpr ⟨(List.mem_of_getElem? (i := 108) rfl), (List.forall_mem_cons.mpr ⟨(List.mem_of_getElem? (i := 109) rfl), (List.forall_mem_cons.mpr ⟨(List.mem_of_getElem? (i := 110) rfl), (List.forall_mem_cons.mpr ⟨(List.mem_of_getElem? (i := 111) rfl), (List.forall_mem_cons.mpr ⟨(List.mem_of_getElem? (i := 112) rfl), (List.forall_mem_cons.mpr ⟨(List.mem_of_getElem? (i := 113) rfl), (List.forall_mem_cons.mpr ⟨(List.mem_of_getElem? (i := 114) rfl), (List.forall_mem_cons.mpr ⟨(List.mem_of_getElem? (i := 115) rfl), (List.forall_mem_cons.mpr ⟨(List.mem_of_getElem? (i := 116) rfl), (List.forall_mem_cons.mpr ⟨(List.mem_of_getElem? (i := 117) rfl), (List.forall_mem_cons.mpr ⟨(List.mem_of_getElem? (i := 118) rfl), (List.forall_mem_cons.mpr ⟨(List.mem_of_getElem? (i := 119) rfl), (List.forall_mem_cons.mpr ⟨(List.mem_of_getElem? (i := 120) rfl), (List.forall_mem_cons.mpr ⟨(List.mem_of_getElem? (i := 121) rfl), (List.forall_mem_cons.mpr ⟨(List.mem_of_getElem? (i := 122) rfl), (List.forall_mem_cons.mpr ⟨(List.mem_of_getElem? (i := 123) rfl), (List.forall_mem_cons.mpr ⟨(List.mem_of_getElem? (i := 124) rfl), (List.forall_mem_cons.mpr ⟨(List.mem_of_getElem? (i := 125) rfl), (fun _ h => absurd h List.not_mem_nil)⟩)⟩)⟩)⟩)⟩)⟩)⟩)⟩)⟩)⟩)⟩)⟩)⟩)⟩)⟩)⟩)⟩)⟩)⟩)⟩)⟩)⟩)⟩)⟩), (List.forall_mem_cons.mpr ⟨(List.mem_of_getElem? (i := 126) rfl), (List.forall_mem_cons.mpr ⟨(List.mem_of_getElem? (i := 127) rfl), (List.forall_mem_cons.mpr ⟨(List.mem_of_getElem? (i := 128) rfl), (List.forall_mem_cons.mpr ⟨(List.mem_of_getElem? (i := 129) rfl), (List.forall_mem_cons.mpr ⟨(List.mem_of_getElem? (i := 130) rfl), (List.forall_mem_cons.mpr ⟨(List.mem_of_getElem? (i := 131) rfl), (List.forall_mem_cons.mpr ⟨(List.mem_of_getElem? (i := 132) rfl), (List.forall_mem_cons.mpr ⟨(List.mem_of_getElem? (i := 133) rfl), (List.forall_mem_cons.mpr ⟨(List.mem_of_getElem? (i := 134) rfl), (List.forall_mem_cons.mpr ⟨(List.mem_of_getElem? (i := 135) rfl), (List.forall_mem_cons.mpr ⟨(List.mem_of_getElem? (i := 136) rfl), (List.forall_mem_cons.mpr ⟨(List.mem_of_getElem? (i := 137) rfl), (List.forall_mem_cons.mpr ⟨(List.mem_of_getElem? (i := 138) rfl), (List.forall_mem_cons.mpr ⟨(List.mem_of_getElem? (i := 139) rfl), (List.forall_mem_cons.mpr ⟨(List.mem_of_getElem? (i := 140) rfl), (List.forall_mem_cons.mpr ⟨(List.mem_of_getElem? (i := 141) rfl), (List.forall_mem_cons.mpr ⟨(List.mem_of_getElem? (i := 142) rfl), (fun _ h => absurd h List.not_mem_nil)⟩)⟩)⟩)⟩)⟩)⟩)⟩)⟩)⟩)⟩)⟩)⟩)⟩)⟩)⟩)⟩)⟩)⟩)⟩)⟩)⟩)⟩), (fun _ h => (List.mem_cons_of_mem _ (List.mem_append_left _ (List.mem_append_left _ (List.mem_append_right _ h)))))⟩), (fun _ h => (List.mem_cons_of_mem _ (List.mem_append_left _ (List.mem_append_right _ h))))⟩), (fun _ h => (List.mem_cons_of_mem _ (List.mem_append_right _ h)))⟩)⟩) gw_wsX4_takeHouse
set_option maxRecDepth 20000 in
theorem gX4_house_X4_takeHouse : GoodIn wsX4_house (wsV RX4 54 RX4 yX4_takeHouse wsX4_takeHouse) := goodIn_app (goodIn_sub (List.forall_mem_cons.mpr ⟨(List.mem_of_getElem? (i := 2) rfl), (List.forall_mem_cons.mpr ⟨(List.mem_of_getElem? (i := 3) rfl), (List.forall_mem_cons.mpr ⟨(List.mem_of_getElem? (i := 4) rfl), (List.forall_mem_cons.mpr ⟨(List.mem_of_getElem? (i := 5) rfl), (fun _ h => absurd h List.not_mem_nil)⟩)⟩)⟩)⟩) (by decide +kernel)) ggX4_house_X4_takeHouse
set_option maxRecDepth 20000 in
theorem gw_wsX2_forget : wsX2_forget.all goodWord = true := by decide +kernel
set_option maxRecDepth 20000 in
theorem ggX4_house_X2_forget : GoodIn wsX4_house wsX2_forget := goodIn_sub (List.forall_mem_cons.mpr ⟨(List.mem_of_getElem? (i := 146) rfl), (List.forall_mem_append.mpr ⟨(List.forall_mem_cons.mpr ⟨(List.mem_of_getElem? (i := 14) rfl), (fun _ h => absurd h List.not_mem_nil)⟩), (fun _ h => (List.mem_cons_of_mem _ (List.mem_append_left _ (List.mem_append_right _ h))))⟩)⟩) gw_wsX2_forget
set_option maxRecDepth 20000 in
theorem gX4_house_X2_forget : GoodIn wsX4_house (wsV RX4 58 RX2 yX2_forget wsX2_forget) := goodIn_app (goodIn_sub (List.forall_mem_cons.mpr ⟨(List.mem_of_getElem? (i := 143) rfl), (List.forall_mem_cons.mpr ⟨(List.mem_of_getElem? (i := 144) rfl), (List.forall_mem_cons.mpr ⟨(List.mem_of_getElem? (i := 145) rfl), (List.forall_mem_cons.mpr ⟨(List.mem_of_getElem? (i := 12) rfl), (fun _ h => absurd h List.not_mem_nil)⟩)⟩)⟩)⟩) (by decide +kernel)) ggX4_house_X2_forget
def dtX4_house_t0 : List (Nat × Instr × Nat) := [(0, .aload_n 0, 1), (1, .invokevirtual 54, 3), (4, .istore_n 1, 1), (5, .aload_n 0, 1), (6, .getfield 25, 3), (9, .invokevirtual 58, 3), (12, .iload_n 1, 1), (13, .ireturn, 1)]
theorem daX4_house_t0 : dtX4_house_t0.all (dck cX4_house) = true := by decide +kernel
theorem dX4_house_0 : decode cX4_house 0 = .ok (.aload_n 0, 1) := dck_get daX4_house_t0 0 rfl
theorem dX4_house_1 : decode cX4_house 1 = .ok (.invokevirtual 54, 3) := dck_get daX4_house_t0 1 rfl
theorem dX4_house_4 : decode cX4_house 4 = .ok (.istore_n 1, 1) := dck_get daX4_house_t0 2 rfl
theorem dX4_house_5 : decode cX4_house 5 = .ok (.aload_n 0, 1) := dck_get daX4_house_t0 3 rfl
theorem dX4_house_6 : decode cX4_house 6 = .ok (.getfield 25, 3) := dck_get daX4_house_t0 4 rfl
theorem dX4_house_9 : decode cX4_house 9 = .ok (.invokevirtual 58, 3) := dck_get daX4_house_t0 5 rfl
theorem dX4_house_12 : decode cX4_house 12 = .ok (.iload_n 1, 1) := dck_get daX4_house_t0 6 rfl
theorem dX4_house_13 : decode cX4_house 13 = .ok (.ireturn, 1) := dck_get daX4_house_t0 7 rfl
set_option maxRecDepth 20000 in
theorem gw_wsX4_isKind : wsX4_isKind.all goodWord = true := by decide +kernel
set_option maxRecDepth 20000 in
theorem ggX4_enter_X4_isKind : GoodIn wsX4_enter wsX4_isKind := goodIn_sub (List.forall_mem_cons.mpr ⟨(List.mem_of_getElem? (i := 5) rfl), (fun _ h => absurd h List.not_mem_nil)⟩) gw_wsX4_isKind
set_option maxRecDepth 20000 in
theorem gX4_enter_X4_isKind : GoodIn wsX4_enter (va_wsS RX4 61 yX4_isKind wsX4_isKind) := goodIn_app (goodIn_sub (List.forall_mem_cons.mpr ⟨(List.mem_of_getElem? (i := 2) rfl), (List.forall_mem_cons.mpr ⟨(List.mem_of_getElem? (i := 3) rfl), (List.forall_mem_cons.mpr ⟨(List.mem_of_getElem? (i := 4) rfl), (fun _ h => absurd h List.not_mem_nil)⟩)⟩)⟩) (by decide +kernel)) ggX4_enter_X4_isKind
set_option maxRecDepth 20000 in
theorem ggX4_enter_X4_refuse : GoodIn wsX4_enter wsX4_refuse := goodIn_sub (List.forall_mem_cons.mpr ⟨(List.mem_of_getElem? (i := 9) rfl), (List.forall_mem_append.mpr ⟨(List.forall_mem_cons.mpr ⟨(List.mem_of_getElem? (i := 10) rfl), (fun _ h => absurd h List.not_mem_nil)⟩), (fun _ h => (List.mem_cons_of_mem _ (List.mem_append_left _ (List.mem_append_right _ h))))⟩)⟩) gw_wsX4_refuse
set_option maxRecDepth 20000 in
theorem gX4_enter_X4_refuse : GoodIn wsX4_enter (wsV RX4 43 RX4 yX4_refuse wsX4_refuse) := goodIn_app (goodIn_sub (List.forall_mem_cons.mpr ⟨(List.mem_of_getElem? (i := 6) rfl), (List.forall_mem_cons.mpr ⟨(List.mem_of_getElem? (i := 7) rfl), (List.forall_mem_cons.mpr ⟨(List.mem_of_getElem? (i := 8) rfl), (List.forall_mem_cons.mpr ⟨(List.mem_of_getElem? (i := 4) rfl), (fun _ h => absurd h List.not_mem_nil)⟩)⟩)⟩)⟩) (by decide +kernel)) ggX4_enter_X4_refuse
set_option maxRecDepth 20000 in
theorem ggX4_enter_X3_isFull : GoodIn wsX4_enter wsX3_isFull := goodIn_sub (List.forall_mem_cons.mpr ⟨(List.mem_of_getElem? (i := 15) rfl), (List.forall_mem_append.mpr ⟨(List.forall_mem_cons.mpr ⟨(List.mem_of_getElem? (i := 16) rfl), (fun _ h => absurd h List.not_mem_nil)⟩), (fun _ h => (List.mem_cons_of_mem _ (List.mem_append_right _ h)))⟩)⟩) gw_wsX3_isFull
set_option maxRecDepth 20000 in
theorem gX4_enter_X3_isFull : GoodIn wsX4_enter (wsV RX4 65 RX3 yX3_isFull wsX3_isFull) := goodIn_app (goodIn_sub (List.forall_mem_cons.mpr ⟨(List.mem_of_getElem? (i := 11) rfl), (List.forall_mem_cons.mpr ⟨(List.mem_of_getElem? (i := 12) rfl), (List.forall_mem_cons.mpr ⟨(List.mem_of_getElem? (i := 13) rfl), (List.forall_mem_cons.mpr ⟨(List.mem_of_getElem? (i := 14) rfl), (fun _ h => absurd h List.not_mem_nil)⟩)⟩)⟩)⟩) (by decide +kernel)) ggX4_enter_X3_isFull
set_option maxRecDepth 20000 in
theorem ggX4_enter_X3_couldComeIn : GoodIn wsX4_enter wsX3_couldComeIn := goodIn_sub (List.forall_mem_cons.mpr ⟨(List.mem_of_getElem? (i := 20) rfl), (List.forall_mem_append.mpr ⟨(List.forall_mem_cons.mpr ⟨(List.mem_of_getElem? (i := 21) rfl), (List.forall_mem_cons.mpr ⟨(List.mem_of_getElem? (i := 12) rfl), (List.forall_mem_cons.mpr ⟨(List.mem_of_getElem? (i := 13) rfl), (List.forall_mem_cons.mpr ⟨(List.mem_of_getElem? (i := 14) rfl), (List.forall_mem_cons.mpr ⟨(List.mem_of_getElem? (i := 15) rfl), (List.forall_mem_cons.mpr ⟨(List.mem_of_getElem? (i := 16) rfl), (List.forall_mem_cons.mpr ⟨(List.mem_of_getElem? (i := 22) rfl), (List.forall_mem_cons.mpr ⟨(List.mem_of_getElem? (i := 23) rfl), (List.forall_mem_cons.mpr ⟨(List.mem_of_getElem? (i := 24) rfl), (List.forall_mem_cons.mpr ⟨(List.mem_of_getElem? (i := 25) rfl), (List.forall_mem_cons.mpr ⟨(List.mem_of_getElem? (i := 26) rfl), (List.forall_mem_cons.mpr ⟨(List.mem_of_getElem? (i := 27) rfl), (List.forall_mem_cons.mpr ⟨(List.mem_of_getElem? (i := 28) rfl), (List.forall_mem_cons.mpr ⟨(List.mem_of_getElem? (i := 29) rfl), (List.forall_mem_cons.mpr ⟨(List.mem_of_getElem? (i := 30) rfl), (List.forall_mem_cons.mpr ⟨(List.mem_of_getElem? (i := 31) rfl), (List.forall_mem_cons.mpr ⟨(List.mem_of_getElem? (i := 32) rfl), (List.forall_mem_cons.mpr ⟨(List.mem_of_getElem? (i := 33) rfl), (List.forall_mem_cons.mpr ⟨(List.mem_of_getElem? (i := 34) rfl), (List.forall_mem_cons.mpr ⟨(List.mem_of_getElem? (i := 35) rfl), (List.forall_mem_cons.mpr ⟨(List.mem_of_getElem? (i := 36) rfl), (List.forall_mem_cons.mpr ⟨(List.mem_of_getElem? (i := 37) rfl), (List.forall_mem_cons.mpr ⟨(List.mem_of_getElem? (i := 38) rfl), (fun _ h => absurd h List.not_mem_nil)⟩)⟩)⟩)⟩)⟩)⟩)⟩)⟩)⟩)⟩)⟩)⟩)⟩)⟩)⟩)⟩)⟩)⟩)⟩)⟩)⟩)⟩)⟩), (fun _ h => (List.mem_cons_of_mem _ (List.mem_append_right _ h)))⟩)⟩) gw_wsX3_couldComeIn
set_option maxRecDepth 20000 in
theorem gX4_enter_X3_couldComeIn : GoodIn wsX4_enter (wsV RX4 66 RX3 yX3_couldComeIn wsX3_couldComeIn) := goodIn_app (goodIn_sub (List.forall_mem_cons.mpr ⟨(List.mem_of_getElem? (i := 17) rfl), (List.forall_mem_cons.mpr ⟨(List.mem_of_getElem? (i := 18) rfl), (List.forall_mem_cons.mpr ⟨(List.mem_of_getElem? (i := 19) rfl), (List.forall_mem_cons.mpr ⟨(List.mem_of_getElem? (i := 14) rfl), (fun _ h => absurd h List.not_mem_nil)⟩)⟩)⟩)⟩) (by decide +kernel)) ggX4_enter_X3_couldComeIn
set_option maxRecDepth 20000 in
theorem ggX4_enter_X3_admit : GoodIn wsX4_enter wsX3_admit := goodIn_sub (List.forall_mem_cons.mpr ⟨(List.mem_of_getElem? (i := 42) rfl), (List.forall_mem_append.mpr ⟨(List.forall_mem_cons.mpr ⟨(List.mem_of_getElem? (i := 16) rfl), (List.forall_mem_cons.mpr ⟨(List.mem_of_getElem? (i := 43) rfl), (List.forall_mem_cons.mpr ⟨(List.mem_of_getElem? (i := 44) rfl), (List.forall_mem_cons.mpr ⟨(List.mem_of_getElem? (i := 34) rfl), (List.forall_mem_cons.mpr ⟨(List.mem_of_getElem? (i := 45) rfl), (List.forall_mem_cons.mpr ⟨(List.mem_of_getElem? (i := 46) rfl), (List.forall_mem_cons.mpr ⟨(List.mem_of_getElem? (i := 22) rfl), (List.forall_mem_cons.mpr ⟨(List.mem_of_getElem? (i := 23) rfl), (List.forall_mem_cons.mpr ⟨(List.mem_of_getElem? (i := 24) rfl), (List.forall_mem_cons.mpr ⟨(List.mem_of_getElem? (i := 25) rfl), (List.forall_mem_cons.mpr ⟨(List.mem_of_getElem? (i := 26) rfl), (List.forall_mem_cons.mpr ⟨(List.mem_of_getElem? (i := 27) rfl), (List.forall_mem_cons.mpr ⟨(List.mem_of_getElem? (i := 28) rfl), (List.forall_mem_cons.mpr ⟨(List.mem_of_getElem? (i := 29) rfl), (fun _ h => absurd h List.not_mem_nil)⟩)⟩)⟩)⟩)⟩)⟩)⟩)⟩)⟩)⟩)⟩)⟩)⟩)⟩), (fun _ h => (List.mem_cons_of_mem _ (List.mem_append_right _ h)))⟩)⟩) gw_wsX3_admit
set_option maxRecDepth 20000 in
theorem gX4_enter_X3_admit : GoodIn wsX4_enter (wsV RX4 70 RX3 yX3_admit wsX3_admit) := goodIn_app (goodIn_sub (List.forall_mem_cons.mpr ⟨(List.mem_of_getElem? (i := 39) rfl), (List.forall_mem_cons.mpr ⟨(List.mem_of_getElem? (i := 40) rfl), (List.forall_mem_cons.mpr ⟨(List.mem_of_getElem? (i := 41) rfl), (List.forall_mem_cons.mpr ⟨(List.mem_of_getElem? (i := 14) rfl), (fun _ h => absurd h List.not_mem_nil)⟩)⟩)⟩)⟩) (by decide +kernel)) ggX4_enter_X3_admit
def dtX4_enter_t0 : List (Nat × Instr × Nat) := [(0, .iload_n 1, 1), (1, .invokestatic 61, 3), (4, .ifCond .ne 10, 3), (7, .aload_n 0, 1), (8, .bipush (-2), 2), (10, .invokevirtual 43, 3), (13, .ireturn, 1), (14, .iload_n 2, 1), (15, .ifCond .lt 7, 3), (18, .iload_n 3, 1), (19, .ifCond .ge 10, 3), (22, .aload_n 0, 1), (23, .bipush (-4), 2), (25, .invokevirtual 43, 3), (28, .ireturn, 1), (29, .iload_n 2, 1), (30, .bipush 99, 2), (32, .if_icmp .gt 19, 3), (35, .iload_n 3, 1), (36, .bipush 9, 2)]
theorem daX4_enter_t0 : dtX4_enter_t0.all (dck cX4_enter) = true := by decide +kernel
theorem dX4_enter_0 : decode cX4_enter 0 = .ok (.iload_n 1, 1) := dck_get daX4_enter_t0 0 rfl
theorem dX4_enter_1 : decode cX4_enter 1 = .ok (.invokestatic 61, 3) := dck_get daX4_enter_t0 1 rfl
theorem dX4_enter_4 : decode cX4_enter 4 = .ok (.ifCond .ne 10, 3) := dck_get daX4_enter_t0 2 rfl
theorem dX4_enter_7 : decode cX4_enter 7 = .ok (.aload_n 0, 1) := dck_get daX4_enter_t0 3 rfl
theorem dX4_enter_8 : decode cX4_enter 8 = .ok (.bipush (-2), 2) := dck_get daX4_enter_t0 4 rfl
theorem dX4_enter_10 : decode cX4_enter 10 = .ok (.invokevirtual 43, 3) := dck_get daX4_enter_t0 5 rfl
theorem dX4_enter_13 : decode cX4_enter 13 = .ok (.ireturn, 1) := dck_get daX4_enter_t0 6 rfl
theorem dX4_enter_14 : decode cX4_enter 14 = .ok (.iload_n 2, 1) := dck_get daX4_enter_t0 7 rfl
theorem dX4_enter_15 : decode cX4_enter 15 = .ok (.ifCond .lt 7, 3) := dck_get daX4_enter_t0 8 rfl
theorem dX4_enter_18 : decode cX4_enter 18 = .ok (.iload_n 3, 1) := dck_get daX4_enter_t0 9 rfl
theorem dX4_enter_19 : decode cX4_enter 19 = .ok (.ifCond .ge 10, 3) := dck_get daX4_enter_t0 10 rfl
theorem dX4_enter_22 : decode cX4_enter 22 = .ok (.aload_n 0, 1) := dck_get daX4_enter_t0 11 rfl
theorem dX4_enter_23 : decode cX4_enter 23 = .ok (.bipush (-4), 2) := dck_get daX4_enter_t0 12 rfl
theorem dX4_enter_25 : decode cX4_enter 25 = .ok (.invokevirtual 43, 3) := dck_get daX4_enter_t0 13 rfl
theorem dX4_enter_28 : decode cX4_enter 28 = .ok (.ireturn, 1) := dck_get daX4_enter_t0 14 rfl
theorem dX4_enter_29 : decode cX4_enter 29 = .ok (.iload_n 2, 1) := dck_get daX4_enter_t0 15 rfl
theorem dX4_enter_30 : decode cX4_enter 30 = .ok (.bipush 99, 2) := dck_get daX4_enter_t0 16 rfl
theorem dX4_enter_32 : decode cX4_enter 32 = .ok (.if_icmp .gt 19, 3) := dck_get daX4_enter_t0 17 rfl
theorem dX4_enter_35 : decode cX4_enter 35 = .ok (.iload_n 3, 1) := dck_get daX4_enter_t0 18 rfl
theorem dX4_enter_36 : decode cX4_enter 36 = .ok (.bipush 9, 2) := dck_get daX4_enter_t0 19 rfl
def dtX4_enter_t1 : List (Nat × Instr × Nat) := [(38, .if_icmp .gt 13, 3), (41, .aload_n 0, 1), (42, .getfield 10, 3), (45, .invokevirtual 65, 3), (48, .ifCond .eq 10, 3), (51, .aload_n 0, 1), (52, .bipush (-6), 2), (54, .invokevirtual 43, 3), (57, .ireturn, 1), (58, .aload_n 0, 1), (59, .getfield 10, 3), (62, .iload_n 1, 1), (63, .iload_n 2, 1), (64, .invokevirtual 66, 3), (67, .ifCond .ne 10, 3), (70, .aload_n 0, 1), (71, .bipush (-3), 2), (73, .invokevirtual 43, 3), (76, .ireturn, 1), (77, .aload_n 0, 1)]
theorem daX4_enter_t1 : dtX4_enter_t1.all (dck cX4_enter) = true := by decide +kernel
theorem dX4_enter_38 : decode cX4_enter 38 = .ok (.if_icmp .gt 13, 3) := dck_get daX4_enter_t1 0 rfl
theorem dX4_enter_41 : decode cX4_enter 41 = .ok (.aload_n 0, 1) := dck_get daX4_enter_t1 1 rfl
theorem dX4_enter_42 : decode cX4_enter 42 = .ok (.getfield 10, 3) := dck_get daX4_enter_t1 2 rfl
theorem dX4_enter_45 : decode cX4_enter 45 = .ok (.invokevirtual 65, 3) := dck_get daX4_enter_t1 3 rfl
theorem dX4_enter_48 : decode cX4_enter 48 = .ok (.ifCond .eq 10, 3) := dck_get daX4_enter_t1 4 rfl
theorem dX4_enter_51 : decode cX4_enter 51 = .ok (.aload_n 0, 1) := dck_get daX4_enter_t1 5 rfl
theorem dX4_enter_52 : decode cX4_enter 52 = .ok (.bipush (-6), 2) := dck_get daX4_enter_t1 6 rfl
theorem dX4_enter_54 : decode cX4_enter 54 = .ok (.invokevirtual 43, 3) := dck_get daX4_enter_t1 7 rfl
theorem dX4_enter_57 : decode cX4_enter 57 = .ok (.ireturn, 1) := dck_get daX4_enter_t1 8 rfl
theorem dX4_enter_58 : decode cX4_enter 58 = .ok (.aload_n 0, 1) := dck_get daX4_enter_t1 9 rfl
theorem dX4_enter_59 : decode cX4_enter 59 = .ok (.getfield 10, 3) := dck_get daX4_enter_t1 10 rfl
theorem dX4_enter_62 : decode cX4_enter 62 = .ok (.iload_n 1, 1) := dck_get daX4_enter_t1 11 rfl
theorem dX4_enter_63 : decode cX4_enter 63 = .ok (.iload_n 2, 1) := dck_get daX4_enter_t1 12 rfl
theorem dX4_enter_64 : decode cX4_enter 64 = .ok (.invokevirtual 66, 3) := dck_get daX4_enter_t1 13 rfl
theorem dX4_enter_67 : decode cX4_enter 67 = .ok (.ifCond .ne 10, 3) := dck_get daX4_enter_t1 14 rfl
theorem dX4_enter_70 : decode cX4_enter 70 = .ok (.aload_n 0, 1) := dck_get daX4_enter_t1 15 rfl
theorem dX4_enter_71 : decode cX4_enter 71 = .ok (.bipush (-3), 2) := dck_get daX4_enter_t1 16 rfl
theorem dX4_enter_73 : decode cX4_enter 73 = .ok (.invokevirtual 43, 3) := dck_get daX4_enter_t1 17 rfl
theorem dX4_enter_76 : decode cX4_enter 76 = .ok (.ireturn, 1) := dck_get daX4_enter_t1 18 rfl
theorem dX4_enter_77 : decode cX4_enter 77 = .ok (.aload_n 0, 1) := dck_get daX4_enter_t1 19 rfl
def dtX4_enter_t2 : List (Nat × Instr × Nat) := [(78, .getfield 10, 3), (81, .iload_n 1, 1), (82, .iload_n 2, 1), (83, .iload_n 3, 1), (84, .invokevirtual 70, 3), (87, .ireturn, 1)]
theorem daX4_enter_t2 : dtX4_enter_t2.all (dck cX4_enter) = true := by decide +kernel
theorem dX4_enter_78 : decode cX4_enter 78 = .ok (.getfield 10, 3) := dck_get daX4_enter_t2 0 rfl
theorem dX4_enter_81 : decode cX4_enter 81 = .ok (.iload_n 1, 1) := dck_get daX4_enter_t2 1 rfl
theorem dX4_enter_82 : decode cX4_enter 82 = .ok (.iload_n 2, 1) := dck_get daX4_enter_t2 2 rfl
theorem dX4_enter_83 : decode cX4_enter 83 = .ok (.iload_n 3, 1) := dck_get daX4_enter_t2 3 rfl
theorem dX4_enter_84 : decode cX4_enter 84 = .ok (.invokevirtual 70, 3) := dck_get daX4_enter_t2 4 rfl
theorem dX4_enter_87 : decode cX4_enter 87 = .ok (.ireturn, 1) := dck_get daX4_enter_t2 5 rfl
set_option maxRecDepth 20000 in
theorem ggX4_lodger_X3_isAlive : GoodIn wsX4_lodger wsX3_isAlive := goodIn_sub (List.forall_mem_cons.mpr ⟨(List.mem_of_getElem? (i := 10) rfl), (List.forall_mem_append.mpr ⟨(List.forall_mem_cons.mpr ⟨(List.mem_of_getElem? (i := 11) rfl), (List.forall_mem_cons.mpr ⟨(List.mem_of_getElem? (i := 12) rfl), (fun _ h => absurd h List.not_mem_nil)⟩)⟩), (fun _ h => (List.mem_cons_of_mem _ (List.mem_append_right _ h)))⟩)⟩) gw_wsX3_isAlive
set_option maxRecDepth 20000 in
theorem gX4_lodger_X3_isAlive : GoodIn wsX4_lodger (wsV RX4 74 RX3 yX3_isAlive wsX3_isAlive) := goodIn_app (goodIn_sub (List.forall_mem_cons.mpr ⟨(List.mem_of_getElem? (i := 6) rfl), (List.forall_mem_cons.mpr ⟨(List.mem_of_getElem? (i := 7) rfl), (List.forall_mem_cons.mpr ⟨(List.mem_of_getElem? (i := 8) rfl), (List.forall_mem_cons.mpr ⟨(List.mem_of_getElem? (i := 9) rfl), (fun _ h => absurd h List.not_mem_nil)⟩)⟩)⟩)⟩) (by decide +kernel)) ggX4_lodger_X3_isAlive
set_option maxRecDepth 20000 in
theorem ggX4_lodger_X4_refuse : GoodIn wsX4_lodger wsX4_refuse := goodIn_sub (List.forall_mem_cons.mpr ⟨(List.mem_of_getElem? (i := 17) rfl), (List.forall_mem_append.mpr ⟨(List.forall_mem_cons.mpr ⟨(List.mem_of_getElem? (i := 18) rfl), (fun _ h => absurd h List.not_mem_nil)⟩), (fun _ h => (List.mem_cons_of_mem _ (List.mem_append_left _ (List.mem_append_right _ h))))⟩)⟩) gw_wsX4_refuse
set_option maxRecDepth 20000 in
theorem gX4_lodger_X4_refuse : GoodIn wsX4_lodger (wsV RX4 43 RX4 yX4_refuse wsX4_refuse) := goodIn_app (goodIn_sub (List.forall_mem_cons.mpr ⟨(List.mem_of_getElem? (i := 13) rfl), (List.forall_mem_cons.mpr ⟨(List.mem_of_getElem? (i := 14) rfl), (List.forall_mem_cons.mpr ⟨(List.mem_of_getElem? (i := 15) rfl), (List.forall_mem_cons.mpr ⟨(List.mem_of_getElem? (i := 16) rfl), (fun _ h => absurd h List.not_mem_nil)⟩)⟩)⟩)⟩) (by decide +kernel)) ggX4_lodger_X4_refuse
set_option maxRecDepth 20000 in
theorem ggX4_lodger_X3_chanceAfter : GoodIn wsX4_lodger wsX3_chanceAfter := goodIn_sub (List.forall_mem_cons.mpr ⟨(List.mem_of_getElem? (i := 22) rfl), (List.forall_mem_append.mpr ⟨(List.forall_mem_append.mpr ⟨(List.forall_mem_cons.mpr ⟨(List.mem_of_getElem? (i := 23) rfl), (List.forall_mem_cons.mpr ⟨(List.mem_of_getElem? (i := 24) rfl), (List.forall_mem_cons.mpr ⟨(List.mem_of_getElem? (i := 25) rfl), (List.forall_mem_cons.mpr ⟨(List.mem_of_getElem? (i := 26) rfl), (List.forall_mem_cons.mpr ⟨(List.mem_of_getElem? (i := 9) rfl), (List.forall_mem_cons.mpr ⟨(List.mem_of_getElem? (i := 27) rfl), (List.forall_mem_cons.mpr ⟨(List.mem_of_getElem? (i := 28) rfl), (List.forall_mem_cons.mpr ⟨(List.mem_of_getElem? (i := 29) rfl), (List.forall_mem_cons.mpr ⟨(List.mem_of_getElem? (i := 30) rfl), (List.forall_mem_cons.mpr ⟨(List.mem_of_getElem? (i := 31) rfl), (List.forall_mem_cons.mpr ⟨(List.mem_of_getElem? (i := 32) rfl), (List.forall_mem_cons.mpr ⟨(List.mem_of_getElem? (i := 33) rfl), (List.forall_mem_cons.mpr ⟨(List.mem_of_getElem? (i := 34) rfl), (List.forall_mem_cons.mpr ⟨(List.mem_of_getElem? (i := 35) rfl), (List.forall_mem_cons.mpr ⟨(List.mem_of_getElem? (i := 36) rfl), (List.forall_mem_cons.mpr ⟨(List.mem_of_getElem? (i := 37) rfl), (List.forall_mem_cons.mpr ⟨(List.mem_of_getElem? (i := 38) rfl), (List.forall_mem_cons.mpr ⟨(List.mem_of_getElem? (i := 39) rfl), (List.forall_mem_cons.mpr ⟨(List.mem_of_getElem? (i := 40) rfl), (List.forall_mem_cons.mpr ⟨(List.mem_of_getElem? (i := 41) rfl), (List.forall_mem_cons.mpr ⟨(List.mem_of_getElem? (i := 42) rfl), (List.forall_mem_cons.mpr ⟨(List.mem_of_getElem? (i := 43) rfl), (List.forall_mem_cons.mpr ⟨(List.mem_of_getElem? (i := 44) rfl), (List.forall_mem_cons.mpr ⟨(List.mem_of_getElem? (i := 45) rfl), (fun _ h => absurd h List.not_mem_nil)⟩)⟩)⟩)⟩)⟩)⟩)⟩)⟩)⟩)⟩)⟩)⟩)⟩)⟩)⟩)⟩)⟩)⟩)⟩)⟩)⟩)⟩)⟩)⟩), (List.forall_mem_cons.mpr ⟨(List.mem_of_getElem? (i := 46) rfl), (fun _ h => absurd h List.not_mem_nil)⟩)⟩), (fun _ h => (List.mem_cons_of_mem _ (List.mem_append_right _ h)))⟩)⟩) gw_wsX3_chanceAfter
set_option maxRecDepth 20000 in
theorem gX4_lodger_X3_chanceAfter : GoodIn wsX4_lodger (wsV RX4 89 RX3 yX3_chanceAfter wsX3_chanceAfter) := goodIn_app (goodIn_sub (List.forall_mem_cons.mpr ⟨(List.mem_of_getElem? (i := 19) rfl), (List.forall_mem_cons.mpr ⟨(List.mem_of_getElem? (i := 20) rfl), (List.forall_mem_cons.mpr ⟨(List.mem_of_getElem? (i := 21) rfl), (List.forall_mem_cons.mpr ⟨(List.mem_of_getElem? (i := 9) rfl), (fun _ h => absurd h List.not_mem_nil)⟩)⟩)⟩)⟩) (by decide +kernel)) ggX4_lodger_X3_chanceAfter
set_option maxRecDepth 20000 in
theorem ggX4_lodger_X3_climbAfter : GoodIn wsX4_lodger wsX3_climbAfter := goodIn_sub (List.forall_mem_cons.mpr ⟨(List.mem_of_getElem? (i := 50) rfl), (List.forall_mem_append.mpr ⟨(List.forall_mem_cons.mpr ⟨(List.mem_of_getElem? (i := 23) rfl), (List.forall_mem_cons.mpr ⟨(List.mem_of_getElem? (i := 24) rfl), (List.forall_mem_cons.mpr ⟨(List.mem_of_getElem? (i := 25) rfl), (List.forall_mem_cons.mpr ⟨(List.mem_of_getElem? (i := 26) rfl), (List.forall_mem_cons.mpr ⟨(List.mem_of_getElem? (i := 9) rfl), (List.forall_mem_cons.mpr ⟨(List.mem_of_getElem? (i := 27) rfl), (List.forall_mem_cons.mpr ⟨(List.mem_of_getElem? (i := 28) rfl), (List.forall_mem_cons.mpr ⟨(List.mem_of_getElem? (i := 29) rfl), (List.forall_mem_cons.mpr ⟨(List.mem_of_getElem? (i := 30) rfl), (List.forall_mem_cons.mpr ⟨(List.mem_of_getElem? (i := 31) rfl), (List.forall_mem_cons.mpr ⟨(List.mem_of_getElem? (i := 32) rfl), (List.forall_mem_cons.mpr ⟨(List.mem_of_getElem? (i := 51) rfl), (List.forall_mem_cons.mpr ⟨(List.mem_of_getElem? (i := 52) rfl), (List.forall_mem_cons.mpr ⟨(List.mem_of_getElem? (i := 35) rfl), (List.forall_mem_cons.mpr ⟨(List.mem_of_getElem? (i := 53) rfl), (List.forall_mem_cons.mpr ⟨(List.mem_of_getElem? (i := 46) rfl), (fun _ h => absurd h List.not_mem_nil)⟩)⟩)⟩)⟩)⟩)⟩)⟩)⟩)⟩)⟩)⟩)⟩)⟩)⟩)⟩)⟩), (fun _ h => (List.mem_cons_of_mem _ (List.mem_append_right _ h)))⟩)⟩) gw_wsX3_climbAfter
set_option maxRecDepth 20000 in
theorem gX4_lodger_X3_climbAfter : GoodIn wsX4_lodger (wsV RX4 93 RX3 yX3_climbAfter wsX3_climbAfter) := goodIn_app (goodIn_sub (List.forall_mem_cons.mpr ⟨(List.mem_of_getElem? (i := 47) rfl), (List.forall_mem_cons.mpr ⟨(List.mem_of_getElem? (i := 48) rfl), (List.forall_mem_cons.mpr ⟨(List.mem_of_getElem? (i := 49) rfl), (List.forall_mem_cons.mpr ⟨(List.mem_of_getElem? (i := 9) rfl), (fun _ h => absurd h List.not_mem_nil)⟩)⟩)⟩)⟩) (by decide +kernel)) ggX4_lodger_X3_climbAfter
set_option maxRecDepth 20000 in
theorem gw_wsX3_wishTold : wsX3_wishTold.all goodWord = true := by decide +kernel
set_option maxRecDepth 20000 in
theorem ggX4_lodger_X3_wishTold : GoodIn wsX4_lodger wsX3_wishTold := goodIn_sub (List.forall_mem_cons.mpr ⟨(List.mem_of_getElem? (i := 57) rfl), (List.forall_mem_append.mpr ⟨(List.forall_mem_cons.mpr ⟨(List.mem_of_getElem? (i := 58) rfl), (fun _ h => absurd h List.not_mem_nil)⟩), (fun _ h => (List.mem_cons_of_mem _ (List.mem_append_right _ h)))⟩)⟩) gw_wsX3_wishTold
set_option maxRecDepth 20000 in
theorem gX4_lodger_X3_wishTold : GoodIn wsX4_lodger (wsV RX4 96 RX3 yX3_wishTold wsX3_wishTold) := goodIn_app (goodIn_sub (List.forall_mem_cons.mpr ⟨(List.mem_of_getElem? (i := 54) rfl), (List.forall_mem_cons.mpr ⟨(List.mem_of_getElem? (i := 55) rfl), (List.forall_mem_cons.mpr ⟨(List.mem_of_getElem? (i := 56) rfl), (List.forall_mem_cons.mpr ⟨(List.mem_of_getElem? (i := 9) rfl), (fun _ h => absurd h List.not_mem_nil)⟩)⟩)⟩)⟩) (by decide +kernel)) ggX4_lodger_X3_wishTold
def dtX4_lodger_t0 : List (Nat × Instr × Nat) := [(0, .aload_n 0, 1), (1, .getfield 10, 3), (4, .iload_n 1, 1), (5, .invokevirtual 74, 3), (8, .ifCond .ne 9, 3), (11, .aload_n 0, 1), (12, .iconst (-1), 1), (13, .invokevirtual 43, 3), (16, .ireturn, 1), (17, .iload_n 2, 1), (18, .tableswitch 111 0 6 #[42, 52, 62, 72, 82, 92, 102], 42), (60, .aload_n 0, 1), (61, .getfield 10, 3), (64, .getfield 77, 3), (67, .iload_n 1, 1), (68, .iaload, 1), (69, .ireturn, 1), (70, .aload_n 0, 1), (71, .getfield 10, 3), (74, .getfield 80, 3)]
theorem daX4_lodger_t0 : dtX4_lodger_t0.all (dck cX4_lodger) = true := by decide +kernel
theorem dX4_lodger_0 : decode cX4_lodger 0 = .ok (.aload_n 0, 1) := dck_get daX4_lodger_t0 0 rfl
theorem dX4_lodger_1 : decode cX4_lodger 1 = .ok (.getfield 10, 3) := dck_get daX4_lodger_t0 1 rfl
theorem dX4_lodger_4 : decode cX4_lodger 4 = .ok (.iload_n 1, 1) := dck_get daX4_lodger_t0 2 rfl
theorem dX4_lodger_5 : decode cX4_lodger 5 = .ok (.invokevirtual 74, 3) := dck_get daX4_lodger_t0 3 rfl
theorem dX4_lodger_8 : decode cX4_lodger 8 = .ok (.ifCond .ne 9, 3) := dck_get daX4_lodger_t0 4 rfl
theorem dX4_lodger_11 : decode cX4_lodger 11 = .ok (.aload_n 0, 1) := dck_get daX4_lodger_t0 5 rfl
theorem dX4_lodger_12 : decode cX4_lodger 12 = .ok (.iconst (-1), 1) := dck_get daX4_lodger_t0 6 rfl
theorem dX4_lodger_13 : decode cX4_lodger 13 = .ok (.invokevirtual 43, 3) := dck_get daX4_lodger_t0 7 rfl
theorem dX4_lodger_16 : decode cX4_lodger 16 = .ok (.ireturn, 1) := dck_get daX4_lodger_t0 8 rfl
theorem dX4_lodger_17 : decode cX4_lodger 17 = .ok (.iload_n 2, 1) := dck_get daX4_lodger_t0 9 rfl
theorem dX4_lodger_18 : decode cX4_lodger 18 = .ok (.tableswitch 111 0 6 #[42, 52, 62, 72, 82, 92, 102], 42) := dck_get daX4_lodger_t0 10 rfl
theorem dX4_lodger_60 : decode cX4_lodger 60 = .ok (.aload_n 0, 1) := dck_get daX4_lodger_t0 11 rfl
theorem dX4_lodger_61 : decode cX4_lodger 61 = .ok (.getfield 10, 3) := dck_get daX4_lodger_t0 12 rfl
theorem dX4_lodger_64 : decode cX4_lodger 64 = .ok (.getfield 77, 3) := dck_get daX4_lodger_t0 13 rfl
theorem dX4_lodger_67 : decode cX4_lodger 67 = .ok (.iload_n 1, 1) := dck_get daX4_lodger_t0 14 rfl
theorem dX4_lodger_68 : decode cX4_lodger 68 = .ok (.iaload, 1) := dck_get daX4_lodger_t0 15 rfl
theorem dX4_lodger_69 : decode cX4_lodger 69 = .ok (.ireturn, 1) := dck_get daX4_lodger_t0 16 rfl
theorem dX4_lodger_70 : decode cX4_lodger 70 = .ok (.aload_n 0, 1) := dck_get daX4_lodger_t0 17 rfl
theorem dX4_lodger_71 : decode cX4_lodger 71 = .ok (.getfield 10, 3) := dck_get daX4_lodger_t0 18 rfl
theorem dX4_lodger_74 : decode cX4_lodger 74 = .ok (.getfield 80, 3) := dck_get daX4_lodger_t0 19 rfl
def dtX4_lodger_t1 : List (Nat × Instr × Nat) := [(77, .iload_n 1, 1), (78, .iaload, 1), (79, .ireturn, 1), (80, .aload_n 0, 1), (81, .getfield 10, 3), (84, .getfield 83, 3), (87, .iload_n 1, 1), (88, .iaload, 1), (89, .ireturn, 1), (90, .aload_n 0, 1), (91, .getfield 10, 3), (94, .getfield 86, 3), (97, .iload_n 1, 1), (98, .iaload, 1), (99, .ireturn, 1), (100, .aload_n 0, 1), (101, .getfield 10, 3), (104, .iload_n 1, 1), (105, .iconst 0, 1), (106, .invokevirtual 89, 3)]
theorem daX4_lodger_t1 : dtX4_lodger_t1.all (dck cX4_lodger) = true := by decide +kernel
theorem dX4_lodger_77 : decode cX4_lodger 77 = .ok (.iload_n 1, 1) := dck_get daX4_lodger_t1 0 rfl
theorem dX4_lodger_78 : decode cX4_lodger 78 = .ok (.iaload, 1) := dck_get daX4_lodger_t1 1 rfl
theorem dX4_lodger_79 : decode cX4_lodger 79 = .ok (.ireturn, 1) := dck_get daX4_lodger_t1 2 rfl
theorem dX4_lodger_80 : decode cX4_lodger 80 = .ok (.aload_n 0, 1) := dck_get daX4_lodger_t1 3 rfl
theorem dX4_lodger_81 : decode cX4_lodger 81 = .ok (.getfield 10, 3) := dck_get daX4_lodger_t1 4 rfl
theorem dX4_lodger_84 : decode cX4_lodger 84 = .ok (.getfield 83, 3) := dck_get daX4_lodger_t1 5 rfl
theorem dX4_lodger_87 : decode cX4_lodger 87 = .ok (.iload_n 1, 1) := dck_get daX4_lodger_t1 6 rfl
theorem dX4_lodger_88 : decode cX4_lodger 88 = .ok (.iaload, 1) := dck_get daX4_lodger_t1 7 rfl
theorem dX4_lodger_89 : decode cX4_lodger 89 = .ok (.ireturn, 1) := dck_get daX4_lodger_t1 8 rfl
theorem dX4_lodger_90 : decode cX4_lodger 90 = .ok (.aload_n 0, 1) := dck_get daX4_lodger_t1 9 rfl
theorem dX4_lodger_91 : decode cX4_lodger 91 = .ok (.getfield 10, 3) := dck_get daX4_lodger_t1 10 rfl
theorem dX4_lodger_94 : decode cX4_lodger 94 = .ok (.getfield 86, 3) := dck_get daX4_lodger_t1 11 rfl
theorem dX4_lodger_97 : decode cX4_lodger 97 = .ok (.iload_n 1, 1) := dck_get daX4_lodger_t1 12 rfl
theorem dX4_lodger_98 : decode cX4_lodger 98 = .ok (.iaload, 1) := dck_get daX4_lodger_t1 13 rfl
theorem dX4_lodger_99 : decode cX4_lodger 99 = .ok (.ireturn, 1) := dck_get daX4_lodger_t1 14 rfl
theorem dX4_lodger_100 : decode cX4_lodger 100 = .ok (.aload_n 0, 1) := dck_get daX4_lodger_t1 15 rfl
theorem dX4_lodger_101 : decode cX4_lodger 101 = .ok (.getfield 10, 3) := dck_get daX4_lodger_t1 16 rfl
theorem dX4_lodger_104 : decode cX4_lodger 104 = .ok (.iload_n 1, 1) := dck_get daX4_lodger_t1 17 rfl
theorem dX4_lodger_105 : decode cX4_lodger 105 = .ok (.iconst 0, 1) := dck_get daX4_lodger_t1 18 rfl
theorem dX4_lodger_106 : decode cX4_lodger 106 = .ok (.invokevirtual 89, 3) := dck_get daX4_lodger_t1 19 rfl
def dtX4_lodger_t2 : List (Nat × Instr × Nat) := [(109, .ireturn, 1), (110, .aload_n 0, 1), (111, .getfield 10, 3), (114, .iload_n 1, 1), (115, .iconst 0, 1), (116, .invokevirtual 93, 3), (119, .ireturn, 1), (120, .aload_n 0, 1), (121, .getfield 10, 3), (124, .iload_n 1, 1), (125, .invokevirtual 96, 3), (128, .ireturn, 1), (129, .aload_n 0, 1), (130, .bipush (-2), 2), (132, .invokevirtual 43, 3), (135, .ireturn, 1)]
theorem daX4_lodger_t2 : dtX4_lodger_t2.all (dck cX4_lodger) = true := by decide +kernel
theorem dX4_lodger_109 : decode cX4_lodger 109 = .ok (.ireturn, 1) := dck_get daX4_lodger_t2 0 rfl
theorem dX4_lodger_110 : decode cX4_lodger 110 = .ok (.aload_n 0, 1) := dck_get daX4_lodger_t2 1 rfl
theorem dX4_lodger_111 : decode cX4_lodger 111 = .ok (.getfield 10, 3) := dck_get daX4_lodger_t2 2 rfl
theorem dX4_lodger_114 : decode cX4_lodger 114 = .ok (.iload_n 1, 1) := dck_get daX4_lodger_t2 3 rfl
theorem dX4_lodger_115 : decode cX4_lodger 115 = .ok (.iconst 0, 1) := dck_get daX4_lodger_t2 4 rfl
theorem dX4_lodger_116 : decode cX4_lodger 116 = .ok (.invokevirtual 93, 3) := dck_get daX4_lodger_t2 5 rfl
theorem dX4_lodger_119 : decode cX4_lodger 119 = .ok (.ireturn, 1) := dck_get daX4_lodger_t2 6 rfl
theorem dX4_lodger_120 : decode cX4_lodger 120 = .ok (.aload_n 0, 1) := dck_get daX4_lodger_t2 7 rfl
theorem dX4_lodger_121 : decode cX4_lodger 121 = .ok (.getfield 10, 3) := dck_get daX4_lodger_t2 8 rfl
theorem dX4_lodger_124 : decode cX4_lodger 124 = .ok (.iload_n 1, 1) := dck_get daX4_lodger_t2 9 rfl
theorem dX4_lodger_125 : decode cX4_lodger 125 = .ok (.invokevirtual 96, 3) := dck_get daX4_lodger_t2 10 rfl
theorem dX4_lodger_128 : decode cX4_lodger 128 = .ok (.ireturn, 1) := dck_get daX4_lodger_t2 11 rfl
theorem dX4_lodger_129 : decode cX4_lodger 129 = .ok (.aload_n 0, 1) := dck_get daX4_lodger_t2 12 rfl
theorem dX4_lodger_130 : decode cX4_lodger 130 = .ok (.bipush (-2), 2) := dck_get daX4_lodger_t2 13 rfl
theorem dX4_lodger_132 : decode cX4_lodger 132 = .ok (.invokevirtual 43, 3) := dck_get daX4_lodger_t2 14 rfl
theorem dX4_lodger_135 : decode cX4_lodger 135 = .ok (.ireturn, 1) := dck_get daX4_lodger_t2 15 rfl
set_option maxRecDepth 20000 in
theorem ggX4_wish_X3_isAlive : GoodIn wsX4_wish wsX3_isAlive := goodIn_sub (List.forall_mem_cons.mpr ⟨(List.mem_of_getElem? (i := 7) rfl), (List.forall_mem_append.mpr ⟨(List.forall_mem_cons.mpr ⟨(List.mem_of_getElem? (i := 8) rfl), (List.forall_mem_cons.mpr ⟨(List.mem_of_getElem? (i := 9) rfl), (fun _ h => absurd h List.not_mem_nil)⟩)⟩), (fun _ h => (List.mem_cons_of_mem _ (List.mem_append_right _ h)))⟩)⟩) gw_wsX3_isAlive
set_option maxRecDepth 20000 in
theorem gX4_wish_X3_isAlive : GoodIn wsX4_wish (wsV RX4 74 RX3 yX3_isAlive wsX3_isAlive) := goodIn_app (goodIn_sub (List.forall_mem_cons.mpr ⟨(List.mem_of_getElem? (i := 3) rfl), (List.forall_mem_cons.mpr ⟨(List.mem_of_getElem? (i := 4) rfl), (List.forall_mem_cons.mpr ⟨(List.mem_of_getElem? (i := 5) rfl), (List.forall_mem_cons.mpr ⟨(List.mem_of_getElem? (i := 6) rfl), (fun _ h => absurd h List.not_mem_nil)⟩)⟩)⟩)⟩) (by decide +kernel)) ggX4_wish_X3_isAlive
set_option maxRecDepth 20000 in
theorem ggX4_wish_X4_refuse : GoodIn wsX4_wish wsX4_refuse := goodIn_sub (List.forall_mem_cons.mpr ⟨(List.mem_of_getElem? (i := 14) rfl), (List.forall_mem_append.mpr ⟨(List.forall_mem_cons.mpr ⟨(List.mem_of_getElem? (i := 15) rfl), (fun _ h => absurd h List.not_mem_nil)⟩), (fun _ h => (List.mem_cons_of_mem _ (List.mem_append_left _ (List.mem_append_right _ h))))⟩)⟩) gw_wsX4_refuse
set_option maxRecDepth 20000 in
theorem gX4_wish_X4_refuse : GoodIn wsX4_wish (wsV RX4 43 RX4 yX4_refuse wsX4_refuse) := goodIn_app (goodIn_sub (List.forall_mem_cons.mpr ⟨(List.mem_of_getElem? (i := 10) rfl), (List.forall_mem_cons.mpr ⟨(List.mem_of_getElem? (i := 11) rfl), (List.forall_mem_cons.mpr ⟨(List.mem_of_getElem? (i := 12) rfl), (List.forall_mem_cons.mpr ⟨(List.mem_of_getElem? (i := 13) rfl), (fun _ h => absurd h List.not_mem_nil)⟩)⟩)⟩)⟩) (by decide +kernel)) ggX4_wish_X4_refuse
set_option maxRecDepth 20000 in
theorem gw_wsX4_isFloor : wsX4_isFloor.all goodWord = true := by decide +kernel
set_option maxRecDepth 20000 in
theorem ggX4_wish_X4_isFloor : GoodIn wsX4_wish wsX4_isFloor := goodIn_sub (List.forall_mem_cons.mpr ⟨(List.mem_of_getElem? (i := 18) rfl), (fun _ h => absurd h List.not_mem_nil)⟩) gw_wsX4_isFloor
set_option maxRecDepth 20000 in
theorem gX4_wish_X4_isFloor : GoodIn wsX4_wish (va_wsS RX4 99 yX4_isFloor wsX4_isFloor) := goodIn_app (goodIn_sub (List.forall_mem_cons.mpr ⟨(List.mem_of_getElem? (i := 16) rfl), (List.forall_mem_cons.mpr ⟨(List.mem_of_getElem? (i := 17) rfl), (List.forall_mem_cons.mpr ⟨(List.mem_of_getElem? (i := 13) rfl), (fun _ h => absurd h List.not_mem_nil)⟩)⟩)⟩) (by decide +kernel)) ggX4_wish_X4_isFloor
set_option maxRecDepth 20000 in
theorem ggX4_wish_X3_wishTold : GoodIn wsX4_wish wsX3_wishTold := goodIn_sub (List.forall_mem_cons.mpr ⟨(List.mem_of_getElem? (i := 22) rfl), (List.forall_mem_append.mpr ⟨(List.forall_mem_cons.mpr ⟨(List.mem_of_getElem? (i := 23) rfl), (fun _ h => absurd h List.not_mem_nil)⟩), (fun _ h => (List.mem_cons_of_mem _ (List.mem_append_right _ h)))⟩)⟩) gw_wsX3_wishTold
set_option maxRecDepth 20000 in
theorem gX4_wish_X3_wishTold : GoodIn wsX4_wish (wsV RX4 96 RX3 yX3_wishTold wsX3_wishTold) := goodIn_app (goodIn_sub (List.forall_mem_cons.mpr ⟨(List.mem_of_getElem? (i := 19) rfl), (List.forall_mem_cons.mpr ⟨(List.mem_of_getElem? (i := 20) rfl), (List.forall_mem_cons.mpr ⟨(List.mem_of_getElem? (i := 21) rfl), (List.forall_mem_cons.mpr ⟨(List.mem_of_getElem? (i := 6) rfl), (fun _ h => absurd h List.not_mem_nil)⟩)⟩)⟩)⟩) (by decide +kernel)) ggX4_wish_X3_wishTold
def dtX4_wish_t0 : List (Nat × Instr × Nat) := [(0, .aload_n 0, 1), (1, .getfield 10, 3), (4, .iload_n 1, 1), (5, .invokevirtual 74, 3), (8, .ifCond .ne 9, 3), (11, .aload_n 0, 1), (12, .iconst (-1), 1), (13, .invokevirtual 43, 3), (16, .ireturn, 1), (17, .iload_n 2, 1), (18, .iconst (-1), 1), (19, .if_icmp .eq 16, 3), (22, .iload_n 2, 1), (23, .invokestatic 99, 3), (26, .ifCond .ne 9, 3), (29, .aload_n 0, 1), (30, .iconst (-1), 1), (31, .invokevirtual 43, 3), (34, .ireturn, 1), (35, .aload_n 0, 1)]
theorem daX4_wish_t0 : dtX4_wish_t0.all (dck cX4_wish) = true := by decide +kernel
theorem dX4_wish_0 : decode cX4_wish 0 = .ok (.aload_n 0, 1) := dck_get daX4_wish_t0 0 rfl
theorem dX4_wish_1 : decode cX4_wish 1 = .ok (.getfield 10, 3) := dck_get daX4_wish_t0 1 rfl
theorem dX4_wish_4 : decode cX4_wish 4 = .ok (.iload_n 1, 1) := dck_get daX4_wish_t0 2 rfl
theorem dX4_wish_5 : decode cX4_wish 5 = .ok (.invokevirtual 74, 3) := dck_get daX4_wish_t0 3 rfl
theorem dX4_wish_8 : decode cX4_wish 8 = .ok (.ifCond .ne 9, 3) := dck_get daX4_wish_t0 4 rfl
theorem dX4_wish_11 : decode cX4_wish 11 = .ok (.aload_n 0, 1) := dck_get daX4_wish_t0 5 rfl
theorem dX4_wish_12 : decode cX4_wish 12 = .ok (.iconst (-1), 1) := dck_get daX4_wish_t0 6 rfl
theorem dX4_wish_13 : decode cX4_wish 13 = .ok (.invokevirtual 43, 3) := dck_get daX4_wish_t0 7 rfl
theorem dX4_wish_16 : decode cX4_wish 16 = .ok (.ireturn, 1) := dck_get daX4_wish_t0 8 rfl
theorem dX4_wish_17 : decode cX4_wish 17 = .ok (.iload_n 2, 1) := dck_get daX4_wish_t0 9 rfl
theorem dX4_wish_18 : decode cX4_wish 18 = .ok (.iconst (-1), 1) := dck_get daX4_wish_t0 10 rfl
theorem dX4_wish_19 : decode cX4_wish 19 = .ok (.if_icmp .eq 16, 3) := dck_get daX4_wish_t0 11 rfl
theorem dX4_wish_22 : decode cX4_wish 22 = .ok (.iload_n 2, 1) := dck_get daX4_wish_t0 12 rfl
theorem dX4_wish_23 : decode cX4_wish 23 = .ok (.invokestatic 99, 3) := dck_get daX4_wish_t0 13 rfl
theorem dX4_wish_26 : decode cX4_wish 26 = .ok (.ifCond .ne 9, 3) := dck_get daX4_wish_t0 14 rfl
theorem dX4_wish_29 : decode cX4_wish 29 = .ok (.aload_n 0, 1) := dck_get daX4_wish_t0 15 rfl
theorem dX4_wish_30 : decode cX4_wish 30 = .ok (.iconst (-1), 1) := dck_get daX4_wish_t0 16 rfl
theorem dX4_wish_31 : decode cX4_wish 31 = .ok (.invokevirtual 43, 3) := dck_get daX4_wish_t0 17 rfl
theorem dX4_wish_34 : decode cX4_wish 34 = .ok (.ireturn, 1) := dck_get daX4_wish_t0 18 rfl
theorem dX4_wish_35 : decode cX4_wish 35 = .ok (.aload_n 0, 1) := dck_get daX4_wish_t0 19 rfl
def dtX4_wish_t1 : List (Nat × Instr × Nat) := [(36, .getfield 10, 3), (39, .iload_n 1, 1), (40, .invokevirtual 96, 3), (43, .istore_n 3, 1), (44, .aload_n 0, 1), (45, .getfield 10, 3), (48, .getfield 102, 3), (51, .iload_n 1, 1), (52, .iload_n 2, 1), (53, .iastore, 1), (54, .iload_n 3, 1), (55, .ireturn, 1)]
theorem daX4_wish_t1 : dtX4_wish_t1.all (dck cX4_wish) = true := by decide +kernel
theorem dX4_wish_36 : decode cX4_wish 36 = .ok (.getfield 10, 3) := dck_get daX4_wish_t1 0 rfl
theorem dX4_wish_39 : decode cX4_wish 39 = .ok (.iload_n 1, 1) := dck_get daX4_wish_t1 1 rfl
theorem dX4_wish_40 : decode cX4_wish 40 = .ok (.invokevirtual 96, 3) := dck_get daX4_wish_t1 2 rfl
theorem dX4_wish_43 : decode cX4_wish 43 = .ok (.istore_n 3, 1) := dck_get daX4_wish_t1 3 rfl
theorem dX4_wish_44 : decode cX4_wish 44 = .ok (.aload_n 0, 1) := dck_get daX4_wish_t1 4 rfl
theorem dX4_wish_45 : decode cX4_wish 45 = .ok (.getfield 10, 3) := dck_get daX4_wish_t1 5 rfl
theorem dX4_wish_48 : decode cX4_wish 48 = .ok (.getfield 102, 3) := dck_get daX4_wish_t1 6 rfl
theorem dX4_wish_51 : decode cX4_wish 51 = .ok (.iload_n 1, 1) := dck_get daX4_wish_t1 7 rfl
theorem dX4_wish_52 : decode cX4_wish 52 = .ok (.iload_n 2, 1) := dck_get daX4_wish_t1 8 rfl
theorem dX4_wish_53 : decode cX4_wish 53 = .ok (.iastore, 1) := dck_get daX4_wish_t1 9 rfl
theorem dX4_wish_54 : decode cX4_wish 54 = .ok (.iload_n 3, 1) := dck_get daX4_wish_t1 10 rfl
theorem dX4_wish_55 : decode cX4_wish 55 = .ok (.ireturn, 1) := dck_get daX4_wish_t1 11 rfl
set_option maxRecDepth 20000 in
theorem gw_wsX3_areAlive : wsX3_areAlive.all goodWord = true := by decide +kernel
set_option maxRecDepth 20000 in
theorem ggX4_year_X3_areAlive : GoodIn wsX4_year wsX3_areAlive := goodIn_sub (List.forall_mem_cons.mpr ⟨(List.mem_of_getElem? (i := 7) rfl), (List.forall_mem_append.mpr ⟨(List.forall_mem_cons.mpr ⟨(List.mem_of_getElem? (i := 8) rfl), (List.forall_mem_cons.mpr ⟨(List.mem_of_getElem? (i := 9) rfl), (List.forall_mem_cons.mpr ⟨(List.mem_of_getElem? (i := 10) rfl), (List.forall_mem_cons.mpr ⟨(List.mem_of_getElem? (i := 6) rfl), (List.forall_mem_cons.mpr ⟨(List.mem_of_getElem? (i := 11) rfl), (List.forall_mem_cons.mpr ⟨(List.mem_of_getElem? (i := 12) rfl), (List.forall_mem_cons.mpr ⟨(List.mem_of_getElem? (i := 13) rfl), (List.forall_mem_cons.mpr ⟨(List.mem_of_getElem? (i := 14) rfl), (List.forall_mem_cons.mpr ⟨(List.mem_of_getElem? (i := 15) rfl), (List.forall_mem_cons.mpr ⟨(List.mem_of_getElem? (i := 16) rfl), (List.forall_mem_cons.mpr ⟨(List.mem_of_getElem? (i := 17) rfl), (fun _ h => absurd h List.not_mem_nil)⟩)⟩)⟩)⟩)⟩)⟩)⟩)⟩)⟩)⟩)⟩), (fun _ h => (List.mem_cons_of_mem _ (List.mem_append_right _ h)))⟩)⟩) gw_wsX3_areAlive
set_option maxRecDepth 20000 in
theorem gX4_year_X3_areAlive : GoodIn wsX4_year (wsV RX4 105 RX3 yX3_areAlive wsX3_areAlive) := goodIn_app (goodIn_sub (List.forall_mem_cons.mpr ⟨(List.mem_of_getElem? (i := 3) rfl), (List.forall_mem_cons.mpr ⟨(List.mem_of_getElem? (i := 4) rfl), (List.forall_mem_cons.mpr ⟨(List.mem_of_getElem? (i := 5) rfl), (List.forall_mem_cons.mpr ⟨(List.mem_of_getElem? (i := 6) rfl), (fun _ h => absurd h List.not_mem_nil)⟩)⟩)⟩)⟩) (by decide +kernel)) ggX4_year_X3_areAlive
set_option maxRecDepth 20000 in
theorem ggX4_year_X4_refuse : GoodIn wsX4_year wsX4_refuse := goodIn_sub (List.forall_mem_cons.mpr ⟨(List.mem_of_getElem? (i := 22) rfl), (List.forall_mem_append.mpr ⟨(List.forall_mem_cons.mpr ⟨(List.mem_of_getElem? (i := 23) rfl), (fun _ h => absurd h List.not_mem_nil)⟩), (fun _ h => (List.mem_cons_of_mem _ (List.mem_append_left _ (List.mem_append_right _ h))))⟩)⟩) gw_wsX4_refuse
set_option maxRecDepth 20000 in
theorem gX4_year_X4_refuse : GoodIn wsX4_year (wsV RX4 43 RX4 yX4_refuse wsX4_refuse) := goodIn_app (goodIn_sub (List.forall_mem_cons.mpr ⟨(List.mem_of_getElem? (i := 18) rfl), (List.forall_mem_cons.mpr ⟨(List.mem_of_getElem? (i := 19) rfl), (List.forall_mem_cons.mpr ⟨(List.mem_of_getElem? (i := 20) rfl), (List.forall_mem_cons.mpr ⟨(List.mem_of_getElem? (i := 21) rfl), (fun _ h => absurd h List.not_mem_nil)⟩)⟩)⟩)⟩) (by decide +kernel)) ggX4_year_X4_refuse
set_option maxRecDepth 20000 in
theorem ggX4_year_X3_passYear : GoodIn wsX4_year wsX3_passYear := goodIn_sub (List.forall_mem_cons.mpr ⟨(List.mem_of_getElem? (i := 27) rfl), (List.forall_mem_append.mpr ⟨(List.forall_mem_append.mpr ⟨(List.forall_mem_cons.mpr ⟨(List.mem_of_getElem? (i := 17) rfl), (List.forall_mem_cons.mpr ⟨(List.mem_of_getElem? (i := 28) rfl), (List.forall_mem_cons.mpr ⟨(List.mem_of_getElem? (i := 29) rfl), (List.forall_mem_cons.mpr ⟨(List.mem_of_getElem? (i := 30) rfl), (List.forall_mem_cons.mpr ⟨(List.mem_of_getElem? (i := 31) rfl), (List.forall_mem_cons.mpr ⟨(List.mem_of_getElem? (i := 32) rfl), (List.forall_mem_cons.mpr ⟨(List.mem_of_getElem? (i := 6) rfl), (List.forall_mem_cons.mpr ⟨(List.mem_of_getElem? (i := 33) rfl), (List.forall_mem_cons.mpr ⟨(List.mem_of_getElem? (i := 34) rfl), (List.forall_mem_cons.mpr ⟨(List.mem_of_getElem? (i := 35) rfl), (List.forall_mem_cons.mpr ⟨(List.mem_of_getElem? (i := 36) rfl), (List.forall_mem_cons.mpr ⟨(List.mem_of_getElem? (i := 8) rfl), (List.forall_mem_cons.mpr ⟨(List.mem_of_getElem? (i := 9) rfl), (List.forall_mem_cons.mpr ⟨(List.mem_of_getElem? (i := 10) rfl), (List.forall_mem_cons.mpr ⟨(List.mem_of_getElem? (i := 11) rfl), (List.forall_mem_cons.mpr ⟨(List.mem_of_getElem? (i := 12) rfl), (List.forall_mem_cons.mpr ⟨(List.mem_of_getElem? (i := 13) rfl), (List.forall_mem_cons.mpr ⟨(List.mem_of_getElem? (i := 14) rfl), (List.forall_mem_cons.mpr ⟨(List.mem_of_getElem? (i := 15) rfl), (List.forall_mem_cons.mpr ⟨(List.mem_of_getElem? (i := 16) rfl), (List.forall_mem_cons.mpr ⟨(List.mem_of_getElem? (i := 37) rfl), (List.forall_mem_cons.mpr ⟨(List.mem_of_getElem? (i := 38) rfl), (List.forall_mem_cons.mpr ⟨(List.mem_of_getElem? (i := 39) rfl), (List.forall_mem_cons.mpr ⟨(List.mem_of_getElem? (i := 40) rfl), (fun _ h => absurd h List.not_mem_nil)⟩)⟩)⟩)⟩)⟩)⟩)⟩)⟩)⟩)⟩)⟩)⟩)⟩)⟩)⟩)⟩)⟩)⟩)⟩)⟩)⟩)⟩)⟩)⟩), (List.forall_mem_cons.mpr ⟨(List.mem_of_getElem? (i := 41) rfl), (List.forall_mem_cons.mpr ⟨(List.mem_of_getElem? (i := 42) rfl), (List.forall_mem_cons.mpr ⟨(List.mem_of_getElem? (i := 43) rfl), (List.forall_mem_cons.mpr ⟨(List.mem_of_getElem? (i := 44) rfl), (List.forall_mem_cons.mpr ⟨(List.mem_of_getElem? (i := 45) rfl), (List.forall_mem_cons.mpr ⟨(List.mem_of_getElem? (i := 46) rfl), (List.forall_mem_cons.mpr ⟨(List.mem_of_getElem? (i := 47) rfl), (List.forall_mem_cons.mpr ⟨(List.mem_of_getElem? (i := 48) rfl), (List.forall_mem_cons.mpr ⟨(List.mem_of_getElem? (i := 49) rfl), (List.forall_mem_cons.mpr ⟨(List.mem_of_getElem? (i := 50) rfl), (List.forall_mem_cons.mpr ⟨(List.mem_of_getElem? (i := 51) rfl), (List.forall_mem_cons.mpr ⟨(List.mem_of_getElem? (i := 52) rfl), (List.forall_mem_cons.mpr ⟨(List.mem_of_getElem? (i := 53) rfl), (List.forall_mem_cons.mpr ⟨(List.mem_of_getElem? (i := 54) rfl), (List.forall_mem_cons.mpr ⟨(List.mem_of_getElem? (i := 55) rfl), (List.forall_mem_cons.mpr ⟨(List.mem_of_getElem? (i := 56) rfl), (List.forall_mem_cons.mpr ⟨(List.mem_of_getElem? (i := 57) rfl), (List.forall_mem_cons.mpr ⟨(List.mem_of_getElem? (i := 58) rfl), (List.forall_mem_cons.mpr ⟨(List.mem_of_getElem? (i := 59) rfl), (List.forall_mem_cons.mpr ⟨(List.mem_of_getElem? (i := 60) rfl), (fun _ h => absurd h List.not_mem_nil)⟩)⟩)⟩)⟩)⟩)⟩)⟩)⟩)⟩)⟩)⟩)⟩)⟩)⟩)⟩)⟩)⟩)⟩)⟩)⟩)⟩), (fun _ h => (List.mem_cons_of_mem _ (List.mem_append_right _ h)))⟩)⟩) gw_wsX3_passYear
set_option maxRecDepth 20000 in
theorem gX4_year_X3_passYear : GoodIn wsX4_year (wsV RX4 112 RX3 yX3_passYear wsX3_passYear) := goodIn_app (goodIn_sub (List.forall_mem_cons.mpr ⟨(List.mem_of_getElem? (i := 24) rfl), (List.forall_mem_cons.mpr ⟨(List.mem_of_getElem? (i := 25) rfl), (List.forall_mem_cons.mpr ⟨(List.mem_of_getElem? (i := 26) rfl), (List.forall_mem_cons.mpr ⟨(List.mem_of_getElem? (i := 6) rfl), (fun _ h => absurd h List.not_mem_nil)⟩)⟩)⟩)⟩) (by decide +kernel)) ggX4_year_X3_passYear
def dtX4_year_t0 : List (Nat × Instr × Nat) := [(0, .aload_n 0, 1), (1, .getfield 10, 3), (4, .iload_n 1, 1), (5, .invokevirtual 105, 3), (8, .ifCond .ne 9, 3), (11, .aload_n 0, 1), (12, .iconst (-1), 1), (13, .invokevirtual 43, 3), (16, .ireturn, 1), (17, .aload_n 0, 1), (18, .getfield 10, 3), (21, .getfield 108, 3), (24, .bipush 99, 2), (26, .if_icmp .lt 10, 3), (29, .aload_n 0, 1), (30, .bipush (-6), 2), (32, .invokevirtual 43, 3), (35, .ireturn, 1), (36, .aload_n 0, 1), (37, .getfield 10, 3)]
theorem daX4_year_t0 : dtX4_year_t0.all (dck cX4_year) = true := by decide +kernel
theorem dX4_year_0 : decode cX4_year 0 = .ok (.aload_n 0, 1) := dck_get daX4_year_t0 0 rfl
theorem dX4_year_1 : decode cX4_year 1 = .ok (.getfield 10, 3) := dck_get daX4_year_t0 1 rfl
theorem dX4_year_4 : decode cX4_year 4 = .ok (.iload_n 1, 1) := dck_get daX4_year_t0 2 rfl
theorem dX4_year_5 : decode cX4_year 5 = .ok (.invokevirtual 105, 3) := dck_get daX4_year_t0 3 rfl
theorem dX4_year_8 : decode cX4_year 8 = .ok (.ifCond .ne 9, 3) := dck_get daX4_year_t0 4 rfl
theorem dX4_year_11 : decode cX4_year 11 = .ok (.aload_n 0, 1) := dck_get daX4_year_t0 5 rfl
theorem dX4_year_12 : decode cX4_year 12 = .ok (.iconst (-1), 1) := dck_get daX4_year_t0 6 rfl
theorem dX4_year_13 : decode cX4_year 13 = .ok (.invokevirtual 43, 3) := dck_get daX4_year_t0 7 rfl
theorem dX4_year_16 : decode cX4_year 16 = .ok (.ireturn, 1) := dck_get daX4_year_t0 8 rfl
theorem dX4_year_17 : decode cX4_year 17 = .ok (.aload_n 0, 1) := dck_get daX4_year_t0 9 rfl
theorem dX4_year_18 : decode cX4_year 18 = .ok (.getfield 10, 3) := dck_get daX4_year_t0 10 rfl
theorem dX4_year_21 : decode cX4_year 21 = .ok (.getfield 108, 3) := dck_get daX4_year_t0 11 rfl
theorem dX4_year_24 : decode cX4_year 24 = .ok (.bipush 99, 2) := dck_get daX4_year_t0 12 rfl
theorem dX4_year_26 : decode cX4_year 26 = .ok (.if_icmp .lt 10, 3) := dck_get daX4_year_t0 13 rfl
theorem dX4_year_29 : decode cX4_year 29 = .ok (.aload_n 0, 1) := dck_get daX4_year_t0 14 rfl
theorem dX4_year_30 : decode cX4_year 30 = .ok (.bipush (-6), 2) := dck_get daX4_year_t0 15 rfl
theorem dX4_year_32 : decode cX4_year 32 = .ok (.invokevirtual 43, 3) := dck_get daX4_year_t0 16 rfl
theorem dX4_year_35 : decode cX4_year 35 = .ok (.ireturn, 1) := dck_get daX4_year_t0 17 rfl
theorem dX4_year_36 : decode cX4_year 36 = .ok (.aload_n 0, 1) := dck_get daX4_year_t0 18 rfl
theorem dX4_year_37 : decode cX4_year 37 = .ok (.getfield 10, 3) := dck_get daX4_year_t0 19 rfl
def dtX4_year_t1 : List (Nat × Instr × Nat) := [(40, .iload_n 1, 1), (41, .invokevirtual 112, 3), (44, .ireturn, 1)]
theorem daX4_year_t1 : dtX4_year_t1.all (dck cX4_year) = true := by decide +kernel
theorem dX4_year_40 : decode cX4_year 40 = .ok (.iload_n 1, 1) := dck_get daX4_year_t1 0 rfl
theorem dX4_year_41 : decode cX4_year 41 = .ok (.invokevirtual 112, 3) := dck_get daX4_year_t1 1 rfl
theorem dX4_year_44 : decode cX4_year 44 = .ok (.ireturn, 1) := dck_get daX4_year_t1 2 rfl
set_option maxRecDepth 20000 in
theorem ggX4_on_X4_isFloor : GoodIn wsX4_on wsX4_isFloor := goodIn_sub (List.forall_mem_cons.mpr ⟨(List.mem_of_getElem? (i := 5) rfl), (fun _ h => absurd h List.not_mem_nil)⟩) gw_wsX4_isFloor
set_option maxRecDepth 20000 in
theorem gX4_on_X4_isFloor : GoodIn wsX4_on (va_wsS RX4 99 yX4_isFloor wsX4_isFloor) := goodIn_app (goodIn_sub (List.forall_mem_cons.mpr ⟨(List.mem_of_getElem? (i := 2) rfl), (List.forall_mem_cons.mpr ⟨(List.mem_of_getElem? (i := 3) rfl), (List.forall_mem_cons.mpr ⟨(List.mem_of_getElem? (i := 4) rfl), (fun _ h => absurd h List.not_mem_nil)⟩)⟩)⟩) (by decide +kernel)) ggX4_on_X4_isFloor
set_option maxRecDepth 20000 in
theorem ggX4_on_X4_refuse : GoodIn wsX4_on wsX4_refuse := goodIn_sub (List.forall_mem_cons.mpr ⟨(List.mem_of_getElem? (i := 9) rfl), (List.forall_mem_append.mpr ⟨(List.forall_mem_cons.mpr ⟨(List.mem_of_getElem? (i := 10) rfl), (fun _ h => absurd h List.not_mem_nil)⟩), (fun _ h => (List.mem_cons_of_mem _ (List.mem_append_left _ (List.mem_append_right _ h))))⟩)⟩) gw_wsX4_refuse
set_option maxRecDepth 20000 in
theorem gX4_on_X4_refuse : GoodIn wsX4_on (wsV RX4 43 RX4 yX4_refuse wsX4_refuse) := goodIn_app (goodIn_sub (List.forall_mem_cons.mpr ⟨(List.mem_of_getElem? (i := 6) rfl), (List.forall_mem_cons.mpr ⟨(List.mem_of_getElem? (i := 7) rfl), (List.forall_mem_cons.mpr ⟨(List.mem_of_getElem? (i := 8) rfl), (List.forall_mem_cons.mpr ⟨(List.mem_of_getElem? (i := 4) rfl), (fun _ h => absurd h List.not_mem_nil)⟩)⟩)⟩)⟩) (by decide +kernel)) ggX4_on_X4_refuse
set_option maxRecDepth 20000 in
theorem ggX4_on_X3_whoLivesOn : GoodIn wsX4_on wsX3_whoLivesOn := goodIn_sub (List.forall_mem_cons.mpr ⟨(List.mem_of_getElem? (i := 15) rfl), (List.forall_mem_append.mpr ⟨(List.forall_mem_cons.mpr ⟨(List.mem_of_getElem? (i := 16) rfl), (List.forall_mem_cons.mpr ⟨(List.mem_of_getElem? (i := 17) rfl), (List.forall_mem_cons.mpr ⟨(List.mem_of_getElem? (i := 18) rfl), (List.forall_mem_cons.mpr ⟨(List.mem_of_getElem? (i := 19) rfl), (List.forall_mem_cons.mpr ⟨(List.mem_of_getElem? (i := 14) rfl), (List.forall_mem_cons.mpr ⟨(List.mem_of_getElem? (i := 20) rfl), (List.forall_mem_cons.mpr ⟨(List.mem_of_getElem? (i := 21) rfl), (fun _ h => absurd h List.not_mem_nil)⟩)⟩)⟩)⟩)⟩)⟩)⟩), (fun _ h => (List.mem_cons_of_mem _ (List.mem_append_right _ h)))⟩)⟩) gw_wsX3_whoLivesOn
set_option maxRecDepth 20000 in
theorem gX4_on_X3_whoLivesOn : GoodIn wsX4_on (wsV RX4 115 RX3 yX3_whoLivesOn wsX3_whoLivesOn) := goodIn_app (goodIn_sub (List.forall_mem_cons.mpr ⟨(List.mem_of_getElem? (i := 11) rfl), (List.forall_mem_cons.mpr ⟨(List.mem_of_getElem? (i := 12) rfl), (List.forall_mem_cons.mpr ⟨(List.mem_of_getElem? (i := 13) rfl), (List.forall_mem_cons.mpr ⟨(List.mem_of_getElem? (i := 14) rfl), (fun _ h => absurd h List.not_mem_nil)⟩)⟩)⟩)⟩) (by decide +kernel)) ggX4_on_X3_whoLivesOn
def dtX4_on_t0 : List (Nat × Instr × Nat) := [(0, .iload_n 1, 1), (1, .invokestatic 99, 3), (4, .ifCond .ne 9, 3), (7, .aload_n 0, 1), (8, .iconst (-1), 1), (9, .invokevirtual 43, 3), (12, .ireturn, 1), (13, .aload_n 0, 1), (14, .getfield 10, 3), (17, .iload_n 1, 1), (18, .invokevirtual 115, 3), (21, .istore_n 2, 1), (22, .iload_n 2, 1), (23, .ifCond .ge 8, 3), (26, .bipush (-9), 2), (28, .goto 4, 3), (31, .iload_n 2, 1), (32, .ireturn, 1)]
theorem daX4_on_t0 : dtX4_on_t0.all (dck cX4_on) = true := by decide +kernel
theorem dX4_on_0 : decode cX4_on 0 = .ok (.iload_n 1, 1) := dck_get daX4_on_t0 0 rfl
theorem dX4_on_1 : decode cX4_on 1 = .ok (.invokestatic 99, 3) := dck_get daX4_on_t0 1 rfl
theorem dX4_on_4 : decode cX4_on 4 = .ok (.ifCond .ne 9, 3) := dck_get daX4_on_t0 2 rfl
theorem dX4_on_7 : decode cX4_on 7 = .ok (.aload_n 0, 1) := dck_get daX4_on_t0 3 rfl
theorem dX4_on_8 : decode cX4_on 8 = .ok (.iconst (-1), 1) := dck_get daX4_on_t0 4 rfl
theorem dX4_on_9 : decode cX4_on 9 = .ok (.invokevirtual 43, 3) := dck_get daX4_on_t0 5 rfl
theorem dX4_on_12 : decode cX4_on 12 = .ok (.ireturn, 1) := dck_get daX4_on_t0 6 rfl
theorem dX4_on_13 : decode cX4_on 13 = .ok (.aload_n 0, 1) := dck_get daX4_on_t0 7 rfl
theorem dX4_on_14 : decode cX4_on 14 = .ok (.getfield 10, 3) := dck_get daX4_on_t0 8 rfl
theorem dX4_on_17 : decode cX4_on 17 = .ok (.iload_n 1, 1) := dck_get daX4_on_t0 9 rfl
theorem dX4_on_18 : decode cX4_on 18 = .ok (.invokevirtual 115, 3) := dck_get daX4_on_t0 10 rfl
theorem dX4_on_21 : decode cX4_on 21 = .ok (.istore_n 2, 1) := dck_get daX4_on_t0 11 rfl
theorem dX4_on_22 : decode cX4_on 22 = .ok (.iload_n 2, 1) := dck_get daX4_on_t0 12 rfl
theorem dX4_on_23 : decode cX4_on 23 = .ok (.ifCond .ge 8, 3) := dck_get daX4_on_t0 13 rfl
theorem dX4_on_26 : decode cX4_on 26 = .ok (.bipush (-9), 2) := dck_get daX4_on_t0 14 rfl
theorem dX4_on_28 : decode cX4_on 28 = .ok (.goto 4, 3) := dck_get daX4_on_t0 15 rfl
theorem dX4_on_31 : decode cX4_on 31 = .ok (.iload_n 2, 1) := dck_get daX4_on_t0 16 rfl
theorem dX4_on_32 : decode cX4_on 32 = .ok (.ireturn, 1) := dck_get daX4_on_t0 17 rfl
set_option maxRecDepth 20000 in
theorem ggX4_likely_X3_isAlive : GoodIn wsX4_likely wsX3_isAlive := goodIn_sub (List.forall_mem_cons.mpr ⟨(List.mem_of_getElem? (i := 9) rfl), (List.forall_mem_append.mpr ⟨(List.forall_mem_cons.mpr ⟨(List.mem_of_getElem? (i := 10) rfl), (List.forall_mem_cons.mpr ⟨(List.mem_of_getElem? (i := 11) rfl), (fun _ h => absurd h List.not_mem_nil)⟩)⟩), (fun _ h => (List.mem_cons_of_mem _ (List.mem_append_right _ h)))⟩)⟩) gw_wsX3_isAlive
set_option maxRecDepth 20000 in
theorem gX4_likely_X3_isAlive : GoodIn wsX4_likely (wsV RX4 74 RX3 yX3_isAlive wsX3_isAlive) := goodIn_app (goodIn_sub (List.forall_mem_cons.mpr ⟨(List.mem_of_getElem? (i := 5) rfl), (List.forall_mem_cons.mpr ⟨(List.mem_of_getElem? (i := 6) rfl), (List.forall_mem_cons.mpr ⟨(List.mem_of_getElem? (i := 7) rfl), (List.forall_mem_cons.mpr ⟨(List.mem_of_getElem? (i := 8) rfl), (fun _ h => absurd h List.not_mem_nil)⟩)⟩)⟩)⟩) (by decide +kernel)) ggX4_likely_X3_isAlive
set_option maxRecDepth 20000 in
theorem ggX4_likely_X4_isFloor : GoodIn wsX4_likely wsX4_isFloor := goodIn_sub (List.forall_mem_cons.mpr ⟨(List.mem_of_getElem? (i := 15) rfl), (fun _ h => absurd h List.not_mem_nil)⟩) gw_wsX4_isFloor
set_option maxRecDepth 20000 in
theorem gX4_likely_X4_isFloor : GoodIn wsX4_likely (va_wsS RX4 99 yX4_isFloor wsX4_isFloor) := goodIn_app (goodIn_sub (List.forall_mem_cons.mpr ⟨(List.mem_of_getElem? (i := 12) rfl), (List.forall_mem_cons.mpr ⟨(List.mem_of_getElem? (i := 13) rfl), (List.forall_mem_cons.mpr ⟨(List.mem_of_getElem? (i := 14) rfl), (fun _ h => absurd h List.not_mem_nil)⟩)⟩)⟩) (by decide +kernel)) ggX4_likely_X4_isFloor
set_option maxRecDepth 20000 in
theorem gw_wsX4_refuseLong : wsX4_refuseLong.all goodWord = true := by decide +kernel
set_option maxRecDepth 20000 in
theorem ggX4_likely_X4_refuseLong : GoodIn wsX4_likely wsX4_refuseLong := goodIn_sub (List.forall_mem_cons.mpr ⟨(List.mem_of_getElem? (i := 19) rfl), (List.forall_mem_append.mpr ⟨(List.forall_mem_cons.mpr ⟨(List.mem_of_getElem? (i := 20) rfl), (List.forall_mem_cons.mpr ⟨(List.mem_of_getElem? (i := 21) rfl), (List.forall_mem_cons.mpr ⟨(List.mem_of_getElem? (i := 22) rfl), (List.forall_mem_cons.mpr ⟨(List.mem_of_getElem? (i := 23) rfl), (List.forall_mem_cons.mpr ⟨(List.mem_of_getElem? (i := 14) rfl), (List.forall_mem_cons.mpr ⟨(List.mem_of_getElem? (i := 24) rfl), (List.forall_mem_cons.mpr ⟨(List.mem_of_getElem? (i := 25) rfl), (fun _ h => absurd h List.not_mem_nil)⟩)⟩)⟩)⟩)⟩)⟩)⟩), (fun _ h => (List.mem_cons_of_mem _ (List.mem_append_left _ (List.mem_append_left _ (List.mem_append_right _ h)))))⟩)⟩) gw_wsX4_refuseLong
set_option maxRecDepth 20000 in
theorem gX4_likely_X4_refuseLong : GoodIn wsX4_likely (wsV RX4 118 RX4 yX4_refuseLong wsX4_refuseLong) := goodIn_app (goodIn_sub (List.forall_mem_cons.mpr ⟨(List.mem_of_getElem? (i := 16) rfl), (List.forall_mem_cons.mpr ⟨(List.mem_of_getElem? (i := 17) rfl), (List.forall_mem_cons.mpr ⟨(List.mem_of_getElem? (i := 18) rfl), (List.forall_mem_cons.mpr ⟨(List.mem_of_getElem? (i := 14) rfl), (fun _ h => absurd h List.not_mem_nil)⟩)⟩)⟩)⟩) (by decide +kernel)) ggX4_likely_X4_refuseLong
set_option maxRecDepth 20000 in
theorem gw_wsX1_reckon : wsX1_reckon.all goodWord = true := by decide +kernel
set_option maxRecDepth 20000 in
theorem ggX4_likely_X1_reckon : GoodIn wsX4_likely wsX1_reckon := goodIn_sub (List.forall_mem_cons.mpr ⟨(List.mem_of_getElem? (i := 30) rfl), (List.forall_mem_append.mpr ⟨(List.forall_mem_append.mpr ⟨(List.forall_mem_append.mpr ⟨(List.forall_mem_cons.mpr ⟨(List.mem_of_getElem? (i := 31) rfl), (List.forall_mem_cons.mpr ⟨(List.mem_of_getElem? (i := 32) rfl), (List.forall_mem_cons.mpr ⟨(List.mem_of_getElem? (i := 33) rfl), (List.forall_mem_cons.mpr ⟨(List.mem_of_getElem? (i := 34) rfl), (List.forall_mem_cons.mpr ⟨(List.mem_of_getElem? (i := 35) rfl), (List.forall_mem_cons.mpr ⟨(List.mem_of_getElem? (i := 36) rfl), (List.forall_mem_cons.mpr ⟨(List.mem_of_getElem? (i := 37) rfl), (List.forall_mem_cons.mpr ⟨(List.mem_of_getElem? (i := 38) rfl), (List.forall_mem_cons.mpr ⟨(List.mem_of_getElem? (i := 39) rfl), (List.forall_mem_cons.mpr ⟨(List.mem_of_getElem? (i := 40) rfl), (List.forall_mem_cons.mpr ⟨(List.mem_of_getElem? (i := 41) rfl), (List.forall_mem_cons.mpr ⟨(List.mem_of_getElem? (i := 42) rfl), (List.forall_mem_cons.mpr ⟨(List.mem_of_getElem? (i := 29) rfl), (List.forall_mem_cons.mpr ⟨(List.mem_of_getElem? (i := 43) rfl), (List.forall_mem_cons.mpr ⟨(List.mem_of_getElem? (i := 44) rfl), (List.forall_mem_cons.mpr ⟨(List.mem_of_getElem? (i := 45) rfl), (List.forall_mem_cons.mpr ⟨(List.mem_of_getElem? (i := 6) rfl), (List.forall_mem_cons.mpr ⟨(List.mem_of_getElem? (i := 7) rfl), (List.forall_mem_cons.mpr ⟨(List.mem_of_getElem? (i := 8) rfl), (List.forall_mem_cons.mpr ⟨(List.mem_of_getElem? (i := 9) rfl), (List.forall_mem_cons.mpr ⟨(List.mem_of_getElem? (i := 10) rfl), (List.forall_mem_cons.mpr ⟨(List.mem_of_getElem? (i := 11) rfl), (List.forall_mem_cons.mpr ⟨(List.mem_of_getElem? (i := 46) rfl), (List.forall_mem_cons.mpr ⟨(List.mem_of_getElem? (i := 47) rfl), (fun _ h => absurd h List.not_mem_nil)⟩)⟩)⟩)⟩)⟩)⟩)⟩)⟩)⟩)⟩)⟩)⟩)⟩)⟩)⟩)⟩)⟩)⟩)⟩)⟩)⟩)⟩)⟩)⟩), (List.forall_mem_append.mpr ⟨(List.forall_mem_cons.mpr ⟨(List.mem_of_getElem? (i := 48) rfl), (List.forall_mem_cons.mpr ⟨(List.mem_of_getElem? (i := 49) rfl), (List.forall_mem_cons.mpr ⟨(List.mem_of_getElem? (i := 50) rfl), (List.forall_mem_cons.mpr ⟨(List.mem_of_getElem? (i := 51) rfl), (List.forall_mem_cons.mpr ⟨(List.mem_of_getElem? (i := 52) rfl), (List.forall_mem_cons.mpr ⟨(List.mem_of_getElem? (i := 53) rfl), (List.forall_mem_cons.mpr ⟨(List.mem_of_getElem? (i := 54) rfl), (List.forall_mem_cons.mpr ⟨(List.mem_of_getElem? (i := 55) rfl), (List.forall_mem_cons.mpr ⟨(List.mem_of_getElem? (i := 56) rfl), (List.forall_mem_cons.mpr ⟨(List.mem_of_getElem? (i := 57) rfl), (List.forall_mem_cons.mpr ⟨(List.mem_of_getElem? (i := 58) rfl), (List.forall_mem_cons.mpr ⟨(List.mem_of_getElem? (i := 59) rfl), (List.forall_mem_cons.mpr ⟨(List.mem_of_getElem? (i := 60) rfl), (List.forall_mem_cons.mpr ⟨(List.mem_of_getElem? (i := 61) rfl), (List.forall_mem_cons.mpr ⟨(List.mem_of_getElem? (i := 62) rfl), (List.forall_mem_cons.mpr ⟨(List.mem_of_getElem? (i := 63) rfl), (List.forall_mem_cons.mpr ⟨(List.mem_of_getElem? (i := 64) rfl), (List.forall_mem_cons.mpr ⟨(List.mem_of_getElem? (i := 65) rfl), (List.forall_mem_cons.mpr ⟨(List.mem_of_getElem? (i := 66) rfl), (List.forall_mem_cons.mpr ⟨(List.mem_of_getElem? (i := 67) rfl), (List.forall_mem_cons.mpr ⟨(List.mem_of_getElem? (i := 68) rfl), (List.forall_mem_cons.mpr ⟨(List.mem_of_getElem? (i := 69) rfl), (List.forall_mem_cons.mpr ⟨(List.mem_of_getElem? (i := 70) rfl), (List.forall_mem_cons.mpr ⟨(List.mem_of_getElem? (i := 71) rfl), (fun _ h => absurd h List.not_mem_nil)⟩)⟩)⟩)⟩)⟩)⟩)⟩)⟩)⟩)⟩)⟩)⟩)⟩)⟩)⟩)⟩)⟩)⟩)⟩)⟩)⟩)⟩)⟩)⟩), (List.forall_mem_cons.mpr ⟨(List.mem_of_getElem? (i := 72) rfl), (List.forall_mem_cons.mpr ⟨(List.mem_of_getElem? (i := 73) rfl), (List.forall_mem_cons.mpr ⟨(List.mem_of_getElem? (i := 74) rfl), (List.forall_mem_cons.mpr ⟨(List.mem_of_getElem? (i := 75) rfl), (List.forall_mem_cons.mpr ⟨(List.mem_of_getElem? (i := 76) rfl), (List.forall_mem_cons.mpr ⟨(List.mem_of_getElem? (i := 77) rfl), (List.forall_mem_cons.mpr ⟨(List.mem_of_getElem? (i := 78) rfl), (List.forall_mem_cons.mpr ⟨(List.mem_of_getElem? (i := 79) rfl), (List.forall_mem_cons.mpr ⟨(List.mem_of_getElem? (i := 80) rfl), (List.forall_mem_cons.mpr ⟨(List.mem_of_getElem? (i := 81) rfl), (List.forall_mem_cons.mpr ⟨(List.mem_of_getElem? (i := 82) rfl), (List.forall_mem_cons.mpr ⟨(List.mem_of_getElem? (i := 83) rfl), (List.forall_mem_cons.mpr ⟨(List.mem_of_getElem? (i := 84) rfl), (List.forall_mem_cons.mpr ⟨(List.mem_of_getElem? (i := 85) rfl), (List.forall_mem_cons.mpr ⟨(List.mem_of_getElem? (i := 86) rfl), (List.forall_mem_cons.mpr ⟨(List.mem_of_getElem? (i := 87) rfl), (List.forall_mem_cons.mpr ⟨(List.mem_of_getElem? (i := 88) rfl), (List.forall_mem_cons.mpr ⟨(List.mem_of_getElem? (i := 89) rfl), (fun _ h => absurd h List.not_mem_nil)⟩)⟩)⟩)⟩)⟩)⟩)⟩)⟩)⟩)⟩)⟩)⟩)⟩)⟩)⟩)⟩)⟩)⟩)⟩)⟩), (fun _ h => (List.mem_cons_of_mem _ (List.mem_append_right _ h)))⟩), (fun _ h => (List.mem_cons_of_mem _ (List.mem_append_left _ (List.mem_append_right _ h))))⟩)⟩) gw_wsX1_reckon
set_option maxRecDepth 20000 in
theorem gX4_likely_X1_reckon : GoodIn wsX4_likely (wsV RX4 122 RX1 yX1_reckon wsX1_reckon) := goodIn_app (goodIn_sub (List.forall_mem_cons.mpr ⟨(List.mem_of_getElem? (i := 26) rfl), (List.forall_mem_cons.mpr ⟨(List.mem_of_getElem? (i := 27) rfl), (List.forall_mem_cons.mpr ⟨(List.mem_of_getElem? (i := 28) rfl), (List.forall_mem_cons.mpr ⟨(List.mem_of_getElem? (i := 29) rfl), (fun _ h => absurd h List.not_mem_nil)⟩)⟩)⟩)⟩) (by decide +kernel)) ggX4_likely_X1_reckon
def dtX4_likely_t0 : List (Nat × Instr × Nat) := [(0, .aload_n 0, 1), (1, .getfield 10, 3), (4, .iload_n 1, 1), (5, .invokevirtual 74, 3), (8, .ifCond .eq 10, 3), (11, .iload_n 2, 1), (12, .invokestatic 99, 3), (15, .ifCond .ne 9, 3), (18, .aload_n 0, 1), (19, .iconst (-1), 1), (20, .invokevirtual 118, 3), (23, .lreturn, 1), (24, .iload_n 3, 1), (25, .iconst 1, 1), (26, .if_icmp .ge 10, 3), (29, .aload_n 0, 1), (30, .bipush (-4), 2), (32, .invokevirtual 118, 3), (35, .lreturn, 1), (36, .iload_n 3, 1)]
theorem daX4_likely_t0 : dtX4_likely_t0.all (dck cX4_likely) = true := by decide +kernel
theorem dX4_likely_0 : decode cX4_likely 0 = .ok (.aload_n 0, 1) := dck_get daX4_likely_t0 0 rfl
theorem dX4_likely_1 : decode cX4_likely 1 = .ok (.getfield 10, 3) := dck_get daX4_likely_t0 1 rfl
theorem dX4_likely_4 : decode cX4_likely 4 = .ok (.iload_n 1, 1) := dck_get daX4_likely_t0 2 rfl
theorem dX4_likely_5 : decode cX4_likely 5 = .ok (.invokevirtual 74, 3) := dck_get daX4_likely_t0 3 rfl
theorem dX4_likely_8 : decode cX4_likely 8 = .ok (.ifCond .eq 10, 3) := dck_get daX4_likely_t0 4 rfl
theorem dX4_likely_11 : decode cX4_likely 11 = .ok (.iload_n 2, 1) := dck_get daX4_likely_t0 5 rfl
theorem dX4_likely_12 : decode cX4_likely 12 = .ok (.invokestatic 99, 3) := dck_get daX4_likely_t0 6 rfl
theorem dX4_likely_15 : decode cX4_likely 15 = .ok (.ifCond .ne 9, 3) := dck_get daX4_likely_t0 7 rfl
theorem dX4_likely_18 : decode cX4_likely 18 = .ok (.aload_n 0, 1) := dck_get daX4_likely_t0 8 rfl
theorem dX4_likely_19 : decode cX4_likely 19 = .ok (.iconst (-1), 1) := dck_get daX4_likely_t0 9 rfl
theorem dX4_likely_20 : decode cX4_likely 20 = .ok (.invokevirtual 118, 3) := dck_get daX4_likely_t0 10 rfl
theorem dX4_likely_23 : decode cX4_likely 23 = .ok (.lreturn, 1) := dck_get daX4_likely_t0 11 rfl
theorem dX4_likely_24 : decode cX4_likely 24 = .ok (.iload_n 3, 1) := dck_get daX4_likely_t0 12 rfl
theorem dX4_likely_25 : decode cX4_likely 25 = .ok (.iconst 1, 1) := dck_get daX4_likely_t0 13 rfl
theorem dX4_likely_26 : decode cX4_likely 26 = .ok (.if_icmp .ge 10, 3) := dck_get daX4_likely_t0 14 rfl
theorem dX4_likely_29 : decode cX4_likely 29 = .ok (.aload_n 0, 1) := dck_get daX4_likely_t0 15 rfl
theorem dX4_likely_30 : decode cX4_likely 30 = .ok (.bipush (-4), 2) := dck_get daX4_likely_t0 16 rfl
theorem dX4_likely_32 : decode cX4_likely 32 = .ok (.invokevirtual 118, 3) := dck_get daX4_likely_t0 17 rfl
theorem dX4_likely_35 : decode cX4_likely 35 = .ok (.lreturn, 1) := dck_get daX4_likely_t0 18 rfl
theorem dX4_likely_36 : decode cX4_likely 36 = .ok (.iload_n 3, 1) := dck_get daX4_likely_t0 19 rfl
def dtX4_likely_t1 : List (Nat × Instr × Nat) := [(37, .iconst 2, 1), (38, .if_icmp .le 10, 3), (41, .aload_n 0, 1), (42, .bipush (-6), 2), (44, .invokevirtual 118, 3), (47, .lreturn, 1), (48, .iload 4, 2), (50, .ifCond .eq 16, 3), (53, .iload 4, 2), (55, .iconst 1, 1), (56, .if_icmp .eq 10, 3), (59, .aload_n 0, 1), (60, .bipush (-2), 2), (62, .invokevirtual 118, 3), (65, .lreturn, 1), (66, .aload_n 0, 1), (67, .getfield 32, 3), (70, .aload_n 0, 1), (71, .getfield 10, 3), (74, .iload_n 1, 1)]
theorem daX4_likely_t1 : dtX4_likely_t1.all (dck cX4_likely) = true := by decide +kernel
theorem dX4_likely_37 : decode cX4_likely 37 = .ok (.iconst 2, 1) := dck_get daX4_likely_t1 0 rfl
theorem dX4_likely_38 : decode cX4_likely 38 = .ok (.if_icmp .le 10, 3) := dck_get daX4_likely_t1 1 rfl
theorem dX4_likely_41 : decode cX4_likely 41 = .ok (.aload_n 0, 1) := dck_get daX4_likely_t1 2 rfl
theorem dX4_likely_42 : decode cX4_likely 42 = .ok (.bipush (-6), 2) := dck_get daX4_likely_t1 3 rfl
theorem dX4_likely_44 : decode cX4_likely 44 = .ok (.invokevirtual 118, 3) := dck_get daX4_likely_t1 4 rfl
theorem dX4_likely_47 : decode cX4_likely 47 = .ok (.lreturn, 1) := dck_get daX4_likely_t1 5 rfl
theorem dX4_likely_48 : decode cX4_likely 48 = .ok (.iload 4, 2) := dck_get daX4_likely_t1 6 rfl
theorem dX4_likely_50 : decode cX4_likely 50 = .ok (.ifCond .eq 16, 3) := dck_get daX4_likely_t1 7 rfl
theorem dX4_likely_53 : decode cX4_likely 53 = .ok (.iload 4, 2) := dck_get daX4_likely_t1 8 rfl
theorem dX4_likely_55 : decode cX4_likely 55 = .ok (.iconst 1, 1) := dck_get daX4_likely_t1 9 rfl
theorem dX4_likely_56 : decode cX4_likely 56 = .ok (.if_icmp .eq 10, 3) := dck_get daX4_likely_t1 10 rfl
theorem dX4_likely_59 : decode cX4_likely 59 = .ok (.aload_n 0, 1) := dck_get daX4_likely_t1 11 rfl
theorem dX4_likely_60 : decode cX4_likely 60 = .ok (.bipush (-2), 2) := dck_get daX4_likely_t1 12 rfl
theorem dX4_likely_62 : decode cX4_likely 62 = .ok (.invokevirtual 118, 3) := dck_get daX4_likely_t1 13 rfl
theorem dX4_likely_65 : decode cX4_likely 65 = .ok (.lreturn, 1) := dck_get daX4_likely_t1 14 rfl
theorem dX4_likely_66 : decode cX4_likely 66 = .ok (.aload_n 0, 1) := dck_get daX4_likely_t1 15 rfl
theorem dX4_likely_67 : decode cX4_likely 67 = .ok (.getfield 32, 3) := dck_get daX4_likely_t1 16 rfl
theorem dX4_likely_70 : decode cX4_likely 70 = .ok (.aload_n 0, 1) := dck_get daX4_likely_t1 17 rfl
theorem dX4_likely_71 : decode cX4_likely 71 = .ok (.getfield 10, 3) := dck_get daX4_likely_t1 18 rfl
theorem dX4_likely_74 : decode cX4_likely 74 = .ok (.iload_n 1, 1) := dck_get daX4_likely_t1 19 rfl
def dtX4_likely_t2 : List (Nat × Instr × Nat) := [(75, .iload_n 2, 1), (76, .iload_n 3, 1), (77, .invokevirtual 122, 3), (80, .iload 4, 2), (82, .ifCond .ne 13, 3), (85, .aload_n 0, 1), (86, .getfield 32, 3), (89, .getfield 126, 3), (92, .goto 10, 3), (95, .aload_n 0, 1), (96, .getfield 32, 3), (99, .getfield 130, 3), (102, .lreturn, 1)]
theorem daX4_likely_t2 : dtX4_likely_t2.all (dck cX4_likely) = true := by decide +kernel
theorem dX4_likely_75 : decode cX4_likely 75 = .ok (.iload_n 2, 1) := dck_get daX4_likely_t2 0 rfl
theorem dX4_likely_76 : decode cX4_likely 76 = .ok (.iload_n 3, 1) := dck_get daX4_likely_t2 1 rfl
theorem dX4_likely_77 : decode cX4_likely 77 = .ok (.invokevirtual 122, 3) := dck_get daX4_likely_t2 2 rfl
theorem dX4_likely_80 : decode cX4_likely 80 = .ok (.iload 4, 2) := dck_get daX4_likely_t2 3 rfl
theorem dX4_likely_82 : decode cX4_likely 82 = .ok (.ifCond .ne 13, 3) := dck_get daX4_likely_t2 4 rfl
theorem dX4_likely_85 : decode cX4_likely 85 = .ok (.aload_n 0, 1) := dck_get daX4_likely_t2 5 rfl
theorem dX4_likely_86 : decode cX4_likely 86 = .ok (.getfield 32, 3) := dck_get daX4_likely_t2 6 rfl
theorem dX4_likely_89 : decode cX4_likely 89 = .ok (.getfield 126, 3) := dck_get daX4_likely_t2 7 rfl
theorem dX4_likely_92 : decode cX4_likely 92 = .ok (.goto 10, 3) := dck_get daX4_likely_t2 8 rfl
theorem dX4_likely_95 : decode cX4_likely 95 = .ok (.aload_n 0, 1) := dck_get daX4_likely_t2 9 rfl
theorem dX4_likely_96 : decode cX4_likely 96 = .ok (.getfield 32, 3) := dck_get daX4_likely_t2 10 rfl
theorem dX4_likely_99 : decode cX4_likely 99 = .ok (.getfield 130, 3) := dck_get daX4_likely_t2 11 rfl
theorem dX4_likely_102 : decode cX4_likely 102 = .ok (.lreturn, 1) := dck_get daX4_likely_t2 12 rfl
set_option maxRecDepth 20000 in
theorem ggX4_mean_X3_isAlive : GoodIn wsX4_mean wsX3_isAlive := goodIn_sub (List.forall_mem_cons.mpr ⟨(List.mem_of_getElem? (i := 6) rfl), (List.forall_mem_append.mpr ⟨(List.forall_mem_cons.mpr ⟨(List.mem_of_getElem? (i := 7) rfl), (List.forall_mem_cons.mpr ⟨(List.mem_of_getElem? (i := 8) rfl), (fun _ h => absurd h List.not_mem_nil)⟩)⟩), (fun _ h => (List.mem_cons_of_mem _ (List.mem_append_right _ h)))⟩)⟩) gw_wsX3_isAlive
set_option maxRecDepth 20000 in
theorem gX4_mean_X3_isAlive : GoodIn wsX4_mean (wsV RX4 74 RX3 yX3_isAlive wsX3_isAlive) := goodIn_app (goodIn_sub (List.forall_mem_cons.mpr ⟨(List.mem_of_getElem? (i := 2) rfl), (List.forall_mem_cons.mpr ⟨(List.mem_of_getElem? (i := 3) rfl), (List.forall_mem_cons.mpr ⟨(List.mem_of_getElem? (i := 4) rfl), (List.forall_mem_cons.mpr ⟨(List.mem_of_getElem? (i := 5) rfl), (fun _ h => absurd h List.not_mem_nil)⟩)⟩)⟩)⟩) (by decide +kernel)) ggX4_mean_X3_isAlive
set_option maxRecDepth 20000 in
theorem ggX4_mean_X3_chanceAfter : GoodIn wsX4_mean wsX3_chanceAfter := goodIn_sub (List.forall_mem_cons.mpr ⟨(List.mem_of_getElem? (i := 12) rfl), (List.forall_mem_append.mpr ⟨(List.forall_mem_append.mpr ⟨(List.forall_mem_cons.mpr ⟨(List.mem_of_getElem? (i := 13) rfl), (List.forall_mem_cons.mpr ⟨(List.mem_of_getElem? (i := 14) rfl), (List.forall_mem_cons.mpr ⟨(List.mem_of_getElem? (i := 15) rfl), (List.forall_mem_cons.mpr ⟨(List.mem_of_getElem? (i := 16) rfl), (List.forall_mem_cons.mpr ⟨(List.mem_of_getElem? (i := 5) rfl), (List.forall_mem_cons.mpr ⟨(List.mem_of_getElem? (i := 17) rfl), (List.forall_mem_cons.mpr ⟨(List.mem_of_getElem? (i := 18) rfl), (List.forall_mem_cons.mpr ⟨(List.mem_of_getElem? (i := 19) rfl), (List.forall_mem_cons.mpr ⟨(List.mem_of_getElem? (i := 20) rfl), (List.forall_mem_cons.mpr ⟨(List.mem_of_getElem? (i := 21) rfl), (List.forall_mem_cons.mpr ⟨(List.mem_of_getElem? (i := 22) rfl), (List.forall_mem_cons.mpr ⟨(List.mem_of_getElem? (i := 23) rfl), (List.forall_mem_cons.mpr ⟨(List.mem_of_getElem? (i := 24) rfl), (List.forall_mem_cons.mpr ⟨(List.mem_of_getElem? (i := 25) rfl), (List.forall_mem_cons.mpr ⟨(List.mem_of_getElem? (i := 26) rfl), (List.forall_mem_cons.mpr ⟨(List.mem_of_getElem? (i := 27) rfl), (List.forall_mem_cons.mpr ⟨(List.mem_of_getElem? (i := 28) rfl), (List.forall_mem_cons.mpr ⟨(List.mem_of_getElem? (i := 29) rfl), (List.forall_mem_cons.mpr ⟨(List.mem_of_getElem? (i := 30) rfl), (List.forall_mem_cons.mpr ⟨(List.mem_of_getElem? (i := 31) rfl), (List.forall_mem_cons.mpr ⟨(List.mem_of_getElem? (i := 32) rfl), (List.forall_mem_cons.mpr ⟨(List.mem_of_getElem? (i := 33) rfl), (List.forall_mem_cons.mpr ⟨(List.mem_of_getElem? (i := 34) rfl), (List.forall_mem_cons.mpr ⟨(List.mem_of_getElem? (i := 35) rfl), (fun _ h => absurd h List.not_mem_nil)⟩)⟩)⟩)⟩)⟩)⟩)⟩)⟩)⟩)⟩)⟩)⟩)⟩)⟩)⟩)⟩)⟩)⟩)⟩)⟩)⟩)⟩)⟩)⟩), (List.forall_mem_cons.mpr ⟨(List.mem_of_getElem? (i := 36) rfl), (fun _ h => absurd h List.not_mem_nil)⟩)⟩), (fun _ h => (List.mem_cons_of_mem _ (List.mem_append_right _ h)))⟩)⟩) gw_wsX3_chanceAfter
set_option maxRecDepth 20000 in
theorem gX4_mean_X3_chanceAfter : GoodIn wsX4_mean (wsV RX4 89 RX3 yX3_chanceAfter wsX3_chanceAfter) := goodIn_app (goodIn_sub (List.forall_mem_cons.mpr ⟨(List.mem_of_getElem? (i := 9) rfl), (List.forall_mem_cons.mpr ⟨(List.mem_of_getElem? (i := 10) rfl), (List.forall_mem_cons.mpr ⟨(List.mem_of_getElem? (i := 11) rfl), (List.forall_mem_cons.mpr ⟨(List.mem_of_getElem? (i := 5) rfl), (fun _ h => absurd h List.not_mem_nil)⟩)⟩)⟩)⟩) (by decide +kernel)) ggX4_mean_X3_chanceAfter
def dtX4_mean_t0 : List (Nat × Instr × Nat) := [(0, .iconst 0, 1), (1, .istore_n 1, 1), (2, .iconst 0, 1), (3, .istore_n 2, 1), (4, .iload_n 2, 1), (5, .bipush 8, 2), (7, .if_icmp .ge 32, 3), (10, .aload_n 0, 1), (11, .getfield 10, 3), (14, .iload_n 2, 1), (15, .invokevirtual 74, 3), (18, .ifCond .eq 15, 3), (21, .iload_n 1, 1), (22, .aload_n 0, 1), (23, .getfield 10, 3), (26, .iload_n 2, 1), (27, .iconst 0, 1), (28, .invokevirtual 89, 3), (31, .iadd, 1), (32, .istore_n 1, 1)]
theorem daX4_mean_t0 : dtX4_mean_t0.all (dck cX4_mean) = true := by decide +kernel
theorem dX4_mean_0 : decode cX4_mean 0 = .ok (.iconst 0, 1) := dck_get daX4_mean_t0 0 rfl
theorem dX4_mean_1 : decode cX4_mean 1 = .ok (.istore_n 1, 1) := dck_get daX4_mean_t0 1 rfl
theorem dX4_mean_2 : decode cX4_mean 2 = .ok (.iconst 0, 1) := dck_get daX4_mean_t0 2 rfl
theorem dX4_mean_3 : decode cX4_mean 3 = .ok (.istore_n 2, 1) := dck_get daX4_mean_t0 3 rfl
theorem dX4_mean_4 : decode cX4_mean 4 = .ok (.iload_n 2, 1) := dck_get daX4_mean_t0 4 rfl
theorem dX4_mean_5 : decode cX4_mean 5 = .ok (.bipush 8, 2) := dck_get daX4_mean_t0 5 rfl
theorem dX4_mean_7 : decode cX4_mean 7 = .ok (.if_icmp .ge 32, 3) := dck_get daX4_mean_t0 6 rfl
theorem dX4_mean_10 : decode cX4_mean 10 = .ok (.aload_n 0, 1) := dck_get daX4_mean_t0 7 rfl
theorem dX4_mean_11 : decode cX4_mean 11 = .ok (.getfield 10, 3) := dck_get daX4_mean_t0 8 rfl
theorem dX4_mean_14 : decode cX4_mean 14 = .ok (.iload_n 2, 1) := dck_get daX4_mean_t0 9 rfl
theorem dX4_mean_15 : decode cX4_mean 15 = .ok (.invokevirtual 74, 3) := dck_get daX4_mean_t0 10 rfl
theorem dX4_mean_18 : decode cX4_mean 18 = .ok (.ifCond .eq 15, 3) := dck_get daX4_mean_t0 11 rfl
theorem dX4_mean_21 : decode cX4_mean 21 = .ok (.iload_n 1, 1) := dck_get daX4_mean_t0 12 rfl
theorem dX4_mean_22 : decode cX4_mean 22 = .ok (.aload_n 0, 1) := dck_get daX4_mean_t0 13 rfl
theorem dX4_mean_23 : decode cX4_mean 23 = .ok (.getfield 10, 3) := dck_get daX4_mean_t0 14 rfl
theorem dX4_mean_26 : decode cX4_mean 26 = .ok (.iload_n 2, 1) := dck_get daX4_mean_t0 15 rfl
theorem dX4_mean_27 : decode cX4_mean 27 = .ok (.iconst 0, 1) := dck_get daX4_mean_t0 16 rfl
theorem dX4_mean_28 : decode cX4_mean 28 = .ok (.invokevirtual 89, 3) := dck_get daX4_mean_t0 17 rfl
theorem dX4_mean_31 : decode cX4_mean 31 = .ok (.iadd, 1) := dck_get daX4_mean_t0 18 rfl
theorem dX4_mean_32 : decode cX4_mean 32 = .ok (.istore_n 1, 1) := dck_get daX4_mean_t0 19 rfl
def dtX4_mean_t1 : List (Nat × Instr × Nat) := [(33, .iinc 2 1, 3), (36, .goto (-32), 3), (39, .iload_n 1, 1), (40, .ireturn, 1)]
theorem daX4_mean_t1 : dtX4_mean_t1.all (dck cX4_mean) = true := by decide +kernel
theorem dX4_mean_33 : decode cX4_mean 33 = .ok (.iinc 2 1, 3) := dck_get daX4_mean_t1 0 rfl
theorem dX4_mean_36 : decode cX4_mean 36 = .ok (.goto (-32), 3) := dck_get daX4_mean_t1 1 rfl
theorem dX4_mean_39 : decode cX4_mean 39 = .ok (.iload_n 1, 1) := dck_get daX4_mean_t1 2 rfl
theorem dX4_mean_40 : decode cX4_mean 40 = .ok (.ireturn, 1) := dck_get daX4_mean_t1 3 rfl
set_option maxRecDepth 20000 in
theorem ggX4_deaths_X3_isAlive : GoodIn wsX4_deaths wsX3_isAlive := goodIn_sub (List.forall_mem_cons.mpr ⟨(List.mem_of_getElem? (i := 7) rfl), (List.forall_mem_append.mpr ⟨(List.forall_mem_cons.mpr ⟨(List.mem_of_getElem? (i := 8) rfl), (List.forall_mem_cons.mpr ⟨(List.mem_of_getElem? (i := 9) rfl), (fun _ h => absurd h List.not_mem_nil)⟩)⟩), (fun _ h => (List.mem_cons_of_mem _ (List.mem_append_right _ h)))⟩)⟩) gw_wsX3_isAlive
set_option maxRecDepth 20000 in
theorem gX4_deaths_X3_isAlive : GoodIn wsX4_deaths (wsV RX4 74 RX3 yX3_isAlive wsX3_isAlive) := goodIn_app (goodIn_sub (List.forall_mem_cons.mpr ⟨(List.mem_of_getElem? (i := 3) rfl), (List.forall_mem_cons.mpr ⟨(List.mem_of_getElem? (i := 4) rfl), (List.forall_mem_cons.mpr ⟨(List.mem_of_getElem? (i := 5) rfl), (List.forall_mem_cons.mpr ⟨(List.mem_of_getElem? (i := 6) rfl), (fun _ h => absurd h List.not_mem_nil)⟩)⟩)⟩)⟩) (by decide +kernel)) ggX4_deaths_X3_isAlive
set_option maxRecDepth 20000 in
theorem ggX4_deaths_X4_isFloor : GoodIn wsX4_deaths wsX4_isFloor := goodIn_sub (List.forall_mem_cons.mpr ⟨(List.mem_of_getElem? (i := 13) rfl), (fun _ h => absurd h List.not_mem_nil)⟩) gw_wsX4_isFloor
set_option maxRecDepth 20000 in
theorem gX4_deaths_X4_isFloor : GoodIn wsX4_deaths (va_wsS RX4 99 yX4_isFloor wsX4_isFloor) := goodIn_app (goodIn_sub (List.forall_mem_cons.mpr ⟨(List.mem_of_getElem? (i := 10) rfl), (List.forall_mem_cons.mpr ⟨(List.mem_of_getElem? (i := 11) rfl), (List.forall_mem_cons.mpr ⟨(List.mem_of_getElem? (i := 12) rfl), (fun _ h => absurd h List.not_mem_nil)⟩)⟩)⟩) (by decide +kernel)) ggX4_deaths_X4_isFloor
set_option maxRecDepth 20000 in
theorem ggX4_deaths_X4_refuse : GoodIn wsX4_deaths wsX4_refuse := goodIn_sub (List.forall_mem_cons.mpr ⟨(List.mem_of_getElem? (i := 17) rfl), (List.forall_mem_append.mpr ⟨(List.forall_mem_cons.mpr ⟨(List.mem_of_getElem? (i := 18) rfl), (fun _ h => absurd h List.not_mem_nil)⟩), (fun _ h => (List.mem_cons_of_mem _ (List.mem_append_left _ (List.mem_append_right _ h))))⟩)⟩) gw_wsX4_refuse
set_option maxRecDepth 20000 in
theorem gX4_deaths_X4_refuse : GoodIn wsX4_deaths (wsV RX4 43 RX4 yX4_refuse wsX4_refuse) := goodIn_app (goodIn_sub (List.forall_mem_cons.mpr ⟨(List.mem_of_getElem? (i := 14) rfl), (List.forall_mem_cons.mpr ⟨(List.mem_of_getElem? (i := 15) rfl), (List.forall_mem_cons.mpr ⟨(List.mem_of_getElem? (i := 16) rfl), (List.forall_mem_cons.mpr ⟨(List.mem_of_getElem? (i := 12) rfl), (fun _ h => absurd h List.not_mem_nil)⟩)⟩)⟩)⟩) (by decide +kernel)) ggX4_deaths_X4_refuse
set_option maxRecDepth 20000 in
theorem ggX4_deaths_X3_staysDown : GoodIn wsX4_deaths wsX3_staysDown := goodIn_sub (List.forall_mem_cons.mpr ⟨(List.mem_of_getElem? (i := 22) rfl), (List.forall_mem_append.mpr ⟨(List.forall_mem_cons.mpr ⟨(List.mem_of_getElem? (i := 23) rfl), (List.forall_mem_cons.mpr ⟨(List.mem_of_getElem? (i := 9) rfl), (fun _ h => absurd h List.not_mem_nil)⟩)⟩), (fun _ h => (List.mem_cons_of_mem _ (List.mem_append_right _ h)))⟩)⟩) gw_wsX3_staysDown
set_option maxRecDepth 20000 in
theorem gX4_deaths_X3_staysDown : GoodIn wsX4_deaths (wsV RX4 133 RX3 yX3_staysDown wsX3_staysDown) := goodIn_app (goodIn_sub (List.forall_mem_cons.mpr ⟨(List.mem_of_getElem? (i := 19) rfl), (List.forall_mem_cons.mpr ⟨(List.mem_of_getElem? (i := 20) rfl), (List.forall_mem_cons.mpr ⟨(List.mem_of_getElem? (i := 21) rfl), (List.forall_mem_cons.mpr ⟨(List.mem_of_getElem? (i := 6) rfl), (fun _ h => absurd h List.not_mem_nil)⟩)⟩)⟩)⟩) (by decide +kernel)) ggX4_deaths_X3_staysDown
set_option maxRecDepth 20000 in
theorem ggX4_deaths_X3_living : GoodIn wsX4_deaths wsX3_living := goodIn_sub (List.forall_mem_cons.mpr ⟨(List.mem_of_getElem? (i := 27) rfl), (List.forall_mem_append.mpr ⟨(List.forall_mem_cons.mpr ⟨(List.mem_of_getElem? (i := 28) rfl), (List.forall_mem_cons.mpr ⟨(List.mem_of_getElem? (i := 4) rfl), (List.forall_mem_cons.mpr ⟨(List.mem_of_getElem? (i := 5) rfl), (List.forall_mem_cons.mpr ⟨(List.mem_of_getElem? (i := 6) rfl), (List.forall_mem_cons.mpr ⟨(List.mem_of_getElem? (i := 7) rfl), (List.forall_mem_cons.mpr ⟨(List.mem_of_getElem? (i := 8) rfl), (List.forall_mem_cons.mpr ⟨(List.mem_of_getElem? (i := 9) rfl), (fun _ h => absurd h List.not_mem_nil)⟩)⟩)⟩)⟩)⟩)⟩)⟩), (fun _ h => (List.mem_cons_of_mem _ (List.mem_append_right _ h)))⟩)⟩) gw_wsX3_living
set_option maxRecDepth 20000 in
theorem gX4_deaths_X3_living : GoodIn wsX4_deaths (wsV RX4 136 RX3 yX3_living wsX3_living) := goodIn_app (goodIn_sub (List.forall_mem_cons.mpr ⟨(List.mem_of_getElem? (i := 24) rfl), (List.forall_mem_cons.mpr ⟨(List.mem_of_getElem? (i := 25) rfl), (List.forall_mem_cons.mpr ⟨(List.mem_of_getElem? (i := 26) rfl), (List.forall_mem_cons.mpr ⟨(List.mem_of_getElem? (i := 6) rfl), (fun _ h => absurd h List.not_mem_nil)⟩)⟩)⟩)⟩) (by decide +kernel)) ggX4_deaths_X3_living
set_option maxRecDepth 20000 in
theorem ggX4_deaths_X3_floorsOf : GoodIn wsX4_deaths wsX3_floorsOf := goodIn_sub (List.forall_mem_cons.mpr ⟨(List.mem_of_getElem? (i := 32) rfl), (List.forall_mem_append.mpr ⟨(List.forall_mem_cons.mpr ⟨(List.mem_of_getElem? (i := 9) rfl), (List.forall_mem_cons.mpr ⟨(List.mem_of_getElem? (i := 33) rfl), (List.forall_mem_cons.mpr ⟨(List.mem_of_getElem? (i := 34) rfl), (List.forall_mem_cons.mpr ⟨(List.mem_of_getElem? (i := 6) rfl), (List.forall_mem_cons.mpr ⟨(List.mem_of_getElem? (i := 35) rfl), (fun _ h => absurd h List.not_mem_nil)⟩)⟩)⟩)⟩)⟩), (fun _ h => (List.mem_cons_of_mem _ (List.mem_append_right _ h)))⟩)⟩) gw_wsX3_floorsOf
set_option maxRecDepth 20000 in
theorem gX4_deaths_X3_floorsOf : GoodIn wsX4_deaths (wsV RX4 139 RX3 yX3_floorsOf wsX3_floorsOf) := goodIn_app (goodIn_sub (List.forall_mem_cons.mpr ⟨(List.mem_of_getElem? (i := 29) rfl), (List.forall_mem_cons.mpr ⟨(List.mem_of_getElem? (i := 30) rfl), (List.forall_mem_cons.mpr ⟨(List.mem_of_getElem? (i := 31) rfl), (List.forall_mem_cons.mpr ⟨(List.mem_of_getElem? (i := 6) rfl), (fun _ h => absurd h List.not_mem_nil)⟩)⟩)⟩)⟩) (by decide +kernel)) ggX4_deaths_X3_floorsOf
set_option maxRecDepth 20000 in
theorem ggX4_deaths_X3_floorsUp : GoodIn wsX4_deaths wsX3_floorsUp := goodIn_sub (List.forall_mem_cons.mpr ⟨(List.mem_of_getElem? (i := 39) rfl), (List.forall_mem_append.mpr ⟨(List.forall_mem_cons.mpr ⟨(List.mem_of_getElem? (i := 9) rfl), (List.forall_mem_cons.mpr ⟨(List.mem_of_getElem? (i := 40) rfl), (List.forall_mem_cons.mpr ⟨(List.mem_of_getElem? (i := 20) rfl), (List.forall_mem_cons.mpr ⟨(List.mem_of_getElem? (i := 21) rfl), (List.forall_mem_cons.mpr ⟨(List.mem_of_getElem? (i := 6) rfl), (List.forall_mem_cons.mpr ⟨(List.mem_of_getElem? (i := 22) rfl), (List.forall_mem_cons.mpr ⟨(List.mem_of_getElem? (i := 23) rfl), (List.forall_mem_cons.mpr ⟨(List.mem_of_getElem? (i := 41) rfl), (List.forall_mem_cons.mpr ⟨(List.mem_of_getElem? (i := 42) rfl), (List.forall_mem_cons.mpr ⟨(List.mem_of_getElem? (i := 43) rfl), (List.forall_mem_cons.mpr ⟨(List.mem_of_getElem? (i := 44) rfl), (List.forall_mem_cons.mpr ⟨(List.mem_of_getElem? (i := 45) rfl), (List.forall_mem_cons.mpr ⟨(List.mem_of_getElem? (i := 46) rfl), (List.forall_mem_cons.mpr ⟨(List.mem_of_getElem? (i := 47) rfl), (fun _ h => absurd h List.not_mem_nil)⟩)⟩)⟩)⟩)⟩)⟩)⟩)⟩)⟩)⟩)⟩)⟩)⟩)⟩), (fun _ h => (List.mem_cons_of_mem _ (List.mem_append_right _ h)))⟩)⟩) gw_wsX3_floorsUp
set_option maxRecDepth 20000 in
theorem gX4_deaths_X3_floorsUp : GoodIn wsX4_deaths (wsV RX4 142 RX3 yX3_floorsUp wsX3_floorsUp) := goodIn_app (goodIn_sub (List.forall_mem_cons.mpr ⟨(List.mem_of_getElem? (i := 36) rfl), (List.forall_mem_cons.mpr ⟨(List.mem_of_getElem? (i := 37) rfl), (List.forall_mem_cons.mpr ⟨(List.mem_of_getElem? (i := 38) rfl), (List.forall_mem_cons.mpr ⟨(List.mem_of_getElem? (i := 6) rfl), (fun _ h => absurd h List.not_mem_nil)⟩)⟩)⟩)⟩) (by decide +kernel)) ggX4_deaths_X3_floorsUp
set_option maxRecDepth 20000 in
theorem gw_wsX3_likeliestAbove : wsX3_likeliestAbove.all goodWord = true := by decide +kernel
set_option maxRecDepth 20000 in
theorem ggX4_deaths_X3_likeliestAbove : GoodIn wsX4_deaths wsX3_likeliestAbove := goodIn_sub (List.forall_mem_cons.mpr ⟨(List.mem_of_getElem? (i := 51) rfl), (List.forall_mem_append.mpr ⟨(List.forall_mem_append.mpr ⟨(List.forall_mem_cons.mpr ⟨(List.mem_of_getElem? (i := 9) rfl), (List.forall_mem_cons.mpr ⟨(List.mem_of_getElem? (i := 28) rfl), (List.forall_mem_cons.mpr ⟨(List.mem_of_getElem? (i := 4) rfl), (List.forall_mem_cons.mpr ⟨(List.mem_of_getElem? (i := 5) rfl), (List.forall_mem_cons.mpr ⟨(List.mem_of_getElem? (i := 6) rfl), (List.forall_mem_cons.mpr ⟨(List.mem_of_getElem? (i := 7) rfl), (List.forall_mem_cons.mpr ⟨(List.mem_of_getElem? (i := 8) rfl), (List.forall_mem_cons.mpr ⟨(List.mem_of_getElem? (i := 33) rfl), (List.forall_mem_cons.mpr ⟨(List.mem_of_getElem? (i := 34) rfl), (List.forall_mem_cons.mpr ⟨(List.mem_of_getElem? (i := 35) rfl), (List.forall_mem_cons.mpr ⟨(List.mem_of_getElem? (i := 52) rfl), (List.forall_mem_cons.mpr ⟨(List.mem_of_getElem? (i := 53) rfl), (List.forall_mem_cons.mpr ⟨(List.mem_of_getElem? (i := 54) rfl), (List.forall_mem_cons.mpr ⟨(List.mem_of_getElem? (i := 55) rfl), (List.forall_mem_cons.mpr ⟨(List.mem_of_getElem? (i := 23) rfl), (List.forall_mem_cons.mpr ⟨(List.mem_of_getElem? (i := 56) rfl), (List.forall_mem_cons.mpr ⟨(List.mem_of_getElem? (i := 57) rfl), (List.forall_mem_cons.mpr ⟨(List.mem_of_getElem? (i := 58) rfl), (List.forall_mem_cons.mpr ⟨(List.mem_of_getElem? (i := 59) rfl), (List.forall_mem_cons.mpr ⟨(List.mem_of_getElem? (i := 60) rfl), (List.forall_mem_cons.mpr ⟨(List.mem_of_getElem? (i := 61) rfl), (List.forall_mem_cons.mpr ⟨(List.mem_of_getElem? (i := 62) rfl), (List.forall_mem_cons.mpr ⟨(List.mem_of_getElem? (i := 63) rfl), (List.forall_mem_cons.mpr ⟨(List.mem_of_getElem? (i := 64) rfl), (fun _ h => absurd h List.not_mem_nil)⟩)⟩)⟩)⟩)⟩)⟩)⟩)⟩)⟩)⟩)⟩)⟩)⟩)⟩)⟩)⟩)⟩)⟩)⟩)⟩)⟩)⟩)⟩)⟩), (List.forall_mem_cons.mpr ⟨(List.mem_of_getElem? (i := 65) rfl), (List.forall_mem_cons.mpr ⟨(List.mem_of_getElem? (i := 66) rfl), (List.forall_mem_cons.mpr ⟨(List.mem_of_getElem? (i := 67) rfl), (List.forall_mem_cons.mpr ⟨(List.mem_of_getElem? (i := 68) rfl), (List.forall_mem_cons.mpr ⟨(List.mem_of_getElem? (i := 69) rfl), (List.forall_mem_cons.mpr ⟨(List.mem_of_getElem? (i := 70) rfl), (List.forall_mem_cons.mpr ⟨(List.mem_of_getElem? (i := 71) rfl), (List.forall_mem_cons.mpr ⟨(List.mem_of_getElem? (i := 72) rfl), (List.forall_mem_cons.mpr ⟨(List.mem_of_getElem? (i := 73) rfl), (List.forall_mem_cons.mpr ⟨(List.mem_of_getElem? (i := 74) rfl), (List.forall_mem_cons.mpr ⟨(List.mem_of_getElem? (i := 75) rfl), (List.forall_mem_cons.mpr ⟨(List.mem_of_getElem? (i := 76) rfl), (List.forall_mem_cons.mpr ⟨(List.mem_of_getElem? (i := 77) rfl), (List.forall_mem_cons.mpr ⟨(List.mem_of_getElem? (i := 78) rfl), (fun _ h => absurd h List.not_mem_nil)⟩)⟩)⟩)⟩)⟩)⟩)⟩)⟩)⟩)⟩)⟩)⟩)⟩)⟩)⟩), (fun _ h => (List.mem_cons_of_mem _ (List.mem_append_right _ h)))⟩)⟩) gw_wsX3_likeliestAbove
set_option maxRecDepth 20000 in
theorem gX4_deaths_X3_likeliestAbove : GoodIn wsX4_deaths (wsV RX4 145 RX3 yX3_likeliestAbove wsX3_likeliestAbove) := goodIn_app (goodIn_sub (List.forall_mem_cons.mpr ⟨(List.mem_of_getElem? (i := 48) rfl), (List.forall_mem_cons.mpr ⟨(List.mem_of_getElem? (i := 49) rfl), (List.forall_mem_cons.mpr ⟨(List.mem_of_getElem? (i := 50) rfl), (List.forall_mem_cons.mpr ⟨(List.mem_of_getElem? (i := 6) rfl), (fun _ h => absurd h List.not_mem_nil)⟩)⟩)⟩)⟩) (by decide +kernel)) ggX4_deaths_X3_likeliestAbove
def dtX4_deaths_t0 : List (Nat × Instr × Nat) := [(0, .aload_n 0, 1), (1, .getfield 10, 3), (4, .iload_n 1, 1), (5, .invokevirtual 74, 3), (8, .ifCond .eq 10, 3), (11, .iload_n 2, 1), (12, .invokestatic 99, 3), (15, .ifCond .ne 9, 3), (18, .aload_n 0, 1), (19, .iconst (-1), 1), (20, .invokevirtual 43, 3), (23, .ireturn, 1), (24, .iload_n 3, 1), (25, .ifCond .eq 15, 3), (28, .iload_n 3, 1), (29, .iconst 1, 1), (30, .if_icmp .eq 10, 3), (33, .aload_n 0, 1), (34, .bipush (-2), 2), (36, .invokevirtual 43, 3)]
theorem daX4_deaths_t0 : dtX4_deaths_t0.all (dck cX4_deaths) = true := by decide +kernel
theorem dX4_deaths_0 : decode cX4_deaths 0 = .ok (.aload_n 0, 1) := dck_get daX4_deaths_t0 0 rfl
theorem dX4_deaths_1 : decode cX4_deaths 1 = .ok (.getfield 10, 3) := dck_get daX4_deaths_t0 1 rfl
theorem dX4_deaths_4 : decode cX4_deaths 4 = .ok (.iload_n 1, 1) := dck_get daX4_deaths_t0 2 rfl
theorem dX4_deaths_5 : decode cX4_deaths 5 = .ok (.invokevirtual 74, 3) := dck_get daX4_deaths_t0 3 rfl
theorem dX4_deaths_8 : decode cX4_deaths 8 = .ok (.ifCond .eq 10, 3) := dck_get daX4_deaths_t0 4 rfl
theorem dX4_deaths_11 : decode cX4_deaths 11 = .ok (.iload_n 2, 1) := dck_get daX4_deaths_t0 5 rfl
theorem dX4_deaths_12 : decode cX4_deaths 12 = .ok (.invokestatic 99, 3) := dck_get daX4_deaths_t0 6 rfl
theorem dX4_deaths_15 : decode cX4_deaths 15 = .ok (.ifCond .ne 9, 3) := dck_get daX4_deaths_t0 7 rfl
theorem dX4_deaths_18 : decode cX4_deaths 18 = .ok (.aload_n 0, 1) := dck_get daX4_deaths_t0 8 rfl
theorem dX4_deaths_19 : decode cX4_deaths 19 = .ok (.iconst (-1), 1) := dck_get daX4_deaths_t0 9 rfl
theorem dX4_deaths_20 : decode cX4_deaths 20 = .ok (.invokevirtual 43, 3) := dck_get daX4_deaths_t0 10 rfl
theorem dX4_deaths_23 : decode cX4_deaths 23 = .ok (.ireturn, 1) := dck_get daX4_deaths_t0 11 rfl
theorem dX4_deaths_24 : decode cX4_deaths 24 = .ok (.iload_n 3, 1) := dck_get daX4_deaths_t0 12 rfl
theorem dX4_deaths_25 : decode cX4_deaths 25 = .ok (.ifCond .eq 15, 3) := dck_get daX4_deaths_t0 13 rfl
theorem dX4_deaths_28 : decode cX4_deaths 28 = .ok (.iload_n 3, 1) := dck_get daX4_deaths_t0 14 rfl
theorem dX4_deaths_29 : decode cX4_deaths 29 = .ok (.iconst 1, 1) := dck_get daX4_deaths_t0 15 rfl
theorem dX4_deaths_30 : decode cX4_deaths 30 = .ok (.if_icmp .eq 10, 3) := dck_get daX4_deaths_t0 16 rfl
theorem dX4_deaths_33 : decode cX4_deaths 33 = .ok (.aload_n 0, 1) := dck_get daX4_deaths_t0 17 rfl
theorem dX4_deaths_34 : decode cX4_deaths 34 = .ok (.bipush (-2), 2) := dck_get daX4_deaths_t0 18 rfl
theorem dX4_deaths_36 : decode cX4_deaths 36 = .ok (.invokevirtual 43, 3) := dck_get daX4_deaths_t0 19 rfl
def dtX4_deaths_t1 : List (Nat × Instr × Nat) := [(39, .ireturn, 1), (40, .iload_n 2, 1), (41, .aload_n 0, 1), (42, .getfield 10, 3), (45, .getfield 83, 3), (48, .iload_n 1, 1), (49, .iaload, 1), (50, .isub, 1), (51, .istore 4, 2), (53, .iload 4, 2), (55, .ifCond .le 14, 3), (58, .aload_n 0, 1), (59, .getfield 10, 3), (62, .iload_n 1, 1), (63, .invokevirtual 133, 3), (66, .ifCond .eq 6, 3), (69, .bipush (-9), 2), (71, .ireturn, 1), (72, .iload 4, 2), (74, .aload_n 0, 1)]
theorem daX4_deaths_t1 : dtX4_deaths_t1.all (dck cX4_deaths) = true := by decide +kernel
theorem dX4_deaths_39 : decode cX4_deaths 39 = .ok (.ireturn, 1) := dck_get daX4_deaths_t1 0 rfl
theorem dX4_deaths_40 : decode cX4_deaths 40 = .ok (.iload_n 2, 1) := dck_get daX4_deaths_t1 1 rfl
theorem dX4_deaths_41 : decode cX4_deaths 41 = .ok (.aload_n 0, 1) := dck_get daX4_deaths_t1 2 rfl
theorem dX4_deaths_42 : decode cX4_deaths 42 = .ok (.getfield 10, 3) := dck_get daX4_deaths_t1 3 rfl
theorem dX4_deaths_45 : decode cX4_deaths 45 = .ok (.getfield 83, 3) := dck_get daX4_deaths_t1 4 rfl
theorem dX4_deaths_48 : decode cX4_deaths 48 = .ok (.iload_n 1, 1) := dck_get daX4_deaths_t1 5 rfl
theorem dX4_deaths_49 : decode cX4_deaths 49 = .ok (.iaload, 1) := dck_get daX4_deaths_t1 6 rfl
theorem dX4_deaths_50 : decode cX4_deaths 50 = .ok (.isub, 1) := dck_get daX4_deaths_t1 7 rfl
theorem dX4_deaths_51 : decode cX4_deaths 51 = .ok (.istore 4, 2) := dck_get daX4_deaths_t1 8 rfl
theorem dX4_deaths_53 : decode cX4_deaths 53 = .ok (.iload 4, 2) := dck_get daX4_deaths_t1 9 rfl
theorem dX4_deaths_55 : decode cX4_deaths 55 = .ok (.ifCond .le 14, 3) := dck_get daX4_deaths_t1 10 rfl
theorem dX4_deaths_58 : decode cX4_deaths 58 = .ok (.aload_n 0, 1) := dck_get daX4_deaths_t1 11 rfl
theorem dX4_deaths_59 : decode cX4_deaths 59 = .ok (.getfield 10, 3) := dck_get daX4_deaths_t1 12 rfl
theorem dX4_deaths_62 : decode cX4_deaths 62 = .ok (.iload_n 1, 1) := dck_get daX4_deaths_t1 13 rfl
theorem dX4_deaths_63 : decode cX4_deaths 63 = .ok (.invokevirtual 133, 3) := dck_get daX4_deaths_t1 14 rfl
theorem dX4_deaths_66 : decode cX4_deaths 66 = .ok (.ifCond .eq 6, 3) := dck_get daX4_deaths_t1 15 rfl
theorem dX4_deaths_69 : decode cX4_deaths 69 = .ok (.bipush (-9), 2) := dck_get daX4_deaths_t1 16 rfl
theorem dX4_deaths_71 : decode cX4_deaths 71 = .ok (.ireturn, 1) := dck_get daX4_deaths_t1 17 rfl
theorem dX4_deaths_72 : decode cX4_deaths 72 = .ok (.iload 4, 2) := dck_get daX4_deaths_t1 18 rfl
theorem dX4_deaths_74 : decode cX4_deaths 74 = .ok (.aload_n 0, 1) := dck_get daX4_deaths_t1 19 rfl
def dtX4_deaths_t2 : List (Nat × Instr × Nat) := [(75, .getfield 10, 3), (78, .iload_n 1, 1), (79, .aload_n 0, 1), (80, .getfield 10, 3), (83, .aload_n 0, 1), (84, .getfield 10, 3), (87, .invokevirtual 136, 3), (90, .invokevirtual 139, 3), (93, .invokevirtual 142, 3), (96, .if_icmp .le 6, 3), (99, .bipush (-9), 2), (101, .ireturn, 1), (102, .iload_n 3, 1), (103, .ifCond .ne 8, 3), (106, .iload 4, 2), (108, .goto 13, 3), (111, .aload_n 0, 1), (112, .getfield 10, 3), (115, .iload_n 1, 1), (116, .iload 4, 2)]
theorem daX4_deaths_t2 : dtX4_deaths_t2.all (dck cX4_deaths) = true := by decide +kernel
theorem dX4_deaths_75 : decode cX4_deaths 75 = .ok (.getfield 10, 3) := dck_get daX4_deaths_t2 0 rfl
theorem dX4_deaths_78 : decode cX4_deaths 78 = .ok (.iload_n 1, 1) := dck_get daX4_deaths_t2 1 rfl
theorem dX4_deaths_79 : decode cX4_deaths 79 = .ok (.aload_n 0, 1) := dck_get daX4_deaths_t2 2 rfl
theorem dX4_deaths_80 : decode cX4_deaths 80 = .ok (.getfield 10, 3) := dck_get daX4_deaths_t2 3 rfl
theorem dX4_deaths_83 : decode cX4_deaths 83 = .ok (.aload_n 0, 1) := dck_get daX4_deaths_t2 4 rfl
theorem dX4_deaths_84 : decode cX4_deaths 84 = .ok (.getfield 10, 3) := dck_get daX4_deaths_t2 5 rfl
theorem dX4_deaths_87 : decode cX4_deaths 87 = .ok (.invokevirtual 136, 3) := dck_get daX4_deaths_t2 6 rfl
theorem dX4_deaths_90 : decode cX4_deaths 90 = .ok (.invokevirtual 139, 3) := dck_get daX4_deaths_t2 7 rfl
theorem dX4_deaths_93 : decode cX4_deaths 93 = .ok (.invokevirtual 142, 3) := dck_get daX4_deaths_t2 8 rfl
theorem dX4_deaths_96 : decode cX4_deaths 96 = .ok (.if_icmp .le 6, 3) := dck_get daX4_deaths_t2 9 rfl
theorem dX4_deaths_99 : decode cX4_deaths 99 = .ok (.bipush (-9), 2) := dck_get daX4_deaths_t2 10 rfl
theorem dX4_deaths_101 : decode cX4_deaths 101 = .ok (.ireturn, 1) := dck_get daX4_deaths_t2 11 rfl
theorem dX4_deaths_102 : decode cX4_deaths 102 = .ok (.iload_n 3, 1) := dck_get daX4_deaths_t2 12 rfl
theorem dX4_deaths_103 : decode cX4_deaths 103 = .ok (.ifCond .ne 8, 3) := dck_get daX4_deaths_t2 13 rfl
theorem dX4_deaths_106 : decode cX4_deaths 106 = .ok (.iload 4, 2) := dck_get daX4_deaths_t2 14 rfl
theorem dX4_deaths_108 : decode cX4_deaths 108 = .ok (.goto 13, 3) := dck_get daX4_deaths_t2 15 rfl
theorem dX4_deaths_111 : decode cX4_deaths 111 = .ok (.aload_n 0, 1) := dck_get daX4_deaths_t2 16 rfl
theorem dX4_deaths_112 : decode cX4_deaths 112 = .ok (.getfield 10, 3) := dck_get daX4_deaths_t2 17 rfl
theorem dX4_deaths_115 : decode cX4_deaths 115 = .ok (.iload_n 1, 1) := dck_get daX4_deaths_t2 18 rfl
theorem dX4_deaths_116 : decode cX4_deaths 116 = .ok (.iload 4, 2) := dck_get daX4_deaths_t2 19 rfl
def dtX4_deaths_t3 : List (Nat × Instr × Nat) := [(118, .invokevirtual 145, 3), (121, .ireturn, 1)]
theorem daX4_deaths_t3 : dtX4_deaths_t3.all (dck cX4_deaths) = true := by decide +kernel
theorem dX4_deaths_118 : decode cX4_deaths 118 = .ok (.invokevirtual 145, 3) := dck_get daX4_deaths_t3 0 rfl
theorem dX4_deaths_121 : decode cX4_deaths 121 = .ok (.ireturn, 1) := dck_get daX4_deaths_t3 1 rfl
set_option maxRecDepth 20000 in
theorem ggX4_stuck_X3_isAlive : GoodIn wsX4_stuck wsX3_isAlive := goodIn_sub (List.forall_mem_cons.mpr ⟨(List.mem_of_getElem? (i := 6) rfl), (List.forall_mem_append.mpr ⟨(List.forall_mem_cons.mpr ⟨(List.mem_of_getElem? (i := 7) rfl), (List.forall_mem_cons.mpr ⟨(List.mem_of_getElem? (i := 8) rfl), (fun _ h => absurd h List.not_mem_nil)⟩)⟩), (fun _ h => (List.mem_cons_of_mem _ (List.mem_append_right _ h)))⟩)⟩) gw_wsX3_isAlive
set_option maxRecDepth 20000 in
theorem gX4_stuck_X3_isAlive : GoodIn wsX4_stuck (wsV RX4 74 RX3 yX3_isAlive wsX3_isAlive) := goodIn_app (goodIn_sub (List.forall_mem_cons.mpr ⟨(List.mem_of_getElem? (i := 2) rfl), (List.forall_mem_cons.mpr ⟨(List.mem_of_getElem? (i := 3) rfl), (List.forall_mem_cons.mpr ⟨(List.mem_of_getElem? (i := 4) rfl), (List.forall_mem_cons.mpr ⟨(List.mem_of_getElem? (i := 5) rfl), (fun _ h => absurd h List.not_mem_nil)⟩)⟩)⟩)⟩) (by decide +kernel)) ggX4_stuck_X3_isAlive
set_option maxRecDepth 20000 in
theorem gw_wsX3_isOutOfReach : wsX3_isOutOfReach.all goodWord = true := by decide +kernel
set_option maxRecDepth 20000 in
theorem ggX4_stuck_X3_isOutOfReach : GoodIn wsX4_stuck wsX3_isOutOfReach := goodIn_sub (List.forall_mem_cons.mpr ⟨(List.mem_of_getElem? (i := 12) rfl), (List.forall_mem_append.mpr ⟨(List.forall_mem_cons.mpr ⟨(List.mem_of_getElem? (i := 8) rfl), (List.forall_mem_cons.mpr ⟨(List.mem_of_getElem? (i := 13) rfl), (List.forall_mem_cons.mpr ⟨(List.mem_of_getElem? (i := 14) rfl), (List.forall_mem_cons.mpr ⟨(List.mem_of_getElem? (i := 15) rfl), (List.forall_mem_cons.mpr ⟨(List.mem_of_getElem? (i := 5) rfl), (List.forall_mem_cons.mpr ⟨(List.mem_of_getElem? (i := 16) rfl), (List.forall_mem_cons.mpr ⟨(List.mem_of_getElem? (i := 17) rfl), (List.forall_mem_cons.mpr ⟨(List.mem_of_getElem? (i := 18) rfl), (List.forall_mem_cons.mpr ⟨(List.mem_of_getElem? (i := 19) rfl), (List.forall_mem_cons.mpr ⟨(List.mem_of_getElem? (i := 20) rfl), (List.forall_mem_cons.mpr ⟨(List.mem_of_getElem? (i := 21) rfl), (List.forall_mem_cons.mpr ⟨(List.mem_of_getElem? (i := 22) rfl), (List.forall_mem_cons.mpr ⟨(List.mem_of_getElem? (i := 23) rfl), (List.forall_mem_cons.mpr ⟨(List.mem_of_getElem? (i := 24) rfl), (List.forall_mem_cons.mpr ⟨(List.mem_of_getElem? (i := 25) rfl), (List.forall_mem_cons.mpr ⟨(List.mem_of_getElem? (i := 26) rfl), (List.forall_mem_cons.mpr ⟨(List.mem_of_getElem? (i := 27) rfl), (List.forall_mem_cons.mpr ⟨(List.mem_of_getElem? (i := 28) rfl), (List.forall_mem_cons.mpr ⟨(List.mem_of_getElem? (i := 29) rfl), (List.forall_mem_cons.mpr ⟨(List.mem_of_getElem? (i := 30) rfl), (List.forall_mem_cons.mpr ⟨(List.mem_of_getElem? (i := 31) rfl), (fun _ h => absurd h List.not_mem_nil)⟩)⟩)⟩)⟩)⟩)⟩)⟩)⟩)⟩)⟩)⟩)⟩)⟩)⟩)⟩)⟩)⟩)⟩)⟩)⟩)⟩), (fun _ h => (List.mem_cons_of_mem _ (List.mem_append_right _ h)))⟩)⟩) gw_wsX3_isOutOfReach
set_option maxRecDepth 20000 in
theorem gX4_stuck_X3_isOutOfReach : GoodIn wsX4_stuck (wsV RX4 148 RX3 yX3_isOutOfReach wsX3_isOutOfReach) := goodIn_app (goodIn_sub (List.forall_mem_cons.mpr ⟨(List.mem_of_getElem? (i := 9) rfl), (List.forall_mem_cons.mpr ⟨(List.mem_of_getElem? (i := 10) rfl), (List.forall_mem_cons.mpr ⟨(List.mem_of_getElem? (i := 11) rfl), (List.forall_mem_cons.mpr ⟨(List.mem_of_getElem? (i := 5) rfl), (fun _ h => absurd h List.not_mem_nil)⟩)⟩)⟩)⟩) (by decide +kernel)) ggX4_stuck_X3_isOutOfReach
def dtX4_stuck_t0 : List (Nat × Instr × Nat) := [(0, .iconst 0, 1), (1, .istore_n 1, 1), (2, .iconst 0, 1), (3, .istore_n 2, 1), (4, .iload_n 2, 1), (5, .bipush 8, 2), (7, .if_icmp .ge 38, 3), (10, .aload_n 0, 1), (11, .getfield 10, 3), (14, .iload_n 2, 1), (15, .invokevirtual 74, 3), (18, .ifCond .eq 21, 3), (21, .aload_n 0, 1), (22, .getfield 10, 3), (25, .iload_n 2, 1), (26, .iconst 0, 1), (27, .invokevirtual 148, 3), (30, .ifCond .eq 9, 3), (33, .iload_n 1, 1), (34, .iconst 1, 1)]
theorem daX4_stuck_t0 : dtX4_stuck_t0.all (dck cX4_stuck) = true := by decide +kernel
theorem dX4_stuck_0 : decode cX4_stuck 0 = .ok (.iconst 0, 1) := dck_get daX4_stuck_t0 0 rfl
theorem dX4_stuck_1 : decode cX4_stuck 1 = .ok (.istore_n 1, 1) := dck_get daX4_stuck_t0 1 rfl
theorem dX4_stuck_2 : decode cX4_stuck 2 = .ok (.iconst 0, 1) := dck_get daX4_stuck_t0 2 rfl
theorem dX4_stuck_3 : decode cX4_stuck 3 = .ok (.istore_n 2, 1) := dck_get daX4_stuck_t0 3 rfl
theorem dX4_stuck_4 : decode cX4_stuck 4 = .ok (.iload_n 2, 1) := dck_get daX4_stuck_t0 4 rfl
theorem dX4_stuck_5 : decode cX4_stuck 5 = .ok (.bipush 8, 2) := dck_get daX4_stuck_t0 5 rfl
theorem dX4_stuck_7 : decode cX4_stuck 7 = .ok (.if_icmp .ge 38, 3) := dck_get daX4_stuck_t0 6 rfl
theorem dX4_stuck_10 : decode cX4_stuck 10 = .ok (.aload_n 0, 1) := dck_get daX4_stuck_t0 7 rfl
theorem dX4_stuck_11 : decode cX4_stuck 11 = .ok (.getfield 10, 3) := dck_get daX4_stuck_t0 8 rfl
theorem dX4_stuck_14 : decode cX4_stuck 14 = .ok (.iload_n 2, 1) := dck_get daX4_stuck_t0 9 rfl
theorem dX4_stuck_15 : decode cX4_stuck 15 = .ok (.invokevirtual 74, 3) := dck_get daX4_stuck_t0 10 rfl
theorem dX4_stuck_18 : decode cX4_stuck 18 = .ok (.ifCond .eq 21, 3) := dck_get daX4_stuck_t0 11 rfl
theorem dX4_stuck_21 : decode cX4_stuck 21 = .ok (.aload_n 0, 1) := dck_get daX4_stuck_t0 12 rfl
theorem dX4_stuck_22 : decode cX4_stuck 22 = .ok (.getfield 10, 3) := dck_get daX4_stuck_t0 13 rfl
theorem dX4_stuck_25 : decode cX4_stuck 25 = .ok (.iload_n 2, 1) := dck_get daX4_stuck_t0 14 rfl
theorem dX4_stuck_26 : decode cX4_stuck 26 = .ok (.iconst 0, 1) := dck_get daX4_stuck_t0 15 rfl
theorem dX4_stuck_27 : decode cX4_stuck 27 = .ok (.invokevirtual 148, 3) := dck_get daX4_stuck_t0 16 rfl
theorem dX4_stuck_30 : decode cX4_stuck 30 = .ok (.ifCond .eq 9, 3) := dck_get daX4_stuck_t0 17 rfl
theorem dX4_stuck_33 : decode cX4_stuck 33 = .ok (.iload_n 1, 1) := dck_get daX4_stuck_t0 18 rfl
theorem dX4_stuck_34 : decode cX4_stuck 34 = .ok (.iconst 1, 1) := dck_get daX4_stuck_t0 19 rfl
def dtX4_stuck_t1 : List (Nat × Instr × Nat) := [(35, .iload_n 2, 1), (36, .ishl, 1), (37, .ior, 1), (38, .istore_n 1, 1), (39, .iinc 2 1, 3), (42, .goto (-38), 3), (45, .iload_n 1, 1), (46, .ireturn, 1)]
theorem daX4_stuck_t1 : dtX4_stuck_t1.all (dck cX4_stuck) = true := by decide +kernel
theorem dX4_stuck_35 : decode cX4_stuck 35 = .ok (.iload_n 2, 1) := dck_get daX4_stuck_t1 0 rfl
theorem dX4_stuck_36 : decode cX4_stuck 36 = .ok (.ishl, 1) := dck_get daX4_stuck_t1 1 rfl
theorem dX4_stuck_37 : decode cX4_stuck 37 = .ok (.ior, 1) := dck_get daX4_stuck_t1 2 rfl
theorem dX4_stuck_38 : decode cX4_stuck 38 = .ok (.istore_n 1, 1) := dck_get daX4_stuck_t1 3 rfl
theorem dX4_stuck_39 : decode cX4_stuck 39 = .ok (.iinc 2 1, 3) := dck_get daX4_stuck_t1 4 rfl
theorem dX4_stuck_42 : decode cX4_stuck 42 = .ok (.goto (-38), 3) := dck_get daX4_stuck_t1 5 rfl
theorem dX4_stuck_45 : decode cX4_stuck 45 = .ok (.iload_n 1, 1) := dck_get daX4_stuck_t1 6 rfl
theorem dX4_stuck_46 : decode cX4_stuck 46 = .ok (.ireturn, 1) := dck_get daX4_stuck_t1 7 rfl
set_option maxRecDepth 20000 in
theorem ggX4_safe_X3_isAlive : GoodIn wsX4_safe wsX3_isAlive := goodIn_sub (List.forall_mem_cons.mpr ⟨(List.mem_of_getElem? (i := 6) rfl), (List.forall_mem_append.mpr ⟨(List.forall_mem_cons.mpr ⟨(List.mem_of_getElem? (i := 7) rfl), (List.forall_mem_cons.mpr ⟨(List.mem_of_getElem? (i := 8) rfl), (fun _ h => absurd h List.not_mem_nil)⟩)⟩), (fun _ h => (List.mem_cons_of_mem _ (List.mem_append_right _ h)))⟩)⟩) gw_wsX3_isAlive
set_option maxRecDepth 20000 in
theorem gX4_safe_X3_isAlive : GoodIn wsX4_safe (wsV RX4 74 RX3 yX3_isAlive wsX3_isAlive) := goodIn_app (goodIn_sub (List.forall_mem_cons.mpr ⟨(List.mem_of_getElem? (i := 2) rfl), (List.forall_mem_cons.mpr ⟨(List.mem_of_getElem? (i := 3) rfl), (List.forall_mem_cons.mpr ⟨(List.mem_of_getElem? (i := 4) rfl), (List.forall_mem_cons.mpr ⟨(List.mem_of_getElem? (i := 5) rfl), (fun _ h => absurd h List.not_mem_nil)⟩)⟩)⟩)⟩) (by decide +kernel)) ggX4_safe_X3_isAlive
set_option maxRecDepth 20000 in
theorem ggX4_safe_X4_refuse : GoodIn wsX4_safe wsX4_refuse := goodIn_sub (List.forall_mem_cons.mpr ⟨(List.mem_of_getElem? (i := 13) rfl), (List.forall_mem_append.mpr ⟨(List.forall_mem_cons.mpr ⟨(List.mem_of_getElem? (i := 14) rfl), (fun _ h => absurd h List.not_mem_nil)⟩), (fun _ h => (List.mem_cons_of_mem _ (List.mem_append_left _ (List.mem_append_right _ h))))⟩)⟩) gw_wsX4_refuse
set_option maxRecDepth 20000 in
theorem gX4_safe_X4_refuse : GoodIn wsX4_safe (wsV RX4 43 RX4 yX4_refuse wsX4_refuse) := goodIn_app (goodIn_sub (List.forall_mem_cons.mpr ⟨(List.mem_of_getElem? (i := 9) rfl), (List.forall_mem_cons.mpr ⟨(List.mem_of_getElem? (i := 10) rfl), (List.forall_mem_cons.mpr ⟨(List.mem_of_getElem? (i := 11) rfl), (List.forall_mem_cons.mpr ⟨(List.mem_of_getElem? (i := 12) rfl), (fun _ h => absurd h List.not_mem_nil)⟩)⟩)⟩)⟩) (by decide +kernel)) ggX4_safe_X4_refuse
set_option maxRecDepth 20000 in
theorem ggX4_safe_X3_isOutOfReach : GoodIn wsX4_safe wsX3_isOutOfReach := goodIn_sub (List.forall_mem_cons.mpr ⟨(List.mem_of_getElem? (i := 18) rfl), (List.forall_mem_append.mpr ⟨(List.forall_mem_cons.mpr ⟨(List.mem_of_getElem? (i := 8) rfl), (List.forall_mem_cons.mpr ⟨(List.mem_of_getElem? (i := 19) rfl), (List.forall_mem_cons.mpr ⟨(List.mem_of_getElem? (i := 20) rfl), (List.forall_mem_cons.mpr ⟨(List.mem_of_getElem? (i := 21) rfl), (List.forall_mem_cons.mpr ⟨(List.mem_of_getElem? (i := 5) rfl), (List.forall_mem_cons.mpr ⟨(List.mem_of_getElem? (i := 22) rfl), (List.forall_mem_cons.mpr ⟨(List.mem_of_getElem? (i := 23) rfl), (List.forall_mem_cons.mpr ⟨(List.mem_of_getElem? (i := 24) rfl), (List.forall_mem_cons.mpr ⟨(List.mem_of_getElem? (i := 25) rfl), (List.forall_mem_cons.mpr ⟨(List.mem_of_getElem? (i := 26) rfl), (List.forall_mem_cons.mpr ⟨(List.mem_of_getElem? (i := 27) rfl), (List.forall_mem_cons.mpr ⟨(List.mem_of_getElem? (i := 28) rfl), (List.forall_mem_cons.mpr ⟨(List.mem_of_getElem? (i := 29) rfl), (List.forall_mem_cons.mpr ⟨(List.mem_of_getElem? (i := 30) rfl), (List.forall_mem_cons.mpr ⟨(List.mem_of_getElem? (i := 31) rfl), (List.forall_mem_cons.mpr ⟨(List.mem_of_getElem? (i := 32) rfl), (List.forall_mem_cons.mpr ⟨(List.mem_of_getElem? (i := 33) rfl), (List.forall_mem_cons.mpr ⟨(List.mem_of_getElem? (i := 34) rfl), (List.forall_mem_cons.mpr ⟨(List.mem_of_getElem? (i := 35) rfl), (List.forall_mem_cons.mpr ⟨(List.mem_of_getElem? (i := 36) rfl), (List.forall_mem_cons.mpr ⟨(List.mem_of_getElem? (i := 37) rfl), (fun _ h => absurd h List.not_mem_nil)⟩)⟩)⟩)⟩)⟩)⟩)⟩)⟩)⟩)⟩)⟩)⟩)⟩)⟩)⟩)⟩)⟩)⟩)⟩)⟩)⟩), (fun _ h => (List.mem_cons_of_mem _ (List.mem_append_right _ h)))⟩)⟩) gw_wsX3_isOutOfReach
set_option maxRecDepth 20000 in
theorem gX4_safe_X3_isOutOfReach : GoodIn wsX4_safe (wsV RX4 148 RX3 yX3_isOutOfReach wsX3_isOutOfReach) := goodIn_app (goodIn_sub (List.forall_mem_cons.mpr ⟨(List.mem_of_getElem? (i := 15) rfl), (List.forall_mem_cons.mpr ⟨(List.mem_of_getElem? (i := 16) rfl), (List.forall_mem_cons.mpr ⟨(List.mem_of_getElem? (i := 17) rfl), (List.forall_mem_cons.mpr ⟨(List.mem_of_getElem? (i := 5) rfl), (fun _ h => absurd h List.not_mem_nil)⟩)⟩)⟩)⟩) (by decide +kernel)) ggX4_safe_X3_isOutOfReach
def dtX4_safe_t0 : List (Nat × Instr × Nat) := [(0, .aload_n 0, 1), (1, .getfield 10, 3), (4, .iload_n 1, 1), (5, .invokevirtual 74, 3), (8, .ifCond .ne 9, 3), (11, .aload_n 0, 1), (12, .iconst (-1), 1), (13, .invokevirtual 43, 3), (16, .ireturn, 1), (17, .bipush (-9), 2), (19, .istore_n 2, 1), (20, .iconst 0, 1), (21, .istore_n 3, 1), (22, .iload_n 3, 1), (23, .bipush 99, 2), (25, .if_icmp .gt 26, 3), (28, .aload_n 0, 1), (29, .getfield 10, 3), (32, .iload_n 1, 1), (33, .iload_n 3, 1)]
theorem daX4_safe_t0 : dtX4_safe_t0.all (dck cX4_safe) = true := by decide +kernel
theorem dX4_safe_0 : decode cX4_safe 0 = .ok (.aload_n 0, 1) := dck_get daX4_safe_t0 0 rfl
theorem dX4_safe_1 : decode cX4_safe 1 = .ok (.getfield 10, 3) := dck_get daX4_safe_t0 1 rfl
theorem dX4_safe_4 : decode cX4_safe 4 = .ok (.iload_n 1, 1) := dck_get daX4_safe_t0 2 rfl
theorem dX4_safe_5 : decode cX4_safe 5 = .ok (.invokevirtual 74, 3) := dck_get daX4_safe_t0 3 rfl
theorem dX4_safe_8 : decode cX4_safe 8 = .ok (.ifCond .ne 9, 3) := dck_get daX4_safe_t0 4 rfl
theorem dX4_safe_11 : decode cX4_safe 11 = .ok (.aload_n 0, 1) := dck_get daX4_safe_t0 5 rfl
theorem dX4_safe_12 : decode cX4_safe 12 = .ok (.iconst (-1), 1) := dck_get daX4_safe_t0 6 rfl
theorem dX4_safe_13 : decode cX4_safe 13 = .ok (.invokevirtual 43, 3) := dck_get daX4_safe_t0 7 rfl
theorem dX4_safe_16 : decode cX4_safe 16 = .ok (.ireturn, 1) := dck_get daX4_safe_t0 8 rfl
theorem dX4_safe_17 : decode cX4_safe 17 = .ok (.bipush (-9), 2) := dck_get daX4_safe_t0 9 rfl
theorem dX4_safe_19 : decode cX4_safe 19 = .ok (.istore_n 2, 1) := dck_get daX4_safe_t0 10 rfl
theorem dX4_safe_20 : decode cX4_safe 20 = .ok (.iconst 0, 1) := dck_get daX4_safe_t0 11 rfl
theorem dX4_safe_21 : decode cX4_safe 21 = .ok (.istore_n 3, 1) := dck_get daX4_safe_t0 12 rfl
theorem dX4_safe_22 : decode cX4_safe 22 = .ok (.iload_n 3, 1) := dck_get daX4_safe_t0 13 rfl
theorem dX4_safe_23 : decode cX4_safe 23 = .ok (.bipush 99, 2) := dck_get daX4_safe_t0 14 rfl
theorem dX4_safe_25 : decode cX4_safe 25 = .ok (.if_icmp .gt 26, 3) := dck_get daX4_safe_t0 15 rfl
theorem dX4_safe_28 : decode cX4_safe 28 = .ok (.aload_n 0, 1) := dck_get daX4_safe_t0 16 rfl
theorem dX4_safe_29 : decode cX4_safe 29 = .ok (.getfield 10, 3) := dck_get daX4_safe_t0 17 rfl
theorem dX4_safe_32 : decode cX4_safe 32 = .ok (.iload_n 1, 1) := dck_get daX4_safe_t0 18 rfl
theorem dX4_safe_33 : decode cX4_safe 33 = .ok (.iload_n 3, 1) := dck_get daX4_safe_t0 19 rfl
def dtX4_safe_t1 : List (Nat × Instr × Nat) := [(34, .invokevirtual 148, 3), (37, .ifCond .eq 6, 3), (40, .goto 11, 3), (43, .iload_n 3, 1), (44, .istore_n 2, 1), (45, .iinc 3 1, 3), (48, .goto (-26), 3), (51, .iload_n 2, 1), (52, .ireturn, 1)]
theorem daX4_safe_t1 : dtX4_safe_t1.all (dck cX4_safe) = true := by decide +kernel
theorem dX4_safe_34 : decode cX4_safe 34 = .ok (.invokevirtual 148, 3) := dck_get daX4_safe_t1 0 rfl
theorem dX4_safe_37 : decode cX4_safe 37 = .ok (.ifCond .eq 6, 3) := dck_get daX4_safe_t1 1 rfl
theorem dX4_safe_40 : decode cX4_safe 40 = .ok (.goto 11, 3) := dck_get daX4_safe_t1 2 rfl
theorem dX4_safe_43 : decode cX4_safe 43 = .ok (.iload_n 3, 1) := dck_get daX4_safe_t1 3 rfl
theorem dX4_safe_44 : decode cX4_safe 44 = .ok (.istore_n 2, 1) := dck_get daX4_safe_t1 4 rfl
theorem dX4_safe_45 : decode cX4_safe 45 = .ok (.iinc 3 1, 3) := dck_get daX4_safe_t1 5 rfl
theorem dX4_safe_48 : decode cX4_safe 48 = .ok (.goto (-26), 3) := dck_get daX4_safe_t1 6 rfl
theorem dX4_safe_51 : decode cX4_safe 51 = .ok (.iload_n 2, 1) := dck_get daX4_safe_t1 7 rfl
theorem dX4_safe_52 : decode cX4_safe 52 = .ok (.ireturn, 1) := dck_get daX4_safe_t1 8 rfl
set_option maxRecDepth 20000 in
theorem ggX4_carried_X3_areAlive : GoodIn wsX4_carried wsX3_areAlive := goodIn_sub (List.forall_mem_cons.mpr ⟨(List.mem_of_getElem? (i := 6) rfl), (List.forall_mem_append.mpr ⟨(List.forall_mem_cons.mpr ⟨(List.mem_of_getElem? (i := 7) rfl), (List.forall_mem_cons.mpr ⟨(List.mem_of_getElem? (i := 8) rfl), (List.forall_mem_cons.mpr ⟨(List.mem_of_getElem? (i := 9) rfl), (List.forall_mem_cons.mpr ⟨(List.mem_of_getElem? (i := 5) rfl), (List.forall_mem_cons.mpr ⟨(List.mem_of_getElem? (i := 10) rfl), (List.forall_mem_cons.mpr ⟨(List.mem_of_getElem? (i := 11) rfl), (List.forall_mem_cons.mpr ⟨(List.mem_of_getElem? (i := 12) rfl), (List.forall_mem_cons.mpr ⟨(List.mem_of_getElem? (i := 13) rfl), (List.forall_mem_cons.mpr ⟨(List.mem_of_getElem? (i := 14) rfl), (List.forall_mem_cons.mpr ⟨(List.mem_of_getElem? (i := 15) rfl), (List.forall_mem_cons.mpr ⟨(List.mem_of_getElem? (i := 16) rfl), (fun _ h => absurd h List.not_mem_nil)⟩)⟩)⟩)⟩)⟩)⟩)⟩)⟩)⟩)⟩)⟩), (fun _ h => (List.mem_cons_of_mem _ (List.mem_append_right _ h)))⟩)⟩) gw_wsX3_areAlive
set_option maxRecDepth 20000 in
theorem gX4_carried_X3_areAlive : GoodIn wsX4_carried (wsV RX4 105 RX3 yX3_areAlive wsX3_areAlive) := goodIn_app (goodIn_sub (List.forall_mem_cons.mpr ⟨(List.mem_of_getElem? (i := 2) rfl), (List.forall_mem_cons.mpr ⟨(List.mem_of_getElem? (i := 3) rfl), (List.forall_mem_cons.mpr ⟨(List.mem_of_getElem? (i := 4) rfl), (List.forall_mem_cons.mpr ⟨(List.mem_of_getElem? (i := 5) rfl), (fun _ h => absurd h List.not_mem_nil)⟩)⟩)⟩)⟩) (by decide +kernel)) ggX4_carried_X3_areAlive
set_option maxRecDepth 20000 in
theorem ggX4_carried_X4_refuse : GoodIn wsX4_carried wsX4_refuse := goodIn_sub (List.forall_mem_cons.mpr ⟨(List.mem_of_getElem? (i := 21) rfl), (List.forall_mem_append.mpr ⟨(List.forall_mem_cons.mpr ⟨(List.mem_of_getElem? (i := 22) rfl), (fun _ h => absurd h List.not_mem_nil)⟩), (fun _ h => (List.mem_cons_of_mem _ (List.mem_append_left _ (List.mem_append_right _ h))))⟩)⟩) gw_wsX4_refuse
set_option maxRecDepth 20000 in
theorem gX4_carried_X4_refuse : GoodIn wsX4_carried (wsV RX4 43 RX4 yX4_refuse wsX4_refuse) := goodIn_app (goodIn_sub (List.forall_mem_cons.mpr ⟨(List.mem_of_getElem? (i := 17) rfl), (List.forall_mem_cons.mpr ⟨(List.mem_of_getElem? (i := 18) rfl), (List.forall_mem_cons.mpr ⟨(List.mem_of_getElem? (i := 19) rfl), (List.forall_mem_cons.mpr ⟨(List.mem_of_getElem? (i := 20) rfl), (fun _ h => absurd h List.not_mem_nil)⟩)⟩)⟩)⟩) (by decide +kernel)) ggX4_carried_X4_refuse
set_option maxRecDepth 20000 in
theorem gw_wsX3_burden : wsX3_burden.all goodWord = true := by decide +kernel
set_option maxRecDepth 20000 in
theorem ggX4_carried_X3_burden : GoodIn wsX4_carried wsX3_burden := goodIn_sub (List.forall_mem_cons.mpr ⟨(List.mem_of_getElem? (i := 26) rfl), (List.forall_mem_append.mpr ⟨(List.forall_mem_append.mpr ⟨(List.forall_mem_cons.mpr ⟨(List.mem_of_getElem? (i := 27) rfl), (List.forall_mem_cons.mpr ⟨(List.mem_of_getElem? (i := 28) rfl), (List.forall_mem_cons.mpr ⟨(List.mem_of_getElem? (i := 29) rfl), (List.forall_mem_cons.mpr ⟨(List.mem_of_getElem? (i := 30) rfl), (List.forall_mem_cons.mpr ⟨(List.mem_of_getElem? (i := 5) rfl), (List.forall_mem_cons.mpr ⟨(List.mem_of_getElem? (i := 31) rfl), (List.forall_mem_cons.mpr ⟨(List.mem_of_getElem? (i := 16) rfl), (List.forall_mem_cons.mpr ⟨(List.mem_of_getElem? (i := 32) rfl), (List.forall_mem_cons.mpr ⟨(List.mem_of_getElem? (i := 33) rfl), (List.forall_mem_cons.mpr ⟨(List.mem_of_getElem? (i := 34) rfl), (List.forall_mem_cons.mpr ⟨(List.mem_of_getElem? (i := 11) rfl), (List.forall_mem_cons.mpr ⟨(List.mem_of_getElem? (i := 12) rfl), (List.forall_mem_cons.mpr ⟨(List.mem_of_getElem? (i := 13) rfl), (List.forall_mem_cons.mpr ⟨(List.mem_of_getElem? (i := 14) rfl), (List.forall_mem_cons.mpr ⟨(List.mem_of_getElem? (i := 15) rfl), (List.forall_mem_cons.mpr ⟨(List.mem_of_getElem? (i := 35) rfl), (List.forall_mem_cons.mpr ⟨(List.mem_of_getElem? (i := 36) rfl), (List.forall_mem_cons.mpr ⟨(List.mem_of_getElem? (i := 37) rfl), (List.forall_mem_cons.mpr ⟨(List.mem_of_getElem? (i := 38) rfl), (List.forall_mem_cons.mpr ⟨(List.mem_of_getElem? (i := 39) rfl), (List.forall_mem_cons.mpr ⟨(List.mem_of_getElem? (i := 40) rfl), (List.forall_mem_cons.mpr ⟨(List.mem_of_getElem? (i := 41) rfl), (List.forall_mem_cons.mpr ⟨(List.mem_of_getElem? (i := 42) rfl), (List.forall_mem_cons.mpr ⟨(List.mem_of_getElem? (i := 43) rfl), (fun _ h => absurd h List.not_mem_nil)⟩)⟩)⟩)⟩)⟩)⟩)⟩)⟩)⟩)⟩)⟩)⟩)⟩)⟩)⟩)⟩)⟩)⟩)⟩)⟩)⟩)⟩)⟩)⟩), (List.forall_mem_cons.mpr ⟨(List.mem_of_getElem? (i := 44) rfl), (List.forall_mem_cons.mpr ⟨(List.mem_of_getElem? (i := 45) rfl), (List.forall_mem_cons.mpr ⟨(List.mem_of_getElem? (i := 46) rfl), (List.forall_mem_cons.mpr ⟨(List.mem_of_getElem? (i := 47) rfl), (List.forall_mem_cons.mpr ⟨(List.mem_of_getElem? (i := 48) rfl), (List.forall_mem_cons.mpr ⟨(List.mem_of_getElem? (i := 49) rfl), (List.forall_mem_cons.mpr ⟨(List.mem_of_getElem? (i := 50) rfl), (fun _ h => absurd h List.not_mem_nil)⟩)⟩)⟩)⟩)⟩)⟩)⟩)⟩), (fun _ h => (List.mem_cons_of_mem _ (List.mem_append_right _ h)))⟩)⟩) gw_wsX3_burden
set_option maxRecDepth 20000 in
theorem gX4_carried_X3_burden : GoodIn wsX4_carried (wsV RX4 151 RX3 yX3_burden wsX3_burden) := goodIn_app (goodIn_sub (List.forall_mem_cons.mpr ⟨(List.mem_of_getElem? (i := 23) rfl), (List.forall_mem_cons.mpr ⟨(List.mem_of_getElem? (i := 24) rfl), (List.forall_mem_cons.mpr ⟨(List.mem_of_getElem? (i := 25) rfl), (List.forall_mem_cons.mpr ⟨(List.mem_of_getElem? (i := 5) rfl), (fun _ h => absurd h List.not_mem_nil)⟩)⟩)⟩)⟩) (by decide +kernel)) ggX4_carried_X3_burden
def dtX4_carried_t0 : List (Nat × Instr × Nat) := [(0, .aload_n 0, 1), (1, .getfield 10, 3), (4, .iload_n 1, 1), (5, .invokevirtual 105, 3), (8, .ifCond .ne 9, 3), (11, .aload_n 0, 1), (12, .iconst (-1), 1), (13, .invokevirtual 43, 3), (16, .ireturn, 1), (17, .aload_n 0, 1), (18, .getfield 10, 3), (21, .iload_n 1, 1), (22, .invokevirtual 151, 3), (25, .ireturn, 1)]
theorem daX4_carried_t0 : dtX4_carried_t0.all (dck cX4_carried) = true := by decide +kernel
theorem dX4_carried_0 : decode cX4_carried 0 = .ok (.aload_n 0, 1) := dck_get daX4_carried_t0 0 rfl
theorem dX4_carried_1 : decode cX4_carried 1 = .ok (.getfield 10, 3) := dck_get daX4_carried_t0 1 rfl
theorem dX4_carried_4 : decode cX4_carried 4 = .ok (.iload_n 1, 1) := dck_get daX4_carried_t0 2 rfl
theorem dX4_carried_5 : decode cX4_carried 5 = .ok (.invokevirtual 105, 3) := dck_get daX4_carried_t0 3 rfl
theorem dX4_carried_8 : decode cX4_carried 8 = .ok (.ifCond .ne 9, 3) := dck_get daX4_carried_t0 4 rfl
