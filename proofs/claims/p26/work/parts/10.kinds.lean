abbrev rm_X0_ofLetter : Room := { frames := 0, cells := 0, slots := 0, locals := 0 }
set_option maxHeartbeats 4000000 in
set_option maxRecDepth 100000 in
theorem c_X0_ofLetter (l : Launch) (D : va_G) (cI cJ : ClassId) (fu : Nat) (x0 : Int32) (o : Int32) (hf : f_X0_ofLetter fu x0 = some o) : MI l yX0_ofLetter wsX0_ofLetter rm_X0_ofLetter D vwCl (tyS cI cJ) [.int x0] [] [] (o) := by
  intro sz
  refine s_entry (own := RX0) (cc := cX0_ofLetter) (maxL := 1) (ret := (some .int)) (Qc := fun A => sZi D vwCl (tyS cI cJ) A [] (o)) rfl (by decide) rfl rfl (Nat.le_of_ble_eq_true rfl) ?_
  intro p e s m args below meth c A C0 hA hP hD hS ls hl
  obtain ⟨hx, hb, hr, hml, hown, hts, hlocks, hK⟩ := id C0
  have hl : lv_has ls 1 [(0, .int x0)] := hl
  have hP : va_P D vwCl [] s.heap := hP
  have hD : va_D A [] := hD
  refine lv_iload_n hx hb dX0_ofLetter_0 rfl (lv_at hl 0 rfl) ?_
  by_cases c_1 : x0 = (99 : Int32)
  · have hf := itT c_1 hf
    refine lv_lookup (tgt := 66) (off := 65) hx hb dX0_ofLetter_1 (by decide) (by rw [c_1] <;> rfl) (by decide) ?_
    refine lv_iconst (v := (3 : Int32)) hx hb dX0_ofLetter_66 (by decide) ?_
    obtain rfl := Option.some.inj hf
    exact s_iret (r := (3 : Int32)) hx hb hr hlocks hK hP hD hS dX0_ofLetter_67
  have hf := itF c_1 hf
  by_cases c_2 : x0 = (100 : Int32)
  · have hf := itT c_2 hf
    refine lv_lookup (tgt := 68) (off := 67) hx hb dX0_ofLetter_1 (by decide) (by rw [c_2] <;> rfl) (by decide) ?_
    refine lv_iconst (v := (4 : Int32)) hx hb dX0_ofLetter_68 (by decide) ?_
    obtain rfl := Option.some.inj hf
    exact s_iret (r := (4 : Int32)) hx hb hr hlocks hK hP hD hS dX0_ofLetter_69
  have hf := itF c_2 hf
  by_cases c_3 : x0 = (105 : Int32)
  · have hf := itT c_3 hf
    refine lv_lookup (tgt := 64) (off := 63) hx hb dX0_ofLetter_1 (by decide) (by rw [c_3] <;> rfl) (by decide) ?_
    refine lv_iconst (v := (2 : Int32)) hx hb dX0_ofLetter_64 (by decide) ?_
    obtain rfl := Option.some.inj hf
    exact s_iret (r := (2 : Int32)) hx hb hr hlocks hK hP hD hS dX0_ofLetter_65
  have hf := itF c_3 hf
  by_cases c_4 : x0 = (108 : Int32)
  · have hf := itT c_4 hf
    refine lv_lookup (tgt := 60) (off := 59) hx hb dX0_ofLetter_1 (by decide) (by rw [c_4] <;> rfl) (by decide) ?_
    refine lv_iconst (v := (0 : Int32)) hx hb dX0_ofLetter_60 (by decide) ?_
    obtain rfl := Option.some.inj hf
    exact s_iret (r := (0 : Int32)) hx hb hr hlocks hK hP hD hS dX0_ofLetter_61
  have hf := itF c_4 hf
  by_cases c_5 : x0 = (115 : Int32)
  · have hf := itT c_5 hf
    refine lv_lookup (tgt := 62) (off := 61) hx hb dX0_ofLetter_1 (by decide) (by rw [c_5] <;> rfl) (by decide) ?_
    refine lv_iconst (v := (1 : Int32)) hx hb dX0_ofLetter_62 (by decide) ?_
    obtain rfl := Option.some.inj hf
    exact s_iret (r := (1 : Int32)) hx hb hr hlocks hK hP hD hS dX0_ofLetter_63
  have hf := itF c_5 hf
  by_cases c_6 : x0 = (121 : Int32)
  · have hf := itT c_6 hf
    refine lv_lookup (tgt := 70) (off := 69) hx hb dX0_ofLetter_1 (by decide) (by rw [c_6] <;> rfl) (by decide) ?_
    refine lv_iconst (v := (5 : Int32)) hx hb dX0_ofLetter_70 (by decide) ?_
    obtain rfl := Option.some.inj hf
    exact s_iret (r := (5 : Int32)) hx hb hr hlocks hK hP hD hS dX0_ofLetter_71
  have hf := itF c_6 hf
  refine lv_lookup (tgt := 72) (off := 71) hx hb dX0_ofLetter_1 (by decide) ((lv_osw c_1 (by decide)).trans ((lv_osw c_2 (by decide)).trans ((lv_osw c_3 (by decide)).trans ((lv_osw c_4 (by decide)).trans ((lv_osw c_5 (by decide)).trans ((lv_osw c_6 (by decide)).trans rfl)))))) (by decide) ?_
  refine lv_iconst (v := (-1 : Int32)) hx hb dX0_ofLetter_72 (by decide) ?_
  obtain rfl := Option.some.inj hf
  exact s_iret (r := (-1 : Int32)) hx hb hr hlocks hK hP hD hS dX0_ofLetter_73
theorem q_X0_entryFloor_1 : (Cond.methodLink RX0 11 Lib.Math.max.name : Cond) ∈ wsX0_entryFloor := List.mem_of_getElem? (i := 1) rfl
theorem q_X0_entryFloor_2 : (Cond.static Lib.Math.max.name : Cond) ∈ wsX0_entryFloor := List.mem_of_getElem? (i := 2) rfl
theorem q_X0_entryFloor_3 : (Cond.initialized "java/lang/Math" : Cond) ∈ wsX0_entryFloor := List.mem_of_getElem? (i := 3) rfl
theorem q_X0_entryFloor_4 : (Cond.code Lib.Math.max.name Lib.Math.max.code 2 (some .int) : Cond) ∈ wsX0_entryFloor := List.mem_of_getElem? (i := 4) rfl
abbrev rm_X0_entryFloor : Room := { frames := 1, cells := 0, slots := 0, locals := 21 }
set_option maxHeartbeats 4000000 in
set_option maxRecDepth 100000 in
theorem c_X0_entryFloor (l : Launch) (D : va_G) (cI cJ : ClassId) (fu : Nat) (x0 : Int32) (x1 : Int32) (o : Int32) (hf : f_X0_entryFloor fu x0 x1 = some o) : MI l yX0_entryFloor wsX0_entryFloor rm_X0_entryFloor D vwCl (tyS cI cJ) [.int x0, .int x1] [] [] (o) := by
  intro sz
  refine s_entry (own := RX0) (cc := cX0_entryFloor) (maxL := 3) (ret := (some .int)) (Qc := fun A => sZi D vwCl (tyS cI cJ) A [] (o)) rfl (by decide) rfl rfl (Nat.le_of_ble_eq_true rfl) ?_
  intro p e s m args below meth c A C0 hA hP hD hS ls hl
  obtain ⟨hx, hb, hr, hml, hown, hts, hlocks, hK⟩ := id C0
  have hl : lv_has ls 3 [(0, .int x0), (1, .int x1)] := hl
  have hP : va_P D vwCl [] s.heap := hP
  have hD : va_D A [] := hD
  refine lv_iload_n hx hb dX0_entryFloor_0 rfl (lv_at hl 1 rfl) ?_
  refine lv_bipush (v := (10 : Int32)) hx hb dX0_entryFloor_1 (by decide) ?_
  refine lv_idiv hx hb dX0_entryFloor_3 (by decide) ?_
  refine lv_istore_n (lv' := [(2, .int (x1 / (10 : Int32))), (0, .int x0), (1, .int x1)]) hx hb dX0_entryFloor_4 rfl hl (by decide) rfl (fun ls hl => ?_)
  refine lv_iload_n hx hb dX0_entryFloor_5 rfl (lv_at hl 1 rfl) ?_
  by_cases c_1 : x0 = (3 : Int32)
  · have hf := itT c_1 hf
    refine lv_lookup (tgt := 32) (off := 26) hx hb dX0_entryFloor_6 (by decide) (by rw [c_1] <;> rfl) (by decide) ?_
    refine lv_iconst (v := (0 : Int32)) hx hb dX0_entryFloor_32 (by decide) ?_
    obtain rfl := Option.some.inj hf
    exact s_iret (r := (0 : Int32)) hx hb hr hlocks hK hP hD hS dX0_entryFloor_33
  have hf := itF c_1 hf
  by_cases c_2 : x0 = (5 : Int32)
  · have hf := itT c_2 hf
    refine lv_lookup (tgt := 34) (off := 28) hx hb dX0_entryFloor_6 (by decide) (by rw [c_2] <;> rfl) (by decide) ?_
    refine lv_iconst (v := (0 : Int32)) hx hb dX0_entryFloor_34 (by decide) ?_
    refine lv_iload_n hx hb dX0_entryFloor_35 rfl (lv_at hl 0 rfl) ?_
    refine lv_iconst (v := (1 : Int32)) hx hb dX0_entryFloor_36 (by decide) ?_
    refine lv_isub hx hb dX0_entryFloor_37 ?_
    refine va_mmax hx hb (hml.trans hl.1.symm) hown (hts _ q_X0_entryFloor_1) (hts _ q_X0_entryFloor_2) (hts _ q_X0_entryFloor_3) (hts _ q_X0_entryFloor_4) (Nat.le_of_ble_eq_true rfl) (Nat.le_of_ble_eq_true rfl) (Nat.zero_le _) (Nat.zero_le _) dX0_entryFloor_38 ?_
    obtain rfl := Option.some.inj hf
    exact s_iret (r := (if (0 : Int32) < ((x1 / (10 : Int32)) - (1 : Int32)) then ((x1 / (10 : Int32)) - (1 : Int32)) else (0 : Int32))) hx hb hr hlocks hK hP hD hS dX0_entryFloor_41
  have hf := itF c_2 hf
  refine lv_lookup (tgt := 42) (off := 36) hx hb dX0_entryFloor_6 (by decide) ((lv_osw c_1 (by decide)).trans ((lv_osw c_2 (by decide)).trans rfl)) (by decide) ?_
  refine lv_iload_n hx hb dX0_entryFloor_42 rfl (lv_at hl 0 rfl) ?_
  obtain rfl := Option.some.inj hf
  exact s_iret (r := (x1 / (10 : Int32))) hx hb hr hlocks hK hP hD hS dX0_entryFloor_43
theorem q_J6_bitCount_0f7a4_1 : (Cond.constant RJ6 265 (1431655765) : Cond) ∈ wsJ6_bitCount_0f7a4 := List.mem_of_getElem? (i := 1) rfl
theorem q_J6_bitCount_0f7a4_2 : (Cond.constant RJ6 266 (858993459) : Cond) ∈ wsJ6_bitCount_0f7a4 := List.mem_of_getElem? (i := 2) rfl
theorem q_J6_bitCount_0f7a4_3 : (Cond.constant RJ6 267 (252645135) : Cond) ∈ wsJ6_bitCount_0f7a4 := List.mem_of_getElem? (i := 3) rfl
abbrev rm_J6_bitCount_0f7a4 : Room := { frames := 0, cells := 0, slots := 0, locals := 0 }
set_option maxHeartbeats 4000000 in
set_option maxRecDepth 100000 in
theorem c_J6_bitCount_0f7a4 (l : Launch) (D : va_G) (cI cJ : ClassId) (fu : Nat) (x0 : Int32) (o : Int32) (hf : f_J6_bitCount_0f7a4 fu x0 = some o) : MI l yJ6_bitCount_0f7a4 wsJ6_bitCount_0f7a4 rm_J6_bitCount_0f7a4 D vwCl (tyS cI cJ) [.int x0] [] [] (o) := by
  intro sz
  refine s_entry (own := RJ6) (cc := cJ6_bitCount_0f7a4) (maxL := 1) (ret := (some .int)) (Qc := fun A => sZi D vwCl (tyS cI cJ) A [] (o)) rfl (by decide) rfl rfl (Nat.le_of_ble_eq_true rfl) ?_
  intro p e s m args below meth c A C0 hA hP hD hS ls hl
  obtain ⟨hx, hb, hr, hml, hown, hts, hlocks, hK⟩ := id C0
  have hl : lv_has ls 1 [(0, .int x0)] := hl
  have hP : va_P D vwCl [] s.heap := hP
  have hD : va_D A [] := hD
  refine lv_iload_n hx hb dJ6_bitCount_0f7a4_0 rfl (lv_at hl 0 rfl) ?_
  refine lv_iload_n hx hb dJ6_bitCount_0f7a4_1 rfl (lv_at hl 0 rfl) ?_
  refine lv_iconst (v := (1 : Int32)) hx hb dJ6_bitCount_0f7a4_2 (by decide) ?_
  refine lv_iushr (v := (x0.toUInt32 >>> ((1 : Int32).toUInt32 &&& Int32.toUInt32 31)).toInt32) hx hb dJ6_bitCount_0f7a4_3 rfl ?_
  refine lv_ldcw (v := (1431655765 : Int32)) hx hb hown (hts _ q_J6_bitCount_0f7a4_1) dJ6_bitCount_0f7a4_4 ?_
  refine lv_iand hx hb dJ6_bitCount_0f7a4_7 ?_
  refine lv_isub hx hb dJ6_bitCount_0f7a4_8 ?_
  refine lv_topi (fun v_1 e_1 => ?_)
  have hf := lt_use e_1 hf
  refine lv_istore_n (lv' := [(0, .int v_1)]) hx hb dJ6_bitCount_0f7a4_9 rfl hl (by decide) rfl (fun ls hl => ?_)
  refine lv_iload_n hx hb dJ6_bitCount_0f7a4_10 rfl (lv_at hl 0 rfl) ?_
  refine lv_ldcw (v := (858993459 : Int32)) hx hb hown (hts _ q_J6_bitCount_0f7a4_2) dJ6_bitCount_0f7a4_11 ?_
  refine lv_iand hx hb dJ6_bitCount_0f7a4_14 ?_
  refine lv_iload_n hx hb dJ6_bitCount_0f7a4_15 rfl (lv_at hl 0 rfl) ?_
  refine lv_iconst (v := (2 : Int32)) hx hb dJ6_bitCount_0f7a4_16 (by decide) ?_
  refine lv_iushr (v := (v_1.toUInt32 >>> ((2 : Int32).toUInt32 &&& Int32.toUInt32 31)).toInt32) hx hb dJ6_bitCount_0f7a4_17 rfl ?_
  refine lv_ldcw (v := (858993459 : Int32)) hx hb hown (hts _ q_J6_bitCount_0f7a4_2) dJ6_bitCount_0f7a4_18 ?_
  refine lv_iand hx hb dJ6_bitCount_0f7a4_21 ?_
  refine lv_iadd hx hb dJ6_bitCount_0f7a4_22 ?_
  refine lv_topi (fun v_2 e_2 => ?_)
  have hf := lt_use e_2 hf
  refine lv_istore_n (lv' := [(0, .int v_2)]) hx hb dJ6_bitCount_0f7a4_23 rfl hl (by decide) rfl (fun ls hl => ?_)
  refine lv_iload_n hx hb dJ6_bitCount_0f7a4_24 rfl (lv_at hl 0 rfl) ?_
  refine lv_iload_n hx hb dJ6_bitCount_0f7a4_25 rfl (lv_at hl 0 rfl) ?_
  refine lv_iconst (v := (4 : Int32)) hx hb dJ6_bitCount_0f7a4_26 (by decide) ?_
  refine lv_iushr (v := (v_2.toUInt32 >>> ((4 : Int32).toUInt32 &&& Int32.toUInt32 31)).toInt32) hx hb dJ6_bitCount_0f7a4_27 rfl ?_
  refine lv_iadd hx hb dJ6_bitCount_0f7a4_28 ?_
  refine lv_ldcw (v := (252645135 : Int32)) hx hb hown (hts _ q_J6_bitCount_0f7a4_3) dJ6_bitCount_0f7a4_29 ?_
  refine lv_iand hx hb dJ6_bitCount_0f7a4_32 ?_
  refine lv_topi (fun v_3 e_3 => ?_)
  have hf := lt_use e_3 hf
  refine lv_istore_n (lv' := [(0, .int v_3)]) hx hb dJ6_bitCount_0f7a4_33 rfl hl (by decide) rfl (fun ls hl => ?_)
  refine lv_iload_n hx hb dJ6_bitCount_0f7a4_34 rfl (lv_at hl 0 rfl) ?_
  refine lv_iload_n hx hb dJ6_bitCount_0f7a4_35 rfl (lv_at hl 0 rfl) ?_
  refine lv_bipush (v := (8 : Int32)) hx hb dJ6_bitCount_0f7a4_36 (by decide) ?_
  refine lv_iushr (v := (v_3.toUInt32 >>> ((8 : Int32).toUInt32 &&& Int32.toUInt32 31)).toInt32) hx hb dJ6_bitCount_0f7a4_38 rfl ?_
  refine lv_iadd hx hb dJ6_bitCount_0f7a4_39 ?_
  refine lv_topi (fun v_4 e_4 => ?_)
  have hf := lt_use e_4 hf
  refine lv_istore_n (lv' := [(0, .int v_4)]) hx hb dJ6_bitCount_0f7a4_40 rfl hl (by decide) rfl (fun ls hl => ?_)
  refine lv_iload_n hx hb dJ6_bitCount_0f7a4_41 rfl (lv_at hl 0 rfl) ?_
  refine lv_iload_n hx hb dJ6_bitCount_0f7a4_42 rfl (lv_at hl 0 rfl) ?_
  refine lv_bipush (v := (16 : Int32)) hx hb dJ6_bitCount_0f7a4_43 (by decide) ?_
  refine lv_iushr (v := (v_4.toUInt32 >>> ((16 : Int32).toUInt32 &&& Int32.toUInt32 31)).toInt32) hx hb dJ6_bitCount_0f7a4_45 rfl ?_
  refine lv_iadd hx hb dJ6_bitCount_0f7a4_46 ?_
  refine lv_topi (fun v_5 e_5 => ?_)
  have hf := lt_use e_5 hf
  refine lv_istore_n (lv' := [(0, .int v_5)]) hx hb dJ6_bitCount_0f7a4_47 rfl hl (by decide) rfl (fun ls hl => ?_)
  refine lv_iload_n hx hb dJ6_bitCount_0f7a4_48 rfl (lv_at hl 0 rfl) ?_
  refine lv_bipush (v := (63 : Int32)) hx hb dJ6_bitCount_0f7a4_49 (by decide) ?_
  refine lv_iand hx hb dJ6_bitCount_0f7a4_51 ?_
  obtain rfl := Option.some.inj hf
  exact s_iret (r := (v_5 &&& (63 : Int32))) hx hb hr hlocks hK hP hD hS dJ6_bitCount_0f7a4_52
abbrev rm_X0_strongChance : Room := { frames := 0, cells := 0, slots := 0, locals := 0 }
set_option maxHeartbeats 4000000 in
set_option maxRecDepth 100000 in
theorem c_X0_strongChance (l : Launch) (D : va_G) (cI cJ : ClassId) (fu : Nat) (x0 : Int32) (o : Int32) (hf : f_X0_strongChance fu x0 = some o) : MI l yX0_strongChance wsX0_strongChance rm_X0_strongChance D vwCl (tyS cI cJ) [.int x0] [] [] (o) := by
  intro sz
  refine s_entry (own := RX0) (cc := cX0_strongChance) (maxL := 1) (ret := (some .int)) (Qc := fun A => sZi D vwCl (tyS cI cJ) A [] (o)) rfl (by decide) rfl rfl (Nat.le_of_ble_eq_true rfl) ?_
  intro p e s m args below meth c A C0 hA hP hD hS ls hl
  obtain ⟨hx, hb, hr, hml, hown, hts, hlocks, hK⟩ := id C0
  have hl : lv_has ls 1 [(0, .int x0)] := hl
  have hP : va_P D vwCl [] s.heap := hP
  have hD : va_D A [] := hD
  refine lv_iload_n hx hb dX0_strongChance_0 rfl (lv_at hl 0 rfl) ?_
  refine lv_iconst (v := (2 : Int32)) hx hb dX0_strongChance_1 (by decide) ?_
  refine lv_idiv hx hb dX0_strongChance_2 (by decide) ?_
  obtain rfl := Option.some.inj hf
  exact s_iret (r := (x0 / (2 : Int32))) hx hb hr hlocks hK hP hD hS dX0_strongChance_3
theorem q_X0_illChance_1 : (Cond.methodLink RX0 24 Lib.Math.min.name : Cond) ∈ wsX0_illChance := List.mem_of_getElem? (i := 1) rfl
theorem q_X0_illChance_2 : (Cond.static Lib.Math.min.name : Cond) ∈ wsX0_illChance := List.mem_of_getElem? (i := 2) rfl
theorem q_X0_illChance_3 : (Cond.initialized "java/lang/Math" : Cond) ∈ wsX0_illChance := List.mem_of_getElem? (i := 3) rfl
theorem q_X0_illChance_4 : (Cond.code Lib.Math.min.name Lib.Math.min.code 2 (some .int) : Cond) ∈ wsX0_illChance := List.mem_of_getElem? (i := 4) rfl
abbrev rm_X0_illChance : Room := { frames := 1, cells := 0, slots := 0, locals := 21 }
set_option maxHeartbeats 4000000 in
set_option maxRecDepth 100000 in
theorem c_X0_illChance (l : Launch) (D : va_G) (cI cJ : ClassId) (fu : Nat) (x0 : Int32) (o : Int32) (hf : f_X0_illChance fu x0 = some o) : MI l yX0_illChance wsX0_illChance rm_X0_illChance D vwCl (tyS cI cJ) [.int x0] [] [] (o) := by
  intro sz
  refine s_entry (own := RX0) (cc := cX0_illChance) (maxL := 1) (ret := (some .int)) (Qc := fun A => sZi D vwCl (tyS cI cJ) A [] (o)) rfl (by decide) rfl rfl (Nat.le_of_ble_eq_true rfl) ?_
  intro p e s m args below meth c A C0 hA hP hD hS ls hl
  obtain ⟨hx, hb, hr, hml, hown, hts, hlocks, hK⟩ := id C0
  have hl : lv_has ls 1 [(0, .int x0)] := hl
  have hP : va_P D vwCl [] s.heap := hP
  have hD : va_D A [] := hD
  refine lv_bipush (v := (10 : Int32)) hx hb dX0_illChance_0 (by decide) ?_
  refine lv_iload_n hx hb dX0_illChance_2 rfl (lv_at hl 0 rfl) ?_
  refine lv_iconst (v := (3 : Int32)) hx hb dX0_illChance_3 (by decide) ?_
  refine lv_iadd hx hb dX0_illChance_4 ?_
  refine va_mmin hx hb (hml.trans hl.1.symm) hown (hts _ q_X0_illChance_1) (hts _ q_X0_illChance_2) (hts _ q_X0_illChance_3) (hts _ q_X0_illChance_4) (Nat.le_of_ble_eq_true rfl) (Nat.le_of_ble_eq_true rfl) (Nat.zero_le _) (Nat.zero_le _) dX0_illChance_5 ?_
  obtain rfl := Option.some.inj hf
  exact s_iret (r := (if (x0 + (3 : Int32)) < (10 : Int32) then (x0 + (3 : Int32)) else (10 : Int32))) hx hb hr hlocks hK hP hD hS dX0_illChance_8
theorem q_X0_chance_1 : (Cond.methodLink RX0 11 Lib.Math.max.name : Cond) ∈ wsX0_chance := List.mem_of_getElem? (i := 1) rfl
theorem q_X0_chance_2 : (Cond.static Lib.Math.max.name : Cond) ∈ wsX0_chance := List.mem_of_getElem? (i := 2) rfl
theorem q_X0_chance_3 : (Cond.initialized "java/lang/Math" : Cond) ∈ wsX0_chance := List.mem_of_getElem? (i := 3) rfl
theorem q_X0_chance_4 : (Cond.code Lib.Math.max.name Lib.Math.max.code 2 (some .int) : Cond) ∈ wsX0_chance := List.mem_of_getElem? (i := 4) rfl
abbrev rm_X0_chance : Room := { frames := 2, cells := 0, slots := 0, locals := 41 }
set_option maxHeartbeats 4000000 in
set_option maxRecDepth 100000 in
theorem c_X0_chance (l : Launch) (D : va_G) (cI cJ : ClassId) (fu : Nat) (x0 : Int32) (x1 : Int32) (o : Int32) (hf : f_X0_chance fu x0 x1 = some o) : MI l yX0_chance wsX0_chance rm_X0_chance D vwCl (tyS cI cJ) [.int x0, .int x1] [] [] (o) := by
  intro sz
  refine s_entry (own := RX0) (cc := cX0_chance) (maxL := 3) (ret := (some .int)) (Qc := fun A => sZi D vwCl (tyS cI cJ) A [] (o)) rfl (by decide) rfl rfl (Nat.le_of_ble_eq_true rfl) ?_
  intro p e s m args below meth c A C0 hA hP hD hS ls hl
  obtain ⟨hx, hb, hr, hml, hown, hts, hlocks, hK⟩ := id C0
  have hl : lv_has ls 3 [(0, .int x0), (1, .int x1)] := hl
  have hP : va_P D vwCl [] s.heap := hP
  have hD : va_D A [] := hD
  refine lv_iload_n hx hb dX0_chance_0 rfl (lv_at hl 1 rfl) ?_
  refine lv_bipush (v := (10 : Int32)) hx hb dX0_chance_1 (by decide) ?_
  refine lv_idiv hx hb dX0_chance_3 (by decide) ?_
  refine lv_istore_n (lv' := [(2, .int (x1 / (10 : Int32))), (0, .int x0), (1, .int x1)]) hx hb dX0_chance_4 rfl hl (by decide) rfl (fun ls hl => ?_)
  refine lv_iload_n hx hb dX0_chance_5 rfl (lv_at hl 1 rfl) ?_
  by_cases c_1 : x0 = (1 : Int32)
  · have hf := itT c_1 hf
    refine lv_tableIn (tgt := 40) (off := 34) hx hb dX0_chance_6 (by rw [c_1] <;> decide) (by rw [c_1] <;> decide) (by rw [c_1] <;> rfl) (by decide) ?_
    refine lv_iload_n hx hb dX0_chance_40 rfl (lv_at hl 0 rfl) ?_
    obtain ⟨o_2, h_2, hf⟩ := bd_some hf
    refine s_callSI (wc := []) (wr := []) (wc' := []) (w' := []) (isC := []) (isR := []) (perm := []) (As := [.int (x1 / (10 : Int32))]) (rest := []) ⟨hx, hb, hml, hown, hts⟩ (c_X0_strongChance l D cI cJ fu (x1 / (10 : Int32)) o_2 h_2) (va_cwS 1 hts gX0_chance_X0_strongChance rfl rfl rfl (by decide +kernel) ⟨Nat.le_of_ble_eq_true rfl, Nat.le_of_ble_eq_true rfl⟩) hK hP hD hS hA ⟨rfl, rfl, by decide, by decide, by decide, by decide, rfl⟩ rfl hl.1 rfl (Nat.le_of_ble_eq_true rfl) dX0_chance_41 (fun H locs hP hD hS => ?_)
    obtain rfl := Option.some.inj hf
    exact s_iret (r := o_2) hx hb hr hlocks hK hP hD hS dX0_chance_44
  have hf := itF c_1 hf
  by_cases c_3 : x0 = (2 : Int32)
  · have hf := itT c_3 hf
    refine lv_tableIn (tgt := 45) (off := 39) hx hb dX0_chance_6 (by rw [c_3] <;> decide) (by rw [c_3] <;> decide) (by rw [c_3] <;> rfl) (by decide) ?_
    refine lv_iload_n hx hb dX0_chance_45 rfl (lv_at hl 0 rfl) ?_
    obtain ⟨o_4, h_4, hf⟩ := bd_some hf
    refine s_callSI (wc := []) (wr := []) (wc' := []) (w' := []) (isC := []) (isR := []) (perm := []) (As := [.int (x1 / (10 : Int32))]) (rest := []) ⟨hx, hb, hml, hown, hts⟩ (c_X0_illChance l D cI cJ fu (x1 / (10 : Int32)) o_4 h_4) (va_cwS 1 hts gX0_chance_X0_illChance rfl rfl rfl (by decide +kernel) ⟨Nat.le_of_ble_eq_true rfl, Nat.le_of_ble_eq_true rfl⟩) hK hP hD hS hA ⟨rfl, rfl, by decide, by decide, by decide, by decide, rfl⟩ rfl hl.1 rfl (Nat.le_of_ble_eq_true rfl) dX0_chance_46 (fun H locs hP hD hS => ?_)
    obtain rfl := Option.some.inj hf
    exact s_iret (r := o_4) hx hb hr hlocks hK hP hD hS dX0_chance_49
  have hf := itF c_3 hf
  by_cases c_5 : x0 = (3 : Int32)
  · have hf := itT c_5 hf
    refine lv_tableIn (tgt := 76) (off := 70) hx hb dX0_chance_6 (by rw [c_5] <;> decide) (by rw [c_5] <;> decide) (by rw [c_5] <;> rfl) (by decide) ?_
    refine lv_iload_n hx hb dX0_chance_76 rfl (lv_at hl 0 rfl) ?_
    obtain rfl := Option.some.inj hf
    exact s_iret (r := (x1 / (10 : Int32))) hx hb hr hlocks hK hP hD hS dX0_chance_77
  have hf := itF c_5 hf
  by_cases c_6 : x0 = (4 : Int32)
  · have hf := itT c_6 hf
    refine lv_tableIn (tgt := 50) (off := 44) hx hb dX0_chance_6 (by rw [c_6] <;> decide) (by rw [c_6] <;> decide) (by rw [c_6] <;> rfl) (by decide) ?_
    refine lv_iconst (v := (0 : Int32)) hx hb dX0_chance_50 (by decide) ?_
    refine lv_iload_n hx hb dX0_chance_51 rfl (lv_at hl 0 rfl) ?_
    obtain ⟨o_7, h_7, hf⟩ := bd_some hf
    refine s_callSI (wc := []) (wr := []) (wc' := []) (w' := []) (isC := []) (isR := []) (perm := []) (As := [.int (x1 / (10 : Int32))]) (rest := [.int (0 : Int32)]) ⟨hx, hb, hml, hown, hts⟩ (c_X0_illChance l D cI cJ fu (x1 / (10 : Int32)) o_7 h_7) (va_cwS 1 hts gX0_chance_X0_illChance rfl rfl rfl (by decide +kernel) ⟨Nat.le_of_ble_eq_true rfl, Nat.le_of_ble_eq_true rfl⟩) hK hP hD hS hA ⟨rfl, rfl, by decide, by decide, by decide, by decide, rfl⟩ rfl hl.1 rfl (Nat.le_of_ble_eq_true rfl) dX0_chance_52 (fun H locs hP hD hS => ?_)
    refine lv_iconst (v := (2 : Int32)) hx hb dX0_chance_55 (by decide) ?_
    refine lv_isub hx hb dX0_chance_56 ?_
    refine va_mmax hx hb (hml.trans hl.1.symm) hown (hts _ q_X0_chance_1) (hts _ q_X0_chance_2) (hts _ q_X0_chance_3) (hts _ q_X0_chance_4) (Nat.le_of_ble_eq_true rfl) (Nat.le_of_ble_eq_true rfl) (Nat.zero_le _) (Nat.zero_le _) dX0_chance_57 ?_
    obtain rfl := Option.some.inj hf
    exact s_iret (r := (if (0 : Int32) < (o_7 - (2 : Int32)) then (o_7 - (2 : Int32)) else (0 : Int32))) hx hb hr hlocks hK hP hD hS dX0_chance_60
  have hf := itF c_6 hf
  by_cases c_8 : x0 = (5 : Int32)
  · have hf := itT c_8 hf
    refine lv_tableIn (tgt := 61) (off := 55) hx hb dX0_chance_6 (by rw [c_8] <;> decide) (by rw [c_8] <;> decide) (by rw [c_8] <;> rfl) (by decide) ?_
    refine lv_iload_n hx hb dX0_chance_61 rfl (lv_at hl 2 rfl) ?_
    refine lv_bipush (v := (50 : Int32)) hx hb dX0_chance_62 (by decide) ?_
    refine lv_icmp_ge (tgt := 71) hx hb dX0_chance_64 (by decide) (fun c_9 => ?_) (fun c_9 => ?_)
    · have hf := itT c_9 hf
      refine lv_iload_n hx hb dX0_chance_71 rfl (lv_at hl 0 rfl) ?_
      obtain ⟨o_10, h_10, hf⟩ := bd_some hf
      refine s_callSI (wc := []) (wr := []) (wc' := []) (w' := []) (isC := []) (isR := []) (perm := []) (As := [.int (x1 / (10 : Int32))]) (rest := []) ⟨hx, hb, hml, hown, hts⟩ (c_X0_strongChance l D cI cJ fu (x1 / (10 : Int32)) o_10 h_10) (va_cwS 1 hts gX0_chance_X0_strongChance rfl rfl rfl (by decide +kernel) ⟨Nat.le_of_ble_eq_true rfl, Nat.le_of_ble_eq_true rfl⟩) hK hP hD hS hA ⟨rfl, rfl, by decide, by decide, by decide, by decide, rfl⟩ rfl hl.1 rfl (Nat.le_of_ble_eq_true rfl) dX0_chance_72 (fun H locs hP hD hS => ?_)
      obtain rfl := Option.some.inj hf
      exact s_iret (r := o_10) hx hb hr hlocks hK hP hD hS dX0_chance_75
    · have hf := itF c_9 hf
      refine lv_iconst (v := (0 : Int32)) hx hb dX0_chance_67 (by decide) ?_
      refine lv_goto (tgt := 75) hx hb dX0_chance_68 (by decide) ?_
      obtain rfl := Option.some.inj hf
      exact s_iret (r := (0 : Int32)) hx hb hr hlocks hK hP hD hS dX0_chance_75
  have hf := itF c_8 hf
  refine lv_tableOut (tgt := 76) hx hb dX0_chance_6 (by have n_1 := lv_neT c_1 (a := 1) (by decide); have n_3 := lv_neT c_3 (a := 2) (by decide); have n_5 := lv_neT c_5 (a := 3) (by decide); have n_6 := lv_neT c_6 (a := 4) (by decide); have n_8 := lv_neT c_8 (a := 5) (by decide); omega) (by decide) ?_
  refine lv_iload_n hx hb dX0_chance_76 rfl (lv_at hl 0 rfl) ?_
  obtain rfl := Option.some.inj hf
  exact s_iret (r := (x1 / (10 : Int32))) hx hb hr hlocks hK hP hD hS dX0_chance_77
theorem q_X0_climb_1 : (Cond.methodLink RX0 24 Lib.Math.min.name : Cond) ∈ wsX0_climb := List.mem_of_getElem? (i := 1) rfl
theorem q_X0_climb_2 : (Cond.static Lib.Math.min.name : Cond) ∈ wsX0_climb := List.mem_of_getElem? (i := 2) rfl
theorem q_X0_climb_3 : (Cond.initialized "java/lang/Math" : Cond) ∈ wsX0_climb := List.mem_of_getElem? (i := 3) rfl
theorem q_X0_climb_4 : (Cond.code Lib.Math.min.name Lib.Math.min.code 2 (some .int) : Cond) ∈ wsX0_climb := List.mem_of_getElem? (i := 4) rfl
abbrev rm_X0_climb : Room := { frames := 1, cells := 0, slots := 0, locals := 21 }
set_option maxHeartbeats 4000000 in
set_option maxRecDepth 100000 in
theorem t_X0_climb_18 {p : Program} {l : Launch} {e : Env} {s : State} {m : MethodId} {args : Array Value} {below : List Frame} {meth : Method} {c : Code} {D : va_G} {cI cJ : ClassId} {A : Nat → Prop} {fu : Nat} {o : Int32} (C0 : Cx RX0 wsX0_climb cX0_climb 3 (some .int) D vwCl (tyS cI cJ) p s m args meth c) (hA : ∀ q : Nat, s.heap.size ≤ q → A q) : ∀ (x2 : Int32), f_X0_climb_18 fu   x2 = some o → ∀ (H : Heap) (locs : List Loc), va_P D vwCl [] H → va_D A [] → va_S A s.heap H locs → ∀ (ls : Array Slot), lv_has ls 3 [(2, .int x2)] → W p l e rm_X0_climb s m args below meth c H locs 0 0 (MQ below (sZi D vwCl (tyS cI cJ) A [] (o)) args s 0 0 A) (F0 m 18 ls []) := by
  obtain ⟨hx, hb, hr, hml, hown, hts, hlocks, hK⟩ := id C0
  intro x2 hf H locs hP hD hS ls hl
  have hP : va_P D vwCl [] H := hP
  have hD : va_D A [] := hD
  refine lv_bipush (v := (9 : Int32)) hx hb dX0_climb_18 (by decide) ?_
  refine lv_iload_n hx hb dX0_climb_20 rfl (lv_at hl 0 rfl) ?_
  refine lv_iconst (v := (2 : Int32)) hx hb dX0_climb_21 (by decide) ?_
  refine lv_iadd hx hb dX0_climb_22 ?_
  refine va_mmin hx hb (hml.trans hl.1.symm) hown (hts _ q_X0_climb_1) (hts _ q_X0_climb_2) (hts _ q_X0_climb_3) (hts _ q_X0_climb_4) (Nat.le_of_ble_eq_true rfl) (Nat.le_of_ble_eq_true rfl) (Nat.zero_le _) (Nat.zero_le _) dX0_climb_23 ?_
  refine lv_goto (tgt := 30) hx hb dX0_climb_26 (by decide) ?_
  obtain rfl := Option.some.inj hf
  exact s_iret (r := (if (x2 + (2 : Int32)) < (9 : Int32) then (x2 + (2 : Int32)) else (9 : Int32))) hx hb hr hlocks hK hP hD hS dX0_climb_30
set_option maxHeartbeats 4000000 in
set_option maxRecDepth 100000 in
theorem c_X0_climb (l : Launch) (D : va_G) (cI cJ : ClassId) (fu : Nat) (x0 : Int32) (x1 : Int32) (o : Int32) (hf : f_X0_climb fu x0 x1 = some o) : MI l yX0_climb wsX0_climb rm_X0_climb D vwCl (tyS cI cJ) [.int x0, .int x1] [] [] (o) := by
  intro sz
  refine s_entry (own := RX0) (cc := cX0_climb) (maxL := 3) (ret := (some .int)) (Qc := fun A => sZi D vwCl (tyS cI cJ) A [] (o)) rfl (by decide) rfl rfl (Nat.le_of_ble_eq_true rfl) ?_
  intro p e s m args below meth c A C0 hA hP hD hS ls hl
  obtain ⟨hx, hb, hr, hml, hown, hts, hlocks, hK⟩ := id C0
  have hl : lv_has ls 3 [(0, .int x0), (1, .int x1)] := hl
  have hP : va_P D vwCl [] s.heap := hP
  have hD : va_D A [] := hD
  refine lv_bipush (v := (9 : Int32)) hx hb dX0_climb_0 (by decide) ?_
  refine lv_iload_n hx hb dX0_climb_2 rfl (lv_at hl 1 rfl) ?_
  refine lv_bipush (v := (12 : Int32)) hx hb dX0_climb_3 (by decide) ?_
  refine lv_idiv hx hb dX0_climb_5 (by decide) ?_
  refine lv_isub hx hb dX0_climb_6 ?_
  refine lv_istore_n (lv' := [(2, .int ((9 : Int32) - (x1 / (12 : Int32)))), (0, .int x0), (1, .int x1)]) hx hb dX0_climb_7 rfl hl (by decide) rfl (fun ls hl => ?_)
  refine lv_iload_n hx hb dX0_climb_8 rfl (lv_at hl 1 rfl) ?_
  refine lv_iconst (v := (1 : Int32)) hx hb dX0_climb_9 (by decide) ?_
  refine lv_icmp_eq (tgt := 18) hx hb dX0_climb_10 (by decide) (fun c_1 => ?_) (fun c_1 => ?_)
  · have hf := itT c_1 hf
    exact t_X0_climb_18 (fu := fu) C0 hA  _ hf _ _ hP hD hS _ (lv_sub hl [0] rfl)
  · have hf := itF c_1 hf
    refine lv_iload_n hx hb dX0_climb_13 rfl (lv_at hl 1 rfl) ?_
    refine lv_iconst (v := (5 : Int32)) hx hb dX0_climb_14 (by decide) ?_
    refine lv_icmp_ne (tgt := 29) hx hb dX0_climb_15 (by decide) (fun c_2 => ?_) (fun c_2 => ?_)
    · have hf := itF c_2 hf
      refine lv_iload_n hx hb dX0_climb_29 rfl (lv_at hl 0 rfl) ?_
      obtain rfl := Option.some.inj hf
      exact s_iret (r := ((9 : Int32) - (x1 / (12 : Int32)))) hx hb hr hlocks hK hP hD hS dX0_climb_30
    · have hf := itT c_2 hf
      exact t_X0_climb_18 (fu := fu) C0 hA  _ hf _ _ hP hD hS _ (lv_sub hl [0] rfl)
