theorem q_X2_isFull_1 : (Cond.fieldLink RX2 15 "UpWhenDies$Telling" "size" "I" : Cond) ∈ wsX2_isFull := List.mem_of_getElem? (i := 1) rfl
theorem i_X2_isFull_X2 : ∀ w ∈ wsX20, w ∈ wsX2_isFull := fun _ h => (List.mem_cons_of_mem _ (List.mem_append_right _ h))
abbrev rm_X2_isFull : Room := { frames := 0, cells := 0, slots := 0, locals := 0 }
set_option maxHeartbeats 4000000 in
set_option maxRecDepth 100000 in
theorem c_X2_isFull (l : Launch) (D : va_G) (cI cJ : ClassId) (fu : Nat) (zl ql0 : Nat) (SL : S32) (o : Int32) (hf : f_X2_isFull fu SL = some o) : MI l yX2_isFull wsX2_isFull rm_X2_isFull D vwCl (tyS cI cJ) [.ref zl] (wL zl ql0 cI SL) (wL zl ql0 cI SL) (o) := by
  intro sz
  refine s_entry (own := RX2) (cc := cX2_isFull) (maxL := 1) (ret := (some .boolean)) (Qc := fun A => sZi D vwCl (tyS cI cJ) A (wL zl ql0 cI SL) (o)) rfl (by decide) rfl rfl (Nat.le_of_ble_eq_true rfl) ?_
  intro p e s m args below meth c A C0 hA hP hD hS ls hl
  obtain ⟨hx, hb, hr, hml, hown, hts, hlocks, hK⟩ := id C0
  have hl : lv_has ls 1 [(0, .ref zl)] := hl
  have hP : va_P D vwCl [(zl, .inr (1, [.ref ql0, .int (SL 1 0)])), (ql0, .inl (cI, 80, .inl (SL 0)))] s.heap := hP
  have hD : va_D A [(zl, .inr (1, [.ref ql0, .int (SL 1 0)])), (ql0, .inl (cI, 80, .inl (SL 0)))] := hD
  refine lv_aload_n hx hb dX2_isFull_0 rfl (lv_at hl 0 rfl) ?_
  refine va_get (D := D) (ci := 1) (v := .int (SL 1 0)) (C := RX2) (T := TX2) (N := 2) hx hb hts i_X2_isFull_X2 hown hK hP 0 rfl rfl 1 (by decide) (hts _ q_X2_isFull_1) (fun _ h9 => h9) rfl dX2_isFull_1 ?_
  refine lv_bipush (v := (80 : Int32)) hx hb dX2_isFull_4 (by decide) ?_
  refine lv_icmp_lt (tgt := 13) hx hb dX2_isFull_6 (by decide) (fun c_1 => ?_) (fun c_1 => ?_)
  · have hf := itT c_1 hf
    refine lv_iconst (v := (0 : Int32)) hx hb dX2_isFull_13 (by decide) ?_
    obtain rfl := Option.some.inj hf
    exact s_zret (r := (0 : Int32)) hx hb hr hlocks hK hP hD hS rfl dX2_isFull_14
  · have hf := itF c_1 hf
    refine lv_iconst (v := (1 : Int32)) hx hb dX2_isFull_9 (by decide) ?_
    refine lv_goto (tgt := 14) hx hb dX2_isFull_10 (by decide) ?_
    obtain rfl := Option.some.inj hf
    exact s_zret (r := (1 : Int32)) hx hb hr hlocks hK hP hD hS rfl dX2_isFull_14
theorem q_X2_add_1 : (Cond.fieldLink RX2 15 "UpWhenDies$Telling" "size" "I" : Cond) ∈ wsX2_add := List.mem_of_getElem? (i := 1) rfl
theorem q_X2_add_2 : (Cond.fieldLink RX2 9 "UpWhenDies$Telling" "letters" "[I" : Cond) ∈ wsX2_add := List.mem_of_getElem? (i := 2) rfl
theorem i_X2_add_X2 : ∀ w ∈ wsX20, w ∈ wsX2_add := fun _ h => (List.mem_cons_of_mem _ (List.mem_append_right _ h))
abbrev rm_X2_add : Room := { frames := 0, cells := 0, slots := 0, locals := 0 }
set_option maxHeartbeats 4000000 in
set_option maxRecDepth 100000 in
theorem t_X2_add_36 {p : Program} {l : Launch} {e : Env} {s : State} {m : MethodId} {args : Array Value} {below : List Frame} {meth : Method} {c : Code} {D : va_G} {cI cJ : ClassId} {A : Nat → Prop} {fu : Nat} {zl ql0 : Nat} {o : Int32 × S32} (C0 : Cx RX2 wsX2_add cX2_add 2 (some .int) D vwCl (tyS cI cJ) p s m args meth c) (hA : ∀ q : Nat, s.heap.size ≤ q → A q) : ∀ (SL : S32), f_X2_add_36 fu   SL = some o → ∀ (H : Heap) (locs : List Loc), va_P D vwCl (wL zl ql0 cI SL) H → va_D A (wL zl ql0 cI SL) → va_S A s.heap H locs → ∀ (ls : Array Slot), lv_has ls 2 [(0, .ref zl)] → W p l e rm_X2_add s m args below meth c H locs 0 0 (MQ below (sZi D vwCl (tyS cI cJ) A (wL zl ql0 cI (o.2)) (o.1)) args s 0 0 A) (F0 m 36 ls []) := by
  obtain ⟨hx, hb, hr, hml, hown, hts, hlocks, hK⟩ := id C0
  intro SL hf H locs hP hD hS ls hl
  have hP : va_P D vwCl [(zl, .inr (1, [.ref ql0, .int (SL 1 0)])), (ql0, .inl (cI, 80, .inl (SL 0)))] H := hP
  have hD : va_D A [(zl, .inr (1, [.ref ql0, .int (SL 1 0)])), (ql0, .inl (cI, 80, .inl (SL 0)))] := hD
  refine lv_aload_n hx hb dX2_add_36 rfl (lv_at hl 0 rfl) ?_
  refine va_get (D := D) (ci := 1) (v := .int (SL 1 0)) (C := RX2) (T := TX2) (N := 2) hx hb hts i_X2_add_X2 hown hK hP 0 rfl rfl 1 (by decide) (hts _ q_X2_add_1) (fun _ h9 => h9) rfl dX2_add_37 ?_
  obtain rfl := Option.some.inj hf
  exact s_iret (r := (SL 1 0)) hx hb hr hlocks hK hP hD hS dX2_add_40
set_option maxHeartbeats 4000000 in
set_option maxRecDepth 100000 in
theorem c_X2_add (l : Launch) (D : va_G) (cI cJ : ClassId) (fu : Nat) (zl ql0 : Nat) (SL : S32) (x1 : Int32) (o : Int32 × S32) (hf : f_X2_add fu SL x1 = some o) : MI l yX2_add wsX2_add rm_X2_add D vwCl (tyS cI cJ) [.ref zl, .int x1] (wL zl ql0 cI SL) (wL zl ql0 cI (o.2)) (o.1) := by
  intro sz
  refine s_entry (own := RX2) (cc := cX2_add) (maxL := 2) (ret := (some .int)) (Qc := fun A => sZi D vwCl (tyS cI cJ) A (wL zl ql0 cI (o.2)) (o.1)) rfl (by decide) rfl rfl (Nat.le_of_ble_eq_true rfl) ?_
  intro p e s m args below meth c A C0 hA hP hD hS ls hl
  obtain ⟨hx, hb, hr, hml, hown, hts, hlocks, hK⟩ := id C0
  have hl : lv_has ls 2 [(0, .ref zl), (1, .int x1)] := hl
  have hP : va_P D vwCl [(zl, .inr (1, [.ref ql0, .int (SL 1 0)])), (ql0, .inl (cI, 80, .inl (SL 0)))] s.heap := hP
  have hD : va_D A [(zl, .inr (1, [.ref ql0, .int (SL 1 0)])), (ql0, .inl (cI, 80, .inl (SL 0)))] := hD
  refine lv_aload_n hx hb dX2_add_0 rfl (lv_at hl 0 rfl) ?_
  refine va_get (D := D) (ci := 1) (v := .int (SL 1 0)) (C := RX2) (T := TX2) (N := 2) hx hb hts i_X2_add_X2 hown hK hP 0 rfl rfl 1 (by decide) (hts _ q_X2_add_1) (fun _ h9 => h9) rfl dX2_add_1 ?_
  refine lv_if_lt (tgt := 36) hx hb dX2_add_4 (by decide) (fun c_1 => ?_) (fun c_1 => ?_)
  · have hf := itT c_1 hf
    exact t_X2_add_36 (fu := fu) C0 hA  _ hf _ _ hP hD hS _ (lv_sub hl [0] rfl)
  · have hf := itF c_1 hf
    refine lv_aload_n hx hb dX2_add_7 rfl (lv_at hl 0 rfl) ?_
    refine va_get (D := D) (ci := 1) (v := .int (SL 1 0)) (C := RX2) (T := TX2) (N := 2) hx hb hts i_X2_add_X2 hown hK hP 0 rfl rfl 1 (by decide) (hts _ q_X2_add_1) (fun _ h9 => h9) rfl dX2_add_8 ?_
    refine lv_bipush (v := (80 : Int32)) hx hb dX2_add_11 (by decide) ?_
    refine lv_icmp_ge (tgt := 36) hx hb dX2_add_13 (by decide) (fun c_2 => ?_) (fun c_2 => ?_)
    · have hf := itT c_2 hf
      exact t_X2_add_36 (fu := fu) C0 hA  _ hf _ _ hP hD hS _ (lv_sub hl [0] rfl)
    · have hf := itF c_2 hf
      refine lv_aload_n hx hb dX2_add_16 rfl (lv_at hl 0 rfl) ?_
      refine va_get (D := D) (ci := 1) (v := .ref ql0) (C := RX2) (T := TX2) (N := 2) hx hb hts i_X2_add_X2 hown hK hP 0 rfl rfl 0 (by decide) (hts _ q_X2_add_2) (fun _ h9 => h9) rfl dX2_add_17 ?_
      refine lv_aload_n hx hb dX2_add_20 rfl (lv_at hl 0 rfl) ?_
      refine va_get (D := D) (ci := 1) (v := .int (SL 1 0)) (C := RX2) (T := TX2) (N := 2) hx hb hts i_X2_add_X2 hown hK hP 0 rfl rfl 1 (by decide) (hts _ q_X2_add_1) (fun _ h9 => h9) rfl dX2_add_21 ?_
      refine lv_iload_n hx hb dX2_add_24 rfl (lv_at hl 1 rfl) ?_
      obtain ⟨g_3, hf⟩ := gd_some hf
      refine va_iast hx hb hK hP hD hS 1 0 rfl rfl g_3 dX2_add_25 (fun H locs hP hD hS => ?_)
      have hP : va_P D vwCl [(zl, .inr (1, [.ref ql0, .int (SL 1 0)])), (ql0, .inl (cI, 80, .inl (upd (SL 0) (SL 1 0).toNatClampNeg x1)))] H := hP
      have hD : va_D A [(zl, .inr (1, [.ref ql0, .int (SL 1 0)])), (ql0, .inl (cI, 80, .inl (upd (SL 0) (SL 1 0).toNatClampNeg x1)))] := hD
      refine lv_aload_n hx hb dX2_add_26 rfl (lv_at hl 0 rfl) ?_
      refine lv_dup hx hb dX2_add_27 rfl ?_
      refine va_get (D := D) (ci := 1) (v := .int (SL 1 0)) (C := RX2) (T := TX2) (N := 2) hx hb hts i_X2_add_X2 hown hK hP 0 rfl rfl 1 (by decide) (hts _ q_X2_add_1) (fun _ h9 => h9) rfl dX2_add_28 ?_
      refine lv_iconst (v := (1 : Int32)) hx hb dX2_add_31 (by decide) ?_
      refine lv_iadd hx hb dX2_add_32 ?_
      refine va_put (D := D) (ci := 1) (v := .int ((SL 1 0) + (1 : Int32))) (ty := .int) (C := RX2) (T := TX2) (N := 2) hx hb hts i_X2_add_X2 tyX2 tyX2_ok nmX2 hown hK hP hD hS 0 rfl rfl 1 (by decide) (hts _ q_X2_add_1) (fun _ h9 => h9) rfl (by decide +kernel) rfl rfl (Nat.le_of_ble_eq_true rfl) dX2_add_33 (fun H locs hP hD hS => ?_)
      have hP : va_P D vwCl [(zl, .inr (1, [.ref ql0, .int ((SL 1 0) + (1 : Int32))])), (ql0, .inl (cI, 80, .inl (upd (SL 0) (SL 1 0).toNatClampNeg x1)))] H := hP
      have hD : va_D A [(zl, .inr (1, [.ref ql0, .int ((SL 1 0) + (1 : Int32))])), (ql0, .inl (cI, 80, .inl (upd (SL 0) (SL 1 0).toNatClampNeg x1)))] := hD
      exact t_X2_add_36 (fu := fu) C0 hA  _ hf _ _ hP hD hS _ (lv_sub hl [0] rfl)
theorem q_X2_letterAt_1 : (Cond.fieldLink RX2 15 "UpWhenDies$Telling" "size" "I" : Cond) ∈ wsX2_letterAt := List.mem_of_getElem? (i := 1) rfl
theorem q_X2_letterAt_2 : (Cond.fieldLink RX2 9 "UpWhenDies$Telling" "letters" "[I" : Cond) ∈ wsX2_letterAt := List.mem_of_getElem? (i := 2) rfl
theorem i_X2_letterAt_X2 : ∀ w ∈ wsX20, w ∈ wsX2_letterAt := fun _ h => (List.mem_cons_of_mem _ (List.mem_append_right _ h))
abbrev rm_X2_letterAt : Room := { frames := 0, cells := 0, slots := 0, locals := 0 }
set_option maxHeartbeats 4000000 in
set_option maxRecDepth 100000 in
theorem c_X2_letterAt (l : Launch) (D : va_G) (cI cJ : ClassId) (fu : Nat) (zl ql0 : Nat) (SL : S32) (x1 : Int32) (o : Int32) (hf : f_X2_letterAt fu SL x1 = some o) : MI l yX2_letterAt wsX2_letterAt rm_X2_letterAt D vwCl (tyS cI cJ) [.ref zl, .int x1] (wL zl ql0 cI SL) (wL zl ql0 cI SL) (o) := by
  intro sz
  refine s_entry (own := RX2) (cc := cX2_letterAt) (maxL := 2) (ret := (some .int)) (Qc := fun A => sZi D vwCl (tyS cI cJ) A (wL zl ql0 cI SL) (o)) rfl (by decide) rfl rfl (Nat.le_of_ble_eq_true rfl) ?_
  intro p e s m args below meth c A C0 hA hP hD hS ls hl
  obtain ⟨hx, hb, hr, hml, hown, hts, hlocks, hK⟩ := id C0
  have hl : lv_has ls 2 [(0, .ref zl), (1, .int x1)] := hl
  have hP : va_P D vwCl [(zl, .inr (1, [.ref ql0, .int (SL 1 0)])), (ql0, .inl (cI, 80, .inl (SL 0)))] s.heap := hP
  have hD : va_D A [(zl, .inr (1, [.ref ql0, .int (SL 1 0)])), (ql0, .inl (cI, 80, .inl (SL 0)))] := hD
  refine lv_iload_n hx hb dX2_letterAt_0 rfl (lv_at hl 1 rfl) ?_
  refine lv_if_lt (tgt := 27) hx hb dX2_letterAt_1 (by decide) (fun c_1 => ?_) (fun c_1 => ?_)
  · have hf := itT c_1 hf
    refine lv_iconst (v := (-1 : Int32)) hx hb dX2_letterAt_27 (by decide) ?_
    obtain rfl := Option.some.inj hf
    exact s_iret (r := (-1 : Int32)) hx hb hr hlocks hK hP hD hS dX2_letterAt_28
  · have hf := itF c_1 hf
    refine lv_iload_n hx hb dX2_letterAt_4 rfl (lv_at hl 1 rfl) ?_
    refine lv_aload_n hx hb dX2_letterAt_5 rfl (lv_at hl 0 rfl) ?_
    refine va_get (D := D) (ci := 1) (v := .int (SL 1 0)) (C := RX2) (T := TX2) (N := 2) hx hb hts i_X2_letterAt_X2 hown hK hP 0 rfl rfl 1 (by decide) (hts _ q_X2_letterAt_1) (fun _ h9 => h9) rfl dX2_letterAt_6 ?_
    refine lv_icmp_ge (tgt := 27) hx hb dX2_letterAt_9 (by decide) (fun c_2 => ?_) (fun c_2 => ?_)
    · have hf := itT c_2 hf
      refine lv_iconst (v := (-1 : Int32)) hx hb dX2_letterAt_27 (by decide) ?_
      obtain rfl := Option.some.inj hf
      exact s_iret (r := (-1 : Int32)) hx hb hr hlocks hK hP hD hS dX2_letterAt_28
    · have hf := itF c_2 hf
      refine lv_iload_n hx hb dX2_letterAt_12 rfl (lv_at hl 1 rfl) ?_
      refine lv_bipush (v := (80 : Int32)) hx hb dX2_letterAt_13 (by decide) ?_
      refine lv_icmp_ge (tgt := 27) hx hb dX2_letterAt_15 (by decide) (fun c_3 => ?_) (fun c_3 => ?_)
      · have hf := itT c_3 hf
        refine lv_iconst (v := (-1 : Int32)) hx hb dX2_letterAt_27 (by decide) ?_
        obtain rfl := Option.some.inj hf
        exact s_iret (r := (-1 : Int32)) hx hb hr hlocks hK hP hD hS dX2_letterAt_28
      · have hf := itF c_3 hf
        refine lv_aload_n hx hb dX2_letterAt_18 rfl (lv_at hl 0 rfl) ?_
        refine va_get (D := D) (ci := 1) (v := .ref ql0) (C := RX2) (T := TX2) (N := 2) hx hb hts i_X2_letterAt_X2 hown hK hP 0 rfl rfl 0 (by decide) (hts _ q_X2_letterAt_2) (fun _ h9 => h9) rfl dX2_letterAt_19 ?_
        refine lv_iload_n hx hb dX2_letterAt_22 rfl (lv_at hl 1 rfl) ?_
        obtain ⟨g_4, hf⟩ := gd_some hf
        refine va_iald hx hb hK hP 1 0 rfl rfl g_4 dX2_letterAt_23 ?_
        refine lv_goto (tgt := 28) hx hb dX2_letterAt_24 (by decide) ?_
        obtain rfl := Option.some.inj hf
        exact s_iret (r := (SL 0 x1.toNatClampNeg)) hx hb hr hlocks hK hP hD hS dX2_letterAt_28
abbrev rm_X2_behindStart : Room := { frames := 0, cells := 0, slots := 0, locals := 0 }
set_option maxHeartbeats 4000000 in
set_option maxRecDepth 100000 in
theorem c_X2_behindStart (l : Launch) (D : va_G) (cI cJ : ClassId) (fu : Nat) (x0 : Int32) (o : Int32) (hf : f_X2_behindStart fu x0 = some o) : MI l yX2_behindStart wsX2_behindStart rm_X2_behindStart D vwCl (tyS cI cJ) [.int x0] [] [] (o) := by
  intro sz
  refine s_entry (own := RX2) (cc := cX2_behindStart) (maxL := 1) (ret := (some .int)) (Qc := fun A => sZi D vwCl (tyS cI cJ) A [] (o)) rfl (by decide) rfl rfl (Nat.le_of_ble_eq_true rfl) ?_
  intro p e s m args below meth c A C0 hA hP hD hS ls hl
  obtain ⟨hx, hb, hr, hml, hown, hts, hlocks, hK⟩ := id C0
  have hl : lv_has ls 1 [(0, .int x0)] := hl
  have hP : va_P D vwCl [] s.heap := hP
  have hD : va_D A [] := hD
  refine lv_iload_n hx hb dX2_behindStart_0 rfl (lv_at hl 0 rfl) ?_
  by_cases c_1 : x0 = (108 : Int32)
  · have hf := itT c_1 hf
    refine lv_lookup (tgt := 36) (off := 35) hx hb dX2_behindStart_1 (by decide) (by rw [c_1] <;> rfl) (by decide) ?_
    refine lv_iconst (v := (1 : Int32)) hx hb dX2_behindStart_36 (by decide) ?_
    obtain rfl := Option.some.inj hf
    exact s_iret (r := (1 : Int32)) hx hb hr hlocks hK hP hD hS dX2_behindStart_37
  have hf := itF c_1 hf
  by_cases c_2 : x0 = (119 : Int32)
  · have hf := itT c_2 hf
    refine lv_lookup (tgt := 38) (off := 37) hx hb dX2_behindStart_1 (by decide) (by rw [c_2] <;> rfl) (by decide) ?_
    refine lv_bipush (v := (6 : Int32)) hx hb dX2_behindStart_38 (by decide) ?_
    obtain rfl := Option.some.inj hf
    exact s_iret (r := (6 : Int32)) hx hb hr hlocks hK hP hD hS dX2_behindStart_40
  have hf := itF c_2 hf
  by_cases c_3 : x0 = (121 : Int32)
  · have hf := itT c_3 hf
    refine lv_lookup (tgt := 41) (off := 40) hx hb dX2_behindStart_1 (by decide) (by rw [c_3] <;> rfl) (by decide) ?_
    refine lv_bipush (v := (9 : Int32)) hx hb dX2_behindStart_41 (by decide) ?_
    obtain rfl := Option.some.inj hf
    exact s_iret (r := (9 : Int32)) hx hb hr hlocks hK hP hD hS dX2_behindStart_43
  have hf := itF c_3 hf
  refine lv_lookup (tgt := 44) (off := 43) hx hb dX2_behindStart_1 (by decide) ((lv_osw c_1 (by decide)).trans ((lv_osw c_2 (by decide)).trans ((lv_osw c_3 (by decide)).trans rfl))) (by decide) ?_
  refine lv_iconst (v := (-1 : Int32)) hx hb dX2_behindStart_44 (by decide) ?_
  obtain rfl := Option.some.inj hf
  exact s_iret (r := (-1 : Int32)) hx hb hr hlocks hK hP hD hS dX2_behindStart_45
abbrev rm_X2_isDigit : Room := { frames := 0, cells := 0, slots := 0, locals := 0 }
set_option maxHeartbeats 4000000 in
set_option maxRecDepth 100000 in
theorem c_X2_isDigit (l : Launch) (D : va_G) (cI cJ : ClassId) (fu : Nat) (x0 : Int32) (o : Int32) (hf : f_X2_isDigit fu x0 = some o) : MI l yX2_isDigit wsX2_isDigit rm_X2_isDigit D vwCl (tyS cI cJ) [.int x0] [] [] (o) := by
  intro sz
  refine s_entry (own := RX2) (cc := cX2_isDigit) (maxL := 1) (ret := (some .boolean)) (Qc := fun A => sZi D vwCl (tyS cI cJ) A [] (o)) rfl (by decide) rfl rfl (Nat.le_of_ble_eq_true rfl) ?_
  intro p e s m args below meth c A C0 hA hP hD hS ls hl
  obtain ⟨hx, hb, hr, hml, hown, hts, hlocks, hK⟩ := id C0
  have hl : lv_has ls 1 [(0, .int x0)] := hl
  have hP : va_P D vwCl [] s.heap := hP
  have hD : va_D A [] := hD
  refine lv_iload_n hx hb dX2_isDigit_0 rfl (lv_at hl 0 rfl) ?_
  refine lv_bipush (v := (48 : Int32)) hx hb dX2_isDigit_1 (by decide) ?_
  refine lv_icmp_lt (tgt := 16) hx hb dX2_isDigit_3 (by decide) (fun c_1 => ?_) (fun c_1 => ?_)
  · have hf := itT c_1 hf
    refine lv_iconst (v := (0 : Int32)) hx hb dX2_isDigit_16 (by decide) ?_
    obtain rfl := Option.some.inj hf
    exact s_zret (r := (0 : Int32)) hx hb hr hlocks hK hP hD hS rfl dX2_isDigit_17
  · have hf := itF c_1 hf
    refine lv_iload_n hx hb dX2_isDigit_6 rfl (lv_at hl 0 rfl) ?_
    refine lv_bipush (v := (57 : Int32)) hx hb dX2_isDigit_7 (by decide) ?_
    refine lv_icmp_gt (tgt := 16) hx hb dX2_isDigit_9 (by decide) (fun c_2 => ?_) (fun c_2 => ?_)
    · have hf := itT c_2 hf
      refine lv_iconst (v := (0 : Int32)) hx hb dX2_isDigit_16 (by decide) ?_
      obtain rfl := Option.some.inj hf
      exact s_zret (r := (0 : Int32)) hx hb hr hlocks hK hP hD hS rfl dX2_isDigit_17
    · have hf := itF c_2 hf
      refine lv_iconst (v := (1 : Int32)) hx hb dX2_isDigit_12 (by decide) ?_
      refine lv_goto (tgt := 17) hx hb dX2_isDigit_13 (by decide) ?_
      obtain rfl := Option.some.inj hf
      exact s_zret (r := (1 : Int32)) hx hb hr hlocks hK hP hD hS rfl dX2_isDigit_17
abbrev rm_X2_behindAge : Room := { frames := 0, cells := 0, slots := 0, locals := 0 }
set_option maxHeartbeats 4000000 in
set_option maxRecDepth 100000 in
theorem c_X2_behindAge (l : Launch) (D : va_G) (cI cJ : ClassId) (fu : Nat) (x0 : Int32) (o : Int32) (hf : f_X2_behindAge fu x0 = some o) : MI l yX2_behindAge wsX2_behindAge rm_X2_behindAge D vwCl (tyS cI cJ) [.int x0] [] [] (o) := by
  intro sz
  refine s_entry (own := RX2) (cc := cX2_behindAge) (maxL := 1) (ret := (some .int)) (Qc := fun A => sZi D vwCl (tyS cI cJ) A [] (o)) rfl (by decide) rfl rfl (Nat.le_of_ble_eq_true rfl) ?_
  intro p e s m args below meth c A C0 hA hP hD hS ls hl
  obtain ⟨hx, hb, hr, hml, hown, hts, hlocks, hK⟩ := id C0
  have hl : lv_has ls 1 [(0, .int x0)] := hl
  have hP : va_P D vwCl [] s.heap := hP
  have hD : va_D A [] := hD
  refine lv_iload_n hx hb dX2_behindAge_0 rfl (lv_at hl 0 rfl) ?_
  refine lv_bipush (v := (44 : Int32)) hx hb dX2_behindAge_1 (by decide) ?_
  refine lv_icmp_ne (tgt := 10) hx hb dX2_behindAge_3 (by decide) (fun c_1 => ?_) (fun c_1 => ?_)
  · have hf := itF c_1 hf
    refine lv_iconst (v := (-1 : Int32)) hx hb dX2_behindAge_10 (by decide) ?_
    obtain rfl := Option.some.inj hf
    exact s_iret (r := (-1 : Int32)) hx hb hr hlocks hK hP hD hS dX2_behindAge_11
  · have hf := itT c_1 hf
    refine lv_iconst (v := (5 : Int32)) hx hb dX2_behindAge_6 (by decide) ?_
    refine lv_goto (tgt := 11) hx hb dX2_behindAge_7 (by decide) ?_
    obtain rfl := Option.some.inj hf
    exact s_iret (r := (5 : Int32)) hx hb hr hlocks hK hP hD hS dX2_behindAge_11
abbrev rm_X2_behindDead : Room := { frames := 1, cells := 0, slots := 0, locals := 20 }
set_option maxHeartbeats 4000000 in
set_option maxRecDepth 100000 in
theorem c_X2_behindDead (l : Launch) (D : va_G) (cI cJ : ClassId) (fu : Nat) (x0 : Int32) (x1 : Int32) (o : Int32) (hf : f_X2_behindDead fu x0 x1 = some o) : MI l yX2_behindDead wsX2_behindDead rm_X2_behindDead D vwCl (tyS cI cJ) [.int x0, .int x1] [] [] (o) := by
  intro sz
  refine s_entry (own := RX2) (cc := cX2_behindDead) (maxL := 2) (ret := (some .int)) (Qc := fun A => sZi D vwCl (tyS cI cJ) A [] (o)) rfl (by decide) rfl rfl (Nat.le_of_ble_eq_true rfl) ?_
  intro p e s m args below meth c A C0 hA hP hD hS ls hl
  obtain ⟨hx, hb, hr, hml, hown, hts, hlocks, hK⟩ := id C0
  have hl : lv_has ls 2 [(0, .int x0), (1, .int x1)] := hl
  have hP : va_P D vwCl [] s.heap := hP
  have hD : va_D A [] := hD
  refine lv_iload_n hx hb dX2_behindDead_0 rfl (lv_at hl 1 rfl) ?_
  refine lv_bipush (v := (59 : Int32)) hx hb dX2_behindDead_1 (by decide) ?_
  refine lv_icmp_ne (tgt := 8) hx hb dX2_behindDead_3 (by decide) (fun c_1 => ?_) (fun c_1 => ?_)
  · have hf := itF c_1 hf
    refine lv_iload_n hx hb dX2_behindDead_8 rfl (lv_at hl 1 rfl) ?_
    obtain ⟨o_2, h_2, hf⟩ := bd_some hf
    refine s_callSI (wc := []) (wr := []) (wc' := []) (w' := []) (isC := []) (isR := []) (perm := []) (As := [.int x1]) (rest := []) ⟨hx, hb, hml, hown, hts⟩ (c_X2_isDigit l D cI cJ fu x1 o_2 h_2) (va_cwS 1 hts gX2_behindDead_X2_isDigit rfl rfl rfl (by decide +kernel) ⟨Nat.le_of_ble_eq_true rfl, Nat.le_of_ble_eq_true rfl⟩) hK hP hD hS hA ⟨rfl, rfl, by decide, by decide, by decide, by decide, rfl⟩ rfl hl.1 rfl (Nat.le_of_ble_eq_true rfl) dX2_behindDead_9 (fun H locs hP hD hS => ?_)
    refine lv_if_eq (tgt := 27) hx hb dX2_behindDead_12 (by decide) (fun c_3 => ?_) (fun c_3 => ?_)
    · have hf := itT c_3 hf
      refine lv_iconst (v := (-1 : Int32)) hx hb dX2_behindDead_27 (by decide) ?_
      obtain rfl := Option.some.inj hf
      exact s_iret (r := (-1 : Int32)) hx hb hr hlocks hK hP hD hS dX2_behindDead_28
    · have hf := itF c_3 hf
      refine lv_iload_n hx hb dX2_behindDead_15 rfl (lv_at hl 0 rfl) ?_
      refine lv_bipush (v := (17 : Int32)) hx hb dX2_behindDead_16 (by decide) ?_
      refine lv_icmp_ge (tgt := 27) hx hb dX2_behindDead_18 (by decide) (fun c_4 => ?_) (fun c_4 => ?_)
      · have hf := itT c_4 hf
        refine lv_iconst (v := (-1 : Int32)) hx hb dX2_behindDead_27 (by decide) ?_
        obtain rfl := Option.some.inj hf
        exact s_iret (r := (-1 : Int32)) hx hb hr hlocks hK hP hD hS dX2_behindDead_28
      · have hf := itF c_4 hf
        refine lv_iload_n hx hb dX2_behindDead_21 rfl (lv_at hl 0 rfl) ?_
        refine lv_iconst (v := (1 : Int32)) hx hb dX2_behindDead_22 (by decide) ?_
        refine lv_iadd hx hb dX2_behindDead_23 ?_
        refine lv_goto (tgt := 28) hx hb dX2_behindDead_24 (by decide) ?_
        obtain rfl := Option.some.inj hf
        exact s_iret (r := (x0 + (1 : Int32))) hx hb hr hlocks hK hP hD hS dX2_behindDead_28
  · have hf := itT c_1 hf
    refine lv_iconst (v := (0 : Int32)) hx hb dX2_behindDead_6 (by decide) ?_
    obtain rfl := Option.some.inj hf
    exact s_iret (r := (0 : Int32)) hx hb hr hlocks hK hP hD hS dX2_behindDead_7
abbrev rm_X2_behind : Room := { frames := 2, cells := 0, slots := 0, locals := 41 }
set_option maxHeartbeats 4000000 in
set_option maxRecDepth 100000 in
theorem c_X2_behind (l : Launch) (D : va_G) (cI cJ : ClassId) (fu : Nat) (x0 : Int32) (x1 : Int32) (o : Int32) (hf : f_X2_behind fu x0 x1 = some o) : MI l yX2_behind wsX2_behind rm_X2_behind D vwCl (tyS cI cJ) [.int x0, .int x1] [] [] (o) := by
  intro sz
  refine s_entry (own := RX2) (cc := cX2_behind) (maxL := 2) (ret := (some .int)) (Qc := fun A => sZi D vwCl (tyS cI cJ) A [] (o)) rfl (by decide) rfl rfl (Nat.le_of_ble_eq_true rfl) ?_
  intro p e s m args below meth c A C0 hA hP hD hS ls hl
  obtain ⟨hx, hb, hr, hml, hown, hts, hlocks, hK⟩ := id C0
  have hl : lv_has ls 2 [(0, .int x0), (1, .int x1)] := hl
  have hP : va_P D vwCl [] s.heap := hP
  have hD : va_D A [] := hD
  refine lv_iload_n hx hb dX2_behind_0 rfl (lv_at hl 0 rfl) ?_
  by_cases c_1 : x0 = (0 : Int32)
  · have hf := itT c_1 hf
    refine lv_tableIn (tgt := 52) (off := 51) hx hb dX2_behind_1 (by rw [c_1] <;> decide) (by rw [c_1] <;> decide) (by rw [c_1] <;> rfl) (by decide) ?_
    refine lv_iload_n hx hb dX2_behind_52 rfl (lv_at hl 1 rfl) ?_
    obtain ⟨o_2, h_2, hf⟩ := bd_some hf
    refine s_callSI (wc := []) (wr := []) (wc' := []) (w' := []) (isC := []) (isR := []) (perm := []) (As := [.int x1]) (rest := []) ⟨hx, hb, hml, hown, hts⟩ (c_X2_behindStart l D cI cJ fu x1 o_2 h_2) (va_cwS 1 hts gX2_behind_X2_behindStart rfl rfl rfl (by decide +kernel) ⟨Nat.le_of_ble_eq_true rfl, Nat.le_of_ble_eq_true rfl⟩) hK hP hD hS hA ⟨rfl, rfl, by decide, by decide, by decide, by decide, rfl⟩ rfl hl.1 rfl (Nat.le_of_ble_eq_true rfl) dX2_behind_53 (fun H locs hP hD hS => ?_)
    obtain rfl := Option.some.inj hf
    exact s_iret (r := o_2) hx hb hr hlocks hK hP hD hS dX2_behind_56
  have hf := itF c_1 hf
  by_cases c_3 : x0 = (1 : Int32)
  · have hf := itT c_3 hf
    refine lv_tableIn (tgt := 57) (off := 56) hx hb dX2_behind_1 (by rw [c_3] <;> decide) (by rw [c_3] <;> decide) (by rw [c_3] <;> rfl) (by decide) ?_
    refine lv_iload_n hx hb dX2_behind_57 rfl (lv_at hl 1 rfl) ?_
    obtain ⟨o_4, h_4, hf⟩ := bd_some hf
    refine s_callSI (wc := []) (wr := []) (wc' := []) (w' := []) (isC := []) (isR := []) (perm := []) (As := [.int x1]) (rest := []) ⟨hx, hb, hml, hown, hts⟩ (c_X0_ofLetter l D cI cJ fu x1 o_4 h_4) (va_cwS 1 hts gX2_behind_X0_ofLetter rfl rfl rfl (by decide +kernel) ⟨Nat.le_of_ble_eq_true rfl, Nat.le_of_ble_eq_true rfl⟩) hK hP hD hS hA ⟨rfl, rfl, by decide, by decide, by decide, by decide, rfl⟩ rfl hl.1 rfl (Nat.le_of_ble_eq_true rfl) dX2_behind_58 (fun H locs hP hD hS => ?_)
    refine lv_if_lt (tgt := 68) hx hb dX2_behind_61 (by decide) (fun c_5 => ?_) (fun c_5 => ?_)
    · have hf := itT c_5 hf
      refine lv_iconst (v := (-1 : Int32)) hx hb dX2_behind_68 (by decide) ?_
      obtain rfl := Option.some.inj hf
      exact s_iret (r := (-1 : Int32)) hx hb hr hlocks hK hP hD hS dX2_behind_69
    · have hf := itF c_5 hf
      refine lv_iconst (v := (2 : Int32)) hx hb dX2_behind_64 (by decide) ?_
      refine lv_goto (tgt := 69) hx hb dX2_behind_65 (by decide) ?_
      obtain rfl := Option.some.inj hf
      exact s_iret (r := (2 : Int32)) hx hb hr hlocks hK hP hD hS dX2_behind_69
  have hf := itF c_3 hf
  by_cases c_6 : x0 = (2 : Int32)
  · have hf := itT c_6 hf
    refine lv_tableIn (tgt := 70) (off := 69) hx hb dX2_behind_1 (by rw [c_6] <;> decide) (by rw [c_6] <;> decide) (by rw [c_6] <;> rfl) (by decide) ?_
    refine lv_iload_n hx hb dX2_behind_70 rfl (lv_at hl 1 rfl) ?_
    obtain ⟨o_7, h_7, hf⟩ := bd_some hf
    refine s_callSI (wc := []) (wr := []) (wc' := []) (w' := []) (isC := []) (isR := []) (perm := []) (As := [.int x1]) (rest := []) ⟨hx, hb, hml, hown, hts⟩ (c_X2_isDigit l D cI cJ fu x1 o_7 h_7) (va_cwS 1 hts gX2_behind_X2_isDigit rfl rfl rfl (by decide +kernel) ⟨Nat.le_of_ble_eq_true rfl, Nat.le_of_ble_eq_true rfl⟩) hK hP hD hS hA ⟨rfl, rfl, by decide, by decide, by decide, by decide, rfl⟩ rfl hl.1 rfl (Nat.le_of_ble_eq_true rfl) dX2_behind_71 (fun H locs hP hD hS => ?_)
    refine lv_if_eq (tgt := 81) hx hb dX2_behind_74 (by decide) (fun c_8 => ?_) (fun c_8 => ?_)
    · have hf := itT c_8 hf
      refine lv_iconst (v := (-1 : Int32)) hx hb dX2_behind_81 (by decide) ?_
      obtain rfl := Option.some.inj hf
      exact s_iret (r := (-1 : Int32)) hx hb hr hlocks hK hP hD hS dX2_behind_82
    · have hf := itF c_8 hf
      refine lv_iconst (v := (3 : Int32)) hx hb dX2_behind_77 (by decide) ?_
      refine lv_goto (tgt := 82) hx hb dX2_behind_78 (by decide) ?_
      obtain rfl := Option.some.inj hf
      exact s_iret (r := (3 : Int32)) hx hb hr hlocks hK hP hD hS dX2_behind_82
  have hf := itF c_6 hf
  by_cases c_9 : x0 = (3 : Int32)
  · have hf := itT c_9 hf
    refine lv_tableIn (tgt := 83) (off := 82) hx hb dX2_behind_1 (by rw [c_9] <;> decide) (by rw [c_9] <;> decide) (by rw [c_9] <;> rfl) (by decide) ?_
    refine lv_iload_n hx hb dX2_behind_83 rfl (lv_at hl 1 rfl) ?_
    obtain ⟨o_10, h_10, hf⟩ := bd_some hf
    refine s_callSI (wc := []) (wr := []) (wc' := []) (w' := []) (isC := []) (isR := []) (perm := []) (As := [.int x1]) (rest := []) ⟨hx, hb, hml, hown, hts⟩ (c_X2_isDigit l D cI cJ fu x1 o_10 h_10) (va_cwS 1 hts gX2_behind_X2_isDigit rfl rfl rfl (by decide +kernel) ⟨Nat.le_of_ble_eq_true rfl, Nat.le_of_ble_eq_true rfl⟩) hK hP hD hS hA ⟨rfl, rfl, by decide, by decide, by decide, by decide, rfl⟩ rfl hl.1 rfl (Nat.le_of_ble_eq_true rfl) dX2_behind_84 (fun H locs hP hD hS => ?_)
    refine lv_if_eq (tgt := 94) hx hb dX2_behind_87 (by decide) (fun c_11 => ?_) (fun c_11 => ?_)
    · have hf := itT c_11 hf
      refine lv_iload_n hx hb dX2_behind_94 rfl (lv_at hl 1 rfl) ?_
      obtain ⟨o_12, h_12, hf⟩ := bd_some hf
      refine s_callSI (wc := []) (wr := []) (wc' := []) (w' := []) (isC := []) (isR := []) (perm := []) (As := [.int x1]) (rest := []) ⟨hx, hb, hml, hown, hts⟩ (c_X2_behindAge l D cI cJ fu x1 o_12 h_12) (va_cwS 1 hts gX2_behind_X2_behindAge rfl rfl rfl (by decide +kernel) ⟨Nat.le_of_ble_eq_true rfl, Nat.le_of_ble_eq_true rfl⟩) hK hP hD hS hA ⟨rfl, rfl, by decide, by decide, by decide, by decide, rfl⟩ rfl hl.1 rfl (Nat.le_of_ble_eq_true rfl) dX2_behind_95 (fun H locs hP hD hS => ?_)
      obtain rfl := Option.some.inj hf
      exact s_iret (r := o_12) hx hb hr hlocks hK hP hD hS dX2_behind_98
    · have hf := itF c_11 hf
      refine lv_iconst (v := (4 : Int32)) hx hb dX2_behind_90 (by decide) ?_
      refine lv_goto (tgt := 98) hx hb dX2_behind_91 (by decide) ?_
      obtain rfl := Option.some.inj hf
      exact s_iret (r := (4 : Int32)) hx hb hr hlocks hK hP hD hS dX2_behind_98
  have hf := itF c_9 hf
  by_cases c_13 : x0 = (4 : Int32)
  · have hf := itT c_13 hf
    refine lv_tableIn (tgt := 99) (off := 98) hx hb dX2_behind_1 (by rw [c_13] <;> decide) (by rw [c_13] <;> decide) (by rw [c_13] <;> rfl) (by decide) ?_
    refine lv_iload_n hx hb dX2_behind_99 rfl (lv_at hl 1 rfl) ?_
    obtain ⟨o_14, h_14, hf⟩ := bd_some hf
    refine s_callSI (wc := []) (wr := []) (wc' := []) (w' := []) (isC := []) (isR := []) (perm := []) (As := [.int x1]) (rest := []) ⟨hx, hb, hml, hown, hts⟩ (c_X2_behindAge l D cI cJ fu x1 o_14 h_14) (va_cwS 1 hts gX2_behind_X2_behindAge rfl rfl rfl (by decide +kernel) ⟨Nat.le_of_ble_eq_true rfl, Nat.le_of_ble_eq_true rfl⟩) hK hP hD hS hA ⟨rfl, rfl, by decide, by decide, by decide, by decide, rfl⟩ rfl hl.1 rfl (Nat.le_of_ble_eq_true rfl) dX2_behind_100 (fun H locs hP hD hS => ?_)
    obtain rfl := Option.some.inj hf
    exact s_iret (r := o_14) hx hb hr hlocks hK hP hD hS dX2_behind_103
  have hf := itF c_13 hf
  by_cases c_15 : x0 = (5 : Int32)
  · have hf := itT c_15 hf
    refine lv_tableIn (tgt := 104) (off := 103) hx hb dX2_behind_1 (by rw [c_15] <;> decide) (by rw [c_15] <;> decide) (by rw [c_15] <;> rfl) (by decide) ?_
    refine lv_iload_n hx hb dX2_behind_104 rfl (lv_at hl 1 rfl) ?_
    obtain ⟨o_16, h_16, hf⟩ := bd_some hf
    refine s_callSI (wc := []) (wr := []) (wc' := []) (w' := []) (isC := []) (isR := []) (perm := []) (As := [.int x1]) (rest := []) ⟨hx, hb, hml, hown, hts⟩ (c_X2_isDigit l D cI cJ fu x1 o_16 h_16) (va_cwS 1 hts gX2_behind_X2_isDigit rfl rfl rfl (by decide +kernel) ⟨Nat.le_of_ble_eq_true rfl, Nat.le_of_ble_eq_true rfl⟩) hK hP hD hS hA ⟨rfl, rfl, by decide, by decide, by decide, by decide, rfl⟩ rfl hl.1 rfl (Nat.le_of_ble_eq_true rfl) dX2_behind_105 (fun H locs hP hD hS => ?_)
    refine lv_if_eq (tgt := 116) hx hb dX2_behind_108 (by decide) (fun c_17 => ?_) (fun c_17 => ?_)
    · have hf := itT c_17 hf
      refine lv_iconst (v := (-1 : Int32)) hx hb dX2_behind_116 (by decide) ?_
      obtain rfl := Option.some.inj hf
      exact s_iret (r := (-1 : Int32)) hx hb hr hlocks hK hP hD hS dX2_behind_117
    · have hf := itF c_17 hf
      refine lv_bipush (v := (8 : Int32)) hx hb dX2_behind_111 (by decide) ?_
      refine lv_goto (tgt := 117) hx hb dX2_behind_113 (by decide) ?_
      obtain rfl := Option.some.inj hf
      exact s_iret (r := (8 : Int32)) hx hb hr hlocks hK hP hD hS dX2_behind_117
  have hf := itF c_15 hf
  by_cases c_18 : x0 = (6 : Int32)
  · have hf := itT c_18 hf
    refine lv_tableIn (tgt := 118) (off := 117) hx hb dX2_behind_1 (by rw [c_18] <;> decide) (by rw [c_18] <;> decide) (by rw [c_18] <;> rfl) (by decide) ?_
    refine lv_iload_n hx hb dX2_behind_118 rfl (lv_at hl 1 rfl) ?_
    obtain ⟨o_19, h_19, hf⟩ := bd_some hf
    refine s_callSI (wc := []) (wr := []) (wc' := []) (w' := []) (isC := []) (isR := []) (perm := []) (As := [.int x1]) (rest := []) ⟨hx, hb, hml, hown, hts⟩ (c_X2_isDigit l D cI cJ fu x1 o_19 h_19) (va_cwS 1 hts gX2_behind_X2_isDigit rfl rfl rfl (by decide +kernel) ⟨Nat.le_of_ble_eq_true rfl, Nat.le_of_ble_eq_true rfl⟩) hK hP hD hS hA ⟨rfl, rfl, by decide, by decide, by decide, by decide, rfl⟩ rfl hl.1 rfl (Nat.le_of_ble_eq_true rfl) dX2_behind_119 (fun H locs hP hD hS => ?_)
    refine lv_if_eq (tgt := 130) hx hb dX2_behind_122 (by decide) (fun c_20 => ?_) (fun c_20 => ?_)
    · have hf := itT c_20 hf
      refine lv_iconst (v := (-1 : Int32)) hx hb dX2_behind_130 (by decide) ?_
      obtain rfl := Option.some.inj hf
      exact s_iret (r := (-1 : Int32)) hx hb hr hlocks hK hP hD hS dX2_behind_131
    · have hf := itF c_20 hf
      refine lv_bipush (v := (7 : Int32)) hx hb dX2_behind_125 (by decide) ?_
      refine lv_goto (tgt := 131) hx hb dX2_behind_127 (by decide) ?_
      obtain rfl := Option.some.inj hf
      exact s_iret (r := (7 : Int32)) hx hb hr hlocks hK hP hD hS dX2_behind_131
  have hf := itF c_18 hf
  by_cases c_21 : x0 = (7 : Int32)
  · have hf := itT c_21 hf
    refine lv_tableIn (tgt := 132) (off := 131) hx hb dX2_behind_1 (by rw [c_21] <;> decide) (by rw [c_21] <;> decide) (by rw [c_21] <;> rfl) (by decide) ?_
    refine lv_iload_n hx hb dX2_behind_132 rfl (lv_at hl 1 rfl) ?_
    obtain ⟨o_22, h_22, hf⟩ := bd_some hf
    refine s_callSI (wc := []) (wr := []) (wc' := []) (w' := []) (isC := []) (isR := []) (perm := []) (As := [.int x1]) (rest := []) ⟨hx, hb, hml, hown, hts⟩ (c_X2_isDigit l D cI cJ fu x1 o_22 h_22) (va_cwS 1 hts gX2_behind_X2_isDigit rfl rfl rfl (by decide +kernel) ⟨Nat.le_of_ble_eq_true rfl, Nat.le_of_ble_eq_true rfl⟩) hK hP hD hS hA ⟨rfl, rfl, by decide, by decide, by decide, by decide, rfl⟩ rfl hl.1 rfl (Nat.le_of_ble_eq_true rfl) dX2_behind_133 (fun H locs hP hD hS => ?_)
    refine lv_if_eq (tgt := 144) hx hb dX2_behind_136 (by decide) (fun c_23 => ?_) (fun c_23 => ?_)
    · have hf := itT c_23 hf
      refine lv_iconst (v := (-1 : Int32)) hx hb dX2_behind_144 (by decide) ?_
      obtain rfl := Option.some.inj hf
      exact s_iret (r := (-1 : Int32)) hx hb hr hlocks hK hP hD hS dX2_behind_145
    · have hf := itF c_23 hf
      refine lv_bipush (v := (8 : Int32)) hx hb dX2_behind_139 (by decide) ?_
      refine lv_goto (tgt := 145) hx hb dX2_behind_141 (by decide) ?_
      obtain rfl := Option.some.inj hf
      exact s_iret (r := (8 : Int32)) hx hb hr hlocks hK hP hD hS dX2_behind_145
  have hf := itF c_21 hf
  by_cases c_24 : x0 = (8 : Int32)
  · have hf := itT c_24 hf
    refine lv_tableIn (tgt := 146) (off := 145) hx hb dX2_behind_1 (by rw [c_24] <;> decide) (by rw [c_24] <;> decide) (by rw [c_24] <;> rfl) (by decide) ?_
    refine lv_iload_n hx hb dX2_behind_146 rfl (lv_at hl 1 rfl) ?_
    refine lv_bipush (v := (59 : Int32)) hx hb dX2_behind_147 (by decide) ?_
    refine lv_icmp_ne (tgt := 156) hx hb dX2_behind_149 (by decide) (fun c_25 => ?_) (fun c_25 => ?_)
    · have hf := itF c_25 hf
      refine lv_iconst (v := (-1 : Int32)) hx hb dX2_behind_156 (by decide) ?_
      obtain rfl := Option.some.inj hf
      exact s_iret (r := (-1 : Int32)) hx hb hr hlocks hK hP hD hS dX2_behind_157
    · have hf := itT c_25 hf
      refine lv_iconst (v := (0 : Int32)) hx hb dX2_behind_152 (by decide) ?_
      refine lv_goto (tgt := 157) hx hb dX2_behind_153 (by decide) ?_
      obtain rfl := Option.some.inj hf
      exact s_iret (r := (0 : Int32)) hx hb hr hlocks hK hP hD hS dX2_behind_157
  have hf := itF c_24 hf
  refine lv_tableOut (tgt := 158) hx hb dX2_behind_1 (by have n_1 := lv_neT c_1 (a := 0) (by decide); have n_3 := lv_neT c_3 (a := 1) (by decide); have n_6 := lv_neT c_6 (a := 2) (by decide); have n_9 := lv_neT c_9 (a := 3) (by decide); have n_13 := lv_neT c_13 (a := 4) (by decide); have n_15 := lv_neT c_15 (a := 5) (by decide); have n_18 := lv_neT c_18 (a := 6) (by decide); have n_21 := lv_neT c_21 (a := 7) (by decide); have n_24 := lv_neT c_24 (a := 8) (by decide); omega) (by decide) ?_
  refine lv_iload_n hx hb dX2_behind_158 rfl (lv_at hl 0 rfl) ?_
  refine lv_iload_n hx hb dX2_behind_159 rfl (lv_at hl 1 rfl) ?_
  obtain ⟨o_26, h_26, hf⟩ := bd_some hf
  refine s_callSI (wc := []) (wr := []) (wc' := []) (w' := []) (isC := []) (isR := []) (perm := []) (As := [.int x0, .int x1]) (rest := []) ⟨hx, hb, hml, hown, hts⟩ (c_X2_behindDead l D cI cJ fu x0 x1 o_26 h_26) (va_cwS 2 hts gX2_behind_X2_behindDead rfl rfl rfl (by decide +kernel) ⟨Nat.le_of_ble_eq_true rfl, Nat.le_of_ble_eq_true rfl⟩) hK hP hD hS hA ⟨rfl, rfl, by decide, by decide, by decide, by decide, rfl⟩ rfl hl.1 rfl (Nat.le_of_ble_eq_true rfl) dX2_behind_160 (fun H locs hP hD hS => ?_)
  obtain rfl := Option.some.inj hf
  exact s_iret (r := o_26) hx hb hr hlocks hK hP hD hS dX2_behind_163
theorem q_X2_firstMisfit_1 : (Cond.fieldLink RX2 15 "UpWhenDies$Telling" "size" "I" : Cond) ∈ wsX2_firstMisfit := List.mem_of_getElem? (i := 1) rfl
theorem i_X2_firstMisfit_X2 : ∀ w ∈ wsX20, w ∈ wsX2_firstMisfit := fun _ h => (List.mem_cons_of_mem _ (List.mem_append_right _ h))
abbrev rm_X2_firstMisfit : Room := { frames := 3, cells := 0, slots := 0, locals := 62 }
set_option maxHeartbeats 4000000 in
set_option maxRecDepth 100000 in
theorem t_X2_firstMisfit_50 {p : Program} {l : Launch} {e : Env} {s : State} {m : MethodId} {args : Array Value} {below : List Frame} {meth : Method} {c : Code} {D : va_G} {cI cJ : ClassId} {A : Nat → Prop} {fu : Nat} {zl ql0 : Nat} {SL : S32} {o : Int32} (C0 : Cx RX2 wsX2_firstMisfit cX2_firstMisfit 3 (some .int) D vwCl (tyS cI cJ) p s m args meth c) (hA : ∀ q : Nat, s.heap.size ≤ q → A q) : f_X2_firstMisfit_50 fu  SL = some o → ∀ (H : Heap) (locs : List Loc), va_P D vwCl (wL zl ql0 cI SL) H → va_D A (wL zl ql0 cI SL) → va_S A s.heap H locs → ∀ (ls : Array Slot), lv_has ls 3 [(0, .ref zl)] → W p l e rm_X2_firstMisfit s m args below meth c H locs 0 0 (MQ below (sZi D vwCl (tyS cI cJ) A (wL zl ql0 cI SL) (o)) args s 0 0 A) (F0 m 50 ls []) := by
  obtain ⟨hx, hb, hr, hml, hown, hts, hlocks, hK⟩ := id C0
  intro hf H locs hP hD hS ls hl
  have hP : va_P D vwCl [(zl, .inr (1, [.ref ql0, .int (SL 1 0)])), (ql0, .inl (cI, 80, .inl (SL 0)))] H := hP
  have hD : va_D A [(zl, .inr (1, [.ref ql0, .int (SL 1 0)])), (ql0, .inl (cI, 80, .inl (SL 0)))] := hD
  refine lv_aload_n hx hb dX2_firstMisfit_50 rfl (lv_at hl 0 rfl) ?_
  refine va_get (D := D) (ci := 1) (v := .int (SL 1 0)) (C := RX2) (T := TX2) (N := 2) hx hb hts i_X2_firstMisfit_X2 hown hK hP 0 rfl rfl 1 (by decide) (hts _ q_X2_firstMisfit_1) (fun _ h9 => h9) rfl dX2_firstMisfit_51 ?_
  obtain rfl := Option.some.inj hf
  exact s_iret (r := (SL 1 0)) hx hb hr hlocks hK hP hD hS dX2_firstMisfit_54
set_option maxHeartbeats 4000000 in
set_option maxRecDepth 100000 in
theorem t_X2_firstMisfit_35 {p : Program} {l : Launch} {e : Env} {s : State} {m : MethodId} {args : Array Value} {below : List Frame} {meth : Method} {c : Code} {D : va_G} {cI cJ : ClassId} {A : Nat → Prop} {fu : Nat} {zl ql0 : Nat} {SL : S32} {o : Int32} (C0 : Cx RX2 wsX2_firstMisfit cX2_firstMisfit 3 (some .int) D vwCl (tyS cI cJ) p s m args meth c) (hA : ∀ q : Nat, s.heap.size ≤ q → A q) : ∀ (x1 : Int32), f_X2_firstMisfit_35 fu  SL x1 = some o → ∀ (H : Heap) (locs : List Loc), va_P D vwCl (wL zl ql0 cI SL) H → va_D A (wL zl ql0 cI SL) → va_S A s.heap H locs → ∀ (ls : Array Slot), lv_has ls 3 [(0, .ref zl), (1, .int x1)] → W p l e rm_X2_firstMisfit s m args below meth c H locs 0 0 (MQ below (sZi D vwCl (tyS cI cJ) A (wL zl ql0 cI SL) (o)) args s 0 0 A) (F0 m 35 ls []) := by
  obtain ⟨hx, hb, hr, hml, hown, hts, hlocks, hK⟩ := id C0
  intro x1 hf H locs hP hD hS ls hl
  have hP : va_P D vwCl [(zl, .inr (1, [.ref ql0, .int (SL 1 0)])), (ql0, .inl (cI, 80, .inl (SL 0)))] H := hP
  have hD : va_D A [(zl, .inr (1, [.ref ql0, .int (SL 1 0)])), (ql0, .inl (cI, 80, .inl (SL 0)))] := hD
  refine lv_aload_n hx hb dX2_firstMisfit_35 rfl (lv_at hl 0 rfl) ?_
  refine va_get (D := D) (ci := 1) (v := .int (SL 1 0)) (C := RX2) (T := TX2) (N := 2) hx hb hts i_X2_firstMisfit_X2 hown hK hP 0 rfl rfl 1 (by decide) (hts _ q_X2_firstMisfit_1) (fun _ h9 => h9) rfl dX2_firstMisfit_36 ?_
  refine lv_if_le (tgt := 50) hx hb dX2_firstMisfit_39 (by decide) (fun c_1 => ?_) (fun c_1 => ?_)
  · have hf := itT c_1 hf
    exact t_X2_firstMisfit_50 (fu := fu) C0 hA   hf _ _ hP hD hS _ (lv_sub hl [0] rfl)
  · have hf := itF c_1 hf
    refine lv_iload_n hx hb dX2_firstMisfit_42 rfl (lv_at hl 1 rfl) ?_
    refine lv_if_ne (tgt := 50) hx hb dX2_firstMisfit_43 (by decide) (fun c_2 => ?_) (fun c_2 => ?_)
    · have hf := itF c_2 hf
      exact t_X2_firstMisfit_50 (fu := fu) C0 hA   hf _ _ hP hD hS _ (lv_sub hl [0] rfl)
    · have hf := itT c_2 hf
      refine lv_iconst (v := (-1 : Int32)) hx hb dX2_firstMisfit_46 (by decide) ?_
      refine lv_goto (tgt := 54) hx hb dX2_firstMisfit_47 (by decide) ?_
      obtain rfl := Option.some.inj hf
      exact s_iret (r := (-1 : Int32)) hx hb hr hlocks hK hP hD hS dX2_firstMisfit_54
set_option maxHeartbeats 4000000 in
set_option maxRecDepth 100000 in
theorem ts_X2_firstMisfit_4 {p : Program} {l : Launch} {e : Env} {s : State} {m : MethodId} {args : Array Value} {below : List Frame} {meth : Method} {c : Code} {D : va_G} {cI cJ : ClassId} {A : Nat → Prop} {fu : Nat} {zl ql0 : Nat} {SL : S32} {o : Int32} (C0 : Cx RX2 wsX2_firstMisfit cX2_firstMisfit 3 (some .int) D vwCl (tyS cI cJ) p s m args meth c) (hA : ∀ q : Nat, s.heap.size ≤ q → A q) {k4 : Int32 → Int32 → Option (Int32)} (K4 : ∀ (x1 : Int32) (x2 : Int32), k4 x1 x2 = some o → ∀ (H : Heap) (locs : List Loc), va_P D vwCl (wL zl ql0 cI SL) H → va_D A (wL zl ql0 cI SL) → va_S A s.heap H locs → ∀ (ls : Array Slot), lv_has ls 3 [(0, .ref zl), (1, .int x1), (2, .int x2)] → W p l e rm_X2_firstMisfit s m args below meth c H locs 0 0 (MQ below (sZi D vwCl (tyS cI cJ) A (wL zl ql0 cI SL) (o)) args s 0 0 A) (F0 m 4 ls [])) : ∀ (x1 : Int32) (x2 : Int32), s_X2_firstMisfit_4 fu  k4 SL x1 x2 = some o → ∀ (H : Heap) (locs : List Loc), va_P D vwCl (wL zl ql0 cI SL) H → va_D A (wL zl ql0 cI SL) → va_S A s.heap H locs → ∀ (ls : Array Slot), lv_has ls 3 [(0, .ref zl), (1, .int x1), (2, .int x2)] → W p l e rm_X2_firstMisfit s m args below meth c H locs 0 0 (MQ below (sZi D vwCl (tyS cI cJ) A (wL zl ql0 cI SL) (o)) args s 0 0 A) (F0 m 4 ls []) := by
  obtain ⟨hx, hb, hr, hml, hown, hts, hlocks, hK⟩ := id C0
  intro x1 x2 hf H locs hP hD hS ls hl
  have hP : va_P D vwCl [(zl, .inr (1, [.ref ql0, .int (SL 1 0)])), (ql0, .inl (cI, 80, .inl (SL 0)))] H := hP
  have hD : va_D A [(zl, .inr (1, [.ref ql0, .int (SL 1 0)])), (ql0, .inl (cI, 80, .inl (SL 0)))] := hD
  refine lv_iload_n hx hb dX2_firstMisfit_4 rfl (lv_at hl 2 rfl) ?_
  refine lv_aload_n hx hb dX2_firstMisfit_5 rfl (lv_at hl 0 rfl) ?_
  refine va_get (D := D) (ci := 1) (v := .int (SL 1 0)) (C := RX2) (T := TX2) (N := 2) hx hb hts i_X2_firstMisfit_X2 hown hK hP 0 rfl rfl 1 (by decide) (hts _ q_X2_firstMisfit_1) (fun _ h9 => h9) rfl dX2_firstMisfit_6 ?_
  refine lv_icmp_ge (tgt := 35) hx hb dX2_firstMisfit_9 (by decide) (fun c_1 => ?_) (fun c_1 => ?_)
  · have hf := itT c_1 hf
    exact t_X2_firstMisfit_35 (fu := fu) C0 hA  _ hf _ _ hP hD hS _ (lv_sub hl [0, 1] rfl)
  · have hf := itF c_1 hf
    refine lv_iload_n hx hb dX2_firstMisfit_12 rfl (lv_at hl 1 rfl) ?_
    refine lv_aload_n hx hb dX2_firstMisfit_13 rfl (lv_at hl 0 rfl) ?_
    refine lv_iload_n hx hb dX2_firstMisfit_14 rfl (lv_at hl 2 rfl) ?_
    obtain ⟨o_2, h_2, hf⟩ := bd_some hf
    refine s_callVI (wc := (wL zl ql0 cI SL)) (wr := []) (wc' := (wL zl ql0 cI SL)) (w' := [(zl, .inr (1, [.ref ql0, .int (SL 1 0)])), (ql0, .inl (cI, 80, .inl (SL 0)))]) (isC := [0, 1]) (isR := []) (perm := [0, 1]) (As := [.int x2]) (rest := [.int x1]) (ci := 1) (q := (RX2, TX2, 2)) ⟨hx, hb, hml, hown, hts⟩ (c_X2_letterAt l D cI cJ fu zl ql0 SL x2 o_2 h_2) (cwV 1 hts gX2_firstMisfit_X2_letterAt rfl rfl rfl (by decide +kernel) ⟨Nat.le_of_ble_eq_true rfl, Nat.le_of_ble_eq_true rfl⟩) hK hP hD hS hA ⟨rfl, rfl, by decide, by decide, by decide, by decide, rfl⟩ rfl rfl rfl rfl hl.1 rfl (Nat.le_of_ble_eq_true rfl) dX2_firstMisfit_15 (fun H locs hP hD hS => ?_)
    obtain ⟨o_3, h_3, hf⟩ := bd_some hf
    refine s_callSI (wc := []) (wr := [(zl, .inr (1, [.ref ql0, .int (SL 1 0)])), (ql0, .inl (cI, 80, .inl (SL 0)))]) (wc' := []) (w' := [(zl, .inr (1, [.ref ql0, .int (SL 1 0)])), (ql0, .inl (cI, 80, .inl (SL 0)))]) (isC := []) (isR := [0, 1]) (perm := [0, 1]) (As := [.int x1, .int o_2]) (rest := []) ⟨hx, hb, hml, hown, hts⟩ (c_X2_behind l D cI cJ fu x1 o_2 o_3 h_3) (va_cwS 2 hts gX2_firstMisfit_X2_behind rfl rfl rfl (by decide +kernel) ⟨Nat.le_of_ble_eq_true rfl, Nat.le_of_ble_eq_true rfl⟩) hK hP hD hS hA ⟨rfl, rfl, by decide, by decide, by decide, by decide, rfl⟩ rfl hl.1 rfl (Nat.le_of_ble_eq_true rfl) dX2_firstMisfit_18 (fun H locs hP hD hS => ?_)
    refine lv_istore_n (lv' := [(1, .int o_3), (0, .ref zl), (2, .int x2)]) hx hb dX2_firstMisfit_21 rfl hl (by decide) rfl (fun ls hl => ?_)
    refine lv_iload_n hx hb dX2_firstMisfit_22 rfl (lv_at hl 0 rfl) ?_
    refine lv_iconst (v := (-1 : Int32)) hx hb dX2_firstMisfit_23 (by decide) ?_
    refine lv_icmp_ne (tgt := 29) hx hb dX2_firstMisfit_24 (by decide) (fun c_4 => ?_) (fun c_4 => ?_)
    · have hf := itF c_4 hf
      refine lv_iinc (v := (x2 + (1 : Int32))) (lv' := [(2, .int (x2 + (1 : Int32))), (1, .int o_3), (0, .ref zl)]) hx hb dX2_firstMisfit_29 hl (k := 2) rfl rfl (by decide) rfl (fun ls hl => ?_)
      refine lv_goto (tgt := 4) hx hb dX2_firstMisfit_32 (by decide) ?_
      exact K4 _ _ hf _ _ hP hD hS _ (lv_sub hl [2, 1, 0] rfl)
    · have hf := itT c_4 hf
      refine lv_iload_n hx hb dX2_firstMisfit_27 rfl (lv_at hl 2 rfl) ?_
      obtain rfl := Option.some.inj hf
      exact s_iret (r := x2) hx hb hr hlocks hK hP hD hS dX2_firstMisfit_28
theorem t_X2_firstMisfit_4 {p : Program} {l : Launch} {e : Env} {s : State} {m : MethodId} {args : Array Value} {below : List Frame} {meth : Method} {c : Code} {D : va_G} {cI cJ : ClassId} {A : Nat → Prop} {fu : Nat} {zl ql0 : Nat} {SL : S32} {o : Int32} (C0 : Cx RX2 wsX2_firstMisfit cX2_firstMisfit 3 (some .int) D vwCl (tyS cI cJ) p s m args meth c) (hA : ∀ q : Nat, s.heap.size ≤ q → A q) : ∀ (n : Nat) (x1 : Int32) (x2 : Int32), f_X2_firstMisfit_4 fu  SL n x1 x2 = some o → ∀ (H : Heap) (locs : List Loc), va_P D vwCl (wL zl ql0 cI SL) H → va_D A (wL zl ql0 cI SL) → va_S A s.heap H locs → ∀ (ls : Array Slot), lv_has ls 3 [(0, .ref zl), (1, .int x1), (2, .int x2)] → W p l e rm_X2_firstMisfit s m args below meth c H locs 0 0 (MQ below (sZi D vwCl (tyS cI cJ) A (wL zl ql0 cI SL) (o)) args s 0 0 A) (F0 m 4 ls []) := by
  intro n
  induction n with
  | zero =>
    intro x1 x2 hf
    have hf : (none : Option (Int32)) = some o := hf
    cases hf
  | succ n ih => exact ts_X2_firstMisfit_4 (fu := fu) (k4 := f_X2_firstMisfit_4 fu  SL n) C0 hA  ih
set_option maxHeartbeats 4000000 in
set_option maxRecDepth 100000 in
theorem c_X2_firstMisfit (l : Launch) (D : va_G) (cI cJ : ClassId) (fu : Nat) (zl ql0 : Nat) (SL : S32) (o : Int32) (hf : f_X2_firstMisfit fu SL = some o) : MI l yX2_firstMisfit wsX2_firstMisfit rm_X2_firstMisfit D vwCl (tyS cI cJ) [.ref zl] (wL zl ql0 cI SL) (wL zl ql0 cI SL) (o) := by
  intro sz
  refine s_entry (own := RX2) (cc := cX2_firstMisfit) (maxL := 3) (ret := (some .int)) (Qc := fun A => sZi D vwCl (tyS cI cJ) A (wL zl ql0 cI SL) (o)) rfl (by decide) rfl rfl (Nat.le_of_ble_eq_true rfl) ?_
  intro p e s m args below meth c A C0 hA hP hD hS ls hl
  obtain ⟨hx, hb, hr, hml, hown, hts, hlocks, hK⟩ := id C0
  have hl : lv_has ls 3 [(0, .ref zl)] := hl
  have hP : va_P D vwCl [(zl, .inr (1, [.ref ql0, .int (SL 1 0)])), (ql0, .inl (cI, 80, .inl (SL 0)))] s.heap := hP
  have hD : va_D A [(zl, .inr (1, [.ref ql0, .int (SL 1 0)])), (ql0, .inl (cI, 80, .inl (SL 0)))] := hD
  refine lv_iconst (v := (0 : Int32)) hx hb dX2_firstMisfit_0 (by decide) ?_
  refine lv_istore_n (lv' := [(1, .int (0 : Int32)), (0, .ref zl)]) hx hb dX2_firstMisfit_1 rfl hl (by decide) rfl (fun ls hl => ?_)
  refine lv_iconst (v := (0 : Int32)) hx hb dX2_firstMisfit_2 (by decide) ?_
  refine lv_istore_n (lv' := [(2, .int (0 : Int32)), (1, .int (0 : Int32)), (0, .ref zl)]) hx hb dX2_firstMisfit_3 rfl hl (by decide) rfl (fun ls hl => ?_)
  exact t_X2_firstMisfit_4 (fu := fu) C0 hA  fu _ _ hf _ _ hP hD hS _ (lv_sub hl [2, 1, 0] rfl)
abbrev rm_X2_digitAt : Room := { frames := 1, cells := 0, slots := 0, locals := 21 }
set_option maxHeartbeats 4000000 in
set_option maxRecDepth 100000 in
theorem c_X2_digitAt (l : Launch) (D : va_G) (cI cJ : ClassId) (fu : Nat) (zl ql0 : Nat) (SL : S32) (x1 : Int32) (o : Int32) (hf : f_X2_digitAt fu SL x1 = some o) : MI l yX2_digitAt wsX2_digitAt rm_X2_digitAt D vwCl (tyS cI cJ) [.ref zl, .int x1] (wL zl ql0 cI SL) (wL zl ql0 cI SL) (o) := by
  intro sz
  refine s_entry (own := RX2) (cc := cX2_digitAt) (maxL := 2) (ret := (some .int)) (Qc := fun A => sZi D vwCl (tyS cI cJ) A (wL zl ql0 cI SL) (o)) rfl (by decide) rfl rfl (Nat.le_of_ble_eq_true rfl) ?_
  intro p e s m args below meth c A C0 hA hP hD hS ls hl
  obtain ⟨hx, hb, hr, hml, hown, hts, hlocks, hK⟩ := id C0
  have hl : lv_has ls 2 [(0, .ref zl), (1, .int x1)] := hl
  have hP : va_P D vwCl [(zl, .inr (1, [.ref ql0, .int (SL 1 0)])), (ql0, .inl (cI, 80, .inl (SL 0)))] s.heap := hP
  have hD : va_D A [(zl, .inr (1, [.ref ql0, .int (SL 1 0)])), (ql0, .inl (cI, 80, .inl (SL 0)))] := hD
  refine lv_aload_n hx hb dX2_digitAt_0 rfl (lv_at hl 0 rfl) ?_
  refine lv_iload_n hx hb dX2_digitAt_1 rfl (lv_at hl 1 rfl) ?_
  obtain ⟨o_1, h_1, hf⟩ := bd_some hf
  refine s_callVI (wc := (wL zl ql0 cI SL)) (wr := []) (wc' := (wL zl ql0 cI SL)) (w' := [(zl, .inr (1, [.ref ql0, .int (SL 1 0)])), (ql0, .inl (cI, 80, .inl (SL 0)))]) (isC := [0, 1]) (isR := []) (perm := [0, 1]) (As := [.int x1]) (rest := []) (ci := 1) (q := (RX2, TX2, 2)) ⟨hx, hb, hml, hown, hts⟩ (c_X2_letterAt l D cI cJ fu zl ql0 SL x1 o_1 h_1) (cwV 1 hts gX2_digitAt_X2_letterAt rfl rfl rfl (by decide +kernel) ⟨Nat.le_of_ble_eq_true rfl, Nat.le_of_ble_eq_true rfl⟩) hK hP hD hS hA ⟨rfl, rfl, by decide, by decide, by decide, by decide, rfl⟩ rfl rfl rfl rfl hl.1 rfl (Nat.le_of_ble_eq_true rfl) dX2_digitAt_2 (fun H locs hP hD hS => ?_)
  refine lv_bipush (v := (48 : Int32)) hx hb dX2_digitAt_5 (by decide) ?_
  refine lv_isub hx hb dX2_digitAt_7 ?_
  obtain rfl := Option.some.inj hf
  exact s_iret (r := (o_1 - (48 : Int32))) hx hb hr hlocks hK hP hD hS dX2_digitAt_8
abbrev rm_X2_playLodger : Room := { frames := 3, cells := 0, slots := 0, locals := 67 }
set_option maxHeartbeats 4000000 in
set_option maxRecDepth 100000 in
theorem t_X2_playLodger_48 {p : Program} {l : Launch} {e : Env} {s : State} {m : MethodId} {args : Array Value} {below : List Frame} {meth : Method} {c : Code} {D : va_G} {cI cJ : ClassId} {A : Nat → Prop} {fu : Nat} {zl ql0 zt qt0 qt1 qt2 qt3 qt4 : Nat} {SL : S32} {o : Int32 × S32} (C0 : Cx RX2 wsX2_playLodger cX2_playLodger 7 (some .boolean) D vwCl (tyS cI cJ) p s m args meth c) (hA : ∀ q : Nat, s.heap.size ≤ q → A q) : ∀ (x3 : Int32) (x4 : Int32) (x5 : Int32) (ST : S32), f_X2_playLodger_48 fu  SL x3 x4 x5 ST = some o → ∀ (H : Heap) (locs : List Loc), va_P D vwCl ((wL zl ql0 cI SL) ++ (wT zt qt0 qt1 qt2 qt3 qt4 cI ST)) H → va_D A ((wL zl ql0 cI SL) ++ (wT zt qt0 qt1 qt2 qt3 qt4 cI ST)) → va_S A s.heap H locs → ∀ (ls : Array Slot), lv_has ls 7 [(0, .ref zl), (1, .ref zt), (3, .int x3), (4, .int x4), (5, .int x5)] → W p l e rm_X2_playLodger s m args below meth c H locs 0 0 (MQ below (sZi D vwCl (tyS cI cJ) A ((wL zl ql0 cI SL) ++ (wT zt qt0 qt1 qt2 qt3 qt4 cI (o.2))) (o.1)) args s 0 0 A) (F0 m 48 ls []) := by
  obtain ⟨hx, hb, hr, hml, hown, hts, hlocks, hK⟩ := id C0
  intro x3 x4 x5 ST hf H locs hP hD hS ls hl
  have hP : va_P D vwCl [(zl, .inr (1, [.ref ql0, .int (SL 1 0)])), (ql0, .inl (cI, 80, .inl (SL 0))), (zt, .inr (2, [.ref qt0, .ref qt1, .ref qt2, .ref qt3, .ref qt4, .int (ST 5 0), .int (ST 6 0)])), (qt0, .inl (cI, 8, .inl (ST 0))), (qt1, .inl (cI, 8, .inl (ST 1))), (qt2, .inl (cI, 8, .inl (ST 2))), (qt3, .inl (cI, 8, .inl (ST 3))), (qt4, .inl (cI, 8, .inl (ST 4)))] H := hP
  have hD : va_D A [(zl, .inr (1, [.ref ql0, .int (SL 1 0)])), (ql0, .inl (cI, 80, .inl (SL 0))), (zt, .inr (2, [.ref qt0, .ref qt1, .ref qt2, .ref qt3, .ref qt4, .int (ST 5 0), .int (ST 6 0)])), (qt0, .inl (cI, 8, .inl (ST 0))), (qt1, .inl (cI, 8, .inl (ST 1))), (qt2, .inl (cI, 8, .inl (ST 2))), (qt3, .inl (cI, 8, .inl (ST 3))), (qt4, .inl (cI, 8, .inl (ST 4)))] := hD
  refine lv_aload_n hx hb dX2_playLodger_48 rfl (lv_at hl 1 rfl) ?_
  refine lv_iload hx hb dX2_playLodger_49 (lv_at hl 3 rfl) ?_
  refine lv_iload hx hb dX2_playLodger_51 (lv_at hl 4 rfl) ?_
  obtain ⟨o_1, h_1, hf⟩ := bd_some hf
  refine s_callVI (wc := (wT zt qt0 qt1 qt2 qt3 qt4 cI ST)) (wr := [(zl, .inr (1, [.ref ql0, .int (SL 1 0)])), (ql0, .inl (cI, 80, .inl (SL 0)))]) (wc' := (wT zt qt0 qt1 qt2 qt3 qt4 cI ST)) (w' := [(zl, .inr (1, [.ref ql0, .int (SL 1 0)])), (ql0, .inl (cI, 80, .inl (SL 0))), (zt, .inr (2, [.ref qt0, .ref qt1, .ref qt2, .ref qt3, .ref qt4, .int (ST 5 0), .int (ST 6 0)])), (qt0, .inl (cI, 8, .inl (ST 0))), (qt1, .inl (cI, 8, .inl (ST 1))), (qt2, .inl (cI, 8, .inl (ST 2))), (qt3, .inl (cI, 8, .inl (ST 3))), (qt4, .inl (cI, 8, .inl (ST 4)))]) (isC := [2, 3, 4, 5, 6, 7]) (isR := [0, 1]) (perm := [0, 1, 2, 3, 4, 5, 6, 7]) (As := [.int x4, .int x5]) (rest := []) (ci := 2) (q := (RX3, TX3, 7)) ⟨hx, hb, hml, hown, hts⟩ (c_X3_couldComeIn l D cI cJ fu zt qt0 qt1 qt2 qt3 qt4 ST x4 x5 o_1 h_1) (cwV 2 hts gX2_playLodger_X3_couldComeIn rfl rfl rfl (by decide +kernel) ⟨Nat.le_of_ble_eq_true rfl, Nat.le_of_ble_eq_true rfl⟩) hK hP hD hS hA ⟨rfl, rfl, by decide, by decide, by decide, by decide, rfl⟩ rfl rfl rfl rfl hl.1 rfl (Nat.le_of_ble_eq_true rfl) dX2_playLodger_53 (fun H locs hP hD hS => ?_)
  refine lv_if_eq (tgt := 81) hx hb dX2_playLodger_56 (by decide) (fun c_2 => ?_) (fun c_2 => ?_)
  · have hf := itT c_2 hf
    refine lv_iconst (v := (0 : Int32)) hx hb dX2_playLodger_81 (by decide) ?_
    obtain rfl := Option.some.inj hf
    exact s_zret (r := (0 : Int32)) hx hb hr hlocks hK hP hD hS rfl dX2_playLodger_82
  · have hf := itF c_2 hf
    refine lv_aload_n hx hb dX2_playLodger_59 rfl (lv_at hl 1 rfl) ?_
    refine lv_iload hx hb dX2_playLodger_60 (lv_at hl 3 rfl) ?_
    refine lv_iload hx hb dX2_playLodger_62 (lv_at hl 4 rfl) ?_
    refine lv_aload_n hx hb dX2_playLodger_64 rfl (lv_at hl 0 rfl) ?_
    refine lv_iload_n hx hb dX2_playLodger_65 rfl (lv_at hl 2 rfl) ?_
    refine lv_iconst (v := (1 : Int32)) hx hb dX2_playLodger_66 (by decide) ?_
    refine lv_isub hx hb dX2_playLodger_67 ?_
    obtain ⟨o_3, h_3, hf⟩ := bd_some hf
    refine s_callVI (wc := (wL zl ql0 cI SL)) (wr := [(zt, .inr (2, [.ref qt0, .ref qt1, .ref qt2, .ref qt3, .ref qt4, .int (ST 5 0), .int (ST 6 0)])), (qt0, .inl (cI, 8, .inl (ST 0))), (qt1, .inl (cI, 8, .inl (ST 1))), (qt2, .inl (cI, 8, .inl (ST 2))), (qt3, .inl (cI, 8, .inl (ST 3))), (qt4, .inl (cI, 8, .inl (ST 4)))]) (wc' := (wL zl ql0 cI SL)) (w' := [(zl, .inr (1, [.ref ql0, .int (SL 1 0)])), (ql0, .inl (cI, 80, .inl (SL 0))), (zt, .inr (2, [.ref qt0, .ref qt1, .ref qt2, .ref qt3, .ref qt4, .int (ST 5 0), .int (ST 6 0)])), (qt0, .inl (cI, 8, .inl (ST 0))), (qt1, .inl (cI, 8, .inl (ST 1))), (qt2, .inl (cI, 8, .inl (ST 2))), (qt3, .inl (cI, 8, .inl (ST 3))), (qt4, .inl (cI, 8, .inl (ST 4)))]) (isC := [0, 1]) (isR := [2, 3, 4, 5, 6, 7]) (perm := [6, 7, 0, 1, 2, 3, 4, 5]) (As := [.int (x3 - (1 : Int32))]) (rest := [.int x5, .int x4, .ref zt]) (ci := 1) (q := (RX2, TX2, 2)) ⟨hx, hb, hml, hown, hts⟩ (c_X2_digitAt l D cI cJ fu zl ql0 SL (x3 - (1 : Int32)) o_3 h_3) (cwV 1 hts gX2_playLodger_X2_digitAt rfl rfl rfl (by decide +kernel) ⟨Nat.le_of_ble_eq_true rfl, Nat.le_of_ble_eq_true rfl⟩) hK hP hD hS hA ⟨rfl, rfl, by decide, by decide, by decide, by decide, rfl⟩ rfl rfl rfl rfl hl.1 rfl (Nat.le_of_ble_eq_true rfl) dX2_playLodger_68 (fun H locs hP hD hS => ?_)
    obtain ⟨o_4, h_4, hf⟩ := bd_some hf
    refine s_callVI (wc := (wT zt qt0 qt1 qt2 qt3 qt4 cI ST)) (wr := [(zl, .inr (1, [.ref ql0, .int (SL 1 0)])), (ql0, .inl (cI, 80, .inl (SL 0)))]) (wc' := (wT zt qt0 qt1 qt2 qt3 qt4 cI (o_4.2))) (w' := [(zl, .inr (1, [.ref ql0, .int (SL 1 0)])), (ql0, .inl (cI, 80, .inl (SL 0))), (zt, .inr (2, [.ref qt0, .ref qt1, .ref qt2, .ref qt3, .ref qt4, .int ((o_4.2) 5 0), .int ((o_4.2) 6 0)])), (qt0, .inl (cI, 8, .inl ((o_4.2) 0))), (qt1, .inl (cI, 8, .inl ((o_4.2) 1))), (qt2, .inl (cI, 8, .inl ((o_4.2) 2))), (qt3, .inl (cI, 8, .inl ((o_4.2) 3))), (qt4, .inl (cI, 8, .inl ((o_4.2) 4)))]) (isC := [2, 3, 4, 5, 6, 7]) (isR := [0, 1]) (perm := [0, 1, 2, 3, 4, 5, 6, 7]) (As := [.int x4, .int x5, .int o_3]) (rest := []) (ci := 2) (q := (RX3, TX3, 7)) ⟨hx, hb, hml, hown, hts⟩ (c_X3_admit l D cI cJ fu zt qt0 qt1 qt2 qt3 qt4 ST x4 x5 o_3 o_4 h_4) (cwV 3 hts gX2_playLodger_X3_admit rfl rfl rfl (by decide +kernel) ⟨Nat.le_of_ble_eq_true rfl, Nat.le_of_ble_eq_true rfl⟩) hK hP hD hS hA ⟨rfl, rfl, by decide, by decide, by decide, by decide, rfl⟩ rfl rfl rfl rfl hl.1 rfl (Nat.le_of_ble_eq_true rfl) dX2_playLodger_71 (fun H locs hP hD hS => ?_)
    refine lv_if_lt (tgt := 81) hx hb dX2_playLodger_74 (by decide) (fun c_5 => ?_) (fun c_5 => ?_)
    · have hf := itT c_5 hf
      refine lv_iconst (v := (0 : Int32)) hx hb dX2_playLodger_81 (by decide) ?_
      obtain rfl := Option.some.inj hf
      exact s_zret (r := (0 : Int32)) hx hb hr hlocks hK hP hD hS rfl dX2_playLodger_82
    · have hf := itF c_5 hf
      refine lv_iconst (v := (1 : Int32)) hx hb dX2_playLodger_77 (by decide) ?_
      refine lv_goto (tgt := 82) hx hb dX2_playLodger_78 (by decide) ?_
      obtain rfl := Option.some.inj hf
      exact s_zret (r := (1 : Int32)) hx hb hr hlocks hK hP hD hS rfl dX2_playLodger_82
set_option maxHeartbeats 4000000 in
set_option maxRecDepth 100000 in
theorem ts_X2_playLodger_20 {p : Program} {l : Launch} {e : Env} {s : State} {m : MethodId} {args : Array Value} {below : List Frame} {meth : Method} {c : Code} {D : va_G} {cI cJ : ClassId} {A : Nat → Prop} {fu : Nat} {zl ql0 zt qt0 qt1 qt2 qt3 qt4 : Nat} {SL : S32} {o : Int32 × S32} (C0 : Cx RX2 wsX2_playLodger cX2_playLodger 7 (some .boolean) D vwCl (tyS cI cJ) p s m args meth c) (hA : ∀ q : Nat, s.heap.size ≤ q → A q) {k20 : Int32 → Int32 → Int32 → Int32 → S32 → Option (Int32 × S32)} (K20 : ∀ (x3 : Int32) (x4 : Int32) (x5 : Int32) (x6 : Int32) (ST : S32), k20 x3 x4 x5 x6 ST = some o → ∀ (H : Heap) (locs : List Loc), va_P D vwCl ((wL zl ql0 cI SL) ++ (wT zt qt0 qt1 qt2 qt3 qt4 cI ST)) H → va_D A ((wL zl ql0 cI SL) ++ (wT zt qt0 qt1 qt2 qt3 qt4 cI ST)) → va_S A s.heap H locs → ∀ (ls : Array Slot), lv_has ls 7 [(0, .ref zl), (1, .ref zt), (3, .int x3), (4, .int x4), (5, .int x5), (6, .int x6)] → W p l e rm_X2_playLodger s m args below meth c H locs 0 0 (MQ below (sZi D vwCl (tyS cI cJ) A ((wL zl ql0 cI SL) ++ (wT zt qt0 qt1 qt2 qt3 qt4 cI (o.2))) (o.1)) args s 0 0 A) (F0 m 20 ls [])) : ∀ (x3 : Int32) (x4 : Int32) (x5 : Int32) (x6 : Int32) (ST : S32), s_X2_playLodger_20 fu  k20 SL x3 x4 x5 x6 ST = some o → ∀ (H : Heap) (locs : List Loc), va_P D vwCl ((wL zl ql0 cI SL) ++ (wT zt qt0 qt1 qt2 qt3 qt4 cI ST)) H → va_D A ((wL zl ql0 cI SL) ++ (wT zt qt0 qt1 qt2 qt3 qt4 cI ST)) → va_S A s.heap H locs → ∀ (ls : Array Slot), lv_has ls 7 [(0, .ref zl), (1, .ref zt), (3, .int x3), (4, .int x4), (5, .int x5), (6, .int x6)] → W p l e rm_X2_playLodger s m args below meth c H locs 0 0 (MQ below (sZi D vwCl (tyS cI cJ) A ((wL zl ql0 cI SL) ++ (wT zt qt0 qt1 qt2 qt3 qt4 cI (o.2))) (o.1)) args s 0 0 A) (F0 m 20 ls []) := by
  obtain ⟨hx, hb, hr, hml, hown, hts, hlocks, hK⟩ := id C0
  intro x3 x4 x5 x6 ST hf H locs hP hD hS ls hl
  have hP : va_P D vwCl [(zl, .inr (1, [.ref ql0, .int (SL 1 0)])), (ql0, .inl (cI, 80, .inl (SL 0))), (zt, .inr (2, [.ref qt0, .ref qt1, .ref qt2, .ref qt3, .ref qt4, .int (ST 5 0), .int (ST 6 0)])), (qt0, .inl (cI, 8, .inl (ST 0))), (qt1, .inl (cI, 8, .inl (ST 1))), (qt2, .inl (cI, 8, .inl (ST 2))), (qt3, .inl (cI, 8, .inl (ST 3))), (qt4, .inl (cI, 8, .inl (ST 4)))] H := hP
  have hD : va_D A [(zl, .inr (1, [.ref ql0, .int (SL 1 0)])), (ql0, .inl (cI, 80, .inl (SL 0))), (zt, .inr (2, [.ref qt0, .ref qt1, .ref qt2, .ref qt3, .ref qt4, .int (ST 5 0), .int (ST 6 0)])), (qt0, .inl (cI, 8, .inl (ST 0))), (qt1, .inl (cI, 8, .inl (ST 1))), (qt2, .inl (cI, 8, .inl (ST 2))), (qt3, .inl (cI, 8, .inl (ST 3))), (qt4, .inl (cI, 8, .inl (ST 4)))] := hD
  refine lv_iload hx hb dX2_playLodger_20 (lv_at hl 5 rfl) ?_
  refine lv_iload_n hx hb dX2_playLodger_22 rfl (lv_at hl 2 rfl) ?_
  refine lv_iconst (v := (2 : Int32)) hx hb dX2_playLodger_23 (by decide) ?_
  refine lv_isub hx hb dX2_playLodger_24 ?_
  refine lv_icmp_ge (tgt := 48) hx hb dX2_playLodger_25 (by decide) (fun c_1 => ?_) (fun c_1 => ?_)
  · have hf := itT c_1 hf
    exact t_X2_playLodger_48 (fu := fu) C0 hA  _ _ _ _ hf _ _ hP hD hS _ (lv_sub hl [0, 1, 2, 3, 4] rfl)
  · have hf := itF c_1 hf
    refine lv_iload hx hb dX2_playLodger_28 (lv_at hl 4 rfl) ?_
    refine lv_bipush (v := (10 : Int32)) hx hb dX2_playLodger_30 (by decide) ?_
    refine lv_imul hx hb dX2_playLodger_32 ?_
    refine lv_aload_n hx hb dX2_playLodger_33 rfl (lv_at hl 0 rfl) ?_
    refine lv_iload hx hb dX2_playLodger_34 (lv_at hl 5 rfl) ?_
    obtain ⟨o_2, h_2, hf⟩ := bd_some hf
    refine s_callVI (wc := (wL zl ql0 cI SL)) (wr := [(zt, .inr (2, [.ref qt0, .ref qt1, .ref qt2, .ref qt3, .ref qt4, .int (ST 5 0), .int (ST 6 0)])), (qt0, .inl (cI, 8, .inl (ST 0))), (qt1, .inl (cI, 8, .inl (ST 1))), (qt2, .inl (cI, 8, .inl (ST 2))), (qt3, .inl (cI, 8, .inl (ST 3))), (qt4, .inl (cI, 8, .inl (ST 4)))]) (wc' := (wL zl ql0 cI SL)) (w' := [(zl, .inr (1, [.ref ql0, .int (SL 1 0)])), (ql0, .inl (cI, 80, .inl (SL 0))), (zt, .inr (2, [.ref qt0, .ref qt1, .ref qt2, .ref qt3, .ref qt4, .int (ST 5 0), .int (ST 6 0)])), (qt0, .inl (cI, 8, .inl (ST 0))), (qt1, .inl (cI, 8, .inl (ST 1))), (qt2, .inl (cI, 8, .inl (ST 2))), (qt3, .inl (cI, 8, .inl (ST 3))), (qt4, .inl (cI, 8, .inl (ST 4)))]) (isC := [0, 1]) (isR := [2, 3, 4, 5, 6, 7]) (perm := [6, 7, 0, 1, 2, 3, 4, 5]) (As := [.int x6]) (rest := [.int (x5 * (10 : Int32))]) (ci := 1) (q := (RX2, TX2, 2)) ⟨hx, hb, hml, hown, hts⟩ (c_X2_digitAt l D cI cJ fu zl ql0 SL x6 o_2 h_2) (cwV 1 hts gX2_playLodger_X2_digitAt rfl rfl rfl (by decide +kernel) ⟨Nat.le_of_ble_eq_true rfl, Nat.le_of_ble_eq_true rfl⟩) hK hP hD hS hA ⟨rfl, rfl, by decide, by decide, by decide, by decide, rfl⟩ rfl rfl rfl rfl hl.1 rfl (Nat.le_of_ble_eq_true rfl) dX2_playLodger_36 (fun H locs hP hD hS => ?_)
    refine lv_iadd hx hb dX2_playLodger_39 ?_
    refine lv_istore (lv' := [(5, .int ((x5 * (10 : Int32)) + o_2)), (0, .ref zl), (1, .ref zt), (3, .int x3), (4, .int x4), (6, .int x6)]) hx hb dX2_playLodger_40 hl (by decide) rfl (fun ls hl => ?_)
    refine lv_iinc (v := (x6 + (1 : Int32))) (lv' := [(6, .int (x6 + (1 : Int32))), (5, .int ((x5 * (10 : Int32)) + o_2)), (0, .ref zl), (1, .ref zt), (3, .int x3), (4, .int x4)]) hx hb dX2_playLodger_42 hl (k := 5) rfl rfl (by decide) rfl (fun ls hl => ?_)
    refine lv_goto (tgt := 20) hx hb dX2_playLodger_45 (by decide) ?_
    exact K20 _ _ _ _ _ hf _ _ hP hD hS _ (lv_sub hl [2, 3, 4, 5, 1, 0] rfl)
theorem t_X2_playLodger_20 {p : Program} {l : Launch} {e : Env} {s : State} {m : MethodId} {args : Array Value} {below : List Frame} {meth : Method} {c : Code} {D : va_G} {cI cJ : ClassId} {A : Nat → Prop} {fu : Nat} {zl ql0 zt qt0 qt1 qt2 qt3 qt4 : Nat} {SL : S32} {o : Int32 × S32} (C0 : Cx RX2 wsX2_playLodger cX2_playLodger 7 (some .boolean) D vwCl (tyS cI cJ) p s m args meth c) (hA : ∀ q : Nat, s.heap.size ≤ q → A q) : ∀ (n : Nat) (x3 : Int32) (x4 : Int32) (x5 : Int32) (x6 : Int32) (ST : S32), f_X2_playLodger_20 fu  SL n x3 x4 x5 x6 ST = some o → ∀ (H : Heap) (locs : List Loc), va_P D vwCl ((wL zl ql0 cI SL) ++ (wT zt qt0 qt1 qt2 qt3 qt4 cI ST)) H → va_D A ((wL zl ql0 cI SL) ++ (wT zt qt0 qt1 qt2 qt3 qt4 cI ST)) → va_S A s.heap H locs → ∀ (ls : Array Slot), lv_has ls 7 [(0, .ref zl), (1, .ref zt), (3, .int x3), (4, .int x4), (5, .int x5), (6, .int x6)] → W p l e rm_X2_playLodger s m args below meth c H locs 0 0 (MQ below (sZi D vwCl (tyS cI cJ) A ((wL zl ql0 cI SL) ++ (wT zt qt0 qt1 qt2 qt3 qt4 cI (o.2))) (o.1)) args s 0 0 A) (F0 m 20 ls []) := by
  intro n
  induction n with
  | zero =>
    intro x3 x4 x5 x6 ST hf
    have hf : (none : Option (Int32 × S32)) = some o := hf
    cases hf
  | succ n ih => exact ts_X2_playLodger_20 (fu := fu) (k20 := f_X2_playLodger_20 fu  SL n) C0 hA  ih
set_option maxHeartbeats 4000000 in
set_option maxRecDepth 100000 in
theorem c_X2_playLodger (l : Launch) (D : va_G) (cI cJ : ClassId) (fu : Nat) (zl ql0 zt qt0 qt1 qt2 qt3 qt4 : Nat) (SL : S32) (ST : S32) (x2 : Int32) (x3 : Int32) (o : Int32 × S32) (hf : f_X2_playLodger fu SL ST x2 x3 = some o) : MI l yX2_playLodger wsX2_playLodger rm_X2_playLodger D vwCl (tyS cI cJ) [.ref zl, .ref zt, .int x2, .int x3] ((wL zl ql0 cI SL) ++ (wT zt qt0 qt1 qt2 qt3 qt4 cI ST)) ((wL zl ql0 cI SL) ++ (wT zt qt0 qt1 qt2 qt3 qt4 cI (o.2))) (o.1) := by
  intro sz
  refine s_entry (own := RX2) (cc := cX2_playLodger) (maxL := 7) (ret := (some .boolean)) (Qc := fun A => sZi D vwCl (tyS cI cJ) A ((wL zl ql0 cI SL) ++ (wT zt qt0 qt1 qt2 qt3 qt4 cI (o.2))) (o.1)) rfl (by decide) rfl rfl (Nat.le_of_ble_eq_true rfl) ?_
  intro p e s m args below meth c A C0 hA hP hD hS ls hl
  obtain ⟨hx, hb, hr, hml, hown, hts, hlocks, hK⟩ := id C0
  have hl : lv_has ls 7 [(0, .ref zl), (1, .ref zt), (2, .int x2), (3, .int x3)] := hl
  have hP : va_P D vwCl [(zl, .inr (1, [.ref ql0, .int (SL 1 0)])), (ql0, .inl (cI, 80, .inl (SL 0))), (zt, .inr (2, [.ref qt0, .ref qt1, .ref qt2, .ref qt3, .ref qt4, .int (ST 5 0), .int (ST 6 0)])), (qt0, .inl (cI, 8, .inl (ST 0))), (qt1, .inl (cI, 8, .inl (ST 1))), (qt2, .inl (cI, 8, .inl (ST 2))), (qt3, .inl (cI, 8, .inl (ST 3))), (qt4, .inl (cI, 8, .inl (ST 4)))] s.heap := hP
  have hD : va_D A [(zl, .inr (1, [.ref ql0, .int (SL 1 0)])), (ql0, .inl (cI, 80, .inl (SL 0))), (zt, .inr (2, [.ref qt0, .ref qt1, .ref qt2, .ref qt3, .ref qt4, .int (ST 5 0), .int (ST 6 0)])), (qt0, .inl (cI, 8, .inl (ST 0))), (qt1, .inl (cI, 8, .inl (ST 1))), (qt2, .inl (cI, 8, .inl (ST 2))), (qt3, .inl (cI, 8, .inl (ST 3))), (qt4, .inl (cI, 8, .inl (ST 4)))] := hD
  refine lv_aload_n hx hb dX2_playLodger_0 rfl (lv_at hl 0 rfl) ?_
  refine lv_iload_n hx hb dX2_playLodger_1 rfl (lv_at hl 2 rfl) ?_
  refine lv_iconst (v := (1 : Int32)) hx hb dX2_playLodger_2 (by decide) ?_
  refine lv_iadd hx hb dX2_playLodger_3 ?_
  obtain ⟨o_1, h_1, hf⟩ := bd_some hf
  refine s_callVI (wc := (wL zl ql0 cI SL)) (wr := [(zt, .inr (2, [.ref qt0, .ref qt1, .ref qt2, .ref qt3, .ref qt4, .int (ST 5 0), .int (ST 6 0)])), (qt0, .inl (cI, 8, .inl (ST 0))), (qt1, .inl (cI, 8, .inl (ST 1))), (qt2, .inl (cI, 8, .inl (ST 2))), (qt3, .inl (cI, 8, .inl (ST 3))), (qt4, .inl (cI, 8, .inl (ST 4)))]) (wc' := (wL zl ql0 cI SL)) (w' := [(zl, .inr (1, [.ref ql0, .int (SL 1 0)])), (ql0, .inl (cI, 80, .inl (SL 0))), (zt, .inr (2, [.ref qt0, .ref qt1, .ref qt2, .ref qt3, .ref qt4, .int (ST 5 0), .int (ST 6 0)])), (qt0, .inl (cI, 8, .inl (ST 0))), (qt1, .inl (cI, 8, .inl (ST 1))), (qt2, .inl (cI, 8, .inl (ST 2))), (qt3, .inl (cI, 8, .inl (ST 3))), (qt4, .inl (cI, 8, .inl (ST 4)))]) (isC := [0, 1]) (isR := [2, 3, 4, 5, 6, 7]) (perm := [6, 7, 0, 1, 2, 3, 4, 5]) (As := [.int (x2 + (1 : Int32))]) (rest := []) (ci := 1) (q := (RX2, TX2, 2)) ⟨hx, hb, hml, hown, hts⟩ (c_X2_letterAt l D cI cJ fu zl ql0 SL (x2 + (1 : Int32)) o_1 h_1) (cwV 1 hts gX2_playLodger_X2_letterAt rfl rfl rfl (by decide +kernel) ⟨Nat.le_of_ble_eq_true rfl, Nat.le_of_ble_eq_true rfl⟩) hK hP hD hS hA ⟨rfl, rfl, by decide, by decide, by decide, by decide, rfl⟩ rfl rfl rfl rfl hl.1 rfl (Nat.le_of_ble_eq_true rfl) dX2_playLodger_4 (fun H locs hP hD hS => ?_)
  obtain ⟨o_2, h_2, hf⟩ := bd_some hf
  refine s_callSI (wc := []) (wr := [(zl, .inr (1, [.ref ql0, .int (SL 1 0)])), (ql0, .inl (cI, 80, .inl (SL 0))), (zt, .inr (2, [.ref qt0, .ref qt1, .ref qt2, .ref qt3, .ref qt4, .int (ST 5 0), .int (ST 6 0)])), (qt0, .inl (cI, 8, .inl (ST 0))), (qt1, .inl (cI, 8, .inl (ST 1))), (qt2, .inl (cI, 8, .inl (ST 2))), (qt3, .inl (cI, 8, .inl (ST 3))), (qt4, .inl (cI, 8, .inl (ST 4)))]) (wc' := []) (w' := [(zl, .inr (1, [.ref ql0, .int (SL 1 0)])), (ql0, .inl (cI, 80, .inl (SL 0))), (zt, .inr (2, [.ref qt0, .ref qt1, .ref qt2, .ref qt3, .ref qt4, .int (ST 5 0), .int (ST 6 0)])), (qt0, .inl (cI, 8, .inl (ST 0))), (qt1, .inl (cI, 8, .inl (ST 1))), (qt2, .inl (cI, 8, .inl (ST 2))), (qt3, .inl (cI, 8, .inl (ST 3))), (qt4, .inl (cI, 8, .inl (ST 4)))]) (isC := []) (isR := [0, 1, 2, 3, 4, 5, 6, 7]) (perm := [0, 1, 2, 3, 4, 5, 6, 7]) (As := [.int o_1]) (rest := []) ⟨hx, hb, hml, hown, hts⟩ (c_X0_ofLetter l D cI cJ fu o_1 o_2 h_2) (va_cwS 1 hts gX2_playLodger_X0_ofLetter rfl rfl rfl (by decide +kernel) ⟨Nat.le_of_ble_eq_true rfl, Nat.le_of_ble_eq_true rfl⟩) hK hP hD hS hA ⟨rfl, rfl, by decide, by decide, by decide, by decide, rfl⟩ rfl hl.1 rfl (Nat.le_of_ble_eq_true rfl) dX2_playLodger_7 (fun H locs hP hD hS => ?_)
  refine lv_istore (lv' := [(4, .int o_2), (0, .ref zl), (1, .ref zt), (2, .int x2), (3, .int x3)]) hx hb dX2_playLodger_10 hl (by decide) rfl (fun ls hl => ?_)
  refine lv_iconst (v := (0 : Int32)) hx hb dX2_playLodger_12 (by decide) ?_
  refine lv_istore (lv' := [(5, .int (0 : Int32)), (4, .int o_2), (0, .ref zl), (1, .ref zt), (2, .int x2), (3, .int x3)]) hx hb dX2_playLodger_13 hl (by decide) rfl (fun ls hl => ?_)
  refine lv_iload_n hx hb dX2_playLodger_15 rfl (lv_at hl 4 rfl) ?_
  refine lv_iconst (v := (2 : Int32)) hx hb dX2_playLodger_16 (by decide) ?_
  refine lv_iadd hx hb dX2_playLodger_17 ?_
  refine lv_istore (lv' := [(6, .int (x2 + (2 : Int32))), (5, .int (0 : Int32)), (4, .int o_2), (0, .ref zl), (1, .ref zt), (2, .int x2), (3, .int x3)]) hx hb dX2_playLodger_18 hl (by decide) rfl (fun ls hl => ?_)
  exact t_X2_playLodger_20 (fu := fu) C0 hA  fu _ _ _ _ _ hf _ _ hP hD hS _ (lv_sub hl [3, 4, 6, 2, 1, 0] rfl)
theorem q_X2_playWish_1 : (Cond.fieldLink RX2 72 "UpWhenDies$Tower" "wished" "[I" : Cond) ∈ wsX2_playWish := List.mem_of_getElem? (i := 1) rfl
theorem i_X2_playWish_X3 : ∀ w ∈ wsX30, w ∈ wsX2_playWish := fun _ h => (List.mem_cons_of_mem _ (List.mem_append_left _ (List.mem_append_right _ h)))
abbrev rm_X2_playWish : Room := { frames := 2, cells := 0, slots := 0, locals := 42 }
set_option maxHeartbeats 4000000 in
set_option maxRecDepth 100000 in
theorem c_X2_playWish (l : Launch) (D : va_G) (cI cJ : ClassId) (fu : Nat) (zl ql0 zt qt0 qt1 qt2 qt3 qt4 : Nat) (SL : S32) (ST : S32) (x2 : Int32) (o : Int32 × S32) (hf : f_X2_playWish fu SL ST x2 = some o) : MI l yX2_playWish wsX2_playWish rm_X2_playWish D vwCl (tyS cI cJ) [.ref zl, .ref zt, .int x2] ((wL zl ql0 cI SL) ++ (wT zt qt0 qt1 qt2 qt3 qt4 cI ST)) ((wL zl ql0 cI SL) ++ (wT zt qt0 qt1 qt2 qt3 qt4 cI (o.2))) (o.1) := by
  intro sz
  refine s_entry (own := RX2) (cc := cX2_playWish) (maxL := 4) (ret := (some .boolean)) (Qc := fun A => sZi D vwCl (tyS cI cJ) A ((wL zl ql0 cI SL) ++ (wT zt qt0 qt1 qt2 qt3 qt4 cI (o.2))) (o.1)) rfl (by decide) rfl rfl (Nat.le_of_ble_eq_true rfl) ?_
  intro p e s m args below meth c A C0 hA hP hD hS ls hl
  obtain ⟨hx, hb, hr, hml, hown, hts, hlocks, hK⟩ := id C0
  have hl : lv_has ls 4 [(0, .ref zl), (1, .ref zt), (2, .int x2)] := hl
  have hP : va_P D vwCl [(zl, .inr (1, [.ref ql0, .int (SL 1 0)])), (ql0, .inl (cI, 80, .inl (SL 0))), (zt, .inr (2, [.ref qt0, .ref qt1, .ref qt2, .ref qt3, .ref qt4, .int (ST 5 0), .int (ST 6 0)])), (qt0, .inl (cI, 8, .inl (ST 0))), (qt1, .inl (cI, 8, .inl (ST 1))), (qt2, .inl (cI, 8, .inl (ST 2))), (qt3, .inl (cI, 8, .inl (ST 3))), (qt4, .inl (cI, 8, .inl (ST 4)))] s.heap := hP
  have hD : va_D A [(zl, .inr (1, [.ref ql0, .int (SL 1 0)])), (ql0, .inl (cI, 80, .inl (SL 0))), (zt, .inr (2, [.ref qt0, .ref qt1, .ref qt2, .ref qt3, .ref qt4, .int (ST 5 0), .int (ST 6 0)])), (qt0, .inl (cI, 8, .inl (ST 0))), (qt1, .inl (cI, 8, .inl (ST 1))), (qt2, .inl (cI, 8, .inl (ST 2))), (qt3, .inl (cI, 8, .inl (ST 3))), (qt4, .inl (cI, 8, .inl (ST 4)))] := hD
  refine lv_aload_n hx hb dX2_playWish_0 rfl (lv_at hl 0 rfl) ?_
  refine lv_iload_n hx hb dX2_playWish_1 rfl (lv_at hl 2 rfl) ?_
  refine lv_iconst (v := (1 : Int32)) hx hb dX2_playWish_2 (by decide) ?_
  refine lv_iadd hx hb dX2_playWish_3 ?_
  obtain ⟨o_1, h_1, hf⟩ := bd_some hf
  refine s_callVI (wc := (wL zl ql0 cI SL)) (wr := [(zt, .inr (2, [.ref qt0, .ref qt1, .ref qt2, .ref qt3, .ref qt4, .int (ST 5 0), .int (ST 6 0)])), (qt0, .inl (cI, 8, .inl (ST 0))), (qt1, .inl (cI, 8, .inl (ST 1))), (qt2, .inl (cI, 8, .inl (ST 2))), (qt3, .inl (cI, 8, .inl (ST 3))), (qt4, .inl (cI, 8, .inl (ST 4)))]) (wc' := (wL zl ql0 cI SL)) (w' := [(zl, .inr (1, [.ref ql0, .int (SL 1 0)])), (ql0, .inl (cI, 80, .inl (SL 0))), (zt, .inr (2, [.ref qt0, .ref qt1, .ref qt2, .ref qt3, .ref qt4, .int (ST 5 0), .int (ST 6 0)])), (qt0, .inl (cI, 8, .inl (ST 0))), (qt1, .inl (cI, 8, .inl (ST 1))), (qt2, .inl (cI, 8, .inl (ST 2))), (qt3, .inl (cI, 8, .inl (ST 3))), (qt4, .inl (cI, 8, .inl (ST 4)))]) (isC := [0, 1]) (isR := [2, 3, 4, 5, 6, 7]) (perm := [6, 7, 0, 1, 2, 3, 4, 5]) (As := [.int (x2 + (1 : Int32))]) (rest := []) (ci := 1) (q := (RX2, TX2, 2)) ⟨hx, hb, hml, hown, hts⟩ (c_X2_digitAt l D cI cJ fu zl ql0 SL (x2 + (1 : Int32)) o_1 h_1) (cwV 1 hts gX2_playWish_X2_digitAt rfl rfl rfl (by decide +kernel) ⟨Nat.le_of_ble_eq_true rfl, Nat.le_of_ble_eq_true rfl⟩) hK hP hD hS hA ⟨rfl, rfl, by decide, by decide, by decide, by decide, rfl⟩ rfl rfl rfl rfl hl.1 rfl (Nat.le_of_ble_eq_true rfl) dX2_playWish_4 (fun H locs hP hD hS => ?_)
  refine lv_istore_n (lv' := [(3, .int o_1), (0, .ref zl), (1, .ref zt), (2, .int x2)]) hx hb dX2_playWish_7 rfl hl (by decide) rfl (fun ls hl => ?_)
  refine lv_aload_n hx hb dX2_playWish_8 rfl (lv_at hl 2 rfl) ?_
  refine lv_iload_n hx hb dX2_playWish_9 rfl (lv_at hl 0 rfl) ?_
  obtain ⟨o_2, h_2, hf⟩ := bd_some hf
  refine s_callVI (wc := (wT zt qt0 qt1 qt2 qt3 qt4 cI ST)) (wr := [(zl, .inr (1, [.ref ql0, .int (SL 1 0)])), (ql0, .inl (cI, 80, .inl (SL 0)))]) (wc' := (wT zt qt0 qt1 qt2 qt3 qt4 cI ST)) (w' := [(zl, .inr (1, [.ref ql0, .int (SL 1 0)])), (ql0, .inl (cI, 80, .inl (SL 0))), (zt, .inr (2, [.ref qt0, .ref qt1, .ref qt2, .ref qt3, .ref qt4, .int (ST 5 0), .int (ST 6 0)])), (qt0, .inl (cI, 8, .inl (ST 0))), (qt1, .inl (cI, 8, .inl (ST 1))), (qt2, .inl (cI, 8, .inl (ST 2))), (qt3, .inl (cI, 8, .inl (ST 3))), (qt4, .inl (cI, 8, .inl (ST 4)))]) (isC := [2, 3, 4, 5, 6, 7]) (isR := [0, 1]) (perm := [0, 1, 2, 3, 4, 5, 6, 7]) (As := [.int o_1]) (rest := []) (ci := 2) (q := (RX3, TX3, 7)) ⟨hx, hb, hml, hown, hts⟩ (c_X3_isAlive l D cI cJ fu zt qt0 qt1 qt2 qt3 qt4 ST o_1 o_2 h_2) (cwV 1 hts gX2_playWish_X3_isAlive rfl rfl rfl (by decide +kernel) ⟨Nat.le_of_ble_eq_true rfl, Nat.le_of_ble_eq_true rfl⟩) hK hP hD hS hA ⟨rfl, rfl, by decide, by decide, by decide, by decide, rfl⟩ rfl rfl rfl rfl hl.1 rfl (Nat.le_of_ble_eq_true rfl) dX2_playWish_10 (fun H locs hP hD hS => ?_)
  refine lv_if_ne (tgt := 18) hx hb dX2_playWish_13 (by decide) (fun c_3 => ?_) (fun c_3 => ?_)
  · have hf := itF c_3 hf
    refine lv_aload_n hx hb dX2_playWish_18 rfl (lv_at hl 2 rfl) ?_
    refine va_get (D := D) (ci := 2) (v := .ref qt4) (C := RX3) (T := TX3) (N := 7) hx hb hts i_X2_playWish_X3 hown hK hP 2 rfl rfl 4 (by decide) (hts _ q_X2_playWish_1) (fun _ h9 => h9) rfl dX2_playWish_19 ?_
    refine lv_iload_n hx hb dX2_playWish_22 rfl (lv_at hl 0 rfl) ?_
    refine lv_aload_n hx hb dX2_playWish_23 rfl (lv_at hl 1 rfl) ?_
    refine lv_iload_n hx hb dX2_playWish_24 rfl (lv_at hl 3 rfl) ?_
    refine lv_iconst (v := (2 : Int32)) hx hb dX2_playWish_25 (by decide) ?_
    refine lv_iadd hx hb dX2_playWish_26 ?_
    obtain ⟨o_4, h_4, hf⟩ := bd_some hf
    refine s_callVI (wc := (wL zl ql0 cI SL)) (wr := [(zt, .inr (2, [.ref qt0, .ref qt1, .ref qt2, .ref qt3, .ref qt4, .int (ST 5 0), .int (ST 6 0)])), (qt0, .inl (cI, 8, .inl (ST 0))), (qt1, .inl (cI, 8, .inl (ST 1))), (qt2, .inl (cI, 8, .inl (ST 2))), (qt3, .inl (cI, 8, .inl (ST 3))), (qt4, .inl (cI, 8, .inl (ST 4)))]) (wc' := (wL zl ql0 cI SL)) (w' := [(zl, .inr (1, [.ref ql0, .int (SL 1 0)])), (ql0, .inl (cI, 80, .inl (SL 0))), (zt, .inr (2, [.ref qt0, .ref qt1, .ref qt2, .ref qt3, .ref qt4, .int (ST 5 0), .int (ST 6 0)])), (qt0, .inl (cI, 8, .inl (ST 0))), (qt1, .inl (cI, 8, .inl (ST 1))), (qt2, .inl (cI, 8, .inl (ST 2))), (qt3, .inl (cI, 8, .inl (ST 3))), (qt4, .inl (cI, 8, .inl (ST 4)))]) (isC := [0, 1]) (isR := [2, 3, 4, 5, 6, 7]) (perm := [6, 7, 0, 1, 2, 3, 4, 5]) (As := [.int (x2 + (2 : Int32))]) (rest := [.int o_1, .ref qt4]) (ci := 1) (q := (RX2, TX2, 2)) ⟨hx, hb, hml, hown, hts⟩ (c_X2_digitAt l D cI cJ fu zl ql0 SL (x2 + (2 : Int32)) o_4 h_4) (cwV 1 hts gX2_playWish_X2_digitAt rfl rfl rfl (by decide +kernel) ⟨Nat.le_of_ble_eq_true rfl, Nat.le_of_ble_eq_true rfl⟩) hK hP hD hS hA ⟨rfl, rfl, by decide, by decide, by decide, by decide, rfl⟩ rfl rfl rfl rfl hl.1 rfl (Nat.le_of_ble_eq_true rfl) dX2_playWish_27 (fun H locs hP hD hS => ?_)
    obtain ⟨g_5, hf⟩ := gd_some hf
    refine va_iast hx hb hK hP hD hS 7 0 rfl rfl g_5 dX2_playWish_30 (fun H locs hP hD hS => ?_)
    have hP : va_P D vwCl [(zl, .inr (1, [.ref ql0, .int (SL 1 0)])), (ql0, .inl (cI, 80, .inl (SL 0))), (zt, .inr (2, [.ref qt0, .ref qt1, .ref qt2, .ref qt3, .ref qt4, .int (ST 5 0), .int (ST 6 0)])), (qt0, .inl (cI, 8, .inl (ST 0))), (qt1, .inl (cI, 8, .inl (ST 1))), (qt2, .inl (cI, 8, .inl (ST 2))), (qt3, .inl (cI, 8, .inl (ST 3))), (qt4, .inl (cI, 8, .inl (upd (ST 4) o_1.toNatClampNeg o_4)))] H := hP
    have hD : va_D A [(zl, .inr (1, [.ref ql0, .int (SL 1 0)])), (ql0, .inl (cI, 80, .inl (SL 0))), (zt, .inr (2, [.ref qt0, .ref qt1, .ref qt2, .ref qt3, .ref qt4, .int (ST 5 0), .int (ST 6 0)])), (qt0, .inl (cI, 8, .inl (ST 0))), (qt1, .inl (cI, 8, .inl (ST 1))), (qt2, .inl (cI, 8, .inl (ST 2))), (qt3, .inl (cI, 8, .inl (ST 3))), (qt4, .inl (cI, 8, .inl (upd (ST 4) o_1.toNatClampNeg o_4)))] := hD
    refine lv_iconst (v := (1 : Int32)) hx hb dX2_playWish_31 (by decide) ?_
    obtain rfl := Option.some.inj hf
    exact s_zret (r := (1 : Int32)) hx hb hr hlocks hK hP hD hS rfl dX2_playWish_32
  · have hf := itT c_3 hf
    refine lv_iconst (v := (0 : Int32)) hx hb dX2_playWish_16 (by decide) ?_
    obtain rfl := Option.some.inj hf
    exact s_zret (r := (0 : Int32)) hx hb hr hlocks hK hP hD hS rfl dX2_playWish_17
theorem q_X2_playYear_1 : (Cond.fieldLink RX2 78 "UpWhenDies$Tower" "yearNow" "I" : Cond) ∈ wsX2_playYear := List.mem_of_getElem? (i := 1) rfl
theorem i_X2_playYear_X3 : ∀ w ∈ wsX30, w ∈ wsX2_playYear := fun _ h => (List.mem_cons_of_mem _ (List.mem_append_left _ (List.mem_append_right _ h)))
abbrev rm_X2_playYear : Room := { frames := 3, cells := 0, slots := 0, locals := 71 }
set_option maxHeartbeats 4000000 in
set_option maxRecDepth 100000 in
theorem t_X2_playYear_58 {p : Program} {l : Launch} {e : Env} {s : State} {m : MethodId} {args : Array Value} {below : List Frame} {meth : Method} {c : Code} {D : va_G} {cI cJ : ClassId} {A : Nat → Prop} {fu : Nat} {zl ql0 zt qt0 qt1 qt2 qt3 qt4 : Nat} {SL : S32} {o : Int32 × S32} (C0 : Cx RX2 wsX2_playYear cX2_playYear 7 (some .boolean) D vwCl (tyS cI cJ) p s m args meth c) (hA : ∀ q : Nat, s.heap.size ≤ q → A q) : ∀ (x4 : Int32) (ST : S32), f_X2_playYear_58 fu  SL x4 ST = some o → ∀ (H : Heap) (locs : List Loc), va_P D vwCl ((wL zl ql0 cI SL) ++ (wT zt qt0 qt1 qt2 qt3 qt4 cI ST)) H → va_D A ((wL zl ql0 cI SL) ++ (wT zt qt0 qt1 qt2 qt3 qt4 cI ST)) → va_S A s.heap H locs → ∀ (ls : Array Slot), lv_has ls 7 [(1, .ref zt), (4, .int x4)] → W p l e rm_X2_playYear s m args below meth c H locs 0 0 (MQ below (sZi D vwCl (tyS cI cJ) A ((wL zl ql0 cI SL) ++ (wT zt qt0 qt1 qt2 qt3 qt4 cI (o.2))) (o.1)) args s 0 0 A) (F0 m 58 ls []) := by
  obtain ⟨hx, hb, hr, hml, hown, hts, hlocks, hK⟩ := id C0
  intro x4 ST hf H locs hP hD hS ls hl
  have hP : va_P D vwCl [(zl, .inr (1, [.ref ql0, .int (SL 1 0)])), (ql0, .inl (cI, 80, .inl (SL 0))), (zt, .inr (2, [.ref qt0, .ref qt1, .ref qt2, .ref qt3, .ref qt4, .int (ST 5 0), .int (ST 6 0)])), (qt0, .inl (cI, 8, .inl (ST 0))), (qt1, .inl (cI, 8, .inl (ST 1))), (qt2, .inl (cI, 8, .inl (ST 2))), (qt3, .inl (cI, 8, .inl (ST 3))), (qt4, .inl (cI, 8, .inl (ST 4)))] H := hP
  have hD : va_D A [(zl, .inr (1, [.ref ql0, .int (SL 1 0)])), (ql0, .inl (cI, 80, .inl (SL 0))), (zt, .inr (2, [.ref qt0, .ref qt1, .ref qt2, .ref qt3, .ref qt4, .int (ST 5 0), .int (ST 6 0)])), (qt0, .inl (cI, 8, .inl (ST 0))), (qt1, .inl (cI, 8, .inl (ST 1))), (qt2, .inl (cI, 8, .inl (ST 2))), (qt3, .inl (cI, 8, .inl (ST 3))), (qt4, .inl (cI, 8, .inl (ST 4)))] := hD
  refine lv_aload_n hx hb dX2_playYear_58 rfl (lv_at hl 0 rfl) ?_
  refine va_get (D := D) (ci := 2) (v := .int (ST 6 0)) (C := RX3) (T := TX3) (N := 7) hx hb hts i_X2_playYear_X3 hown hK hP 2 rfl rfl 6 (by decide) (hts _ q_X2_playYear_1) (fun _ h9 => h9) rfl dX2_playYear_59 ?_
  refine lv_bipush (v := (99 : Int32)) hx hb dX2_playYear_62 (by decide) ?_
  refine lv_icmp_lt (tgt := 69) hx hb dX2_playYear_64 (by decide) (fun c_1 => ?_) (fun c_1 => ?_)
  · have hf := itT c_1 hf
    refine lv_aload_n hx hb dX2_playYear_69 rfl (lv_at hl 0 rfl) ?_
    refine lv_iload hx hb dX2_playYear_70 (lv_at hl 1 rfl) ?_
    obtain ⟨o_2, h_2, hf⟩ := bd_some hf
    refine s_callVI (wc := (wT zt qt0 qt1 qt2 qt3 qt4 cI ST)) (wr := [(zl, .inr (1, [.ref ql0, .int (SL 1 0)])), (ql0, .inl (cI, 80, .inl (SL 0)))]) (wc' := (wT zt qt0 qt1 qt2 qt3 qt4 cI (o_2.2))) (w' := [(zl, .inr (1, [.ref ql0, .int (SL 1 0)])), (ql0, .inl (cI, 80, .inl (SL 0))), (zt, .inr (2, [.ref qt0, .ref qt1, .ref qt2, .ref qt3, .ref qt4, .int ((o_2.2) 5 0), .int ((o_2.2) 6 0)])), (qt0, .inl (cI, 8, .inl ((o_2.2) 0))), (qt1, .inl (cI, 8, .inl ((o_2.2) 1))), (qt2, .inl (cI, 8, .inl ((o_2.2) 2))), (qt3, .inl (cI, 8, .inl ((o_2.2) 3))), (qt4, .inl (cI, 8, .inl ((o_2.2) 4)))]) (isC := [2, 3, 4, 5, 6, 7]) (isR := [0, 1]) (perm := [0, 1, 2, 3, 4, 5, 6, 7]) (As := [.int x4]) (rest := []) (ci := 2) (q := (RX3, TX3, 7)) ⟨hx, hb, hml, hown, hts⟩ (c_X3_passYear l D cI cJ fu zt qt0 qt1 qt2 qt3 qt4 ST x4 o_2 h_2) (cwV 1 hts gX2_playYear_X3_passYear rfl rfl rfl (by decide +kernel) ⟨Nat.le_of_ble_eq_true rfl, Nat.le_of_ble_eq_true rfl⟩) hK hP hD hS hA ⟨rfl, rfl, by decide, by decide, by decide, by decide, rfl⟩ rfl rfl rfl rfl hl.1 rfl (Nat.le_of_ble_eq_true rfl) dX2_playYear_72 (fun H locs hP hD hS => ?_)
    refine lv_pop hx hb dX2_playYear_75 rfl ?_
    refine lv_iconst (v := (1 : Int32)) hx hb dX2_playYear_76 (by decide) ?_
    obtain rfl := Option.some.inj hf
    exact s_zret (r := (1 : Int32)) hx hb hr hlocks hK hP hD hS rfl dX2_playYear_77
  · have hf := itF c_1 hf
    refine lv_iconst (v := (0 : Int32)) hx hb dX2_playYear_67 (by decide) ?_
    obtain rfl := Option.some.inj hf
    exact s_zret (r := (0 : Int32)) hx hb hr hlocks hK hP hD hS rfl dX2_playYear_68
set_option maxHeartbeats 4000000 in
set_option maxRecDepth 100000 in
theorem ts_X2_playYear_8 {p : Program} {l : Launch} {e : Env} {s : State} {m : MethodId} {args : Array Value} {below : List Frame} {meth : Method} {c : Code} {D : va_G} {cI cJ : ClassId} {A : Nat → Prop} {fu : Nat} {zl ql0 zt qt0 qt1 qt2 qt3 qt4 : Nat} {SL : S32} {o : Int32 × S32} (C0 : Cx RX2 wsX2_playYear cX2_playYear 7 (some .boolean) D vwCl (tyS cI cJ) p s m args meth c) (hA : ∀ q : Nat, s.heap.size ≤ q → A q) {k8 : Int32 → Int32 → Int32 → S32 → Option (Int32 × S32)} (K8 : ∀ (x3 : Int32) (x4 : Int32) (x5 : Int32) (ST : S32), k8 x3 x4 x5 ST = some o → ∀ (H : Heap) (locs : List Loc), va_P D vwCl ((wL zl ql0 cI SL) ++ (wT zt qt0 qt1 qt2 qt3 qt4 cI ST)) H → va_D A ((wL zl ql0 cI SL) ++ (wT zt qt0 qt1 qt2 qt3 qt4 cI ST)) → va_S A s.heap H locs → ∀ (ls : Array Slot), lv_has ls 7 [(0, .ref zl), (1, .ref zt), (3, .int x3), (4, .int x4), (5, .int x5)] → W p l e rm_X2_playYear s m args below meth c H locs 0 0 (MQ below (sZi D vwCl (tyS cI cJ) A ((wL zl ql0 cI SL) ++ (wT zt qt0 qt1 qt2 qt3 qt4 cI (o.2))) (o.1)) args s 0 0 A) (F0 m 8 ls [])) : ∀ (x3 : Int32) (x4 : Int32) (x5 : Int32) (ST : S32), s_X2_playYear_8 fu  k8 SL x3 x4 x5 ST = some o → ∀ (H : Heap) (locs : List Loc), va_P D vwCl ((wL zl ql0 cI SL) ++ (wT zt qt0 qt1 qt2 qt3 qt4 cI ST)) H → va_D A ((wL zl ql0 cI SL) ++ (wT zt qt0 qt1 qt2 qt3 qt4 cI ST)) → va_S A s.heap H locs → ∀ (ls : Array Slot), lv_has ls 7 [(0, .ref zl), (1, .ref zt), (3, .int x3), (4, .int x4), (5, .int x5)] → W p l e rm_X2_playYear s m args below meth c H locs 0 0 (MQ below (sZi D vwCl (tyS cI cJ) A ((wL zl ql0 cI SL) ++ (wT zt qt0 qt1 qt2 qt3 qt4 cI (o.2))) (o.1)) args s 0 0 A) (F0 m 8 ls []) := by
  obtain ⟨hx, hb, hr, hml, hown, hts, hlocks, hK⟩ := id C0
  intro x3 x4 x5 ST hf H locs hP hD hS ls hl
  have hP : va_P D vwCl [(zl, .inr (1, [.ref ql0, .int (SL 1 0)])), (ql0, .inl (cI, 80, .inl (SL 0))), (zt, .inr (2, [.ref qt0, .ref qt1, .ref qt2, .ref qt3, .ref qt4, .int (ST 5 0), .int (ST 6 0)])), (qt0, .inl (cI, 8, .inl (ST 0))), (qt1, .inl (cI, 8, .inl (ST 1))), (qt2, .inl (cI, 8, .inl (ST 2))), (qt3, .inl (cI, 8, .inl (ST 3))), (qt4, .inl (cI, 8, .inl (ST 4)))] H := hP
  have hD : va_D A [(zl, .inr (1, [.ref ql0, .int (SL 1 0)])), (ql0, .inl (cI, 80, .inl (SL 0))), (zt, .inr (2, [.ref qt0, .ref qt1, .ref qt2, .ref qt3, .ref qt4, .int (ST 5 0), .int (ST 6 0)])), (qt0, .inl (cI, 8, .inl (ST 0))), (qt1, .inl (cI, 8, .inl (ST 1))), (qt2, .inl (cI, 8, .inl (ST 2))), (qt3, .inl (cI, 8, .inl (ST 3))), (qt4, .inl (cI, 8, .inl (ST 4)))] := hD
  refine lv_iload hx hb dX2_playYear_8 (lv_at hl 4 rfl) ?_
  refine lv_iload_n hx hb dX2_playYear_10 rfl (lv_at hl 2 rfl) ?_
  refine lv_icmp_ge (tgt := 58) hx hb dX2_playYear_11 (by decide) (fun c_1 => ?_) (fun c_1 => ?_)
  · have hf := itT c_1 hf
    exact t_X2_playYear_58 (fu := fu) C0 hA  _ _ hf _ _ hP hD hS _ (lv_sub hl [1, 3] rfl)
  · have hf := itF c_1 hf
    refine lv_aload_n hx hb dX2_playYear_14 rfl (lv_at hl 0 rfl) ?_
    refine lv_iload hx hb dX2_playYear_15 (lv_at hl 4 rfl) ?_
    obtain ⟨o_2, h_2, hf⟩ := bd_some hf
    refine s_callVI (wc := (wL zl ql0 cI SL)) (wr := [(zt, .inr (2, [.ref qt0, .ref qt1, .ref qt2, .ref qt3, .ref qt4, .int (ST 5 0), .int (ST 6 0)])), (qt0, .inl (cI, 8, .inl (ST 0))), (qt1, .inl (cI, 8, .inl (ST 1))), (qt2, .inl (cI, 8, .inl (ST 2))), (qt3, .inl (cI, 8, .inl (ST 3))), (qt4, .inl (cI, 8, .inl (ST 4)))]) (wc' := (wL zl ql0 cI SL)) (w' := [(zl, .inr (1, [.ref ql0, .int (SL 1 0)])), (ql0, .inl (cI, 80, .inl (SL 0))), (zt, .inr (2, [.ref qt0, .ref qt1, .ref qt2, .ref qt3, .ref qt4, .int (ST 5 0), .int (ST 6 0)])), (qt0, .inl (cI, 8, .inl (ST 0))), (qt1, .inl (cI, 8, .inl (ST 1))), (qt2, .inl (cI, 8, .inl (ST 2))), (qt3, .inl (cI, 8, .inl (ST 3))), (qt4, .inl (cI, 8, .inl (ST 4)))]) (isC := [0, 1]) (isR := [2, 3, 4, 5, 6, 7]) (perm := [6, 7, 0, 1, 2, 3, 4, 5]) (As := [.int x5]) (rest := []) (ci := 1) (q := (RX2, TX2, 2)) ⟨hx, hb, hml, hown, hts⟩ (c_X2_digitAt l D cI cJ fu zl ql0 SL x5 o_2 h_2) (cwV 1 hts gX2_playYear_X2_digitAt rfl rfl rfl (by decide +kernel) ⟨Nat.le_of_ble_eq_true rfl, Nat.le_of_ble_eq_true rfl⟩) hK hP hD hS hA ⟨rfl, rfl, by decide, by decide, by decide, by decide, rfl⟩ rfl rfl rfl rfl hl.1 rfl (Nat.le_of_ble_eq_true rfl) dX2_playYear_17 (fun H locs hP hD hS => ?_)
    refine lv_istore (lv' := [(6, .int o_2), (0, .ref zl), (1, .ref zt), (3, .int x3), (4, .int x4), (5, .int x5)]) hx hb dX2_playYear_20 hl (by decide) rfl (fun ls hl => ?_)
    refine lv_aload_n hx hb dX2_playYear_22 rfl (lv_at hl 2 rfl) ?_
    refine lv_iload hx hb dX2_playYear_23 (lv_at hl 0 rfl) ?_
    obtain ⟨o_3, h_3, hf⟩ := bd_some hf
    refine s_callVI (wc := (wT zt qt0 qt1 qt2 qt3 qt4 cI ST)) (wr := [(zl, .inr (1, [.ref ql0, .int (SL 1 0)])), (ql0, .inl (cI, 80, .inl (SL 0)))]) (wc' := (wT zt qt0 qt1 qt2 qt3 qt4 cI ST)) (w' := [(zl, .inr (1, [.ref ql0, .int (SL 1 0)])), (ql0, .inl (cI, 80, .inl (SL 0))), (zt, .inr (2, [.ref qt0, .ref qt1, .ref qt2, .ref qt3, .ref qt4, .int (ST 5 0), .int (ST 6 0)])), (qt0, .inl (cI, 8, .inl (ST 0))), (qt1, .inl (cI, 8, .inl (ST 1))), (qt2, .inl (cI, 8, .inl (ST 2))), (qt3, .inl (cI, 8, .inl (ST 3))), (qt4, .inl (cI, 8, .inl (ST 4)))]) (isC := [2, 3, 4, 5, 6, 7]) (isR := [0, 1]) (perm := [0, 1, 2, 3, 4, 5, 6, 7]) (As := [.int o_2]) (rest := []) (ci := 2) (q := (RX3, TX3, 7)) ⟨hx, hb, hml, hown, hts⟩ (c_X3_isAlive l D cI cJ fu zt qt0 qt1 qt2 qt3 qt4 ST o_2 o_3 h_3) (cwV 1 hts gX2_playYear_X3_isAlive rfl rfl rfl (by decide +kernel) ⟨Nat.le_of_ble_eq_true rfl, Nat.le_of_ble_eq_true rfl⟩) hK hP hD hS hA ⟨rfl, rfl, by decide, by decide, by decide, by decide, rfl⟩ rfl rfl rfl rfl hl.1 rfl (Nat.le_of_ble_eq_true rfl) dX2_playYear_25 (fun H locs hP hD hS => ?_)
    refine lv_if_eq (tgt := 41) hx hb dX2_playYear_28 (by decide) (fun c_4 => ?_) (fun c_4 => ?_)
    · have hf := itT c_4 hf
      refine lv_iconst (v := (0 : Int32)) hx hb dX2_playYear_41 (by decide) ?_
      obtain rfl := Option.some.inj hf
      exact s_zret (r := (0 : Int32)) hx hb hr hlocks hK hP hD hS rfl dX2_playYear_42
    · have hf := itF c_4 hf
      refine lv_iload hx hb dX2_playYear_31 (lv_at hl 4 rfl) ?_
      refine lv_iload hx hb dX2_playYear_33 (lv_at hl 0 rfl) ?_
      obtain ⟨o_5, h_5, hf⟩ := bd_some hf
      refine s_callSI (wc := []) (wr := [(zl, .inr (1, [.ref ql0, .int (SL 1 0)])), (ql0, .inl (cI, 80, .inl (SL 0))), (zt, .inr (2, [.ref qt0, .ref qt1, .ref qt2, .ref qt3, .ref qt4, .int (ST 5 0), .int (ST 6 0)])), (qt0, .inl (cI, 8, .inl (ST 0))), (qt1, .inl (cI, 8, .inl (ST 1))), (qt2, .inl (cI, 8, .inl (ST 2))), (qt3, .inl (cI, 8, .inl (ST 3))), (qt4, .inl (cI, 8, .inl (ST 4)))]) (wc' := []) (w' := [(zl, .inr (1, [.ref ql0, .int (SL 1 0)])), (ql0, .inl (cI, 80, .inl (SL 0))), (zt, .inr (2, [.ref qt0, .ref qt1, .ref qt2, .ref qt3, .ref qt4, .int (ST 5 0), .int (ST 6 0)])), (qt0, .inl (cI, 8, .inl (ST 0))), (qt1, .inl (cI, 8, .inl (ST 1))), (qt2, .inl (cI, 8, .inl (ST 2))), (qt3, .inl (cI, 8, .inl (ST 3))), (qt4, .inl (cI, 8, .inl (ST 4)))]) (isC := []) (isR := [0, 1, 2, 3, 4, 5, 6, 7]) (perm := [0, 1, 2, 3, 4, 5, 6, 7]) (As := [.int x4, .int o_2]) (rest := []) ⟨hx, hb, hml, hown, hts⟩ (c_X3_holds l D cI cJ fu x4 o_2 o_5 h_5) (va_cwS 2 hts gX2_playYear_X3_holds rfl rfl rfl (by decide +kernel) ⟨Nat.le_of_ble_eq_true rfl, Nat.le_of_ble_eq_true rfl⟩) hK hP hD hS hA ⟨rfl, rfl, by decide, by decide, by decide, by decide, rfl⟩ rfl hl.1 rfl (Nat.le_of_ble_eq_true rfl) dX2_playYear_35 (fun H locs hP hD hS => ?_)
      refine lv_if_eq (tgt := 43) hx hb dX2_playYear_38 (by decide) (fun c_6 => ?_) (fun c_6 => ?_)
      · have hf := itT c_6 hf
        refine lv_iload hx hb dX2_playYear_43 (lv_at hl 4 rfl) ?_
        refine lv_iconst (v := (1 : Int32)) hx hb dX2_playYear_45 (by decide) ?_
        refine lv_iload hx hb dX2_playYear_46 (lv_at hl 0 rfl) ?_
        refine lv_ishl hx hb dX2_playYear_48 ?_
        refine lv_ior hx hb dX2_playYear_49 ?_
        refine lv_istore (lv' := [(4, .int (x4 ||| ((1 : Int32) <<< (o_2 &&& 31)))), (6, .int o_2), (0, .ref zl), (1, .ref zt), (3, .int x3), (5, .int x5)]) hx hb dX2_playYear_50 hl (by decide) rfl (fun ls hl => ?_)
        refine lv_iinc (v := (x5 + (1 : Int32))) (lv' := [(5, .int (x5 + (1 : Int32))), (4, .int (x4 ||| ((1 : Int32) <<< (o_2 &&& 31)))), (6, .int o_2), (0, .ref zl), (1, .ref zt), (3, .int x3)]) hx hb dX2_playYear_52 hl (k := 5) rfl rfl (by decide) rfl (fun ls hl => ?_)
        refine lv_goto (tgt := 8) hx hb dX2_playYear_55 (by decide) ?_
        exact K8 _ _ _ _ hf _ _ hP hD hS _ (lv_sub hl [3, 4, 5, 1, 0] rfl)
      · have hf := itF c_6 hf
        refine lv_iconst (v := (0 : Int32)) hx hb dX2_playYear_41 (by decide) ?_
        obtain rfl := Option.some.inj hf
        exact s_zret (r := (0 : Int32)) hx hb hr hlocks hK hP hD hS rfl dX2_playYear_42
theorem t_X2_playYear_8 {p : Program} {l : Launch} {e : Env} {s : State} {m : MethodId} {args : Array Value} {below : List Frame} {meth : Method} {c : Code} {D : va_G} {cI cJ : ClassId} {A : Nat → Prop} {fu : Nat} {zl ql0 zt qt0 qt1 qt2 qt3 qt4 : Nat} {SL : S32} {o : Int32 × S32} (C0 : Cx RX2 wsX2_playYear cX2_playYear 7 (some .boolean) D vwCl (tyS cI cJ) p s m args meth c) (hA : ∀ q : Nat, s.heap.size ≤ q → A q) : ∀ (n : Nat) (x3 : Int32) (x4 : Int32) (x5 : Int32) (ST : S32), f_X2_playYear_8 fu  SL n x3 x4 x5 ST = some o → ∀ (H : Heap) (locs : List Loc), va_P D vwCl ((wL zl ql0 cI SL) ++ (wT zt qt0 qt1 qt2 qt3 qt4 cI ST)) H → va_D A ((wL zl ql0 cI SL) ++ (wT zt qt0 qt1 qt2 qt3 qt4 cI ST)) → va_S A s.heap H locs → ∀ (ls : Array Slot), lv_has ls 7 [(0, .ref zl), (1, .ref zt), (3, .int x3), (4, .int x4), (5, .int x5)] → W p l e rm_X2_playYear s m args below meth c H locs 0 0 (MQ below (sZi D vwCl (tyS cI cJ) A ((wL zl ql0 cI SL) ++ (wT zt qt0 qt1 qt2 qt3 qt4 cI (o.2))) (o.1)) args s 0 0 A) (F0 m 8 ls []) := by
  intro n
  induction n with
  | zero =>
    intro x3 x4 x5 ST hf
    have hf : (none : Option (Int32 × S32)) = some o := hf
    cases hf
  | succ n ih => exact ts_X2_playYear_8 (fu := fu) (k8 := f_X2_playYear_8 fu  SL n) C0 hA  ih
set_option maxHeartbeats 4000000 in
set_option maxRecDepth 100000 in
theorem c_X2_playYear (l : Launch) (D : va_G) (cI cJ : ClassId) (fu : Nat) (zl ql0 zt qt0 qt1 qt2 qt3 qt4 : Nat) (SL : S32) (ST : S32) (x2 : Int32) (x3 : Int32) (o : Int32 × S32) (hf : f_X2_playYear fu SL ST x2 x3 = some o) : MI l yX2_playYear wsX2_playYear rm_X2_playYear D vwCl (tyS cI cJ) [.ref zl, .ref zt, .int x2, .int x3] ((wL zl ql0 cI SL) ++ (wT zt qt0 qt1 qt2 qt3 qt4 cI ST)) ((wL zl ql0 cI SL) ++ (wT zt qt0 qt1 qt2 qt3 qt4 cI (o.2))) (o.1) := by
  intro sz
  refine s_entry (own := RX2) (cc := cX2_playYear) (maxL := 7) (ret := (some .boolean)) (Qc := fun A => sZi D vwCl (tyS cI cJ) A ((wL zl ql0 cI SL) ++ (wT zt qt0 qt1 qt2 qt3 qt4 cI (o.2))) (o.1)) rfl (by decide) rfl rfl (Nat.le_of_ble_eq_true rfl) ?_
  intro p e s m args below meth c A C0 hA hP hD hS ls hl
  obtain ⟨hx, hb, hr, hml, hown, hts, hlocks, hK⟩ := id C0
  have hl : lv_has ls 7 [(0, .ref zl), (1, .ref zt), (2, .int x2), (3, .int x3)] := hl
  have hP : va_P D vwCl [(zl, .inr (1, [.ref ql0, .int (SL 1 0)])), (ql0, .inl (cI, 80, .inl (SL 0))), (zt, .inr (2, [.ref qt0, .ref qt1, .ref qt2, .ref qt3, .ref qt4, .int (ST 5 0), .int (ST 6 0)])), (qt0, .inl (cI, 8, .inl (ST 0))), (qt1, .inl (cI, 8, .inl (ST 1))), (qt2, .inl (cI, 8, .inl (ST 2))), (qt3, .inl (cI, 8, .inl (ST 3))), (qt4, .inl (cI, 8, .inl (ST 4)))] s.heap := hP
  have hD : va_D A [(zl, .inr (1, [.ref ql0, .int (SL 1 0)])), (ql0, .inl (cI, 80, .inl (SL 0))), (zt, .inr (2, [.ref qt0, .ref qt1, .ref qt2, .ref qt3, .ref qt4, .int (ST 5 0), .int (ST 6 0)])), (qt0, .inl (cI, 8, .inl (ST 0))), (qt1, .inl (cI, 8, .inl (ST 1))), (qt2, .inl (cI, 8, .inl (ST 2))), (qt3, .inl (cI, 8, .inl (ST 3))), (qt4, .inl (cI, 8, .inl (ST 4)))] := hD
  refine lv_iconst (v := (0 : Int32)) hx hb dX2_playYear_0 (by decide) ?_
  refine lv_istore (lv' := [(4, .int (0 : Int32)), (0, .ref zl), (1, .ref zt), (2, .int x2), (3, .int x3)]) hx hb dX2_playYear_1 hl (by decide) rfl (fun ls hl => ?_)
  refine lv_iload_n hx hb dX2_playYear_3 rfl (lv_at hl 3 rfl) ?_
  refine lv_iconst (v := (1 : Int32)) hx hb dX2_playYear_4 (by decide) ?_
  refine lv_iadd hx hb dX2_playYear_5 ?_
  refine lv_istore (lv' := [(5, .int (x2 + (1 : Int32))), (4, .int (0 : Int32)), (0, .ref zl), (1, .ref zt), (2, .int x2), (3, .int x3)]) hx hb dX2_playYear_6 hl (by decide) rfl (fun ls hl => ?_)
  exact t_X2_playYear_8 (fu := fu) C0 hA  fu _ _ _ _ hf _ _ hP hD hS _ (lv_sub hl [2, 3, 5, 1, 0] rfl)
theorem q_X2_playOn_1 : (Cond.fieldLink RX2 15 "UpWhenDies$Telling" "size" "I" : Cond) ∈ wsX2_playOn := List.mem_of_getElem? (i := 1) rfl
theorem i_X2_playOn_X2 : ∀ w ∈ wsX20, w ∈ wsX2_playOn := fun _ h => (List.mem_cons_of_mem _ (List.mem_append_left _ (List.mem_append_right _ h)))
abbrev rm_X2_playOn : Room := { frames := 4, cells := 0, slots := 0, locals := 97 }
set_option maxHeartbeats 4000000 in
set_option maxRecDepth 100000 in
theorem t_X2_playOn_88 {p : Program} {l : Launch} {e : Env} {s : State} {m : MethodId} {args : Array Value} {below : List Frame} {meth : Method} {c : Code} {D : va_G} {cI cJ : ClassId} {A : Nat → Prop} {fu : Nat} {zl ql0 zt qt0 qt1 qt2 qt3 qt4 : Nat} {SL : S32} {o : Int32 × S32} (C0 : Cx RX2 wsX2_playOn cX2_playOn 5 (some .int) D vwCl (tyS cI cJ) p s m args meth c) (hA : ∀ q : Nat, s.heap.size ≤ q → A q) {k4 : Int32 → Int32 → S32 → Option (Int32 × S32)} (K4 : ∀ (x2 : Int32) (x3 : Int32) (ST : S32), k4 x2 x3 ST = some o → ∀ (H : Heap) (locs : List Loc), va_P D vwCl ((wL zl ql0 cI SL) ++ (wT zt qt0 qt1 qt2 qt3 qt4 cI ST)) H → va_D A ((wL zl ql0 cI SL) ++ (wT zt qt0 qt1 qt2 qt3 qt4 cI ST)) → va_S A s.heap H locs → ∀ (ls : Array Slot), lv_has ls 5 [(0, .ref zl), (1, .ref zt), (2, .int x2), (3, .int x3)] → W p l e rm_X2_playOn s m args below meth c H locs 0 0 (MQ below (sZi D vwCl (tyS cI cJ) A ((wL zl ql0 cI SL) ++ (wT zt qt0 qt1 qt2 qt3 qt4 cI (o.2))) (o.1)) args s 0 0 A) (F0 m 4 ls [])) : ∀ (x2 : Int32) (x3 : Int32) (x4 : Int32) (ST : S32), f_X2_playOn_88 fu k4 SL x2 x3 x4 ST = some o → ∀ (H : Heap) (locs : List Loc), va_P D vwCl ((wL zl ql0 cI SL) ++ (wT zt qt0 qt1 qt2 qt3 qt4 cI ST)) H → va_D A ((wL zl ql0 cI SL) ++ (wT zt qt0 qt1 qt2 qt3 qt4 cI ST)) → va_S A s.heap H locs → ∀ (ls : Array Slot), lv_has ls 5 [(0, .ref zl), (1, .ref zt), (2, .int x2), (3, .int x3), (4, .int x4)] → W p l e rm_X2_playOn s m args below meth c H locs 0 0 (MQ below (sZi D vwCl (tyS cI cJ) A ((wL zl ql0 cI SL) ++ (wT zt qt0 qt1 qt2 qt3 qt4 cI (o.2))) (o.1)) args s 0 0 A) (F0 m 88 ls []) := by
  obtain ⟨hx, hb, hr, hml, hown, hts, hlocks, hK⟩ := id C0
  intro x2 x3 x4 ST hf H locs hP hD hS ls hl
  have hP : va_P D vwCl [(zl, .inr (1, [.ref ql0, .int (SL 1 0)])), (ql0, .inl (cI, 80, .inl (SL 0))), (zt, .inr (2, [.ref qt0, .ref qt1, .ref qt2, .ref qt3, .ref qt4, .int (ST 5 0), .int (ST 6 0)])), (qt0, .inl (cI, 8, .inl (ST 0))), (qt1, .inl (cI, 8, .inl (ST 1))), (qt2, .inl (cI, 8, .inl (ST 2))), (qt3, .inl (cI, 8, .inl (ST 3))), (qt4, .inl (cI, 8, .inl (ST 4)))] H := hP
  have hD : va_D A [(zl, .inr (1, [.ref ql0, .int (SL 1 0)])), (ql0, .inl (cI, 80, .inl (SL 0))), (zt, .inr (2, [.ref qt0, .ref qt1, .ref qt2, .ref qt3, .ref qt4, .int (ST 5 0), .int (ST 6 0)])), (qt0, .inl (cI, 8, .inl (ST 0))), (qt1, .inl (cI, 8, .inl (ST 1))), (qt2, .inl (cI, 8, .inl (ST 2))), (qt3, .inl (cI, 8, .inl (ST 3))), (qt4, .inl (cI, 8, .inl (ST 4)))] := hD
  refine lv_iload hx hb dX2_playOn_88 (lv_at hl 4 rfl) ?_
  refine lv_if_ne (tgt := 95) hx hb dX2_playOn_90 (by decide) (fun c_1 => ?_) (fun c_1 => ?_)
  · have hf := itF c_1 hf
    refine lv_iload_n hx hb dX2_playOn_95 rfl (lv_at hl 3 rfl) ?_
    refine lv_iconst (v := (1 : Int32)) hx hb dX2_playOn_96 (by decide) ?_
    refine lv_iadd hx hb dX2_playOn_97 ?_
    refine lv_istore_n (lv' := [(2, .int (x3 + (1 : Int32))), (0, .ref zl), (1, .ref zt), (3, .int x3), (4, .int x4)]) hx hb dX2_playOn_98 rfl hl (by decide) rfl (fun ls hl => ?_)
    refine lv_iinc (v := (x3 + (1 : Int32))) (lv' := [(3, .int (x3 + (1 : Int32))), (2, .int (x3 + (1 : Int32))), (0, .ref zl), (1, .ref zt), (4, .int x4)]) hx hb dX2_playOn_99 hl (k := 3) rfl rfl (by decide) rfl (fun ls hl => ?_)
    refine lv_goto (tgt := 4) hx hb dX2_playOn_102 (by decide) ?_
    exact K4 _ _ _ hf _ _ hP hD hS _ (lv_sub hl [2, 3, 1, 0] rfl)
  · have hf := itT c_1 hf
    refine lv_iload_n hx hb dX2_playOn_93 rfl (lv_at hl 2 rfl) ?_
    obtain rfl := Option.some.inj hf
    exact s_iret (r := x2) hx hb hr hlocks hK hP hD hS dX2_playOn_94
set_option maxHeartbeats 4000000 in
set_option maxRecDepth 100000 in
theorem ts_X2_playOn_4 {p : Program} {l : Launch} {e : Env} {s : State} {m : MethodId} {args : Array Value} {below : List Frame} {meth : Method} {c : Code} {D : va_G} {cI cJ : ClassId} {A : Nat → Prop} {fu : Nat} {zl ql0 zt qt0 qt1 qt2 qt3 qt4 : Nat} {SL : S32} {o : Int32 × S32} (C0 : Cx RX2 wsX2_playOn cX2_playOn 5 (some .int) D vwCl (tyS cI cJ) p s m args meth c) (hA : ∀ q : Nat, s.heap.size ≤ q → A q) {k4 : Int32 → Int32 → S32 → Option (Int32 × S32)} (K4 : ∀ (x2 : Int32) (x3 : Int32) (ST : S32), k4 x2 x3 ST = some o → ∀ (H : Heap) (locs : List Loc), va_P D vwCl ((wL zl ql0 cI SL) ++ (wT zt qt0 qt1 qt2 qt3 qt4 cI ST)) H → va_D A ((wL zl ql0 cI SL) ++ (wT zt qt0 qt1 qt2 qt3 qt4 cI ST)) → va_S A s.heap H locs → ∀ (ls : Array Slot), lv_has ls 5 [(0, .ref zl), (1, .ref zt), (2, .int x2), (3, .int x3)] → W p l e rm_X2_playOn s m args below meth c H locs 0 0 (MQ below (sZi D vwCl (tyS cI cJ) A ((wL zl ql0 cI SL) ++ (wT zt qt0 qt1 qt2 qt3 qt4 cI (o.2))) (o.1)) args s 0 0 A) (F0 m 4 ls [])) : ∀ (x2 : Int32) (x3 : Int32) (ST : S32), s_X2_playOn_4 fu  k4 SL x2 x3 ST = some o → ∀ (H : Heap) (locs : List Loc), va_P D vwCl ((wL zl ql0 cI SL) ++ (wT zt qt0 qt1 qt2 qt3 qt4 cI ST)) H → va_D A ((wL zl ql0 cI SL) ++ (wT zt qt0 qt1 qt2 qt3 qt4 cI ST)) → va_S A s.heap H locs → ∀ (ls : Array Slot), lv_has ls 5 [(0, .ref zl), (1, .ref zt), (2, .int x2), (3, .int x3)] → W p l e rm_X2_playOn s m args below meth c H locs 0 0 (MQ below (sZi D vwCl (tyS cI cJ) A ((wL zl ql0 cI SL) ++ (wT zt qt0 qt1 qt2 qt3 qt4 cI (o.2))) (o.1)) args s 0 0 A) (F0 m 4 ls []) := by
  obtain ⟨hx, hb, hr, hml, hown, hts, hlocks, hK⟩ := id C0
  intro x2 x3 ST hf H locs hP hD hS ls hl
  have hP : va_P D vwCl [(zl, .inr (1, [.ref ql0, .int (SL 1 0)])), (ql0, .inl (cI, 80, .inl (SL 0))), (zt, .inr (2, [.ref qt0, .ref qt1, .ref qt2, .ref qt3, .ref qt4, .int (ST 5 0), .int (ST 6 0)])), (qt0, .inl (cI, 8, .inl (ST 0))), (qt1, .inl (cI, 8, .inl (ST 1))), (qt2, .inl (cI, 8, .inl (ST 2))), (qt3, .inl (cI, 8, .inl (ST 3))), (qt4, .inl (cI, 8, .inl (ST 4)))] H := hP
  have hD : va_D A [(zl, .inr (1, [.ref ql0, .int (SL 1 0)])), (ql0, .inl (cI, 80, .inl (SL 0))), (zt, .inr (2, [.ref qt0, .ref qt1, .ref qt2, .ref qt3, .ref qt4, .int (ST 5 0), .int (ST 6 0)])), (qt0, .inl (cI, 8, .inl (ST 0))), (qt1, .inl (cI, 8, .inl (ST 1))), (qt2, .inl (cI, 8, .inl (ST 2))), (qt3, .inl (cI, 8, .inl (ST 3))), (qt4, .inl (cI, 8, .inl (ST 4)))] := hD
  refine lv_iload_n hx hb dX2_playOn_4 rfl (lv_at hl 3 rfl) ?_
  refine lv_aload_n hx hb dX2_playOn_5 rfl (lv_at hl 0 rfl) ?_
  refine va_get (D := D) (ci := 1) (v := .int (SL 1 0)) (C := RX2) (T := TX2) (N := 2) hx hb hts i_X2_playOn_X2 hown hK hP 0 rfl rfl 1 (by decide) (hts _ q_X2_playOn_1) (fun _ h9 => h9) rfl dX2_playOn_6 ?_
  refine lv_icmp_ge (tgt := 105) hx hb dX2_playOn_9 (by decide) (fun c_1 => ?_) (fun c_1 => ?_)
  · have hf := itT c_1 hf
    refine lv_iconst (v := (-1 : Int32)) hx hb dX2_playOn_105 (by decide) ?_
    obtain rfl := Option.some.inj hf
    exact s_iret (r := (-1 : Int32)) hx hb hr hlocks hK hP hD hS dX2_playOn_106
  · have hf := itF c_1 hf
    refine lv_aload_n hx hb dX2_playOn_12 rfl (lv_at hl 0 rfl) ?_
    refine lv_iload_n hx hb dX2_playOn_13 rfl (lv_at hl 3 rfl) ?_
    obtain ⟨o_2, h_2, hf⟩ := bd_some hf
    refine s_callVI (wc := (wL zl ql0 cI SL)) (wr := [(zt, .inr (2, [.ref qt0, .ref qt1, .ref qt2, .ref qt3, .ref qt4, .int (ST 5 0), .int (ST 6 0)])), (qt0, .inl (cI, 8, .inl (ST 0))), (qt1, .inl (cI, 8, .inl (ST 1))), (qt2, .inl (cI, 8, .inl (ST 2))), (qt3, .inl (cI, 8, .inl (ST 3))), (qt4, .inl (cI, 8, .inl (ST 4)))]) (wc' := (wL zl ql0 cI SL)) (w' := [(zl, .inr (1, [.ref ql0, .int (SL 1 0)])), (ql0, .inl (cI, 80, .inl (SL 0))), (zt, .inr (2, [.ref qt0, .ref qt1, .ref qt2, .ref qt3, .ref qt4, .int (ST 5 0), .int (ST 6 0)])), (qt0, .inl (cI, 8, .inl (ST 0))), (qt1, .inl (cI, 8, .inl (ST 1))), (qt2, .inl (cI, 8, .inl (ST 2))), (qt3, .inl (cI, 8, .inl (ST 3))), (qt4, .inl (cI, 8, .inl (ST 4)))]) (isC := [0, 1]) (isR := [2, 3, 4, 5, 6, 7]) (perm := [6, 7, 0, 1, 2, 3, 4, 5]) (As := [.int x3]) (rest := []) (ci := 1) (q := (RX2, TX2, 2)) ⟨hx, hb, hml, hown, hts⟩ (c_X2_letterAt l D cI cJ fu zl ql0 SL x3 o_2 h_2) (cwV 1 hts gX2_playOn_X2_letterAt rfl rfl rfl (by decide +kernel) ⟨Nat.le_of_ble_eq_true rfl, Nat.le_of_ble_eq_true rfl⟩) hK hP hD hS hA ⟨rfl, rfl, by decide, by decide, by decide, by decide, rfl⟩ rfl rfl rfl rfl hl.1 rfl (Nat.le_of_ble_eq_true rfl) dX2_playOn_14 (fun H locs hP hD hS => ?_)
    refine lv_bipush (v := (59 : Int32)) hx hb dX2_playOn_17 (by decide) ?_
    refine lv_icmp_eq (tgt := 25) hx hb dX2_playOn_19 (by decide) (fun c_3 => ?_) (fun c_3 => ?_)
    · have hf := itT c_3 hf
      refine lv_aload_n hx hb dX2_playOn_25 rfl (lv_at hl 0 rfl) ?_
      refine lv_iload_n hx hb dX2_playOn_26 rfl (lv_at hl 2 rfl) ?_
      obtain ⟨o_4, h_4, hf⟩ := bd_some hf
      refine s_callVI (wc := (wL zl ql0 cI SL)) (wr := [(zt, .inr (2, [.ref qt0, .ref qt1, .ref qt2, .ref qt3, .ref qt4, .int (ST 5 0), .int (ST 6 0)])), (qt0, .inl (cI, 8, .inl (ST 0))), (qt1, .inl (cI, 8, .inl (ST 1))), (qt2, .inl (cI, 8, .inl (ST 2))), (qt3, .inl (cI, 8, .inl (ST 3))), (qt4, .inl (cI, 8, .inl (ST 4)))]) (wc' := (wL zl ql0 cI SL)) (w' := [(zl, .inr (1, [.ref ql0, .int (SL 1 0)])), (ql0, .inl (cI, 80, .inl (SL 0))), (zt, .inr (2, [.ref qt0, .ref qt1, .ref qt2, .ref qt3, .ref qt4, .int (ST 5 0), .int (ST 6 0)])), (qt0, .inl (cI, 8, .inl (ST 0))), (qt1, .inl (cI, 8, .inl (ST 1))), (qt2, .inl (cI, 8, .inl (ST 2))), (qt3, .inl (cI, 8, .inl (ST 3))), (qt4, .inl (cI, 8, .inl (ST 4)))]) (isC := [0, 1]) (isR := [2, 3, 4, 5, 6, 7]) (perm := [6, 7, 0, 1, 2, 3, 4, 5]) (As := [.int x2]) (rest := []) (ci := 1) (q := (RX2, TX2, 2)) ⟨hx, hb, hml, hown, hts⟩ (c_X2_letterAt l D cI cJ fu zl ql0 SL x2 o_4 h_4) (cwV 1 hts gX2_playOn_X2_letterAt rfl rfl rfl (by decide +kernel) ⟨Nat.le_of_ble_eq_true rfl, Nat.le_of_ble_eq_true rfl⟩) hK hP hD hS hA ⟨rfl, rfl, by decide, by decide, by decide, by decide, rfl⟩ rfl rfl rfl rfl hl.1 rfl (Nat.le_of_ble_eq_true rfl) dX2_playOn_27 (fun H locs hP hD hS => ?_)
      by_cases c_5 : o_4 = (108 : Int32)
      · have hf := itT c_5 hf
        refine lv_lookup (tgt := 56) (off := 26) hx hb dX2_playOn_30 (by decide) (by rw [c_5] <;> rfl) (by decide) ?_
        refine lv_aload_n hx hb dX2_playOn_56 rfl (lv_at hl 0 rfl) ?_
        refine lv_aload_n hx hb dX2_playOn_57 rfl (lv_at hl 1 rfl) ?_
        refine lv_iload_n hx hb dX2_playOn_58 rfl (lv_at hl 2 rfl) ?_
        refine lv_iload_n hx hb dX2_playOn_59 rfl (lv_at hl 3 rfl) ?_
        obtain ⟨o_6, h_6, hf⟩ := bd_some hf
        refine s_callVI (wc := ((wL zl ql0 cI SL) ++ (wT zt qt0 qt1 qt2 qt3 qt4 cI ST))) (wr := []) (wc' := ((wL zl ql0 cI SL) ++ (wT zt qt0 qt1 qt2 qt3 qt4 cI (o_6.2)))) (w' := [(zl, .inr (1, [.ref ql0, .int (SL 1 0)])), (ql0, .inl (cI, 80, .inl (SL 0))), (zt, .inr (2, [.ref qt0, .ref qt1, .ref qt2, .ref qt3, .ref qt4, .int ((o_6.2) 5 0), .int ((o_6.2) 6 0)])), (qt0, .inl (cI, 8, .inl ((o_6.2) 0))), (qt1, .inl (cI, 8, .inl ((o_6.2) 1))), (qt2, .inl (cI, 8, .inl ((o_6.2) 2))), (qt3, .inl (cI, 8, .inl ((o_6.2) 3))), (qt4, .inl (cI, 8, .inl ((o_6.2) 4)))]) (isC := [0, 1, 2, 3, 4, 5, 6, 7]) (isR := []) (perm := [0, 1, 2, 3, 4, 5, 6, 7]) (As := [.ref zt, .int x2, .int x3]) (rest := []) (ci := 1) (q := (RX2, TX2, 2)) ⟨hx, hb, hml, hown, hts⟩ (c_X2_playLodger l D cI cJ fu zl ql0 zt qt0 qt1 qt2 qt3 qt4 SL ST x2 x3 o_6 h_6) (cwV 3 hts gX2_playOn_X2_playLodger rfl rfl rfl (by decide +kernel) ⟨Nat.le_of_ble_eq_true rfl, Nat.le_of_ble_eq_true rfl⟩) hK hP hD hS hA ⟨rfl, rfl, by decide, by decide, by decide, by decide, rfl⟩ rfl rfl rfl rfl hl.1 rfl (Nat.le_of_ble_eq_true rfl) dX2_playOn_60 (fun H locs hP hD hS => ?_)
        refine lv_istore (lv' := [(4, .int o_6.1), (0, .ref zl), (1, .ref zt), (2, .int x2), (3, .int x3)]) hx hb dX2_playOn_63 hl (by decide) rfl (fun ls hl => ?_)
        refine lv_goto (tgt := 88) hx hb dX2_playOn_65 (by decide) ?_
        exact t_X2_playOn_88 (fu := fu) C0 hA K4 _ _ _ _ hf _ _ hP hD hS _ (lv_sub hl [1, 2, 3, 4, 0] rfl)
      have hf := itF c_5 hf
      by_cases c_7 : o_4 = (119 : Int32)
      · have hf := itT c_7 hf
        refine lv_lookup (tgt := 68) (off := 38) hx hb dX2_playOn_30 (by decide) (by rw [c_7] <;> rfl) (by decide) ?_
        refine lv_aload_n hx hb dX2_playOn_68 rfl (lv_at hl 0 rfl) ?_
        refine lv_aload_n hx hb dX2_playOn_69 rfl (lv_at hl 1 rfl) ?_
        refine lv_iload_n hx hb dX2_playOn_70 rfl (lv_at hl 2 rfl) ?_
        obtain ⟨o_8, h_8, hf⟩ := bd_some hf
        refine s_callVI (wc := ((wL zl ql0 cI SL) ++ (wT zt qt0 qt1 qt2 qt3 qt4 cI ST))) (wr := []) (wc' := ((wL zl ql0 cI SL) ++ (wT zt qt0 qt1 qt2 qt3 qt4 cI (o_8.2)))) (w' := [(zl, .inr (1, [.ref ql0, .int (SL 1 0)])), (ql0, .inl (cI, 80, .inl (SL 0))), (zt, .inr (2, [.ref qt0, .ref qt1, .ref qt2, .ref qt3, .ref qt4, .int ((o_8.2) 5 0), .int ((o_8.2) 6 0)])), (qt0, .inl (cI, 8, .inl ((o_8.2) 0))), (qt1, .inl (cI, 8, .inl ((o_8.2) 1))), (qt2, .inl (cI, 8, .inl ((o_8.2) 2))), (qt3, .inl (cI, 8, .inl ((o_8.2) 3))), (qt4, .inl (cI, 8, .inl ((o_8.2) 4)))]) (isC := [0, 1, 2, 3, 4, 5, 6, 7]) (isR := []) (perm := [0, 1, 2, 3, 4, 5, 6, 7]) (As := [.ref zt, .int x2]) (rest := []) (ci := 1) (q := (RX2, TX2, 2)) ⟨hx, hb, hml, hown, hts⟩ (c_X2_playWish l D cI cJ fu zl ql0 zt qt0 qt1 qt2 qt3 qt4 SL ST x2 o_8 h_8) (cwV 2 hts gX2_playOn_X2_playWish rfl rfl rfl (by decide +kernel) ⟨Nat.le_of_ble_eq_true rfl, Nat.le_of_ble_eq_true rfl⟩) hK hP hD hS hA ⟨rfl, rfl, by decide, by decide, by decide, by decide, rfl⟩ rfl rfl rfl rfl hl.1 rfl (Nat.le_of_ble_eq_true rfl) dX2_playOn_71 (fun H locs hP hD hS => ?_)
        refine lv_istore (lv' := [(4, .int o_8.1), (0, .ref zl), (1, .ref zt), (2, .int x2), (3, .int x3)]) hx hb dX2_playOn_74 hl (by decide) rfl (fun ls hl => ?_)
        refine lv_goto (tgt := 88) hx hb dX2_playOn_76 (by decide) ?_
        exact t_X2_playOn_88 (fu := fu) C0 hA K4 _ _ _ _ hf _ _ hP hD hS _ (lv_sub hl [1, 2, 3, 4, 0] rfl)
      have hf := itF c_7 hf
      refine lv_lookup (tgt := 79) (off := 49) hx hb dX2_playOn_30 (by decide) ((lv_osw c_5 (by decide)).trans ((lv_osw c_7 (by decide)).trans rfl)) (by decide) ?_
      refine lv_aload_n hx hb dX2_playOn_79 rfl (lv_at hl 0 rfl) ?_
      refine lv_aload_n hx hb dX2_playOn_80 rfl (lv_at hl 1 rfl) ?_
      refine lv_iload_n hx hb dX2_playOn_81 rfl (lv_at hl 2 rfl) ?_
      refine lv_iload_n hx hb dX2_playOn_82 rfl (lv_at hl 3 rfl) ?_
      obtain ⟨o_9, h_9, hf⟩ := bd_some hf
      refine s_callVI (wc := ((wL zl ql0 cI SL) ++ (wT zt qt0 qt1 qt2 qt3 qt4 cI ST))) (wr := []) (wc' := ((wL zl ql0 cI SL) ++ (wT zt qt0 qt1 qt2 qt3 qt4 cI (o_9.2)))) (w' := [(zl, .inr (1, [.ref ql0, .int (SL 1 0)])), (ql0, .inl (cI, 80, .inl (SL 0))), (zt, .inr (2, [.ref qt0, .ref qt1, .ref qt2, .ref qt3, .ref qt4, .int ((o_9.2) 5 0), .int ((o_9.2) 6 0)])), (qt0, .inl (cI, 8, .inl ((o_9.2) 0))), (qt1, .inl (cI, 8, .inl ((o_9.2) 1))), (qt2, .inl (cI, 8, .inl ((o_9.2) 2))), (qt3, .inl (cI, 8, .inl ((o_9.2) 3))), (qt4, .inl (cI, 8, .inl ((o_9.2) 4)))]) (isC := [0, 1, 2, 3, 4, 5, 6, 7]) (isR := []) (perm := [0, 1, 2, 3, 4, 5, 6, 7]) (As := [.ref zt, .int x2, .int x3]) (rest := []) (ci := 1) (q := (RX2, TX2, 2)) ⟨hx, hb, hml, hown, hts⟩ (c_X2_playYear l D cI cJ fu zl ql0 zt qt0 qt1 qt2 qt3 qt4 SL ST x2 x3 o_9 h_9) (cwV 3 hts gX2_playOn_X2_playYear rfl rfl rfl (by decide +kernel) ⟨Nat.le_of_ble_eq_true rfl, Nat.le_of_ble_eq_true rfl⟩) hK hP hD hS hA ⟨rfl, rfl, by decide, by decide, by decide, by decide, rfl⟩ rfl rfl rfl rfl hl.1 rfl (Nat.le_of_ble_eq_true rfl) dX2_playOn_83 (fun H locs hP hD hS => ?_)
      refine lv_istore (lv' := [(4, .int o_9.1), (0, .ref zl), (1, .ref zt), (2, .int x2), (3, .int x3)]) hx hb dX2_playOn_86 hl (by decide) rfl (fun ls hl => ?_)
      exact t_X2_playOn_88 (fu := fu) C0 hA K4 _ _ _ _ hf _ _ hP hD hS _ (lv_sub hl [1, 2, 3, 4, 0] rfl)
    · have hf := itF c_3 hf
      refine lv_goto (tgt := 99) hx hb dX2_playOn_22 (by decide) ?_
      refine lv_iinc (v := (x3 + (1 : Int32))) (lv' := [(3, .int (x3 + (1 : Int32))), (0, .ref zl), (1, .ref zt), (2, .int x2)]) hx hb dX2_playOn_99 hl (k := 3) rfl rfl (by decide) rfl (fun ls hl => ?_)
      refine lv_goto (tgt := 4) hx hb dX2_playOn_102 (by decide) ?_
      exact K4 _ _ _ hf _ _ hP hD hS _ (lv_sub hl [1, 2, 3, 0] rfl)
theorem t_X2_playOn_4 {p : Program} {l : Launch} {e : Env} {s : State} {m : MethodId} {args : Array Value} {below : List Frame} {meth : Method} {c : Code} {D : va_G} {cI cJ : ClassId} {A : Nat → Prop} {fu : Nat} {zl ql0 zt qt0 qt1 qt2 qt3 qt4 : Nat} {SL : S32} {o : Int32 × S32} (C0 : Cx RX2 wsX2_playOn cX2_playOn 5 (some .int) D vwCl (tyS cI cJ) p s m args meth c) (hA : ∀ q : Nat, s.heap.size ≤ q → A q) : ∀ (n : Nat) (x2 : Int32) (x3 : Int32) (ST : S32), f_X2_playOn_4 fu  SL n x2 x3 ST = some o → ∀ (H : Heap) (locs : List Loc), va_P D vwCl ((wL zl ql0 cI SL) ++ (wT zt qt0 qt1 qt2 qt3 qt4 cI ST)) H → va_D A ((wL zl ql0 cI SL) ++ (wT zt qt0 qt1 qt2 qt3 qt4 cI ST)) → va_S A s.heap H locs → ∀ (ls : Array Slot), lv_has ls 5 [(0, .ref zl), (1, .ref zt), (2, .int x2), (3, .int x3)] → W p l e rm_X2_playOn s m args below meth c H locs 0 0 (MQ below (sZi D vwCl (tyS cI cJ) A ((wL zl ql0 cI SL) ++ (wT zt qt0 qt1 qt2 qt3 qt4 cI (o.2))) (o.1)) args s 0 0 A) (F0 m 4 ls []) := by
  intro n
  induction n with
  | zero =>
    intro x2 x3 ST hf
    have hf : (none : Option (Int32 × S32)) = some o := hf
    cases hf
  | succ n ih => exact ts_X2_playOn_4 (fu := fu) (k4 := f_X2_playOn_4 fu  SL n) C0 hA  ih
set_option maxHeartbeats 4000000 in
set_option maxRecDepth 100000 in
theorem c_X2_playOn (l : Launch) (D : va_G) (cI cJ : ClassId) (fu : Nat) (zl ql0 zt qt0 qt1 qt2 qt3 qt4 : Nat) (SL : S32) (ST : S32) (o : Int32 × S32) (hf : f_X2_playOn fu SL ST = some o) : MI l yX2_playOn wsX2_playOn rm_X2_playOn D vwCl (tyS cI cJ) [.ref zl, .ref zt] ((wL zl ql0 cI SL) ++ (wT zt qt0 qt1 qt2 qt3 qt4 cI ST)) ((wL zl ql0 cI SL) ++ (wT zt qt0 qt1 qt2 qt3 qt4 cI (o.2))) (o.1) := by
  intro sz
  refine s_entry (own := RX2) (cc := cX2_playOn) (maxL := 5) (ret := (some .int)) (Qc := fun A => sZi D vwCl (tyS cI cJ) A ((wL zl ql0 cI SL) ++ (wT zt qt0 qt1 qt2 qt3 qt4 cI (o.2))) (o.1)) rfl (by decide) rfl rfl (Nat.le_of_ble_eq_true rfl) ?_
  intro p e s m args below meth c A C0 hA hP hD hS ls hl
  obtain ⟨hx, hb, hr, hml, hown, hts, hlocks, hK⟩ := id C0
  have hl : lv_has ls 5 [(0, .ref zl), (1, .ref zt)] := hl
  have hP : va_P D vwCl [(zl, .inr (1, [.ref ql0, .int (SL 1 0)])), (ql0, .inl (cI, 80, .inl (SL 0))), (zt, .inr (2, [.ref qt0, .ref qt1, .ref qt2, .ref qt3, .ref qt4, .int (ST 5 0), .int (ST 6 0)])), (qt0, .inl (cI, 8, .inl (ST 0))), (qt1, .inl (cI, 8, .inl (ST 1))), (qt2, .inl (cI, 8, .inl (ST 2))), (qt3, .inl (cI, 8, .inl (ST 3))), (qt4, .inl (cI, 8, .inl (ST 4)))] s.heap := hP
  have hD : va_D A [(zl, .inr (1, [.ref ql0, .int (SL 1 0)])), (ql0, .inl (cI, 80, .inl (SL 0))), (zt, .inr (2, [.ref qt0, .ref qt1, .ref qt2, .ref qt3, .ref qt4, .int (ST 5 0), .int (ST 6 0)])), (qt0, .inl (cI, 8, .inl (ST 0))), (qt1, .inl (cI, 8, .inl (ST 1))), (qt2, .inl (cI, 8, .inl (ST 2))), (qt3, .inl (cI, 8, .inl (ST 3))), (qt4, .inl (cI, 8, .inl (ST 4)))] := hD
  refine lv_iconst (v := (0 : Int32)) hx hb dX2_playOn_0 (by decide) ?_
  refine lv_istore_n (lv' := [(2, .int (0 : Int32)), (0, .ref zl), (1, .ref zt)]) hx hb dX2_playOn_1 rfl hl (by decide) rfl (fun ls hl => ?_)
  refine lv_iconst (v := (0 : Int32)) hx hb dX2_playOn_2 (by decide) ?_
  refine lv_istore_n (lv' := [(3, .int (0 : Int32)), (2, .int (0 : Int32)), (0, .ref zl), (1, .ref zt)]) hx hb dX2_playOn_3 rfl hl (by decide) rfl (fun ls hl => ?_)
  exact t_X2_playOn_4 (fu := fu) C0 hA  fu _ _ _ hf _ _ hP hD hS _ (lv_sub hl [2, 3, 1, 0] rfl)
theorem q_X2_statements_1 : (Cond.fieldLink RX2 15 "UpWhenDies$Telling" "size" "I" : Cond) ∈ wsX2_statements := List.mem_of_getElem? (i := 1) rfl
theorem i_X2_statements_X2 : ∀ w ∈ wsX20, w ∈ wsX2_statements := fun _ h => (List.mem_cons_of_mem _ (List.mem_append_right _ h))
abbrev rm_X2_statements : Room := { frames := 1, cells := 0, slots := 0, locals := 21 }
set_option maxHeartbeats 4000000 in
set_option maxRecDepth 100000 in
theorem ts_X2_statements_4 {p : Program} {l : Launch} {e : Env} {s : State} {m : MethodId} {args : Array Value} {below : List Frame} {meth : Method} {c : Code} {D : va_G} {cI cJ : ClassId} {A : Nat → Prop} {fu : Nat} {zl ql0 : Nat} {SL : S32} {o : Int32} (C0 : Cx RX2 wsX2_statements cX2_statements 3 (some .int) D vwCl (tyS cI cJ) p s m args meth c) (hA : ∀ q : Nat, s.heap.size ≤ q → A q) {k4 : Int32 → Int32 → Option (Int32)} (K4 : ∀ (x1 : Int32) (x2 : Int32), k4 x1 x2 = some o → ∀ (H : Heap) (locs : List Loc), va_P D vwCl (wL zl ql0 cI SL) H → va_D A (wL zl ql0 cI SL) → va_S A s.heap H locs → ∀ (ls : Array Slot), lv_has ls 3 [(0, .ref zl), (1, .int x1), (2, .int x2)] → W p l e rm_X2_statements s m args below meth c H locs 0 0 (MQ below (sZi D vwCl (tyS cI cJ) A (wL zl ql0 cI SL) (o)) args s 0 0 A) (F0 m 4 ls [])) : ∀ (x1 : Int32) (x2 : Int32), s_X2_statements_4 fu  k4 SL x1 x2 = some o → ∀ (H : Heap) (locs : List Loc), va_P D vwCl (wL zl ql0 cI SL) H → va_D A (wL zl ql0 cI SL) → va_S A s.heap H locs → ∀ (ls : Array Slot), lv_has ls 3 [(0, .ref zl), (1, .int x1), (2, .int x2)] → W p l e rm_X2_statements s m args below meth c H locs 0 0 (MQ below (sZi D vwCl (tyS cI cJ) A (wL zl ql0 cI SL) (o)) args s 0 0 A) (F0 m 4 ls []) := by
  obtain ⟨hx, hb, hr, hml, hown, hts, hlocks, hK⟩ := id C0
  intro x1 x2 hf H locs hP hD hS ls hl
  have hP : va_P D vwCl [(zl, .inr (1, [.ref ql0, .int (SL 1 0)])), (ql0, .inl (cI, 80, .inl (SL 0)))] H := hP
  have hD : va_D A [(zl, .inr (1, [.ref ql0, .int (SL 1 0)])), (ql0, .inl (cI, 80, .inl (SL 0)))] := hD
  refine lv_iload_n hx hb dX2_statements_4 rfl (lv_at hl 2 rfl) ?_
  refine lv_aload_n hx hb dX2_statements_5 rfl (lv_at hl 0 rfl) ?_
  refine va_get (D := D) (ci := 1) (v := .int (SL 1 0)) (C := RX2) (T := TX2) (N := 2) hx hb hts i_X2_statements_X2 hown hK hP 0 rfl rfl 1 (by decide) (hts _ q_X2_statements_1) (fun _ h9 => h9) rfl dX2_statements_6 ?_
  refine lv_icmp_ge (tgt := 31) hx hb dX2_statements_9 (by decide) (fun c_1 => ?_) (fun c_1 => ?_)
  · have hf := itT c_1 hf
    refine lv_iload_n hx hb dX2_statements_31 rfl (lv_at hl 1 rfl) ?_
    obtain rfl := Option.some.inj hf
    exact s_iret (r := x1) hx hb hr hlocks hK hP hD hS dX2_statements_32
  · have hf := itF c_1 hf
    refine lv_aload_n hx hb dX2_statements_12 rfl (lv_at hl 0 rfl) ?_
    refine lv_iload_n hx hb dX2_statements_13 rfl (lv_at hl 2 rfl) ?_
    obtain ⟨o_2, h_2, hf⟩ := bd_some hf
    refine s_callVI (wc := (wL zl ql0 cI SL)) (wr := []) (wc' := (wL zl ql0 cI SL)) (w' := [(zl, .inr (1, [.ref ql0, .int (SL 1 0)])), (ql0, .inl (cI, 80, .inl (SL 0)))]) (isC := [0, 1]) (isR := []) (perm := [0, 1]) (As := [.int x2]) (rest := []) (ci := 1) (q := (RX2, TX2, 2)) ⟨hx, hb, hml, hown, hts⟩ (c_X2_letterAt l D cI cJ fu zl ql0 SL x2 o_2 h_2) (cwV 1 hts gX2_statements_X2_letterAt rfl rfl rfl (by decide +kernel) ⟨Nat.le_of_ble_eq_true rfl, Nat.le_of_ble_eq_true rfl⟩) hK hP hD hS hA ⟨rfl, rfl, by decide, by decide, by decide, by decide, rfl⟩ rfl rfl rfl rfl hl.1 rfl (Nat.le_of_ble_eq_true rfl) dX2_statements_14 (fun H locs hP hD hS => ?_)
    refine lv_bipush (v := (59 : Int32)) hx hb dX2_statements_17 (by decide) ?_
    refine lv_icmp_ne (tgt := 25) hx hb dX2_statements_19 (by decide) (fun c_3 => ?_) (fun c_3 => ?_)
    · have hf := itF c_3 hf
      refine lv_iinc (v := (x2 + (1 : Int32))) (lv' := [(2, .int (x2 + (1 : Int32))), (0, .ref zl), (1, .int x1)]) hx hb dX2_statements_25 hl (k := 2) rfl rfl (by decide) rfl (fun ls hl => ?_)
      refine lv_goto (tgt := 4) hx hb dX2_statements_28 (by decide) ?_
      exact K4 _ _ hf _ _ hP hD hS _ (lv_sub hl [1, 2, 0] rfl)
    · have hf := itT c_3 hf
      refine lv_iinc (v := (x1 + (1 : Int32))) (lv' := [(1, .int (x1 + (1 : Int32))), (0, .ref zl), (2, .int x2)]) hx hb dX2_statements_22 hl (k := 1) rfl rfl (by decide) rfl (fun ls hl => ?_)
      refine lv_iinc (v := (x2 + (1 : Int32))) (lv' := [(2, .int (x2 + (1 : Int32))), (1, .int (x1 + (1 : Int32))), (0, .ref zl)]) hx hb dX2_statements_25 hl (k := 2) rfl rfl (by decide) rfl (fun ls hl => ?_)
      refine lv_goto (tgt := 4) hx hb dX2_statements_28 (by decide) ?_
      exact K4 _ _ hf _ _ hP hD hS _ (lv_sub hl [2, 1, 0] rfl)
theorem t_X2_statements_4 {p : Program} {l : Launch} {e : Env} {s : State} {m : MethodId} {args : Array Value} {below : List Frame} {meth : Method} {c : Code} {D : va_G} {cI cJ : ClassId} {A : Nat → Prop} {fu : Nat} {zl ql0 : Nat} {SL : S32} {o : Int32} (C0 : Cx RX2 wsX2_statements cX2_statements 3 (some .int) D vwCl (tyS cI cJ) p s m args meth c) (hA : ∀ q : Nat, s.heap.size ≤ q → A q) : ∀ (n : Nat) (x1 : Int32) (x2 : Int32), f_X2_statements_4 fu  SL n x1 x2 = some o → ∀ (H : Heap) (locs : List Loc), va_P D vwCl (wL zl ql0 cI SL) H → va_D A (wL zl ql0 cI SL) → va_S A s.heap H locs → ∀ (ls : Array Slot), lv_has ls 3 [(0, .ref zl), (1, .int x1), (2, .int x2)] → W p l e rm_X2_statements s m args below meth c H locs 0 0 (MQ below (sZi D vwCl (tyS cI cJ) A (wL zl ql0 cI SL) (o)) args s 0 0 A) (F0 m 4 ls []) := by
  intro n
  induction n with
  | zero =>
    intro x1 x2 hf
    have hf : (none : Option (Int32)) = some o := hf
    cases hf
  | succ n ih => exact ts_X2_statements_4 (fu := fu) (k4 := f_X2_statements_4 fu  SL n) C0 hA  ih
set_option maxHeartbeats 4000000 in
set_option maxRecDepth 100000 in
theorem c_X2_statements (l : Launch) (D : va_G) (cI cJ : ClassId) (fu : Nat) (zl ql0 : Nat) (SL : S32) (o : Int32) (hf : f_X2_statements fu SL = some o) : MI l yX2_statements wsX2_statements rm_X2_statements D vwCl (tyS cI cJ) [.ref zl] (wL zl ql0 cI SL) (wL zl ql0 cI SL) (o) := by
  intro sz
  refine s_entry (own := RX2) (cc := cX2_statements) (maxL := 3) (ret := (some .int)) (Qc := fun A => sZi D vwCl (tyS cI cJ) A (wL zl ql0 cI SL) (o)) rfl (by decide) rfl rfl (Nat.le_of_ble_eq_true rfl) ?_
  intro p e s m args below meth c A C0 hA hP hD hS ls hl
  obtain ⟨hx, hb, hr, hml, hown, hts, hlocks, hK⟩ := id C0
  have hl : lv_has ls 3 [(0, .ref zl)] := hl
  have hP : va_P D vwCl [(zl, .inr (1, [.ref ql0, .int (SL 1 0)])), (ql0, .inl (cI, 80, .inl (SL 0)))] s.heap := hP
  have hD : va_D A [(zl, .inr (1, [.ref ql0, .int (SL 1 0)])), (ql0, .inl (cI, 80, .inl (SL 0)))] := hD
  refine lv_iconst (v := (0 : Int32)) hx hb dX2_statements_0 (by decide) ?_
  refine lv_istore_n (lv' := [(1, .int (0 : Int32)), (0, .ref zl)]) hx hb dX2_statements_1 rfl hl (by decide) rfl (fun ls hl => ?_)
  refine lv_iconst (v := (0 : Int32)) hx hb dX2_statements_2 (by decide) ?_
  refine lv_istore_n (lv' := [(2, .int (0 : Int32)), (1, .int (0 : Int32)), (0, .ref zl)]) hx hb dX2_statements_3 rfl hl (by decide) rfl (fun ls hl => ?_)
  exact t_X2_statements_4 (fu := fu) C0 hA  fu _ _ hf _ _ hP hD hS _ (lv_sub hl [2, 1, 0] rfl)
theorem q_X2_forget_1 : (Cond.fieldLink RX2 15 "UpWhenDies$Telling" "size" "I" : Cond) ∈ wsX2_forget := List.mem_of_getElem? (i := 1) rfl
theorem i_X2_forget_X2 : ∀ w ∈ wsX20, w ∈ wsX2_forget := fun _ h => (List.mem_cons_of_mem _ (List.mem_append_right _ h))
abbrev rm_X2_forget : Room := { frames := 0, cells := 0, slots := 0, locals := 0 }
set_option maxHeartbeats 4000000 in
set_option maxRecDepth 100000 in
theorem c_X2_forget (l : Launch) (D : va_G) (cI cJ : ClassId) (fu : Nat) (zl ql0 : Nat) (SL : S32) (o : S32) (hf : f_X2_forget fu SL = some o) : MV l yX2_forget wsX2_forget rm_X2_forget D vwCl (tyS cI cJ) [.ref zl] (wL zl ql0 cI SL) (wL zl ql0 cI (o)) := by
  intro sz
  refine s_entry (own := RX2) (cc := cX2_forget) (maxL := 1) (ret := none) (Qc := fun A => sZv D vwCl (tyS cI cJ) A (wL zl ql0 cI (o))) rfl (by decide) rfl rfl (Nat.le_of_ble_eq_true rfl) ?_
  intro p e s m args below meth c A C0 hA hP hD hS ls hl
  obtain ⟨hx, hb, hr, hml, hown, hts, hlocks, hK⟩ := id C0
  have hl : lv_has ls 1 [(0, .ref zl)] := hl
  have hP : va_P D vwCl [(zl, .inr (1, [.ref ql0, .int (SL 1 0)])), (ql0, .inl (cI, 80, .inl (SL 0)))] s.heap := hP
  have hD : va_D A [(zl, .inr (1, [.ref ql0, .int (SL 1 0)])), (ql0, .inl (cI, 80, .inl (SL 0)))] := hD
  refine lv_aload_n hx hb dX2_forget_0 rfl (lv_at hl 0 rfl) ?_
  refine lv_iconst (v := (0 : Int32)) hx hb dX2_forget_1 (by decide) ?_
  refine va_put (D := D) (ci := 1) (v := .int (0 : Int32)) (ty := .int) (C := RX2) (T := TX2) (N := 2) hx hb hts i_X2_forget_X2 tyX2 tyX2_ok nmX2 hown hK hP hD hS 0 rfl rfl 1 (by decide) (hts _ q_X2_forget_1) (fun _ h9 => h9) rfl (by decide +kernel) rfl rfl (Nat.le_of_ble_eq_true rfl) dX2_forget_2 (fun H locs hP hD hS => ?_)
  have hP : va_P D vwCl [(zl, .inr (1, [.ref ql0, .int (0 : Int32)])), (ql0, .inl (cI, 80, .inl (SL 0)))] H := hP
  have hD : va_D A [(zl, .inr (1, [.ref ql0, .int (0 : Int32)])), (ql0, .inl (cI, 80, .inl (SL 0)))] := hD
  obtain rfl := Option.some.inj hf
  exact s_vret hx hb hr hlocks hK hP hD hS dX2_forget_5
