theorem q_X1_clear_1 : (Cond.fieldLink RX1 9 "UpWhenDies$Odds" "byDeaths" "[J" : Cond) ∈ wsX1_clear := List.mem_of_getElem? (i := 1) rfl
theorem q_X1_clear_2 : (Cond.fieldLink RX1 57 "UpWhenDies$Odds" "below" "J" : Cond) ∈ wsX1_clear := List.mem_of_getElem? (i := 2) rfl
theorem i_X1_clear_X1 : ∀ w ∈ wsX10, w ∈ wsX1_clear := fun _ h => (List.mem_cons_of_mem _ (List.mem_append_right _ h))
abbrev rm_X1_clear : Room := { frames := 0, cells := 0, slots := 0, locals := 0 }
set_option maxHeartbeats 4000000 in
set_option maxRecDepth 100000 in
theorem t_X1_clear_21 {p : Program} {l : Launch} {e : Env} {s : State} {m : MethodId} {args : Array Value} {below : List Frame} {meth : Method} {c : Code} {D : va_G} {cI cJ : ClassId} {A : Nat → Prop} {fu : Nat} {zo qo0 : Nat} {o : S64} (C0 : Cx RX1 wsX1_clear cX1_clear 2 none D vwCl (tyS cI cJ) p s m args meth c) (hA : ∀ q : Nat, s.heap.size ≤ q → A q) : ∀ (SO : S64), f_X1_clear_21 fu   SO = some o → ∀ (H : Heap) (locs : List Loc), va_P D vwCl (wO zo qo0 cJ SO) H → va_D A (wO zo qo0 cJ SO) → va_S A s.heap H locs → ∀ (ls : Array Slot), lv_has ls 2 [(0, .ref zo)] → W p l e rm_X1_clear s m args below meth c H locs 0 0 (MQ below (sZv D vwCl (tyS cI cJ) A (wO zo qo0 cJ (o))) args s 0 0 A) (F0 m 21 ls []) := by
  obtain ⟨hx, hb, hr, hml, hown, hts, hlocks, hK⟩ := id C0
  intro SO hf H locs hP hD hS ls hl
  have hP : va_P D vwCl [(zo, .inr (0, [.ref qo0, .long (SO 1 0), .long (SO 2 0)])), (qo0, .inl (cJ, 9, .inr (.inl (SO 0))))] H := hP
  have hD : va_D A [(zo, .inr (0, [.ref qo0, .long (SO 1 0), .long (SO 2 0)])), (qo0, .inl (cJ, 9, .inr (.inl (SO 0))))] := hD
  refine lv_aload_n hx hb dX1_clear_21 rfl (lv_at hl 0 rfl) ?_
  refine va_get (D := D) (ci := 0) (v := .ref qo0) (C := RX1) (T := TX1) (N := 3) hx hb hts i_X1_clear_X1 hown hK hP 0 rfl rfl 0 (by decide) (hts _ q_X1_clear_1) (fun _ h9 => h9) rfl dX1_clear_22 ?_
  refine lv_iconst (v := (0 : Int32)) hx hb dX1_clear_25 (by decide) ?_
  refine lv_lconst (v := (1 : Int64)) hx hb dX1_clear_26 (by decide) ?_
  obtain ⟨g_1, hf⟩ := gd_some hf
  refine va_last hx hb hK hP hD hS 1 1 rfl rfl g_1 dX1_clear_27 (fun H locs hP hD hS => ?_)
  have hP : va_P D vwCl [(zo, .inr (0, [.ref qo0, .long (SO 1 0), .long (SO 2 0)])), (qo0, .inl (cJ, 9, .inr (.inl (vp_updL (SO 0) (0 : Int32).toNatClampNeg (1 : Int64)))))] H := hP
  have hD : va_D A [(zo, .inr (0, [.ref qo0, .long (SO 1 0), .long (SO 2 0)])), (qo0, .inl (cJ, 9, .inr (.inl (vp_updL (SO 0) (0 : Int32).toNatClampNeg (1 : Int64)))))] := hD
  refine lv_aload_n hx hb dX1_clear_28 rfl (lv_at hl 0 rfl) ?_
  refine lv_lconst (v := (1 : Int64)) hx hb dX1_clear_29 (by decide) ?_
  refine va_put (D := D) (ci := 0) (v := .long (1 : Int64)) (ty := .long) (C := RX1) (T := TX1) (N := 3) hx hb hts i_X1_clear_X1 tyX1 tyX1_ok nmX1 hown hK hP hD hS 0 rfl rfl 2 (by decide) (hts _ q_X1_clear_2) (fun _ h9 => h9) rfl (by decide +kernel) rfl rfl (Nat.le_of_ble_eq_true rfl) dX1_clear_30 (fun H locs hP hD hS => ?_)
  have hP : va_P D vwCl [(zo, .inr (0, [.ref qo0, .long (SO 1 0), .long (1 : Int64)])), (qo0, .inl (cJ, 9, .inr (.inl (vp_updL (SO 0) (0 : Int32).toNatClampNeg (1 : Int64)))))] H := hP
  have hD : va_D A [(zo, .inr (0, [.ref qo0, .long (SO 1 0), .long (1 : Int64)])), (qo0, .inl (cJ, 9, .inr (.inl (vp_updL (SO 0) (0 : Int32).toNatClampNeg (1 : Int64)))))] := hD
  obtain rfl := Option.some.inj hf
  exact s_vret hx hb hr hlocks hK hP hD hS dX1_clear_33
set_option maxHeartbeats 4000000 in
set_option maxRecDepth 100000 in
theorem ts_X1_clear_2 {p : Program} {l : Launch} {e : Env} {s : State} {m : MethodId} {args : Array Value} {below : List Frame} {meth : Method} {c : Code} {D : va_G} {cI cJ : ClassId} {A : Nat → Prop} {fu : Nat} {zo qo0 : Nat} {o : S64} (C0 : Cx RX1 wsX1_clear cX1_clear 2 none D vwCl (tyS cI cJ) p s m args meth c) (hA : ∀ q : Nat, s.heap.size ≤ q → A q) {k2 : Int32 → S64 → Option (S64)} (K2 : ∀ (x1 : Int32) (SO : S64), k2 x1 SO = some o → ∀ (H : Heap) (locs : List Loc), va_P D vwCl (wO zo qo0 cJ SO) H → va_D A (wO zo qo0 cJ SO) → va_S A s.heap H locs → ∀ (ls : Array Slot), lv_has ls 2 [(0, .ref zo), (1, .int x1)] → W p l e rm_X1_clear s m args below meth c H locs 0 0 (MQ below (sZv D vwCl (tyS cI cJ) A (wO zo qo0 cJ (o))) args s 0 0 A) (F0 m 2 ls [])) : ∀ (x1 : Int32) (SO : S64), s_X1_clear_2 fu  k2  x1 SO = some o → ∀ (H : Heap) (locs : List Loc), va_P D vwCl (wO zo qo0 cJ SO) H → va_D A (wO zo qo0 cJ SO) → va_S A s.heap H locs → ∀ (ls : Array Slot), lv_has ls 2 [(0, .ref zo), (1, .int x1)] → W p l e rm_X1_clear s m args below meth c H locs 0 0 (MQ below (sZv D vwCl (tyS cI cJ) A (wO zo qo0 cJ (o))) args s 0 0 A) (F0 m 2 ls []) := by
  obtain ⟨hx, hb, hr, hml, hown, hts, hlocks, hK⟩ := id C0
  intro x1 SO hf H locs hP hD hS ls hl
  have hP : va_P D vwCl [(zo, .inr (0, [.ref qo0, .long (SO 1 0), .long (SO 2 0)])), (qo0, .inl (cJ, 9, .inr (.inl (SO 0))))] H := hP
  have hD : va_D A [(zo, .inr (0, [.ref qo0, .long (SO 1 0), .long (SO 2 0)])), (qo0, .inl (cJ, 9, .inr (.inl (SO 0))))] := hD
  refine lv_iload_n hx hb dX1_clear_2 rfl (lv_at hl 1 rfl) ?_
  refine lv_bipush (v := (8 : Int32)) hx hb dX1_clear_3 (by decide) ?_
  refine lv_icmp_gt (tgt := 21) hx hb dX1_clear_5 (by decide) (fun c_1 => ?_) (fun c_1 => ?_)
  · have hf := itT c_1 hf
    exact t_X1_clear_21 (fu := fu) C0 hA  _ hf _ _ hP hD hS _ (lv_sub hl [0] rfl)
  · have hf := itF c_1 hf
    refine lv_aload_n hx hb dX1_clear_8 rfl (lv_at hl 0 rfl) ?_
    refine va_get (D := D) (ci := 0) (v := .ref qo0) (C := RX1) (T := TX1) (N := 3) hx hb hts i_X1_clear_X1 hown hK hP 0 rfl rfl 0 (by decide) (hts _ q_X1_clear_1) (fun _ h9 => h9) rfl dX1_clear_9 ?_
    refine lv_iload_n hx hb dX1_clear_12 rfl (lv_at hl 1 rfl) ?_
    refine lv_lconst (v := (0 : Int64)) hx hb dX1_clear_13 (by decide) ?_
    obtain ⟨g_2, hf⟩ := gd_some hf
    refine va_last hx hb hK hP hD hS 1 1 rfl rfl g_2 dX1_clear_14 (fun H locs hP hD hS => ?_)
    have hP : va_P D vwCl [(zo, .inr (0, [.ref qo0, .long (SO 1 0), .long (SO 2 0)])), (qo0, .inl (cJ, 9, .inr (.inl (vp_updL (SO 0) x1.toNatClampNeg (0 : Int64)))))] H := hP
    have hD : va_D A [(zo, .inr (0, [.ref qo0, .long (SO 1 0), .long (SO 2 0)])), (qo0, .inl (cJ, 9, .inr (.inl (vp_updL (SO 0) x1.toNatClampNeg (0 : Int64)))))] := hD
    refine lv_iinc (v := (x1 + (1 : Int32))) (lv' := [(1, .int (x1 + (1 : Int32))), (0, .ref zo)]) hx hb dX1_clear_15 hl (k := 1) rfl rfl (by decide) rfl (fun ls hl => ?_)
    refine lv_goto (tgt := 2) hx hb dX1_clear_18 (by decide) ?_
    exact K2 _ _ hf _ _ hP hD hS _ (lv_sub hl [1, 0] rfl)
theorem t_X1_clear_2 {p : Program} {l : Launch} {e : Env} {s : State} {m : MethodId} {args : Array Value} {below : List Frame} {meth : Method} {c : Code} {D : va_G} {cI cJ : ClassId} {A : Nat → Prop} {fu : Nat} {zo qo0 : Nat} {o : S64} (C0 : Cx RX1 wsX1_clear cX1_clear 2 none D vwCl (tyS cI cJ) p s m args meth c) (hA : ∀ q : Nat, s.heap.size ≤ q → A q) : ∀ (n : Nat) (x1 : Int32) (SO : S64), f_X1_clear_2 fu   n x1 SO = some o → ∀ (H : Heap) (locs : List Loc), va_P D vwCl (wO zo qo0 cJ SO) H → va_D A (wO zo qo0 cJ SO) → va_S A s.heap H locs → ∀ (ls : Array Slot), lv_has ls 2 [(0, .ref zo), (1, .int x1)] → W p l e rm_X1_clear s m args below meth c H locs 0 0 (MQ below (sZv D vwCl (tyS cI cJ) A (wO zo qo0 cJ (o))) args s 0 0 A) (F0 m 2 ls []) := by
  intro n
  induction n with
  | zero =>
    intro x1 SO hf
    have hf : (none : Option (S64)) = some o := hf
    cases hf
  | succ n ih => exact ts_X1_clear_2 (fu := fu) (k2 := f_X1_clear_2 fu   n) C0 hA  ih
set_option maxHeartbeats 4000000 in
set_option maxRecDepth 100000 in
theorem c_X1_clear (l : Launch) (D : va_G) (cI cJ : ClassId) (fu : Nat) (zo qo0 : Nat) (SO : S64) (o : S64) (hf : f_X1_clear fu SO = some o) : MV l yX1_clear wsX1_clear rm_X1_clear D vwCl (tyS cI cJ) [.ref zo] (wO zo qo0 cJ SO) (wO zo qo0 cJ (o)) := by
  intro sz
  refine s_entry (own := RX1) (cc := cX1_clear) (maxL := 2) (ret := none) (Qc := fun A => sZv D vwCl (tyS cI cJ) A (wO zo qo0 cJ (o))) rfl (by decide) rfl rfl (Nat.le_of_ble_eq_true rfl) ?_
  intro p e s m args below meth c A C0 hA hP hD hS ls hl
  obtain ⟨hx, hb, hr, hml, hown, hts, hlocks, hK⟩ := id C0
  have hl : lv_has ls 2 [(0, .ref zo)] := hl
  have hP : va_P D vwCl [(zo, .inr (0, [.ref qo0, .long (SO 1 0), .long (SO 2 0)])), (qo0, .inl (cJ, 9, .inr (.inl (SO 0))))] s.heap := hP
  have hD : va_D A [(zo, .inr (0, [.ref qo0, .long (SO 1 0), .long (SO 2 0)])), (qo0, .inl (cJ, 9, .inr (.inl (SO 0))))] := hD
  refine lv_iconst (v := (0 : Int32)) hx hb dX1_clear_0 (by decide) ?_
  refine lv_istore_n (lv' := [(1, .int (0 : Int32)), (0, .ref zo)]) hx hb dX1_clear_1 rfl hl (by decide) rfl (fun ls hl => ?_)
  exact t_X1_clear_2 (fu := fu) C0 hA  fu _ _ hf _ _ hP hD hS _ (lv_sub hl [1, 0] rfl)
abbrev rm_X1_survival : Room := { frames := 4, cells := 0, slots := 0, locals := 85 }
set_option maxHeartbeats 4000000 in
set_option maxRecDepth 100000 in
theorem ts_X1_survival_5 {p : Program} {l : Launch} {e : Env} {s : State} {m : MethodId} {args : Array Value} {below : List Frame} {meth : Method} {c : Code} {D : va_G} {cI cJ : ClassId} {A : Nat → Prop} {fu : Nat} {zt qt0 qt1 qt2 qt3 qt4 : Nat} {ST : S32} {o : Int64} (C0 : Cx RX1 wsX1_survival cX1_survival 6 (some .long) D vwCl (tyS cI cJ) p s m args meth c) (hA : ∀ q : Nat, s.heap.size ≤ q → A q) {k5 : Int32 → Int32 → Int64 → Int32 → Option (Int64)} (K5 : ∀ (x1 : Int32) (x2 : Int32) (x3 : Int64) (x5 : Int32), k5 x1 x2 x3 x5 = some o → ∀ (H : Heap) (locs : List Loc), va_P D vwCl (wT zt qt0 qt1 qt2 qt3 qt4 cI ST) H → va_D A (wT zt qt0 qt1 qt2 qt3 qt4 cI ST) → va_S A s.heap H locs → ∀ (ls : Array Slot), lv_has ls 6 [(0, .ref zt), (1, .int x1), (2, .int x2), (3, .long x3), (5, .int x5)] → W p l e rm_X1_survival s m args below meth c H locs 0 0 (MQ below (sZl D vwCl (tyS cI cJ) A (wT zt qt0 qt1 qt2 qt3 qt4 cI ST) (o)) args s 0 0 A) (F0 m 5 ls [])) : ∀ (x1 : Int32) (x2 : Int32) (x3 : Int64) (x5 : Int32), s_X1_survival_5 fu  k5 ST x1 x2 x3 x5 = some o → ∀ (H : Heap) (locs : List Loc), va_P D vwCl (wT zt qt0 qt1 qt2 qt3 qt4 cI ST) H → va_D A (wT zt qt0 qt1 qt2 qt3 qt4 cI ST) → va_S A s.heap H locs → ∀ (ls : Array Slot), lv_has ls 6 [(0, .ref zt), (1, .int x1), (2, .int x2), (3, .long x3), (5, .int x5)] → W p l e rm_X1_survival s m args below meth c H locs 0 0 (MQ below (sZl D vwCl (tyS cI cJ) A (wT zt qt0 qt1 qt2 qt3 qt4 cI ST) (o)) args s 0 0 A) (F0 m 5 ls []) := by
  obtain ⟨hx, hb, hr, hml, hown, hts, hlocks, hK⟩ := id C0
  intro x1 x2 x3 x5 hf H locs hP hD hS ls hl
  have hP : va_P D vwCl [(zt, .inr (2, [.ref qt0, .ref qt1, .ref qt2, .ref qt3, .ref qt4, .int (ST 5 0), .int (ST 6 0)])), (qt0, .inl (cI, 8, .inl (ST 0))), (qt1, .inl (cI, 8, .inl (ST 1))), (qt2, .inl (cI, 8, .inl (ST 2))), (qt3, .inl (cI, 8, .inl (ST 3))), (qt4, .inl (cI, 8, .inl (ST 4)))] H := hP
  have hD : va_D A [(zt, .inr (2, [.ref qt0, .ref qt1, .ref qt2, .ref qt3, .ref qt4, .int (ST 5 0), .int (ST 6 0)])), (qt0, .inl (cI, 8, .inl (ST 0))), (qt1, .inl (cI, 8, .inl (ST 1))), (qt2, .inl (cI, 8, .inl (ST 2))), (qt3, .inl (cI, 8, .inl (ST 3))), (qt4, .inl (cI, 8, .inl (ST 4)))] := hD
  refine lv_iload hx hb dX1_survival_5 (lv_at hl 4 rfl) ?_
  refine lv_iload_n hx hb dX1_survival_7 rfl (lv_at hl 2 rfl) ?_
  refine lv_icmp_ge (tgt := 31) hx hb dX1_survival_8 (by decide) (fun c_1 => ?_) (fun c_1 => ?_)
  · have hf := itT c_1 hf
    refine lv_lload_n hx hb dX1_survival_31 rfl (lv_at hl 3 rfl) ?_
    obtain rfl := Option.some.inj hf
    exact s_lret (r := x3) hx hb hr hlocks hK hP hD hS dX1_survival_32
  · have hf := itF c_1 hf
    refine lv_lload_n hx hb dX1_survival_11 rfl (lv_at hl 3 rfl) ?_
    refine lv_bipush (v := (10 : Int32)) hx hb dX1_survival_12 (by decide) ?_
    refine lv_aload_n hx hb dX1_survival_14 rfl (lv_at hl 0 rfl) ?_
    refine lv_iload_n hx hb dX1_survival_15 rfl (lv_at hl 1 rfl) ?_
    refine lv_iload hx hb dX1_survival_16 (lv_at hl 4 rfl) ?_
    obtain ⟨o_2, h_2, hf⟩ := bd_some hf
    refine s_callVI (wc := (wT zt qt0 qt1 qt2 qt3 qt4 cI ST)) (wr := []) (wc' := (wT zt qt0 qt1 qt2 qt3 qt4 cI ST)) (w' := [(zt, .inr (2, [.ref qt0, .ref qt1, .ref qt2, .ref qt3, .ref qt4, .int (ST 5 0), .int (ST 6 0)])), (qt0, .inl (cI, 8, .inl (ST 0))), (qt1, .inl (cI, 8, .inl (ST 1))), (qt2, .inl (cI, 8, .inl (ST 2))), (qt3, .inl (cI, 8, .inl (ST 3))), (qt4, .inl (cI, 8, .inl (ST 4)))]) (isC := [0, 1, 2, 3, 4, 5]) (isR := []) (perm := [0, 1, 2, 3, 4, 5]) (As := [.int x1, .int x5]) (rest := [.int (10 : Int32), .long x3]) (ci := 2) (q := (RX3, TX3, 7)) ⟨hx, hb, hml, hown, hts⟩ (c_X3_chanceAfter l D cI cJ fu zt qt0 qt1 qt2 qt3 qt4 ST x1 x5 o_2 h_2) (cwV 2 hts gX1_survival_X3_chanceAfter rfl rfl rfl (by decide +kernel) ⟨Nat.le_of_ble_eq_true rfl, Nat.le_of_ble_eq_true rfl⟩) hK hP hD hS hA ⟨rfl, rfl, by decide, by decide, by decide, by decide, rfl⟩ rfl rfl rfl rfl hl.1 rfl (Nat.le_of_ble_eq_true rfl) dX1_survival_18 (fun H locs hP hD hS => ?_)
    refine lv_isub hx hb dX1_survival_21 ?_
    refine lv_i2l (v := (((10 : Int32) - o_2)).toInt64) hx hb dX1_survival_22 rfl ?_
    refine lv_lmul hx hb dX1_survival_23 ?_
    refine lv_lstore_n (lv' := [(3, .long (x3 * ((((10 : Int32) - o_2)).toInt64))), (0, .ref zt), (1, .int x1), (2, .int x2), (5, .int x5)]) hx hb dX1_survival_24 rfl hl (by decide) rfl (fun ls hl => ?_)
    refine lv_iinc (v := (x5 + (1 : Int32))) (lv' := [(5, .int (x5 + (1 : Int32))), (3, .long (x3 * ((((10 : Int32) - o_2)).toInt64))), (0, .ref zt), (1, .int x1), (2, .int x2)]) hx hb dX1_survival_25 hl (k := 4) rfl rfl (by decide) rfl (fun ls hl => ?_)
    refine lv_goto (tgt := 5) hx hb dX1_survival_28 (by decide) ?_
    exact K5 _ _ _ _ hf _ _ hP hD hS _ (lv_sub hl [2, 3, 4, 1, 0] rfl)
theorem t_X1_survival_5 {p : Program} {l : Launch} {e : Env} {s : State} {m : MethodId} {args : Array Value} {below : List Frame} {meth : Method} {c : Code} {D : va_G} {cI cJ : ClassId} {A : Nat → Prop} {fu : Nat} {zt qt0 qt1 qt2 qt3 qt4 : Nat} {ST : S32} {o : Int64} (C0 : Cx RX1 wsX1_survival cX1_survival 6 (some .long) D vwCl (tyS cI cJ) p s m args meth c) (hA : ∀ q : Nat, s.heap.size ≤ q → A q) : ∀ (n : Nat) (x1 : Int32) (x2 : Int32) (x3 : Int64) (x5 : Int32), f_X1_survival_5 fu  ST n x1 x2 x3 x5 = some o → ∀ (H : Heap) (locs : List Loc), va_P D vwCl (wT zt qt0 qt1 qt2 qt3 qt4 cI ST) H → va_D A (wT zt qt0 qt1 qt2 qt3 qt4 cI ST) → va_S A s.heap H locs → ∀ (ls : Array Slot), lv_has ls 6 [(0, .ref zt), (1, .int x1), (2, .int x2), (3, .long x3), (5, .int x5)] → W p l e rm_X1_survival s m args below meth c H locs 0 0 (MQ below (sZl D vwCl (tyS cI cJ) A (wT zt qt0 qt1 qt2 qt3 qt4 cI ST) (o)) args s 0 0 A) (F0 m 5 ls []) := by
  intro n
  induction n with
  | zero =>
    intro x1 x2 x3 x5 hf
    have hf : (none : Option (Int64)) = some o := hf
    cases hf
  | succ n ih => exact ts_X1_survival_5 (fu := fu) (k5 := f_X1_survival_5 fu  ST n) C0 hA  ih
set_option maxHeartbeats 4000000 in
set_option maxRecDepth 100000 in
theorem c_X1_survival (l : Launch) (D : va_G) (cI cJ : ClassId) (fu : Nat) (zt qt0 qt1 qt2 qt3 qt4 : Nat) (ST : S32) (x1 : Int32) (x2 : Int32) (o : Int64) (hf : f_X1_survival fu ST x1 x2 = some o) : ML l yX1_survival wsX1_survival rm_X1_survival D vwCl (tyS cI cJ) [.ref zt, .int x1, .int x2] (wT zt qt0 qt1 qt2 qt3 qt4 cI ST) (wT zt qt0 qt1 qt2 qt3 qt4 cI ST) (o) := by
  intro sz
  refine s_entry (own := RX1) (cc := cX1_survival) (maxL := 6) (ret := (some .long)) (Qc := fun A => sZl D vwCl (tyS cI cJ) A (wT zt qt0 qt1 qt2 qt3 qt4 cI ST) (o)) rfl (by decide) rfl rfl (Nat.le_of_ble_eq_true rfl) ?_
  intro p e s m args below meth c A C0 hA hP hD hS ls hl
  obtain ⟨hx, hb, hr, hml, hown, hts, hlocks, hK⟩ := id C0
  have hl : lv_has ls 6 [(0, .ref zt), (1, .int x1), (2, .int x2)] := hl
  have hP : va_P D vwCl [(zt, .inr (2, [.ref qt0, .ref qt1, .ref qt2, .ref qt3, .ref qt4, .int (ST 5 0), .int (ST 6 0)])), (qt0, .inl (cI, 8, .inl (ST 0))), (qt1, .inl (cI, 8, .inl (ST 1))), (qt2, .inl (cI, 8, .inl (ST 2))), (qt3, .inl (cI, 8, .inl (ST 3))), (qt4, .inl (cI, 8, .inl (ST 4)))] s.heap := hP
  have hD : va_D A [(zt, .inr (2, [.ref qt0, .ref qt1, .ref qt2, .ref qt3, .ref qt4, .int (ST 5 0), .int (ST 6 0)])), (qt0, .inl (cI, 8, .inl (ST 0))), (qt1, .inl (cI, 8, .inl (ST 1))), (qt2, .inl (cI, 8, .inl (ST 2))), (qt3, .inl (cI, 8, .inl (ST 3))), (qt4, .inl (cI, 8, .inl (ST 4)))] := hD
  refine lv_lconst (v := (1 : Int64)) hx hb dX1_survival_0 (by decide) ?_
  refine lv_lstore_n (lv' := [(3, .long (1 : Int64)), (0, .ref zt), (1, .int x1), (2, .int x2)]) hx hb dX1_survival_1 rfl hl (by decide) rfl (fun ls hl => ?_)
  refine lv_iconst (v := (0 : Int32)) hx hb dX1_survival_2 (by decide) ?_
  refine lv_istore (lv' := [(5, .int (0 : Int32)), (3, .long (1 : Int64)), (0, .ref zt), (1, .int x1), (2, .int x2)]) hx hb dX1_survival_3 hl (by decide) rfl (fun ls hl => ?_)
  exact t_X1_survival_5 (fu := fu) C0 hA  fu _ _ _ _ hf _ _ hP hD hS _ (lv_sub hl [2, 3, 4, 1, 0] rfl)
theorem q_X1_addOneAbove_1 : (Cond.fieldLink RX1 9 "UpWhenDies$Odds" "byDeaths" "[J" : Cond) ∈ wsX1_addOneAbove := List.mem_of_getElem? (i := 1) rfl
theorem q_X1_addOneAbove_2 : (Cond.fieldLink RX1 57 "UpWhenDies$Odds" "below" "J" : Cond) ∈ wsX1_addOneAbove := List.mem_of_getElem? (i := 2) rfl
theorem i_X1_addOneAbove_X1 : ∀ w ∈ wsX10, w ∈ wsX1_addOneAbove := fun _ h => (List.mem_cons_of_mem _ (List.mem_append_right _ h))
abbrev rm_X1_addOneAbove : Room := { frames := 0, cells := 0, slots := 0, locals := 0 }
set_option maxHeartbeats 4000000 in
set_option maxRecDepth 100000 in
theorem t_X1_addOneAbove_45 {p : Program} {l : Launch} {e : Env} {s : State} {m : MethodId} {args : Array Value} {below : List Frame} {meth : Method} {c : Code} {D : va_G} {cI cJ : ClassId} {A : Nat → Prop} {fu : Nat} {zo qo0 : Nat} {o : S64} (C0 : Cx RX1 wsX1_addOneAbove cX1_addOneAbove 6 none D vwCl (tyS cI cJ) p s m args meth c) (hA : ∀ q : Nat, s.heap.size ≤ q → A q) : ∀ (x1 : Int64) (x3 : Int64) (SO : S64), f_X1_addOneAbove_45 fu   x1 x3 SO = some o → ∀ (H : Heap) (locs : List Loc), va_P D vwCl (wO zo qo0 cJ SO) H → va_D A (wO zo qo0 cJ SO) → va_S A s.heap H locs → ∀ (ls : Array Slot), lv_has ls 6 [(0, .ref zo), (1, .long x1), (3, .long x3)] → W p l e rm_X1_addOneAbove s m args below meth c H locs 0 0 (MQ below (sZv D vwCl (tyS cI cJ) A (wO zo qo0 cJ (o))) args s 0 0 A) (F0 m 45 ls []) := by
  obtain ⟨hx, hb, hr, hml, hown, hts, hlocks, hK⟩ := id C0
  intro x1 x3 SO hf H locs hP hD hS ls hl
  have hP : va_P D vwCl [(zo, .inr (0, [.ref qo0, .long (SO 1 0), .long (SO 2 0)])), (qo0, .inl (cJ, 9, .inr (.inl (SO 0))))] H := hP
  have hD : va_D A [(zo, .inr (0, [.ref qo0, .long (SO 1 0), .long (SO 2 0)])), (qo0, .inl (cJ, 9, .inr (.inl (SO 0))))] := hD
  refine lv_aload_n hx hb dX1_addOneAbove_45 rfl (lv_at hl 0 rfl) ?_
  refine va_get (D := D) (ci := 0) (v := .ref qo0) (C := RX1) (T := TX1) (N := 3) hx hb hts i_X1_addOneAbove_X1 hown hK hP 0 rfl rfl 0 (by decide) (hts _ q_X1_addOneAbove_1) (fun _ h9 => h9) rfl dX1_addOneAbove_46 ?_
  refine lv_iconst (v := (0 : Int32)) hx hb dX1_addOneAbove_49 (by decide) ?_
  refine lv_dup2_11 hx hb dX1_addOneAbove_50 rfl rfl ?_
  obtain ⟨g_1, hf⟩ := gd_some hf
  refine va_lald hx hb hK hP 1 1 rfl rfl g_1 dX1_addOneAbove_51 ?_
  refine lv_lload_n hx hb dX1_addOneAbove_52 rfl (lv_at hl 1 rfl) ?_
  refine lv_lmul hx hb dX1_addOneAbove_53 ?_
  obtain ⟨g_2, hf⟩ := gd_some hf
  refine va_last hx hb hK hP hD hS 1 1 rfl rfl g_2 dX1_addOneAbove_54 (fun H locs hP hD hS => ?_)
  have hP : va_P D vwCl [(zo, .inr (0, [.ref qo0, .long (SO 1 0), .long (SO 2 0)])), (qo0, .inl (cJ, 9, .inr (.inl (vp_updL (SO 0) (0 : Int32).toNatClampNeg ((SO 0 (0 : Int32).toNatClampNeg) * x1)))))] H := hP
  have hD : va_D A [(zo, .inr (0, [.ref qo0, .long (SO 1 0), .long (SO 2 0)])), (qo0, .inl (cJ, 9, .inr (.inl (vp_updL (SO 0) (0 : Int32).toNatClampNeg ((SO 0 (0 : Int32).toNatClampNeg) * x1)))))] := hD
  refine lv_aload_n hx hb dX1_addOneAbove_55 rfl (lv_at hl 0 rfl) ?_
  refine lv_dup hx hb dX1_addOneAbove_56 rfl ?_
  refine va_get (D := D) (ci := 0) (v := .long (SO 2 0)) (C := RX1) (T := TX1) (N := 3) hx hb hts i_X1_addOneAbove_X1 hown hK hP 0 rfl rfl 2 (by decide) (hts _ q_X1_addOneAbove_2) (fun _ h9 => h9) rfl dX1_addOneAbove_57 ?_
  refine lv_lload_n hx hb dX1_addOneAbove_60 rfl (lv_at hl 2 rfl) ?_
  refine lv_lmul hx hb dX1_addOneAbove_61 ?_
  refine va_put (D := D) (ci := 0) (v := .long ((SO 2 0) * x3)) (ty := .long) (C := RX1) (T := TX1) (N := 3) hx hb hts i_X1_addOneAbove_X1 tyX1 tyX1_ok nmX1 hown hK hP hD hS 0 rfl rfl 2 (by decide) (hts _ q_X1_addOneAbove_2) (fun _ h9 => h9) rfl (by decide +kernel) rfl rfl (Nat.le_of_ble_eq_true rfl) dX1_addOneAbove_62 (fun H locs hP hD hS => ?_)
  have hP : va_P D vwCl [(zo, .inr (0, [.ref qo0, .long (SO 1 0), .long ((SO 2 0) * x3)])), (qo0, .inl (cJ, 9, .inr (.inl (vp_updL (SO 0) (0 : Int32).toNatClampNeg ((SO 0 (0 : Int32).toNatClampNeg) * x1)))))] H := hP
  have hD : va_D A [(zo, .inr (0, [.ref qo0, .long (SO 1 0), .long ((SO 2 0) * x3)])), (qo0, .inl (cJ, 9, .inr (.inl (vp_updL (SO 0) (0 : Int32).toNatClampNeg ((SO 0 (0 : Int32).toNatClampNeg) * x1)))))] := hD
  obtain rfl := Option.some.inj hf
  exact s_vret hx hb hr hlocks hK hP hD hS dX1_addOneAbove_65
set_option maxHeartbeats 4000000 in
set_option maxRecDepth 100000 in
theorem ts_X1_addOneAbove_4 {p : Program} {l : Launch} {e : Env} {s : State} {m : MethodId} {args : Array Value} {below : List Frame} {meth : Method} {c : Code} {D : va_G} {cI cJ : ClassId} {A : Nat → Prop} {fu : Nat} {zo qo0 : Nat} {o : S64} (C0 : Cx RX1 wsX1_addOneAbove cX1_addOneAbove 6 none D vwCl (tyS cI cJ) p s m args meth c) (hA : ∀ q : Nat, s.heap.size ≤ q → A q) {k4 : Int64 → Int64 → Int32 → S64 → Option (S64)} (K4 : ∀ (x1 : Int64) (x3 : Int64) (x5 : Int32) (SO : S64), k4 x1 x3 x5 SO = some o → ∀ (H : Heap) (locs : List Loc), va_P D vwCl (wO zo qo0 cJ SO) H → va_D A (wO zo qo0 cJ SO) → va_S A s.heap H locs → ∀ (ls : Array Slot), lv_has ls 6 [(0, .ref zo), (1, .long x1), (3, .long x3), (5, .int x5)] → W p l e rm_X1_addOneAbove s m args below meth c H locs 0 0 (MQ below (sZv D vwCl (tyS cI cJ) A (wO zo qo0 cJ (o))) args s 0 0 A) (F0 m 4 ls [])) : ∀ (x1 : Int64) (x3 : Int64) (x5 : Int32) (SO : S64), s_X1_addOneAbove_4 fu  k4  x1 x3 x5 SO = some o → ∀ (H : Heap) (locs : List Loc), va_P D vwCl (wO zo qo0 cJ SO) H → va_D A (wO zo qo0 cJ SO) → va_S A s.heap H locs → ∀ (ls : Array Slot), lv_has ls 6 [(0, .ref zo), (1, .long x1), (3, .long x3), (5, .int x5)] → W p l e rm_X1_addOneAbove s m args below meth c H locs 0 0 (MQ below (sZv D vwCl (tyS cI cJ) A (wO zo qo0 cJ (o))) args s 0 0 A) (F0 m 4 ls []) := by
  obtain ⟨hx, hb, hr, hml, hown, hts, hlocks, hK⟩ := id C0
  intro x1 x3 x5 SO hf H locs hP hD hS ls hl
  have hP : va_P D vwCl [(zo, .inr (0, [.ref qo0, .long (SO 1 0), .long (SO 2 0)])), (qo0, .inl (cJ, 9, .inr (.inl (SO 0))))] H := hP
  have hD : va_D A [(zo, .inr (0, [.ref qo0, .long (SO 1 0), .long (SO 2 0)])), (qo0, .inl (cJ, 9, .inr (.inl (SO 0))))] := hD
  refine lv_iload hx hb dX1_addOneAbove_4 (lv_at hl 3 rfl) ?_
  refine lv_if_le (tgt := 45) hx hb dX1_addOneAbove_6 (by decide) (fun c_1 => ?_) (fun c_1 => ?_)
  · have hf := itT c_1 hf
    exact t_X1_addOneAbove_45 (fu := fu) C0 hA  _ _ _ hf _ _ hP hD hS _ (lv_sub hl [0, 1, 2] rfl)
  · have hf := itF c_1 hf
    refine lv_aload_n hx hb dX1_addOneAbove_9 rfl (lv_at hl 0 rfl) ?_
    refine va_get (D := D) (ci := 0) (v := .ref qo0) (C := RX1) (T := TX1) (N := 3) hx hb hts i_X1_addOneAbove_X1 hown hK hP 0 rfl rfl 0 (by decide) (hts _ q_X1_addOneAbove_1) (fun _ h9 => h9) rfl dX1_addOneAbove_10 ?_
    refine lv_iload hx hb dX1_addOneAbove_13 (lv_at hl 3 rfl) ?_
    refine lv_aload_n hx hb dX1_addOneAbove_15 rfl (lv_at hl 0 rfl) ?_
    refine va_get (D := D) (ci := 0) (v := .ref qo0) (C := RX1) (T := TX1) (N := 3) hx hb hts i_X1_addOneAbove_X1 hown hK hP 0 rfl rfl 0 (by decide) (hts _ q_X1_addOneAbove_1) (fun _ h9 => h9) rfl dX1_addOneAbove_16 ?_
    refine lv_iload hx hb dX1_addOneAbove_19 (lv_at hl 3 rfl) ?_
    obtain ⟨g_2, hf⟩ := gd_some hf
    refine va_lald hx hb hK hP 1 1 rfl rfl g_2 dX1_addOneAbove_21 ?_
    refine lv_lload_n hx hb dX1_addOneAbove_22 rfl (lv_at hl 1 rfl) ?_
    refine lv_lmul hx hb dX1_addOneAbove_23 ?_
    refine lv_aload_n hx hb dX1_addOneAbove_24 rfl (lv_at hl 0 rfl) ?_
    refine va_get (D := D) (ci := 0) (v := .ref qo0) (C := RX1) (T := TX1) (N := 3) hx hb hts i_X1_addOneAbove_X1 hown hK hP 0 rfl rfl 0 (by decide) (hts _ q_X1_addOneAbove_1) (fun _ h9 => h9) rfl dX1_addOneAbove_25 ?_
    refine lv_iload hx hb dX1_addOneAbove_28 (lv_at hl 3 rfl) ?_
    refine lv_iconst (v := (1 : Int32)) hx hb dX1_addOneAbove_30 (by decide) ?_
    refine lv_isub hx hb dX1_addOneAbove_31 ?_
    obtain ⟨g_3, hf⟩ := gd_some hf
    refine va_lald hx hb hK hP 1 1 rfl rfl g_3 dX1_addOneAbove_32 ?_
    refine lv_lload_n hx hb dX1_addOneAbove_33 rfl (lv_at hl 2 rfl) ?_
    refine lv_lload_n hx hb dX1_addOneAbove_34 rfl (lv_at hl 1 rfl) ?_
    refine lv_lsub hx hb dX1_addOneAbove_35 ?_
    refine lv_lmul hx hb dX1_addOneAbove_36 ?_
    refine lv_ladd hx hb dX1_addOneAbove_37 ?_
    obtain ⟨g_4, hf⟩ := gd_some hf
    refine va_last hx hb hK hP hD hS 1 1 rfl rfl g_4 dX1_addOneAbove_38 (fun H locs hP hD hS => ?_)
    have hP : va_P D vwCl [(zo, .inr (0, [.ref qo0, .long (SO 1 0), .long (SO 2 0)])), (qo0, .inl (cJ, 9, .inr (.inl (vp_updL (SO 0) x5.toNatClampNeg (((SO 0 x5.toNatClampNeg) * x1) + ((SO 0 (x5 - (1 : Int32)).toNatClampNeg) * (x3 - x1)))))))] H := hP
    have hD : va_D A [(zo, .inr (0, [.ref qo0, .long (SO 1 0), .long (SO 2 0)])), (qo0, .inl (cJ, 9, .inr (.inl (vp_updL (SO 0) x5.toNatClampNeg (((SO 0 x5.toNatClampNeg) * x1) + ((SO 0 (x5 - (1 : Int32)).toNatClampNeg) * (x3 - x1)))))))] := hD
    refine lv_iinc (v := (x5 + (-1 : Int32))) (lv' := [(5, .int (x5 + (-1 : Int32))), (0, .ref zo), (1, .long x1), (3, .long x3)]) hx hb dX1_addOneAbove_39 hl (k := 3) rfl rfl (by decide) rfl (fun ls hl => ?_)
    refine lv_goto (tgt := 4) hx hb dX1_addOneAbove_42 (by decide) ?_
    exact K4 _ _ _ _ hf _ _ hP hD hS _ (lv_sub hl [1, 2, 3, 0] rfl)
theorem t_X1_addOneAbove_4 {p : Program} {l : Launch} {e : Env} {s : State} {m : MethodId} {args : Array Value} {below : List Frame} {meth : Method} {c : Code} {D : va_G} {cI cJ : ClassId} {A : Nat → Prop} {fu : Nat} {zo qo0 : Nat} {o : S64} (C0 : Cx RX1 wsX1_addOneAbove cX1_addOneAbove 6 none D vwCl (tyS cI cJ) p s m args meth c) (hA : ∀ q : Nat, s.heap.size ≤ q → A q) : ∀ (n : Nat) (x1 : Int64) (x3 : Int64) (x5 : Int32) (SO : S64), f_X1_addOneAbove_4 fu   n x1 x3 x5 SO = some o → ∀ (H : Heap) (locs : List Loc), va_P D vwCl (wO zo qo0 cJ SO) H → va_D A (wO zo qo0 cJ SO) → va_S A s.heap H locs → ∀ (ls : Array Slot), lv_has ls 6 [(0, .ref zo), (1, .long x1), (3, .long x3), (5, .int x5)] → W p l e rm_X1_addOneAbove s m args below meth c H locs 0 0 (MQ below (sZv D vwCl (tyS cI cJ) A (wO zo qo0 cJ (o))) args s 0 0 A) (F0 m 4 ls []) := by
  intro n
  induction n with
  | zero =>
    intro x1 x3 x5 SO hf
    have hf : (none : Option (S64)) = some o := hf
    cases hf
  | succ n ih => exact ts_X1_addOneAbove_4 (fu := fu) (k4 := f_X1_addOneAbove_4 fu   n) C0 hA  ih
set_option maxHeartbeats 4000000 in
set_option maxRecDepth 100000 in
theorem c_X1_addOneAbove (l : Launch) (D : va_G) (cI cJ : ClassId) (fu : Nat) (zo qo0 : Nat) (SO : S64) (x1 : Int64) (x3 : Int64) (o : S64) (hf : f_X1_addOneAbove fu SO x1 x3 = some o) : MV l yX1_addOneAbove wsX1_addOneAbove rm_X1_addOneAbove D vwCl (tyS cI cJ) [.ref zo, .long x1, .long x3] (wO zo qo0 cJ SO) (wO zo qo0 cJ (o)) := by
  intro sz
  refine s_entry (own := RX1) (cc := cX1_addOneAbove) (maxL := 6) (ret := none) (Qc := fun A => sZv D vwCl (tyS cI cJ) A (wO zo qo0 cJ (o))) rfl (by decide) rfl rfl (Nat.le_of_ble_eq_true rfl) ?_
  intro p e s m args below meth c A C0 hA hP hD hS ls hl
  obtain ⟨hx, hb, hr, hml, hown, hts, hlocks, hK⟩ := id C0
  have hl : lv_has ls 6 [(0, .ref zo), (1, .long x1), (3, .long x3)] := hl
  have hP : va_P D vwCl [(zo, .inr (0, [.ref qo0, .long (SO 1 0), .long (SO 2 0)])), (qo0, .inl (cJ, 9, .inr (.inl (SO 0))))] s.heap := hP
  have hD : va_D A [(zo, .inr (0, [.ref qo0, .long (SO 1 0), .long (SO 2 0)])), (qo0, .inl (cJ, 9, .inr (.inl (SO 0))))] := hD
  refine lv_bipush (v := (8 : Int32)) hx hb dX1_addOneAbove_0 (by decide) ?_
  refine lv_istore (lv' := [(5, .int (8 : Int32)), (0, .ref zo), (1, .long x1), (3, .long x3)]) hx hb dX1_addOneAbove_2 hl (by decide) rfl (fun ls hl => ?_)
  exact t_X1_addOneAbove_4 (fu := fu) C0 hA  fu _ _ _ _ hf _ _ hP hD hS _ (lv_sub hl [1, 2, 3, 0] rfl)
theorem q_X1_atLeast_1 : (Cond.fieldLink RX1 9 "UpWhenDies$Odds" "byDeaths" "[J" : Cond) ∈ wsX1_atLeast := List.mem_of_getElem? (i := 1) rfl
theorem i_X1_atLeast_X1 : ∀ w ∈ wsX10, w ∈ wsX1_atLeast := fun _ h => (List.mem_cons_of_mem _ (List.mem_append_right _ h))
abbrev rm_X1_atLeast : Room := { frames := 0, cells := 0, slots := 0, locals := 0 }
set_option maxHeartbeats 4000000 in
set_option maxRecDepth 100000 in
theorem ts_X1_atLeast_5 {p : Program} {l : Launch} {e : Env} {s : State} {m : MethodId} {args : Array Value} {below : List Frame} {meth : Method} {c : Code} {D : va_G} {cI cJ : ClassId} {A : Nat → Prop} {fu : Nat} {zo qo0 : Nat} {SO : S64} {o : Int64} (C0 : Cx RX1 wsX1_atLeast cX1_atLeast 5 (some .long) D vwCl (tyS cI cJ) p s m args meth c) (hA : ∀ q : Nat, s.heap.size ≤ q → A q) {k5 : Int64 → Int32 → Option (Int64)} (K5 : ∀ (x2 : Int64) (x4 : Int32), k5 x2 x4 = some o → ∀ (H : Heap) (locs : List Loc), va_P D vwCl (wO zo qo0 cJ SO) H → va_D A (wO zo qo0 cJ SO) → va_S A s.heap H locs → ∀ (ls : Array Slot), lv_has ls 5 [(0, .ref zo), (2, .long x2), (4, .int x4)] → W p l e rm_X1_atLeast s m args below meth c H locs 0 0 (MQ below (sZl D vwCl (tyS cI cJ) A (wO zo qo0 cJ SO) (o)) args s 0 0 A) (F0 m 5 ls [])) : ∀ (x2 : Int64) (x4 : Int32), s_X1_atLeast_5 fu  k5 SO x2 x4 = some o → ∀ (H : Heap) (locs : List Loc), va_P D vwCl (wO zo qo0 cJ SO) H → va_D A (wO zo qo0 cJ SO) → va_S A s.heap H locs → ∀ (ls : Array Slot), lv_has ls 5 [(0, .ref zo), (2, .long x2), (4, .int x4)] → W p l e rm_X1_atLeast s m args below meth c H locs 0 0 (MQ below (sZl D vwCl (tyS cI cJ) A (wO zo qo0 cJ SO) (o)) args s 0 0 A) (F0 m 5 ls []) := by
  obtain ⟨hx, hb, hr, hml, hown, hts, hlocks, hK⟩ := id C0
  intro x2 x4 hf H locs hP hD hS ls hl
  have hP : va_P D vwCl [(zo, .inr (0, [.ref qo0, .long (SO 1 0), .long (SO 2 0)])), (qo0, .inl (cJ, 9, .inr (.inl (SO 0))))] H := hP
  have hD : va_D A [(zo, .inr (0, [.ref qo0, .long (SO 1 0), .long (SO 2 0)])), (qo0, .inl (cJ, 9, .inr (.inl (SO 0))))] := hD
  refine lv_iload hx hb dX1_atLeast_5 (lv_at hl 2 rfl) ?_
  refine lv_if_lt (tgt := 33) hx hb dX1_atLeast_7 (by decide) (fun c_1 => ?_) (fun c_1 => ?_)
  · have hf := itT c_1 hf
    refine lv_lload_n hx hb dX1_atLeast_33 rfl (lv_at hl 1 rfl) ?_
    obtain rfl := Option.some.inj hf
    exact s_lret (r := x2) hx hb hr hlocks hK hP hD hS dX1_atLeast_34
  · have hf := itF c_1 hf
    refine lv_iload hx hb dX1_atLeast_10 (lv_at hl 2 rfl) ?_
    refine lv_bipush (v := (8 : Int32)) hx hb dX1_atLeast_12 (by decide) ?_
    refine lv_icmp_gt (tgt := 33) hx hb dX1_atLeast_14 (by decide) (fun c_2 => ?_) (fun c_2 => ?_)
    · have hf := itT c_2 hf
      refine lv_lload_n hx hb dX1_atLeast_33 rfl (lv_at hl 1 rfl) ?_
      obtain rfl := Option.some.inj hf
      exact s_lret (r := x2) hx hb hr hlocks hK hP hD hS dX1_atLeast_34
    · have hf := itF c_2 hf
      refine lv_lload_n hx hb dX1_atLeast_17 rfl (lv_at hl 1 rfl) ?_
      refine lv_aload_n hx hb dX1_atLeast_18 rfl (lv_at hl 0 rfl) ?_
      refine va_get (D := D) (ci := 0) (v := .ref qo0) (C := RX1) (T := TX1) (N := 3) hx hb hts i_X1_atLeast_X1 hown hK hP 0 rfl rfl 0 (by decide) (hts _ q_X1_atLeast_1) (fun _ h9 => h9) rfl dX1_atLeast_19 ?_
      refine lv_iload hx hb dX1_atLeast_22 (lv_at hl 2 rfl) ?_
      obtain ⟨g_3, hf⟩ := gd_some hf
      refine va_lald hx hb hK hP 1 1 rfl rfl g_3 dX1_atLeast_24 ?_
      refine lv_ladd hx hb dX1_atLeast_25 ?_
      refine lv_lstore_n (lv' := [(2, .long (x2 + (SO 0 x4.toNatClampNeg))), (0, .ref zo), (4, .int x4)]) hx hb dX1_atLeast_26 rfl hl (by decide) rfl (fun ls hl => ?_)
      refine lv_iinc (v := (x4 + (1 : Int32))) (lv' := [(4, .int (x4 + (1 : Int32))), (2, .long (x2 + (SO 0 x4.toNatClampNeg))), (0, .ref zo)]) hx hb dX1_atLeast_27 hl (k := 2) rfl rfl (by decide) rfl (fun ls hl => ?_)
      refine lv_goto (tgt := 5) hx hb dX1_atLeast_30 (by decide) ?_
      exact K5 _ _ hf _ _ hP hD hS _ (lv_sub hl [2, 1, 0] rfl)
theorem t_X1_atLeast_5 {p : Program} {l : Launch} {e : Env} {s : State} {m : MethodId} {args : Array Value} {below : List Frame} {meth : Method} {c : Code} {D : va_G} {cI cJ : ClassId} {A : Nat → Prop} {fu : Nat} {zo qo0 : Nat} {SO : S64} {o : Int64} (C0 : Cx RX1 wsX1_atLeast cX1_atLeast 5 (some .long) D vwCl (tyS cI cJ) p s m args meth c) (hA : ∀ q : Nat, s.heap.size ≤ q → A q) : ∀ (n : Nat) (x2 : Int64) (x4 : Int32), f_X1_atLeast_5 fu  SO n x2 x4 = some o → ∀ (H : Heap) (locs : List Loc), va_P D vwCl (wO zo qo0 cJ SO) H → va_D A (wO zo qo0 cJ SO) → va_S A s.heap H locs → ∀ (ls : Array Slot), lv_has ls 5 [(0, .ref zo), (2, .long x2), (4, .int x4)] → W p l e rm_X1_atLeast s m args below meth c H locs 0 0 (MQ below (sZl D vwCl (tyS cI cJ) A (wO zo qo0 cJ SO) (o)) args s 0 0 A) (F0 m 5 ls []) := by
  intro n
  induction n with
  | zero =>
    intro x2 x4 hf
    have hf : (none : Option (Int64)) = some o := hf
    cases hf
  | succ n ih => exact ts_X1_atLeast_5 (fu := fu) (k5 := f_X1_atLeast_5 fu  SO n) C0 hA  ih
set_option maxHeartbeats 4000000 in
set_option maxRecDepth 100000 in
theorem c_X1_atLeast (l : Launch) (D : va_G) (cI cJ : ClassId) (fu : Nat) (zo qo0 : Nat) (SO : S64) (x1 : Int32) (o : Int64) (hf : f_X1_atLeast fu SO x1 = some o) : ML l yX1_atLeast wsX1_atLeast rm_X1_atLeast D vwCl (tyS cI cJ) [.ref zo, .int x1] (wO zo qo0 cJ SO) (wO zo qo0 cJ SO) (o) := by
  intro sz
  refine s_entry (own := RX1) (cc := cX1_atLeast) (maxL := 5) (ret := (some .long)) (Qc := fun A => sZl D vwCl (tyS cI cJ) A (wO zo qo0 cJ SO) (o)) rfl (by decide) rfl rfl (Nat.le_of_ble_eq_true rfl) ?_
  intro p e s m args below meth c A C0 hA hP hD hS ls hl
  obtain ⟨hx, hb, hr, hml, hown, hts, hlocks, hK⟩ := id C0
  have hl : lv_has ls 5 [(0, .ref zo), (1, .int x1)] := hl
  have hP : va_P D vwCl [(zo, .inr (0, [.ref qo0, .long (SO 1 0), .long (SO 2 0)])), (qo0, .inl (cJ, 9, .inr (.inl (SO 0))))] s.heap := hP
  have hD : va_D A [(zo, .inr (0, [.ref qo0, .long (SO 1 0), .long (SO 2 0)])), (qo0, .inl (cJ, 9, .inr (.inl (SO 0))))] := hD
  refine lv_lconst (v := (0 : Int64)) hx hb dX1_atLeast_0 (by decide) ?_
  refine lv_lstore_n (lv' := [(2, .long (0 : Int64)), (0, .ref zo), (1, .int x1)]) hx hb dX1_atLeast_1 rfl hl (by decide) rfl (fun ls hl => ?_)
  refine lv_iload_n hx hb dX1_atLeast_2 rfl (lv_at hl 2 rfl) ?_
  refine lv_istore (lv' := [(4, .int x1), (2, .long (0 : Int64)), (0, .ref zo), (1, .int x1)]) hx hb dX1_atLeast_3 hl (by decide) rfl (fun ls hl => ?_)
  exact t_X1_atLeast_5 (fu := fu) C0 hA  fu _ _ hf _ _ hP hD hS _ (lv_sub hl [2, 1, 0] rfl)
theorem q_X1_shorten_1 : (Cond.fieldLink RX1 57 "UpWhenDies$Odds" "below" "J" : Cond) ∈ wsX1_shorten := List.mem_of_getElem? (i := 1) rfl
theorem q_X1_shorten_2 : (Cond.fieldLink RX1 53 "UpWhenDies$Odds" "above" "J" : Cond) ∈ wsX1_shorten := List.mem_of_getElem? (i := 2) rfl
theorem i_X1_shorten_X1 : ∀ w ∈ wsX10, w ∈ wsX1_shorten := fun _ h => (List.mem_cons_of_mem _ (List.mem_append_right _ h))
abbrev rm_X1_shorten : Room := { frames := 0, cells := 0, slots := 0, locals := 0 }
set_option maxHeartbeats 4000000 in
set_option maxRecDepth 100000 in
theorem t_X1_shorten_43 {p : Program} {l : Launch} {e : Env} {s : State} {m : MethodId} {args : Array Value} {below : List Frame} {meth : Method} {c : Code} {D : va_G} {cI cJ : ClassId} {A : Nat → Prop} {fu : Nat} {zo qo0 : Nat} {o : S64} (C0 : Cx RX1 wsX1_shorten cX1_shorten 8 none D vwCl (tyS cI cJ) p s m args meth c) (hA : ∀ q : Nat, s.heap.size ≤ q → A q) : ∀ (x1 : Int64) (SO : S64), f_X1_shorten_43 fu   x1 SO = some o → ∀ (H : Heap) (locs : List Loc), va_P D vwCl (wO zo qo0 cJ SO) H → va_D A (wO zo qo0 cJ SO) → va_S A s.heap H locs → ∀ (ls : Array Slot), lv_has ls 8 [(0, .ref zo), (1, .long x1)] → W p l e rm_X1_shorten s m args below meth c H locs 0 0 (MQ below (sZv D vwCl (tyS cI cJ) A (wO zo qo0 cJ (o))) args s 0 0 A) (F0 m 43 ls []) := by
  obtain ⟨hx, hb, hr, hml, hown, hts, hlocks, hK⟩ := id C0
  intro x1 SO hf H locs hP hD hS ls hl
  have hP : va_P D vwCl [(zo, .inr (0, [.ref qo0, .long (SO 1 0), .long (SO 2 0)])), (qo0, .inl (cJ, 9, .inr (.inl (SO 0))))] H := hP
  have hD : va_D A [(zo, .inr (0, [.ref qo0, .long (SO 1 0), .long (SO 2 0)])), (qo0, .inl (cJ, 9, .inr (.inl (SO 0))))] := hD
  refine lv_lload_n hx hb dX1_shorten_43 rfl (lv_at hl 1 rfl) ?_
  refine lv_lconst (v := (1 : Int64)) hx hb dX1_shorten_44 (by decide) ?_
  refine W.lcmp hx hb dX1_shorten_45 ?_
  refine lv_if_le (tgt := 69) hx hb dX1_shorten_46 (by decide) (fun c_1 => ?_) (fun c_1 => ?_)
  · have hf := itT c_1 hf
    obtain rfl := Option.some.inj hf
    exact s_vret hx hb hr hlocks hK hP hD hS dX1_shorten_69
  · have hf := itF c_1 hf
    refine lv_aload_n hx hb dX1_shorten_49 rfl (lv_at hl 0 rfl) ?_
    refine lv_dup hx hb dX1_shorten_50 rfl ?_
    refine va_get (D := D) (ci := 0) (v := .long (SO 1 0)) (C := RX1) (T := TX1) (N := 3) hx hb hts i_X1_shorten_X1 hown hK hP 0 rfl rfl 1 (by decide) (hts _ q_X1_shorten_2) (fun _ h9 => h9) rfl dX1_shorten_51 ?_
    refine lv_lload_n hx hb dX1_shorten_54 rfl (lv_at hl 1 rfl) ?_
    obtain ⟨g_2, hf⟩ := zl_some hf
    refine lv_ldiv hx hb dX1_shorten_55 g_2 ?_
    refine va_put (D := D) (ci := 0) (v := .long ((SO 1 0) / x1)) (ty := .long) (C := RX1) (T := TX1) (N := 3) hx hb hts i_X1_shorten_X1 tyX1 tyX1_ok nmX1 hown hK hP hD hS 0 rfl rfl 1 (by decide) (hts _ q_X1_shorten_2) (fun _ h9 => h9) rfl (by decide +kernel) rfl rfl (Nat.le_of_ble_eq_true rfl) dX1_shorten_56 (fun H locs hP hD hS => ?_)
    have hP : va_P D vwCl [(zo, .inr (0, [.ref qo0, .long ((SO 1 0) / x1), .long (SO 2 0)])), (qo0, .inl (cJ, 9, .inr (.inl (SO 0))))] H := hP
    have hD : va_D A [(zo, .inr (0, [.ref qo0, .long ((SO 1 0) / x1), .long (SO 2 0)])), (qo0, .inl (cJ, 9, .inr (.inl (SO 0))))] := hD
    refine lv_aload_n hx hb dX1_shorten_59 rfl (lv_at hl 0 rfl) ?_
    refine lv_dup hx hb dX1_shorten_60 rfl ?_
    refine va_get (D := D) (ci := 0) (v := .long (SO 2 0)) (C := RX1) (T := TX1) (N := 3) hx hb hts i_X1_shorten_X1 hown hK hP 0 rfl rfl 2 (by decide) (hts _ q_X1_shorten_1) (fun _ h9 => h9) rfl dX1_shorten_61 ?_
    refine lv_lload_n hx hb dX1_shorten_64 rfl (lv_at hl 1 rfl) ?_
    obtain ⟨g_3, hf⟩ := zl_some hf
    refine lv_ldiv hx hb dX1_shorten_65 g_3 ?_
    refine va_put (D := D) (ci := 0) (v := .long ((SO 2 0) / x1)) (ty := .long) (C := RX1) (T := TX1) (N := 3) hx hb hts i_X1_shorten_X1 tyX1 tyX1_ok nmX1 hown hK hP hD hS 0 rfl rfl 2 (by decide) (hts _ q_X1_shorten_1) (fun _ h9 => h9) rfl (by decide +kernel) rfl rfl (Nat.le_of_ble_eq_true rfl) dX1_shorten_66 (fun H locs hP hD hS => ?_)
    have hP : va_P D vwCl [(zo, .inr (0, [.ref qo0, .long ((SO 1 0) / x1), .long ((SO 2 0) / x1)])), (qo0, .inl (cJ, 9, .inr (.inl (SO 0))))] H := hP
    have hD : va_D A [(zo, .inr (0, [.ref qo0, .long ((SO 1 0) / x1), .long ((SO 2 0) / x1)])), (qo0, .inl (cJ, 9, .inr (.inl (SO 0))))] := hD
    obtain rfl := Option.some.inj hf
    exact s_vret hx hb hr hlocks hK hP hD hS dX1_shorten_69
set_option maxHeartbeats 4000000 in
set_option maxRecDepth 100000 in
theorem ts_X1_shorten_13 {p : Program} {l : Launch} {e : Env} {s : State} {m : MethodId} {args : Array Value} {below : List Frame} {meth : Method} {c : Code} {D : va_G} {cI cJ : ClassId} {A : Nat → Prop} {fu : Nat} {zo qo0 : Nat} {o : S64} (C0 : Cx RX1 wsX1_shorten cX1_shorten 8 none D vwCl (tyS cI cJ) p s m args meth c) (hA : ∀ q : Nat, s.heap.size ≤ q → A q) {k13 : Int64 → Int64 → Int32 → S64 → Option (S64)} (K13 : ∀ (x1 : Int64) (x3 : Int64) (x5 : Int32) (SO : S64), k13 x1 x3 x5 SO = some o → ∀ (H : Heap) (locs : List Loc), va_P D vwCl (wO zo qo0 cJ SO) H → va_D A (wO zo qo0 cJ SO) → va_S A s.heap H locs → ∀ (ls : Array Slot), lv_has ls 8 [(0, .ref zo), (1, .long x1), (3, .long x3), (5, .int x5)] → W p l e rm_X1_shorten s m args below meth c H locs 0 0 (MQ below (sZv D vwCl (tyS cI cJ) A (wO zo qo0 cJ (o))) args s 0 0 A) (F0 m 13 ls [])) : ∀ (x1 : Int64) (x3 : Int64) (x5 : Int32) (SO : S64), s_X1_shorten_13 fu  k13  x1 x3 x5 SO = some o → ∀ (H : Heap) (locs : List Loc), va_P D vwCl (wO zo qo0 cJ SO) H → va_D A (wO zo qo0 cJ SO) → va_S A s.heap H locs → ∀ (ls : Array Slot), lv_has ls 8 [(0, .ref zo), (1, .long x1), (3, .long x3), (5, .int x5)] → W p l e rm_X1_shorten s m args below meth c H locs 0 0 (MQ below (sZv D vwCl (tyS cI cJ) A (wO zo qo0 cJ (o))) args s 0 0 A) (F0 m 13 ls []) := by
  obtain ⟨hx, hb, hr, hml, hown, hts, hlocks, hK⟩ := id C0
  intro x1 x3 x5 SO hf H locs hP hD hS ls hl
  have hP : va_P D vwCl [(zo, .inr (0, [.ref qo0, .long (SO 1 0), .long (SO 2 0)])), (qo0, .inl (cJ, 9, .inr (.inl (SO 0))))] H := hP
  have hD : va_D A [(zo, .inr (0, [.ref qo0, .long (SO 1 0), .long (SO 2 0)])), (qo0, .inl (cJ, 9, .inr (.inl (SO 0))))] := hD
  refine lv_iload hx hb dX1_shorten_13 (lv_at hl 3 rfl) ?_
  refine lv_sipush (v := (200 : Int32)) hx hb dX1_shorten_15 (by decide) ?_
  refine lv_icmp_ge (tgt := 43) hx hb dX1_shorten_18 (by decide) (fun c_1 => ?_) (fun c_1 => ?_)
  · have hf := itT c_1 hf
    exact t_X1_shorten_43 (fu := fu) C0 hA  _ _ hf _ _ hP hD hS _ (lv_sub hl [0, 1] rfl)
  · have hf := itF c_1 hf
    refine lv_lload_n hx hb dX1_shorten_21 rfl (lv_at hl 2 rfl) ?_
    refine lv_lconst (v := (0 : Int64)) hx hb dX1_shorten_22 (by decide) ?_
    refine W.lcmp hx hb dX1_shorten_23 ?_
    refine lv_if_eq (tgt := 43) hx hb dX1_shorten_24 (by decide) (fun c_2 => ?_) (fun c_2 => ?_)
    · have hf := itT c_2 hf
      exact t_X1_shorten_43 (fu := fu) C0 hA  _ _ hf _ _ hP hD hS _ (lv_sub hl [0, 1] rfl)
    · have hf := itF c_2 hf
      refine lv_lload_n hx hb dX1_shorten_27 rfl (lv_at hl 1 rfl) ?_
      refine lv_lload_n hx hb dX1_shorten_28 rfl (lv_at hl 2 rfl) ?_
      obtain ⟨g_3, hf⟩ := zl_some hf
      refine lv_lrem hx hb dX1_shorten_29 g_3 ?_
      refine lv_lstore (lv' := [(6, .long (x1 - x1 / x3 * x3)), (0, .ref zo), (1, .long x1), (3, .long x3), (5, .int x5)]) hx hb dX1_shorten_30 hl (by decide) rfl (fun ls hl => ?_)
      refine lv_lload_n hx hb dX1_shorten_32 rfl (lv_at hl 3 rfl) ?_
      refine lv_lstore_n (lv' := [(1, .long x3), (6, .long (x1 - x1 / x3 * x3)), (0, .ref zo), (3, .long x3), (5, .int x5)]) hx hb dX1_shorten_33 rfl hl (by decide) rfl (fun ls hl => ?_)
      refine lv_lload hx hb dX1_shorten_34 (lv_at hl 1 rfl) ?_
      refine lv_lstore_n (lv' := [(3, .long (x1 - x1 / x3 * x3)), (1, .long x3), (6, .long (x1 - x1 / x3 * x3)), (0, .ref zo), (5, .int x5)]) hx hb dX1_shorten_36 rfl hl (by decide) rfl (fun ls hl => ?_)
      refine lv_iinc (v := (x5 + (1 : Int32))) (lv' := [(5, .int (x5 + (1 : Int32))), (3, .long (x1 - x1 / x3 * x3)), (1, .long x3), (6, .long (x1 - x1 / x3 * x3)), (0, .ref zo)]) hx hb dX1_shorten_37 hl (k := 4) rfl rfl (by decide) rfl (fun ls hl => ?_)
      refine lv_goto (tgt := 13) hx hb dX1_shorten_40 (by decide) ?_
      exact K13 _ _ _ _ hf _ _ hP hD hS _ (lv_sub hl [4, 2, 1, 0] rfl)
theorem t_X1_shorten_13 {p : Program} {l : Launch} {e : Env} {s : State} {m : MethodId} {args : Array Value} {below : List Frame} {meth : Method} {c : Code} {D : va_G} {cI cJ : ClassId} {A : Nat → Prop} {fu : Nat} {zo qo0 : Nat} {o : S64} (C0 : Cx RX1 wsX1_shorten cX1_shorten 8 none D vwCl (tyS cI cJ) p s m args meth c) (hA : ∀ q : Nat, s.heap.size ≤ q → A q) : ∀ (n : Nat) (x1 : Int64) (x3 : Int64) (x5 : Int32) (SO : S64), f_X1_shorten_13 fu   n x1 x3 x5 SO = some o → ∀ (H : Heap) (locs : List Loc), va_P D vwCl (wO zo qo0 cJ SO) H → va_D A (wO zo qo0 cJ SO) → va_S A s.heap H locs → ∀ (ls : Array Slot), lv_has ls 8 [(0, .ref zo), (1, .long x1), (3, .long x3), (5, .int x5)] → W p l e rm_X1_shorten s m args below meth c H locs 0 0 (MQ below (sZv D vwCl (tyS cI cJ) A (wO zo qo0 cJ (o))) args s 0 0 A) (F0 m 13 ls []) := by
  intro n
  induction n with
  | zero =>
    intro x1 x3 x5 SO hf
    have hf : (none : Option (S64)) = some o := hf
    cases hf
  | succ n ih => exact ts_X1_shorten_13 (fu := fu) (k13 := f_X1_shorten_13 fu   n) C0 hA  ih
set_option maxHeartbeats 4000000 in
set_option maxRecDepth 100000 in
theorem c_X1_shorten (l : Launch) (D : va_G) (cI cJ : ClassId) (fu : Nat) (zo qo0 : Nat) (SO : S64) (o : S64) (hf : f_X1_shorten fu SO = some o) : MV l yX1_shorten wsX1_shorten rm_X1_shorten D vwCl (tyS cI cJ) [.ref zo] (wO zo qo0 cJ SO) (wO zo qo0 cJ (o)) := by
  intro sz
  refine s_entry (own := RX1) (cc := cX1_shorten) (maxL := 8) (ret := none) (Qc := fun A => sZv D vwCl (tyS cI cJ) A (wO zo qo0 cJ (o))) rfl (by decide) rfl rfl (Nat.le_of_ble_eq_true rfl) ?_
  intro p e s m args below meth c A C0 hA hP hD hS ls hl
  obtain ⟨hx, hb, hr, hml, hown, hts, hlocks, hK⟩ := id C0
  have hl : lv_has ls 8 [(0, .ref zo)] := hl
  have hP : va_P D vwCl [(zo, .inr (0, [.ref qo0, .long (SO 1 0), .long (SO 2 0)])), (qo0, .inl (cJ, 9, .inr (.inl (SO 0))))] s.heap := hP
  have hD : va_D A [(zo, .inr (0, [.ref qo0, .long (SO 1 0), .long (SO 2 0)])), (qo0, .inl (cJ, 9, .inr (.inl (SO 0))))] := hD
  refine lv_aload_n hx hb dX1_shorten_0 rfl (lv_at hl 0 rfl) ?_
  refine va_get (D := D) (ci := 0) (v := .long (SO 2 0)) (C := RX1) (T := TX1) (N := 3) hx hb hts i_X1_shorten_X1 hown hK hP 0 rfl rfl 2 (by decide) (hts _ q_X1_shorten_1) (fun _ h9 => h9) rfl dX1_shorten_1 ?_
  refine lv_lstore_n (lv' := [(1, .long (SO 2 0)), (0, .ref zo)]) hx hb dX1_shorten_4 rfl hl (by decide) rfl (fun ls hl => ?_)
  refine lv_aload_n hx hb dX1_shorten_5 rfl (lv_at hl 1 rfl) ?_
  refine va_get (D := D) (ci := 0) (v := .long (SO 1 0)) (C := RX1) (T := TX1) (N := 3) hx hb hts i_X1_shorten_X1 hown hK hP 0 rfl rfl 1 (by decide) (hts _ q_X1_shorten_2) (fun _ h9 => h9) rfl dX1_shorten_6 ?_
  refine lv_lstore_n (lv' := [(3, .long (SO 1 0)), (1, .long (SO 2 0)), (0, .ref zo)]) hx hb dX1_shorten_9 rfl hl (by decide) rfl (fun ls hl => ?_)
  refine lv_iconst (v := (0 : Int32)) hx hb dX1_shorten_10 (by decide) ?_
  refine lv_istore (lv' := [(5, .int (0 : Int32)), (3, .long (SO 1 0)), (1, .long (SO 2 0)), (0, .ref zo)]) hx hb dX1_shorten_11 hl (by decide) rfl (fun ls hl => ?_)
  exact t_X1_shorten_13 (fu := fu) C0 hA  fu _ _ _ _ hf _ _ hP hD hS _ (lv_sub hl [3, 2, 1, 0] rfl)
theorem q_X1_reckon_1 : (Cond.constantLong RX1 15 (10) : Cond) ∈ wsX1_reckon := List.mem_of_getElem? (i := 1) rfl
theorem q_X1_reckon_2 : (Cond.constantLong RX1 17 (100) : Cond) ∈ wsX1_reckon := List.mem_of_getElem? (i := 2) rfl
theorem q_X1_reckon_3 : (Cond.fieldLink RX1 28 "UpWhenDies$Tower" "floor" "[I" : Cond) ∈ wsX1_reckon := List.mem_of_getElem? (i := 3) rfl
theorem q_X1_reckon_4 : (Cond.methodLink RX1 40 Lib.Math.max.name : Cond) ∈ wsX1_reckon := List.mem_of_getElem? (i := 4) rfl
theorem q_X1_reckon_5 : (Cond.static Lib.Math.max.name : Cond) ∈ wsX1_reckon := List.mem_of_getElem? (i := 5) rfl
theorem q_X1_reckon_6 : (Cond.initialized "java/lang/Math" : Cond) ∈ wsX1_reckon := List.mem_of_getElem? (i := 6) rfl
theorem q_X1_reckon_7 : (Cond.code Lib.Math.max.name Lib.Math.max.code 2 (some .int) : Cond) ∈ wsX1_reckon := List.mem_of_getElem? (i := 7) rfl
theorem q_X1_reckon_8 : (Cond.fieldLink RX1 53 "UpWhenDies$Odds" "above" "J" : Cond) ∈ wsX1_reckon := List.mem_of_getElem? (i := 8) rfl
theorem q_X1_reckon_9 : (Cond.fieldLink RX1 57 "UpWhenDies$Odds" "below" "J" : Cond) ∈ wsX1_reckon := List.mem_of_getElem? (i := 9) rfl
theorem i_X1_reckon_X1 : ∀ w ∈ wsX10, w ∈ wsX1_reckon := fun _ h => (List.mem_cons_of_mem _ (List.mem_append_right _ h))
theorem i_X1_reckon_X3 : ∀ w ∈ wsX30, w ∈ wsX1_reckon := fun _ h => (List.mem_cons_of_mem _ (List.mem_append_left _ (List.mem_append_right _ h)))
abbrev rm_X1_reckon : Room := { frames := 5, cells := 0, slots := 0, locals := 110 }
set_option maxHeartbeats 4000000 in
set_option maxRecDepth 100000 in
theorem t_X1_reckon_114 {p : Program} {l : Launch} {e : Env} {s : State} {m : MethodId} {args : Array Value} {below : List Frame} {meth : Method} {c : Code} {D : va_G} {cI cJ : ClassId} {A : Nat → Prop} {fu : Nat} {zo qo0 zt qt0 qt1 qt2 qt3 qt4 : Nat} {ST : S32} {o : S64} (C0 : Cx RX1 wsX1_reckon cX1_reckon 8 none D vwCl (tyS cI cJ) p s m args meth c) (hA : ∀ q : Nat, s.heap.size ≤ q → A q) : ∀ (x2 : Int32) (x4 : Int32) (x5 : Int64) (y1 : Int64) (SO : S64), f_X1_reckon_114 fu  ST x2 x4 x5 y1 SO = some o → ∀ (H : Heap) (locs : List Loc), va_P D vwCl ((wO zo qo0 cJ SO) ++ (wT zt qt0 qt1 qt2 qt3 qt4 cI ST)) H → va_D A ((wO zo qo0 cJ SO) ++ (wT zt qt0 qt1 qt2 qt3 qt4 cI ST)) → va_S A s.heap H locs → ∀ (ls : Array Slot), lv_has ls 8 [(0, .ref zo), (1, .ref zt), (2, .int x2), (4, .int x4), (5, .long x5)] → W p l e rm_X1_reckon s m args below meth c H locs 0 0 (MQ below (sZv D vwCl (tyS cI cJ) A ((wO zo qo0 cJ (o)) ++ (wT zt qt0 qt1 qt2 qt3 qt4 cI ST))) args s 0 0 A) (F0 m 114 ls [.long y1, .ref zo]) := by
  obtain ⟨hx, hb, hr, hml, hown, hts, hlocks, hK⟩ := id C0
  intro x2 x4 x5 y1 SO hf H locs hP hD hS ls hl
  have hP : va_P D vwCl [(zo, .inr (0, [.ref qo0, .long (SO 1 0), .long (SO 2 0)])), (qo0, .inl (cJ, 9, .inr (.inl (SO 0)))), (zt, .inr (2, [.ref qt0, .ref qt1, .ref qt2, .ref qt3, .ref qt4, .int (ST 5 0), .int (ST 6 0)])), (qt0, .inl (cI, 8, .inl (ST 0))), (qt1, .inl (cI, 8, .inl (ST 1))), (qt2, .inl (cI, 8, .inl (ST 2))), (qt3, .inl (cI, 8, .inl (ST 3))), (qt4, .inl (cI, 8, .inl (ST 4)))] H := hP
  have hD : va_D A [(zo, .inr (0, [.ref qo0, .long (SO 1 0), .long (SO 2 0)])), (qo0, .inl (cJ, 9, .inr (.inl (SO 0)))), (zt, .inr (2, [.ref qt0, .ref qt1, .ref qt2, .ref qt3, .ref qt4, .int (ST 5 0), .int (ST 6 0)])), (qt0, .inl (cI, 8, .inl (ST 0))), (qt1, .inl (cI, 8, .inl (ST 1))), (qt2, .inl (cI, 8, .inl (ST 2))), (qt3, .inl (cI, 8, .inl (ST 3))), (qt4, .inl (cI, 8, .inl (ST 4)))] := hD
  refine va_put (D := D) (ci := 0) (v := .long y1) (ty := .long) (C := RX1) (T := TX1) (N := 3) hx hb hts i_X1_reckon_X1 tyX1 tyX1_ok nmX1 hown hK hP hD hS 0 rfl rfl 1 (by decide) (hts _ q_X1_reckon_8) (fun _ h9 => h9) rfl (by decide +kernel) rfl rfl (Nat.le_of_ble_eq_true rfl) dX1_reckon_114 (fun H locs hP hD hS => ?_)
  have hP : va_P D vwCl [(zo, .inr (0, [.ref qo0, .long y1, .long (SO 2 0)])), (qo0, .inl (cJ, 9, .inr (.inl (SO 0)))), (zt, .inr (2, [.ref qt0, .ref qt1, .ref qt2, .ref qt3, .ref qt4, .int (ST 5 0), .int (ST 6 0)])), (qt0, .inl (cI, 8, .inl (ST 0))), (qt1, .inl (cI, 8, .inl (ST 1))), (qt2, .inl (cI, 8, .inl (ST 2))), (qt3, .inl (cI, 8, .inl (ST 3))), (qt4, .inl (cI, 8, .inl (ST 4)))] H := hP
  have hD : va_D A [(zo, .inr (0, [.ref qo0, .long y1, .long (SO 2 0)])), (qo0, .inl (cJ, 9, .inr (.inl (SO 0)))), (zt, .inr (2, [.ref qt0, .ref qt1, .ref qt2, .ref qt3, .ref qt4, .int (ST 5 0), .int (ST 6 0)])), (qt0, .inl (cI, 8, .inl (ST 0))), (qt1, .inl (cI, 8, .inl (ST 1))), (qt2, .inl (cI, 8, .inl (ST 2))), (qt3, .inl (cI, 8, .inl (ST 3))), (qt4, .inl (cI, 8, .inl (ST 4)))] := hD
  refine lv_aload_n hx hb dX1_reckon_117 rfl (lv_at hl 0 rfl) ?_
  refine lv_dup hx hb dX1_reckon_118 rfl ?_
  refine va_get (D := D) (ci := 0) (v := .long y1) (C := RX1) (T := TX1) (N := 3) hx hb hts i_X1_reckon_X1 hown hK hP 0 rfl rfl 1 (by decide) (hts _ q_X1_reckon_8) (fun _ h9 => h9) rfl dX1_reckon_119 ?_
  refine lv_aload_n hx hb dX1_reckon_122 rfl (lv_at hl 1 rfl) ?_
  refine lv_iload_n hx hb dX1_reckon_123 rfl (lv_at hl 2 rfl) ?_
  refine lv_iload hx hb dX1_reckon_124 (lv_at hl 3 rfl) ?_
  obtain ⟨o_1, h_1, hf⟩ := bd_some hf
  refine s_callSL (wc := (wT zt qt0 qt1 qt2 qt3 qt4 cI ST)) (wr := [(zo, .inr (0, [.ref qo0, .long y1, .long (SO 2 0)])), (qo0, .inl (cJ, 9, .inr (.inl (SO 0))))]) (wc' := (wT zt qt0 qt1 qt2 qt3 qt4 cI ST)) (w' := [(zo, .inr (0, [.ref qo0, .long y1, .long (SO 2 0)])), (qo0, .inl (cJ, 9, .inr (.inl (SO 0)))), (zt, .inr (2, [.ref qt0, .ref qt1, .ref qt2, .ref qt3, .ref qt4, .int (ST 5 0), .int (ST 6 0)])), (qt0, .inl (cI, 8, .inl (ST 0))), (qt1, .inl (cI, 8, .inl (ST 1))), (qt2, .inl (cI, 8, .inl (ST 2))), (qt3, .inl (cI, 8, .inl (ST 3))), (qt4, .inl (cI, 8, .inl (ST 4)))]) (isC := [2, 3, 4, 5, 6, 7]) (isR := [0, 1]) (perm := [0, 1, 2, 3, 4, 5, 6, 7]) (As := [.ref zt, .int x2, .int x4]) (rest := [.long y1, .ref zo]) ⟨hx, hb, hml, hown, hts⟩ (c_X1_survival l D cI cJ fu zt qt0 qt1 qt2 qt3 qt4 ST x2 x4 o_1 h_1) (va_cwS 3 hts gX1_reckon_X1_survival rfl rfl rfl (by decide +kernel) ⟨Nat.le_of_ble_eq_true rfl, Nat.le_of_ble_eq_true rfl⟩) hK hP hD hS hA ⟨rfl, rfl, by decide, by decide, by decide, by decide, rfl⟩ rfl hl.1 rfl (Nat.le_of_ble_eq_true rfl) dX1_reckon_126 (fun H locs hP hD hS => ?_)
  refine lv_lmul hx hb dX1_reckon_129 ?_
  refine va_put (D := D) (ci := 0) (v := .long (y1 * o_1)) (ty := .long) (C := RX1) (T := TX1) (N := 3) hx hb hts i_X1_reckon_X1 tyX1 tyX1_ok nmX1 hown hK hP hD hS 0 rfl rfl 1 (by decide) (hts _ q_X1_reckon_8) (fun _ h9 => h9) rfl (by decide +kernel) rfl rfl (Nat.le_of_ble_eq_true rfl) dX1_reckon_130 (fun H locs hP hD hS => ?_)
  have hP : va_P D vwCl [(zo, .inr (0, [.ref qo0, .long (y1 * o_1), .long (SO 2 0)])), (qo0, .inl (cJ, 9, .inr (.inl (SO 0)))), (zt, .inr (2, [.ref qt0, .ref qt1, .ref qt2, .ref qt3, .ref qt4, .int (ST 5 0), .int (ST 6 0)])), (qt0, .inl (cI, 8, .inl (ST 0))), (qt1, .inl (cI, 8, .inl (ST 1))), (qt2, .inl (cI, 8, .inl (ST 2))), (qt3, .inl (cI, 8, .inl (ST 3))), (qt4, .inl (cI, 8, .inl (ST 4)))] H := hP
  have hD : va_D A [(zo, .inr (0, [.ref qo0, .long (y1 * o_1), .long (SO 2 0)])), (qo0, .inl (cJ, 9, .inr (.inl (SO 0)))), (zt, .inr (2, [.ref qt0, .ref qt1, .ref qt2, .ref qt3, .ref qt4, .int (ST 5 0), .int (ST 6 0)])), (qt0, .inl (cI, 8, .inl (ST 0))), (qt1, .inl (cI, 8, .inl (ST 1))), (qt2, .inl (cI, 8, .inl (ST 2))), (qt3, .inl (cI, 8, .inl (ST 3))), (qt4, .inl (cI, 8, .inl (ST 4)))] := hD
  refine lv_aload_n hx hb dX1_reckon_133 rfl (lv_at hl 0 rfl) ?_
  refine lv_dup hx hb dX1_reckon_134 rfl ?_
  refine va_get (D := D) (ci := 0) (v := .long (SO 2 0)) (C := RX1) (T := TX1) (N := 3) hx hb hts i_X1_reckon_X1 hown hK hP 0 rfl rfl 2 (by decide) (hts _ q_X1_reckon_9) (fun _ h9 => h9) rfl dX1_reckon_135 ?_
  refine lv_lload hx hb dX1_reckon_138 (lv_at hl 4 rfl) ?_
  refine lv_lmul hx hb dX1_reckon_140 ?_
  refine va_put (D := D) (ci := 0) (v := .long ((SO 2 0) * x5)) (ty := .long) (C := RX1) (T := TX1) (N := 3) hx hb hts i_X1_reckon_X1 tyX1 tyX1_ok nmX1 hown hK hP hD hS 0 rfl rfl 2 (by decide) (hts _ q_X1_reckon_9) (fun _ h9 => h9) rfl (by decide +kernel) rfl rfl (Nat.le_of_ble_eq_true rfl) dX1_reckon_141 (fun H locs hP hD hS => ?_)
  have hP : va_P D vwCl [(zo, .inr (0, [.ref qo0, .long (y1 * o_1), .long ((SO 2 0) * x5)])), (qo0, .inl (cJ, 9, .inr (.inl (SO 0)))), (zt, .inr (2, [.ref qt0, .ref qt1, .ref qt2, .ref qt3, .ref qt4, .int (ST 5 0), .int (ST 6 0)])), (qt0, .inl (cI, 8, .inl (ST 0))), (qt1, .inl (cI, 8, .inl (ST 1))), (qt2, .inl (cI, 8, .inl (ST 2))), (qt3, .inl (cI, 8, .inl (ST 3))), (qt4, .inl (cI, 8, .inl (ST 4)))] H := hP
  have hD : va_D A [(zo, .inr (0, [.ref qo0, .long (y1 * o_1), .long ((SO 2 0) * x5)])), (qo0, .inl (cJ, 9, .inr (.inl (SO 0)))), (zt, .inr (2, [.ref qt0, .ref qt1, .ref qt2, .ref qt3, .ref qt4, .int (ST 5 0), .int (ST 6 0)])), (qt0, .inl (cI, 8, .inl (ST 0))), (qt1, .inl (cI, 8, .inl (ST 1))), (qt2, .inl (cI, 8, .inl (ST 2))), (qt3, .inl (cI, 8, .inl (ST 3))), (qt4, .inl (cI, 8, .inl (ST 4)))] := hD
  refine lv_aload_n hx hb dX1_reckon_144 rfl (lv_at hl 0 rfl) ?_
  obtain ⟨o_2, h_2, hf⟩ := bd_some hf
  refine s_callVV (wc := (wO zo qo0 cJ (sa (sa SO 1 (fun _ => (y1 * o_1))) 2 (fun _ => ((SO 2 0) * x5))))) (wr := [(zt, .inr (2, [.ref qt0, .ref qt1, .ref qt2, .ref qt3, .ref qt4, .int (ST 5 0), .int (ST 6 0)])), (qt0, .inl (cI, 8, .inl (ST 0))), (qt1, .inl (cI, 8, .inl (ST 1))), (qt2, .inl (cI, 8, .inl (ST 2))), (qt3, .inl (cI, 8, .inl (ST 3))), (qt4, .inl (cI, 8, .inl (ST 4)))]) (wc' := (wO zo qo0 cJ (o_2))) (w' := [(zo, .inr (0, [.ref qo0, .long ((o_2) 1 0), .long ((o_2) 2 0)])), (qo0, .inl (cJ, 9, .inr (.inl ((o_2) 0)))), (zt, .inr (2, [.ref qt0, .ref qt1, .ref qt2, .ref qt3, .ref qt4, .int (ST 5 0), .int (ST 6 0)])), (qt0, .inl (cI, 8, .inl (ST 0))), (qt1, .inl (cI, 8, .inl (ST 1))), (qt2, .inl (cI, 8, .inl (ST 2))), (qt3, .inl (cI, 8, .inl (ST 3))), (qt4, .inl (cI, 8, .inl (ST 4)))]) (isC := [0, 1]) (isR := [2, 3, 4, 5, 6, 7]) (perm := [6, 7, 0, 1, 2, 3, 4, 5]) (As := []) (rest := []) (ci := 0) (q := (RX1, TX1, 3)) ⟨hx, hb, hml, hown, hts⟩ (c_X1_shorten l D cI cJ fu zo qo0 (sa (sa SO 1 (fun _ => (y1 * o_1))) 2 (fun _ => ((SO 2 0) * x5))) o_2 h_2) (cwV 0 hts gX1_reckon_X1_shorten rfl rfl rfl (by decide +kernel) ⟨Nat.le_of_ble_eq_true rfl, Nat.le_of_ble_eq_true rfl⟩) hK hP hD hS hA ⟨rfl, rfl, by decide, by decide, by decide, by decide, rfl⟩ rfl rfl rfl rfl hl.1 rfl (Nat.le_of_ble_eq_true rfl) dX1_reckon_145 (fun H locs hP hD hS => ?_)
  obtain rfl := Option.some.inj hf
  exact s_vret hx hb hr hlocks hK hP hD hS dX1_reckon_148
set_option maxHeartbeats 4000000 in
set_option maxRecDepth 100000 in
theorem t_X1_reckon_108 {p : Program} {l : Launch} {e : Env} {s : State} {m : MethodId} {args : Array Value} {below : List Frame} {meth : Method} {c : Code} {D : va_G} {cI cJ : ClassId} {A : Nat → Prop} {fu : Nat} {zo qo0 zt qt0 qt1 qt2 qt3 qt4 : Nat} {ST : S32} {o : S64} (C0 : Cx RX1 wsX1_reckon cX1_reckon 8 none D vwCl (tyS cI cJ) p s m args meth c) (hA : ∀ q : Nat, s.heap.size ≤ q → A q) : ∀ (x2 : Int32) (x4 : Int32) (x5 : Int64) (x7 : Int32) (SO : S64), f_X1_reckon_108 fu  ST x2 x4 x5 x7 SO = some o → ∀ (H : Heap) (locs : List Loc), va_P D vwCl ((wO zo qo0 cJ SO) ++ (wT zt qt0 qt1 qt2 qt3 qt4 cI ST)) H → va_D A ((wO zo qo0 cJ SO) ++ (wT zt qt0 qt1 qt2 qt3 qt4 cI ST)) → va_S A s.heap H locs → ∀ (ls : Array Slot), lv_has ls 8 [(0, .ref zo), (1, .ref zt), (2, .int x2), (4, .int x4), (5, .long x5), (7, .int x7)] → W p l e rm_X1_reckon s m args below meth c H locs 0 0 (MQ below (sZv D vwCl (tyS cI cJ) A ((wO zo qo0 cJ (o)) ++ (wT zt qt0 qt1 qt2 qt3 qt4 cI ST))) args s 0 0 A) (F0 m 108 ls [.ref zo]) := by
  obtain ⟨hx, hb, hr, hml, hown, hts, hlocks, hK⟩ := id C0
  intro x2 x4 x5 x7 SO hf H locs hP hD hS ls hl
  have hP : va_P D vwCl [(zo, .inr (0, [.ref qo0, .long (SO 1 0), .long (SO 2 0)])), (qo0, .inl (cJ, 9, .inr (.inl (SO 0)))), (zt, .inr (2, [.ref qt0, .ref qt1, .ref qt2, .ref qt3, .ref qt4, .int (ST 5 0), .int (ST 6 0)])), (qt0, .inl (cI, 8, .inl (ST 0))), (qt1, .inl (cI, 8, .inl (ST 1))), (qt2, .inl (cI, 8, .inl (ST 2))), (qt3, .inl (cI, 8, .inl (ST 3))), (qt4, .inl (cI, 8, .inl (ST 4)))] H := hP
  have hD : va_D A [(zo, .inr (0, [.ref qo0, .long (SO 1 0), .long (SO 2 0)])), (qo0, .inl (cJ, 9, .inr (.inl (SO 0)))), (zt, .inr (2, [.ref qt0, .ref qt1, .ref qt2, .ref qt3, .ref qt4, .int (ST 5 0), .int (ST 6 0)])), (qt0, .inl (cI, 8, .inl (ST 0))), (qt1, .inl (cI, 8, .inl (ST 1))), (qt2, .inl (cI, 8, .inl (ST 2))), (qt3, .inl (cI, 8, .inl (ST 3))), (qt4, .inl (cI, 8, .inl (ST 4)))] := hD
  refine lv_aload_n hx hb dX1_reckon_108 rfl (lv_at hl 0 rfl) ?_
  refine lv_iload hx hb dX1_reckon_109 (lv_at hl 5 rfl) ?_
  obtain ⟨o_1, h_1, hf⟩ := bd_some hf
  refine s_callVL (wc := (wO zo qo0 cJ SO)) (wr := [(zt, .inr (2, [.ref qt0, .ref qt1, .ref qt2, .ref qt3, .ref qt4, .int (ST 5 0), .int (ST 6 0)])), (qt0, .inl (cI, 8, .inl (ST 0))), (qt1, .inl (cI, 8, .inl (ST 1))), (qt2, .inl (cI, 8, .inl (ST 2))), (qt3, .inl (cI, 8, .inl (ST 3))), (qt4, .inl (cI, 8, .inl (ST 4)))]) (wc' := (wO zo qo0 cJ SO)) (w' := [(zo, .inr (0, [.ref qo0, .long (SO 1 0), .long (SO 2 0)])), (qo0, .inl (cJ, 9, .inr (.inl (SO 0)))), (zt, .inr (2, [.ref qt0, .ref qt1, .ref qt2, .ref qt3, .ref qt4, .int (ST 5 0), .int (ST 6 0)])), (qt0, .inl (cI, 8, .inl (ST 0))), (qt1, .inl (cI, 8, .inl (ST 1))), (qt2, .inl (cI, 8, .inl (ST 2))), (qt3, .inl (cI, 8, .inl (ST 3))), (qt4, .inl (cI, 8, .inl (ST 4)))]) (isC := [0, 1]) (isR := [2, 3, 4, 5, 6, 7]) (perm := [6, 7, 0, 1, 2, 3, 4, 5]) (As := [.int x7]) (rest := [.ref zo]) (ci := 0) (q := (RX1, TX1, 3)) ⟨hx, hb, hml, hown, hts⟩ (c_X1_atLeast l D cI cJ fu zo qo0 SO x7 o_1 h_1) (cwV 1 hts gX1_reckon_X1_atLeast rfl rfl rfl (by decide +kernel) ⟨Nat.le_of_ble_eq_true rfl, Nat.le_of_ble_eq_true rfl⟩) hK hP hD hS hA ⟨rfl, rfl, by decide, by decide, by decide, by decide, rfl⟩ rfl rfl rfl rfl hl.1 rfl (Nat.le_of_ble_eq_true rfl) dX1_reckon_111 (fun H locs hP hD hS => ?_)
  exact t_X1_reckon_114 (fu := fu) C0 hA  _ _ _ _ _ hf _ _ hP hD hS _ (lv_sub hl [0, 1, 2, 3, 4] rfl)
set_option maxHeartbeats 4000000 in
set_option maxRecDepth 100000 in
theorem t_X1_reckon_76 {p : Program} {l : Launch} {e : Env} {s : State} {m : MethodId} {args : Array Value} {below : List Frame} {meth : Method} {c : Code} {D : va_G} {cI cJ : ClassId} {A : Nat → Prop} {fu : Nat} {zo qo0 zt qt0 qt1 qt2 qt3 qt4 : Nat} {ST : S32} {o : S64} (C0 : Cx RX1 wsX1_reckon cX1_reckon 8 none D vwCl (tyS cI cJ) p s m args meth c) (hA : ∀ q : Nat, s.heap.size ≤ q → A q) : ∀ (x2 : Int32) (x3 : Int32) (x4 : Int32) (x5 : Int64) (SO : S64), f_X1_reckon_76 fu  ST x2 x3 x4 x5 SO = some o → ∀ (H : Heap) (locs : List Loc), va_P D vwCl ((wO zo qo0 cJ SO) ++ (wT zt qt0 qt1 qt2 qt3 qt4 cI ST)) H → va_D A ((wO zo qo0 cJ SO) ++ (wT zt qt0 qt1 qt2 qt3 qt4 cI ST)) → va_S A s.heap H locs → ∀ (ls : Array Slot), lv_has ls 8 [(0, .ref zo), (1, .ref zt), (2, .int x2), (3, .int x3), (4, .int x4), (5, .long x5)] → W p l e rm_X1_reckon s m args below meth c H locs 0 0 (MQ below (sZv D vwCl (tyS cI cJ) A ((wO zo qo0 cJ (o)) ++ (wT zt qt0 qt1 qt2 qt3 qt4 cI ST))) args s 0 0 A) (F0 m 76 ls []) := by
  obtain ⟨hx, hb, hr, hml, hown, hts, hlocks, hK⟩ := id C0
  intro x2 x3 x4 x5 SO hf H locs hP hD hS ls hl
  have hP : va_P D vwCl [(zo, .inr (0, [.ref qo0, .long (SO 1 0), .long (SO 2 0)])), (qo0, .inl (cJ, 9, .inr (.inl (SO 0)))), (zt, .inr (2, [.ref qt0, .ref qt1, .ref qt2, .ref qt3, .ref qt4, .int (ST 5 0), .int (ST 6 0)])), (qt0, .inl (cI, 8, .inl (ST 0))), (qt1, .inl (cI, 8, .inl (ST 1))), (qt2, .inl (cI, 8, .inl (ST 2))), (qt3, .inl (cI, 8, .inl (ST 3))), (qt4, .inl (cI, 8, .inl (ST 4)))] H := hP
  have hD : va_D A [(zo, .inr (0, [.ref qo0, .long (SO 1 0), .long (SO 2 0)])), (qo0, .inl (cJ, 9, .inr (.inl (SO 0)))), (zt, .inr (2, [.ref qt0, .ref qt1, .ref qt2, .ref qt3, .ref qt4, .int (ST 5 0), .int (ST 6 0)])), (qt0, .inl (cI, 8, .inl (ST 0))), (qt1, .inl (cI, 8, .inl (ST 1))), (qt2, .inl (cI, 8, .inl (ST 2))), (qt3, .inl (cI, 8, .inl (ST 3))), (qt4, .inl (cI, 8, .inl (ST 4)))] := hD
  refine lv_iconst (v := (0 : Int32)) hx hb dX1_reckon_76 (by decide) ?_
  refine lv_iload_n hx hb dX1_reckon_77 rfl (lv_at hl 3 rfl) ?_
  refine lv_aload_n hx hb dX1_reckon_78 rfl (lv_at hl 1 rfl) ?_
  refine va_get (D := D) (ci := 2) (v := .ref qt2) (C := RX3) (T := TX3) (N := 7) hx hb hts i_X1_reckon_X3 hown hK hP 2 rfl rfl 2 (by decide) (hts _ q_X1_reckon_3) (fun _ h9 => h9) rfl dX1_reckon_79 ?_
  refine lv_iload_n hx hb dX1_reckon_82 rfl (lv_at hl 2 rfl) ?_
  obtain ⟨g_1, hf⟩ := gd_some hf
  refine va_iald hx hb hK hP 5 0 rfl rfl g_1 dX1_reckon_83 ?_
  refine lv_isub hx hb dX1_reckon_84 ?_
  refine va_mmax hx hb (hml.trans hl.1.symm) hown (hts _ q_X1_reckon_4) (hts _ q_X1_reckon_5) (hts _ q_X1_reckon_6) (hts _ q_X1_reckon_7) (Nat.le_of_ble_eq_true rfl) (Nat.le_of_ble_eq_true rfl) (Nat.zero_le _) (Nat.zero_le _) dX1_reckon_85 ?_
  refine lv_topi (fun v_2 e_2 => ?_)
  have hf := lt_use e_2 hf
  refine lv_istore (lv' := [(7, .int v_2), (0, .ref zo), (1, .ref zt), (2, .int x2), (3, .int x3), (4, .int x4), (5, .long x5)]) hx hb dX1_reckon_88 hl (by decide) rfl (fun ls hl => ?_)
  refine lv_aload_n hx hb dX1_reckon_90 rfl (lv_at hl 1 rfl) ?_
  refine lv_iload hx hb dX1_reckon_91 (lv_at hl 0 rfl) ?_
  refine lv_if_le (tgt := 108) hx hb dX1_reckon_93 (by decide) (fun c_3 => ?_) (fun c_3 => ?_)
  · have hf := itT c_3 hf
    exact t_X1_reckon_108 (fu := fu) C0 hA  _ _ _ _ _ hf _ _ hP hD hS _ (lv_sub hl [1, 2, 3, 5, 6, 0] rfl)
  · have hf := itF c_3 hf
    refine lv_aload_n hx hb dX1_reckon_96 rfl (lv_at hl 2 rfl) ?_
    refine lv_iload_n hx hb dX1_reckon_97 rfl (lv_at hl 3 rfl) ?_
    obtain ⟨o_4, h_4, hf⟩ := bd_some hf
    refine s_callVI (wc := (wT zt qt0 qt1 qt2 qt3 qt4 cI ST)) (wr := [(zo, .inr (0, [.ref qo0, .long (SO 1 0), .long (SO 2 0)])), (qo0, .inl (cJ, 9, .inr (.inl (SO 0))))]) (wc' := (wT zt qt0 qt1 qt2 qt3 qt4 cI ST)) (w' := [(zo, .inr (0, [.ref qo0, .long (SO 1 0), .long (SO 2 0)])), (qo0, .inl (cJ, 9, .inr (.inl (SO 0)))), (zt, .inr (2, [.ref qt0, .ref qt1, .ref qt2, .ref qt3, .ref qt4, .int (ST 5 0), .int (ST 6 0)])), (qt0, .inl (cI, 8, .inl (ST 0))), (qt1, .inl (cI, 8, .inl (ST 1))), (qt2, .inl (cI, 8, .inl (ST 2))), (qt3, .inl (cI, 8, .inl (ST 3))), (qt4, .inl (cI, 8, .inl (ST 4)))]) (isC := [2, 3, 4, 5, 6, 7]) (isR := [0, 1]) (perm := [0, 1, 2, 3, 4, 5, 6, 7]) (As := [.int x2]) (rest := [.ref zo]) (ci := 2) (q := (RX3, TX3, 7)) ⟨hx, hb, hml, hown, hts⟩ (c_X3_staysDown l D cI cJ fu zt qt0 qt1 qt2 qt3 qt4 ST x2 o_4 h_4) (cwV 1 hts gX1_reckon_X3_staysDown rfl rfl rfl (by decide +kernel) ⟨Nat.le_of_ble_eq_true rfl, Nat.le_of_ble_eq_true rfl⟩) hK hP hD hS hA ⟨rfl, rfl, by decide, by decide, by decide, by decide, rfl⟩ rfl rfl rfl rfl hl.1 rfl (Nat.le_of_ble_eq_true rfl) dX1_reckon_98 (fun H locs hP hD hS => ?_)
    refine lv_if_eq (tgt := 108) hx hb dX1_reckon_101 (by decide) (fun c_5 => ?_) (fun c_5 => ?_)
    · have hf := itT c_5 hf
      exact t_X1_reckon_108 (fu := fu) C0 hA  _ _ _ _ _ hf _ _ hP hD hS _ (lv_sub hl [1, 2, 3, 5, 6, 0] rfl)
    · have hf := itF c_5 hf
      refine lv_lconst (v := (0 : Int64)) hx hb dX1_reckon_104 (by decide) ?_
      refine lv_goto (tgt := 114) hx hb dX1_reckon_105 (by decide) ?_
      exact t_X1_reckon_114 (fu := fu) C0 hA  _ _ _ _ _ hf _ _ hP hD hS _ (lv_sub hl [1, 2, 3, 5, 6] rfl)
set_option maxHeartbeats 4000000 in
set_option maxRecDepth 100000 in
theorem ts_X1_reckon_24 {p : Program} {l : Launch} {e : Env} {s : State} {m : MethodId} {args : Array Value} {below : List Frame} {meth : Method} {c : Code} {D : va_G} {cI cJ : ClassId} {A : Nat → Prop} {fu : Nat} {zo qo0 zt qt0 qt1 qt2 qt3 qt4 : Nat} {ST : S32} {o : S64} (C0 : Cx RX1 wsX1_reckon cX1_reckon 8 none D vwCl (tyS cI cJ) p s m args meth c) (hA : ∀ q : Nat, s.heap.size ≤ q → A q) {k24 : Int32 → Int32 → Int32 → Int64 → Int32 → S64 → Option (S64)} (K24 : ∀ (x2 : Int32) (x3 : Int32) (x4 : Int32) (x5 : Int64) (x7 : Int32) (SO : S64), k24 x2 x3 x4 x5 x7 SO = some o → ∀ (H : Heap) (locs : List Loc), va_P D vwCl ((wO zo qo0 cJ SO) ++ (wT zt qt0 qt1 qt2 qt3 qt4 cI ST)) H → va_D A ((wO zo qo0 cJ SO) ++ (wT zt qt0 qt1 qt2 qt3 qt4 cI ST)) → va_S A s.heap H locs → ∀ (ls : Array Slot), lv_has ls 8 [(0, .ref zo), (1, .ref zt), (2, .int x2), (3, .int x3), (4, .int x4), (5, .long x5), (7, .int x7)] → W p l e rm_X1_reckon s m args below meth c H locs 0 0 (MQ below (sZv D vwCl (tyS cI cJ) A ((wO zo qo0 cJ (o)) ++ (wT zt qt0 qt1 qt2 qt3 qt4 cI ST))) args s 0 0 A) (F0 m 24 ls [])) : ∀ (x2 : Int32) (x3 : Int32) (x4 : Int32) (x5 : Int64) (x7 : Int32) (SO : S64), s_X1_reckon_24 fu  k24 ST x2 x3 x4 x5 x7 SO = some o → ∀ (H : Heap) (locs : List Loc), va_P D vwCl ((wO zo qo0 cJ SO) ++ (wT zt qt0 qt1 qt2 qt3 qt4 cI ST)) H → va_D A ((wO zo qo0 cJ SO) ++ (wT zt qt0 qt1 qt2 qt3 qt4 cI ST)) → va_S A s.heap H locs → ∀ (ls : Array Slot), lv_has ls 8 [(0, .ref zo), (1, .ref zt), (2, .int x2), (3, .int x3), (4, .int x4), (5, .long x5), (7, .int x7)] → W p l e rm_X1_reckon s m args below meth c H locs 0 0 (MQ below (sZv D vwCl (tyS cI cJ) A ((wO zo qo0 cJ (o)) ++ (wT zt qt0 qt1 qt2 qt3 qt4 cI ST))) args s 0 0 A) (F0 m 24 ls []) := by
  obtain ⟨hx, hb, hr, hml, hown, hts, hlocks, hK⟩ := id C0
  intro x2 x3 x4 x5 x7 SO hf H locs hP hD hS ls hl
  have hP : va_P D vwCl [(zo, .inr (0, [.ref qo0, .long (SO 1 0), .long (SO 2 0)])), (qo0, .inl (cJ, 9, .inr (.inl (SO 0)))), (zt, .inr (2, [.ref qt0, .ref qt1, .ref qt2, .ref qt3, .ref qt4, .int (ST 5 0), .int (ST 6 0)])), (qt0, .inl (cI, 8, .inl (ST 0))), (qt1, .inl (cI, 8, .inl (ST 1))), (qt2, .inl (cI, 8, .inl (ST 2))), (qt3, .inl (cI, 8, .inl (ST 3))), (qt4, .inl (cI, 8, .inl (ST 4)))] H := hP
  have hD : va_D A [(zo, .inr (0, [.ref qo0, .long (SO 1 0), .long (SO 2 0)])), (qo0, .inl (cJ, 9, .inr (.inl (SO 0)))), (zt, .inr (2, [.ref qt0, .ref qt1, .ref qt2, .ref qt3, .ref qt4, .int (ST 5 0), .int (ST 6 0)])), (qt0, .inl (cI, 8, .inl (ST 0))), (qt1, .inl (cI, 8, .inl (ST 1))), (qt2, .inl (cI, 8, .inl (ST 2))), (qt3, .inl (cI, 8, .inl (ST 3))), (qt4, .inl (cI, 8, .inl (ST 4)))] := hD
  refine lv_iload hx hb dX1_reckon_24 (lv_at hl 6 rfl) ?_
  refine lv_bipush (v := (8 : Int32)) hx hb dX1_reckon_26 (by decide) ?_
  refine lv_icmp_ge (tgt := 76) hx hb dX1_reckon_28 (by decide) (fun c_1 => ?_) (fun c_1 => ?_)
  · have hf := itT c_1 hf
    exact t_X1_reckon_76 (fu := fu) C0 hA  _ _ _ _ _ hf _ _ hP hD hS _ (lv_sub hl [0, 1, 2, 3, 4, 5] rfl)
  · have hf := itF c_1 hf
    refine lv_aload_n hx hb dX1_reckon_31 rfl (lv_at hl 1 rfl) ?_
    refine lv_iload hx hb dX1_reckon_32 (lv_at hl 6 rfl) ?_
    obtain ⟨o_2, h_2, hf⟩ := bd_some hf
    refine s_callVI (wc := (wT zt qt0 qt1 qt2 qt3 qt4 cI ST)) (wr := [(zo, .inr (0, [.ref qo0, .long (SO 1 0), .long (SO 2 0)])), (qo0, .inl (cJ, 9, .inr (.inl (SO 0))))]) (wc' := (wT zt qt0 qt1 qt2 qt3 qt4 cI ST)) (w' := [(zo, .inr (0, [.ref qo0, .long (SO 1 0), .long (SO 2 0)])), (qo0, .inl (cJ, 9, .inr (.inl (SO 0)))), (zt, .inr (2, [.ref qt0, .ref qt1, .ref qt2, .ref qt3, .ref qt4, .int (ST 5 0), .int (ST 6 0)])), (qt0, .inl (cI, 8, .inl (ST 0))), (qt1, .inl (cI, 8, .inl (ST 1))), (qt2, .inl (cI, 8, .inl (ST 2))), (qt3, .inl (cI, 8, .inl (ST 3))), (qt4, .inl (cI, 8, .inl (ST 4)))]) (isC := [2, 3, 4, 5, 6, 7]) (isR := [0, 1]) (perm := [0, 1, 2, 3, 4, 5, 6, 7]) (As := [.int x7]) (rest := []) (ci := 2) (q := (RX3, TX3, 7)) ⟨hx, hb, hml, hown, hts⟩ (c_X3_isAlive l D cI cJ fu zt qt0 qt1 qt2 qt3 qt4 ST x7 o_2 h_2) (cwV 1 hts gX1_reckon_X3_isAlive rfl rfl rfl (by decide +kernel) ⟨Nat.le_of_ble_eq_true rfl, Nat.le_of_ble_eq_true rfl⟩) hK hP hD hS hA ⟨rfl, rfl, by decide, by decide, by decide, by decide, rfl⟩ rfl rfl rfl rfl hl.1 rfl (Nat.le_of_ble_eq_true rfl) dX1_reckon_34 (fun H locs hP hD hS => ?_)
    refine lv_if_eq (tgt := 70) hx hb dX1_reckon_37 (by decide) (fun c_3 => ?_) (fun c_3 => ?_)
    · have hf := itT c_3 hf
      refine lv_iinc (v := (x7 + (1 : Int32))) (lv' := [(7, .int (x7 + (1 : Int32))), (0, .ref zo), (1, .ref zt), (2, .int x2), (3, .int x3), (4, .int x4), (5, .long x5)]) hx hb dX1_reckon_70 hl (k := 6) rfl rfl (by decide) rfl (fun ls hl => ?_)
      refine lv_goto (tgt := 24) hx hb dX1_reckon_73 (by decide) ?_
      exact K24 _ _ _ _ _ _ hf _ _ hP hD hS _ (lv_sub hl [1, 2, 3, 4, 5, 6, 0] rfl)
    · have hf := itF c_3 hf
      refine lv_aload_n hx hb dX1_reckon_40 rfl (lv_at hl 1 rfl) ?_
      refine va_get (D := D) (ci := 2) (v := .ref qt2) (C := RX3) (T := TX3) (N := 7) hx hb hts i_X1_reckon_X3 hown hK hP 2 rfl rfl 2 (by decide) (hts _ q_X1_reckon_3) (fun _ h9 => h9) rfl dX1_reckon_41 ?_
      refine lv_iload hx hb dX1_reckon_44 (lv_at hl 6 rfl) ?_
      obtain ⟨g_4, hf⟩ := gd_some hf
      refine va_iald hx hb hK hP 5 0 rfl rfl g_4 dX1_reckon_46 ?_
      refine lv_aload_n hx hb dX1_reckon_47 rfl (lv_at hl 1 rfl) ?_
      refine va_get (D := D) (ci := 2) (v := .ref qt2) (C := RX3) (T := TX3) (N := 7) hx hb hts i_X1_reckon_X3 hown hK hP 2 rfl rfl 2 (by decide) (hts _ q_X1_reckon_3) (fun _ h9 => h9) rfl dX1_reckon_48 ?_
      refine lv_iload_n hx hb dX1_reckon_51 rfl (lv_at hl 2 rfl) ?_
      obtain ⟨g_5, hf⟩ := gd_some hf
      refine va_iald hx hb hK hP 5 0 rfl rfl g_5 dX1_reckon_52 ?_
      refine lv_icmp_le (tgt := 70) hx hb dX1_reckon_53 (by decide) (fun c_6 => ?_) (fun c_6 => ?_)
      · have hf := itT c_6 hf
        refine lv_iinc (v := (x7 + (1 : Int32))) (lv' := [(7, .int (x7 + (1 : Int32))), (0, .ref zo), (1, .ref zt), (2, .int x2), (3, .int x3), (4, .int x4), (5, .long x5)]) hx hb dX1_reckon_70 hl (k := 6) rfl rfl (by decide) rfl (fun ls hl => ?_)
        refine lv_goto (tgt := 24) hx hb dX1_reckon_73 (by decide) ?_
        exact K24 _ _ _ _ _ _ hf _ _ hP hD hS _ (lv_sub hl [1, 2, 3, 4, 5, 6, 0] rfl)
      · have hf := itF c_6 hf
        refine lv_aload_n hx hb dX1_reckon_56 rfl (lv_at hl 0 rfl) ?_
        refine lv_aload_n hx hb dX1_reckon_57 rfl (lv_at hl 1 rfl) ?_
        refine lv_iload hx hb dX1_reckon_58 (lv_at hl 6 rfl) ?_
        refine lv_iload hx hb dX1_reckon_60 (lv_at hl 4 rfl) ?_
        obtain ⟨o_7, h_7, hf⟩ := bd_some hf
        refine s_callSL (wc := (wT zt qt0 qt1 qt2 qt3 qt4 cI ST)) (wr := [(zo, .inr (0, [.ref qo0, .long (SO 1 0), .long (SO 2 0)])), (qo0, .inl (cJ, 9, .inr (.inl (SO 0))))]) (wc' := (wT zt qt0 qt1 qt2 qt3 qt4 cI ST)) (w' := [(zo, .inr (0, [.ref qo0, .long (SO 1 0), .long (SO 2 0)])), (qo0, .inl (cJ, 9, .inr (.inl (SO 0)))), (zt, .inr (2, [.ref qt0, .ref qt1, .ref qt2, .ref qt3, .ref qt4, .int (ST 5 0), .int (ST 6 0)])), (qt0, .inl (cI, 8, .inl (ST 0))), (qt1, .inl (cI, 8, .inl (ST 1))), (qt2, .inl (cI, 8, .inl (ST 2))), (qt3, .inl (cI, 8, .inl (ST 3))), (qt4, .inl (cI, 8, .inl (ST 4)))]) (isC := [2, 3, 4, 5, 6, 7]) (isR := [0, 1]) (perm := [0, 1, 2, 3, 4, 5, 6, 7]) (As := [.ref zt, .int x7, .int x4]) (rest := [.ref zo]) ⟨hx, hb, hml, hown, hts⟩ (c_X1_survival l D cI cJ fu zt qt0 qt1 qt2 qt3 qt4 ST x7 x4 o_7 h_7) (va_cwS 3 hts gX1_reckon_X1_survival rfl rfl rfl (by decide +kernel) ⟨Nat.le_of_ble_eq_true rfl, Nat.le_of_ble_eq_true rfl⟩) hK hP hD hS hA ⟨rfl, rfl, by decide, by decide, by decide, by decide, rfl⟩ rfl hl.1 rfl (Nat.le_of_ble_eq_true rfl) dX1_reckon_62 (fun H locs hP hD hS => ?_)
        refine lv_lload hx hb dX1_reckon_65 (lv_at hl 5 rfl) ?_
        obtain ⟨o_8, h_8, hf⟩ := bd_some hf
        refine s_callVV (wc := (wO zo qo0 cJ SO)) (wr := [(zt, .inr (2, [.ref qt0, .ref qt1, .ref qt2, .ref qt3, .ref qt4, .int (ST 5 0), .int (ST 6 0)])), (qt0, .inl (cI, 8, .inl (ST 0))), (qt1, .inl (cI, 8, .inl (ST 1))), (qt2, .inl (cI, 8, .inl (ST 2))), (qt3, .inl (cI, 8, .inl (ST 3))), (qt4, .inl (cI, 8, .inl (ST 4)))]) (wc' := (wO zo qo0 cJ (o_8))) (w' := [(zo, .inr (0, [.ref qo0, .long ((o_8) 1 0), .long ((o_8) 2 0)])), (qo0, .inl (cJ, 9, .inr (.inl ((o_8) 0)))), (zt, .inr (2, [.ref qt0, .ref qt1, .ref qt2, .ref qt3, .ref qt4, .int (ST 5 0), .int (ST 6 0)])), (qt0, .inl (cI, 8, .inl (ST 0))), (qt1, .inl (cI, 8, .inl (ST 1))), (qt2, .inl (cI, 8, .inl (ST 2))), (qt3, .inl (cI, 8, .inl (ST 3))), (qt4, .inl (cI, 8, .inl (ST 4)))]) (isC := [0, 1]) (isR := [2, 3, 4, 5, 6, 7]) (perm := [6, 7, 0, 1, 2, 3, 4, 5]) (As := [.long o_7, .long x5]) (rest := []) (ci := 0) (q := (RX1, TX1, 3)) ⟨hx, hb, hml, hown, hts⟩ (c_X1_addOneAbove l D cI cJ fu zo qo0 SO o_7 x5 o_8 h_8) (cwV 2 hts gX1_reckon_X1_addOneAbove rfl rfl rfl (by decide +kernel) ⟨Nat.le_of_ble_eq_true rfl, Nat.le_of_ble_eq_true rfl⟩) hK hP hD hS hA ⟨rfl, rfl, by decide, by decide, by decide, by decide, rfl⟩ rfl rfl rfl rfl hl.1 rfl (Nat.le_of_ble_eq_true rfl) dX1_reckon_67 (fun H locs hP hD hS => ?_)
        refine lv_iinc (v := (x7 + (1 : Int32))) (lv' := [(7, .int (x7 + (1 : Int32))), (0, .ref zo), (1, .ref zt), (2, .int x2), (3, .int x3), (4, .int x4), (5, .long x5)]) hx hb dX1_reckon_70 hl (k := 6) rfl rfl (by decide) rfl (fun ls hl => ?_)
        refine lv_goto (tgt := 24) hx hb dX1_reckon_73 (by decide) ?_
        exact K24 _ _ _ _ _ _ hf _ _ hP hD hS _ (lv_sub hl [1, 2, 3, 4, 5, 6, 0] rfl)
theorem t_X1_reckon_24 {p : Program} {l : Launch} {e : Env} {s : State} {m : MethodId} {args : Array Value} {below : List Frame} {meth : Method} {c : Code} {D : va_G} {cI cJ : ClassId} {A : Nat → Prop} {fu : Nat} {zo qo0 zt qt0 qt1 qt2 qt3 qt4 : Nat} {ST : S32} {o : S64} (C0 : Cx RX1 wsX1_reckon cX1_reckon 8 none D vwCl (tyS cI cJ) p s m args meth c) (hA : ∀ q : Nat, s.heap.size ≤ q → A q) : ∀ (n : Nat) (x2 : Int32) (x3 : Int32) (x4 : Int32) (x5 : Int64) (x7 : Int32) (SO : S64), f_X1_reckon_24 fu  ST n x2 x3 x4 x5 x7 SO = some o → ∀ (H : Heap) (locs : List Loc), va_P D vwCl ((wO zo qo0 cJ SO) ++ (wT zt qt0 qt1 qt2 qt3 qt4 cI ST)) H → va_D A ((wO zo qo0 cJ SO) ++ (wT zt qt0 qt1 qt2 qt3 qt4 cI ST)) → va_S A s.heap H locs → ∀ (ls : Array Slot), lv_has ls 8 [(0, .ref zo), (1, .ref zt), (2, .int x2), (3, .int x3), (4, .int x4), (5, .long x5), (7, .int x7)] → W p l e rm_X1_reckon s m args below meth c H locs 0 0 (MQ below (sZv D vwCl (tyS cI cJ) A ((wO zo qo0 cJ (o)) ++ (wT zt qt0 qt1 qt2 qt3 qt4 cI ST))) args s 0 0 A) (F0 m 24 ls []) := by
  intro n
  induction n with
  | zero =>
    intro x2 x3 x4 x5 x7 SO hf
    have hf : (none : Option (S64)) = some o := hf
    cases hf
  | succ n ih => exact ts_X1_reckon_24 (fu := fu) (k24 := f_X1_reckon_24 fu  ST n) C0 hA  ih
set_option maxHeartbeats 4000000 in
set_option maxRecDepth 100000 in
theorem t_X1_reckon_15 {p : Program} {l : Launch} {e : Env} {s : State} {m : MethodId} {args : Array Value} {below : List Frame} {meth : Method} {c : Code} {D : va_G} {cI cJ : ClassId} {A : Nat → Prop} {fu : Nat} {zo qo0 zt qt0 qt1 qt2 qt3 qt4 : Nat} {ST : S32} {o : S64} (C0 : Cx RX1 wsX1_reckon cX1_reckon 8 none D vwCl (tyS cI cJ) p s m args meth c) (hA : ∀ q : Nat, s.heap.size ≤ q → A q) : ∀ (x2 : Int32) (x3 : Int32) (x4 : Int32) (y0 : Int64) (SO : S64), f_X1_reckon_15 fu  ST x2 x3 x4 y0 SO = some o → ∀ (H : Heap) (locs : List Loc), va_P D vwCl ((wO zo qo0 cJ SO) ++ (wT zt qt0 qt1 qt2 qt3 qt4 cI ST)) H → va_D A ((wO zo qo0 cJ SO) ++ (wT zt qt0 qt1 qt2 qt3 qt4 cI ST)) → va_S A s.heap H locs → ∀ (ls : Array Slot), lv_has ls 8 [(0, .ref zo), (1, .ref zt), (2, .int x2), (3, .int x3), (4, .int x4)] → W p l e rm_X1_reckon s m args below meth c H locs 0 0 (MQ below (sZv D vwCl (tyS cI cJ) A ((wO zo qo0 cJ (o)) ++ (wT zt qt0 qt1 qt2 qt3 qt4 cI ST))) args s 0 0 A) (F0 m 15 ls [.long y0]) := by
  obtain ⟨hx, hb, hr, hml, hown, hts, hlocks, hK⟩ := id C0
  intro x2 x3 x4 y0 SO hf H locs hP hD hS ls hl
  have hP : va_P D vwCl [(zo, .inr (0, [.ref qo0, .long (SO 1 0), .long (SO 2 0)])), (qo0, .inl (cJ, 9, .inr (.inl (SO 0)))), (zt, .inr (2, [.ref qt0, .ref qt1, .ref qt2, .ref qt3, .ref qt4, .int (ST 5 0), .int (ST 6 0)])), (qt0, .inl (cI, 8, .inl (ST 0))), (qt1, .inl (cI, 8, .inl (ST 1))), (qt2, .inl (cI, 8, .inl (ST 2))), (qt3, .inl (cI, 8, .inl (ST 3))), (qt4, .inl (cI, 8, .inl (ST 4)))] H := hP
  have hD : va_D A [(zo, .inr (0, [.ref qo0, .long (SO 1 0), .long (SO 2 0)])), (qo0, .inl (cJ, 9, .inr (.inl (SO 0)))), (zt, .inr (2, [.ref qt0, .ref qt1, .ref qt2, .ref qt3, .ref qt4, .int (ST 5 0), .int (ST 6 0)])), (qt0, .inl (cI, 8, .inl (ST 0))), (qt1, .inl (cI, 8, .inl (ST 1))), (qt2, .inl (cI, 8, .inl (ST 2))), (qt3, .inl (cI, 8, .inl (ST 3))), (qt4, .inl (cI, 8, .inl (ST 4)))] := hD
  refine lv_lstore (lv' := [(5, .long y0), (0, .ref zo), (1, .ref zt), (2, .int x2), (3, .int x3), (4, .int x4)]) hx hb dX1_reckon_15 hl (by decide) rfl (fun ls hl => ?_)
  refine lv_aload_n hx hb dX1_reckon_17 rfl (lv_at hl 1 rfl) ?_
  obtain ⟨o_1, h_1, hf⟩ := bd_some hf
  refine s_callVV (wc := (wO zo qo0 cJ SO)) (wr := [(zt, .inr (2, [.ref qt0, .ref qt1, .ref qt2, .ref qt3, .ref qt4, .int (ST 5 0), .int (ST 6 0)])), (qt0, .inl (cI, 8, .inl (ST 0))), (qt1, .inl (cI, 8, .inl (ST 1))), (qt2, .inl (cI, 8, .inl (ST 2))), (qt3, .inl (cI, 8, .inl (ST 3))), (qt4, .inl (cI, 8, .inl (ST 4)))]) (wc' := (wO zo qo0 cJ (o_1))) (w' := [(zo, .inr (0, [.ref qo0, .long ((o_1) 1 0), .long ((o_1) 2 0)])), (qo0, .inl (cJ, 9, .inr (.inl ((o_1) 0)))), (zt, .inr (2, [.ref qt0, .ref qt1, .ref qt2, .ref qt3, .ref qt4, .int (ST 5 0), .int (ST 6 0)])), (qt0, .inl (cI, 8, .inl (ST 0))), (qt1, .inl (cI, 8, .inl (ST 1))), (qt2, .inl (cI, 8, .inl (ST 2))), (qt3, .inl (cI, 8, .inl (ST 3))), (qt4, .inl (cI, 8, .inl (ST 4)))]) (isC := [0, 1]) (isR := [2, 3, 4, 5, 6, 7]) (perm := [6, 7, 0, 1, 2, 3, 4, 5]) (As := []) (rest := []) (ci := 0) (q := (RX1, TX1, 3)) ⟨hx, hb, hml, hown, hts⟩ (c_X1_clear l D cI cJ fu zo qo0 SO o_1 h_1) (cwV 0 hts gX1_reckon_X1_clear rfl rfl rfl (by decide +kernel) ⟨Nat.le_of_ble_eq_true rfl, Nat.le_of_ble_eq_true rfl⟩) hK hP hD hS hA ⟨rfl, rfl, by decide, by decide, by decide, by decide, rfl⟩ rfl rfl rfl rfl hl.1 rfl (Nat.le_of_ble_eq_true rfl) dX1_reckon_18 (fun H locs hP hD hS => ?_)
  refine lv_iconst (v := (0 : Int32)) hx hb dX1_reckon_21 (by decide) ?_
  refine lv_istore (lv' := [(7, .int (0 : Int32)), (5, .long y0), (0, .ref zo), (1, .ref zt), (2, .int x2), (3, .int x3), (4, .int x4)]) hx hb dX1_reckon_22 hl (by decide) rfl (fun ls hl => ?_)
  exact t_X1_reckon_24 (fu := fu) C0 hA  fu _ _ _ _ _ _ hf _ _ hP hD hS _ (lv_sub hl [2, 3, 4, 5, 6, 1, 0] rfl)
set_option maxHeartbeats 4000000 in
set_option maxRecDepth 100000 in
theorem c_X1_reckon (l : Launch) (D : va_G) (cI cJ : ClassId) (fu : Nat) (zo qo0 zt qt0 qt1 qt2 qt3 qt4 : Nat) (SO : S64) (ST : S32) (x2 : Int32) (x3 : Int32) (x4 : Int32) (o : S64) (hf : f_X1_reckon fu SO ST x2 x3 x4 = some o) : MV l yX1_reckon wsX1_reckon rm_X1_reckon D vwCl (tyS cI cJ) [.ref zo, .ref zt, .int x2, .int x3, .int x4] ((wO zo qo0 cJ SO) ++ (wT zt qt0 qt1 qt2 qt3 qt4 cI ST)) ((wO zo qo0 cJ (o)) ++ (wT zt qt0 qt1 qt2 qt3 qt4 cI ST)) := by
  intro sz
  refine s_entry (own := RX1) (cc := cX1_reckon) (maxL := 8) (ret := none) (Qc := fun A => sZv D vwCl (tyS cI cJ) A ((wO zo qo0 cJ (o)) ++ (wT zt qt0 qt1 qt2 qt3 qt4 cI ST))) rfl (by decide) rfl rfl (Nat.le_of_ble_eq_true rfl) ?_
  intro p e s m args below meth c A C0 hA hP hD hS ls hl
  obtain ⟨hx, hb, hr, hml, hown, hts, hlocks, hK⟩ := id C0
  have hl : lv_has ls 8 [(0, .ref zo), (1, .ref zt), (2, .int x2), (3, .int x3), (4, .int x4)] := hl
  have hP : va_P D vwCl [(zo, .inr (0, [.ref qo0, .long (SO 1 0), .long (SO 2 0)])), (qo0, .inl (cJ, 9, .inr (.inl (SO 0)))), (zt, .inr (2, [.ref qt0, .ref qt1, .ref qt2, .ref qt3, .ref qt4, .int (ST 5 0), .int (ST 6 0)])), (qt0, .inl (cI, 8, .inl (ST 0))), (qt1, .inl (cI, 8, .inl (ST 1))), (qt2, .inl (cI, 8, .inl (ST 2))), (qt3, .inl (cI, 8, .inl (ST 3))), (qt4, .inl (cI, 8, .inl (ST 4)))] s.heap := hP
  have hD : va_D A [(zo, .inr (0, [.ref qo0, .long (SO 1 0), .long (SO 2 0)])), (qo0, .inl (cJ, 9, .inr (.inl (SO 0)))), (zt, .inr (2, [.ref qt0, .ref qt1, .ref qt2, .ref qt3, .ref qt4, .int (ST 5 0), .int (ST 6 0)])), (qt0, .inl (cI, 8, .inl (ST 0))), (qt1, .inl (cI, 8, .inl (ST 1))), (qt2, .inl (cI, 8, .inl (ST 2))), (qt3, .inl (cI, 8, .inl (ST 3))), (qt4, .inl (cI, 8, .inl (ST 4)))] := hD
  refine lv_iload hx hb dX1_reckon_0 (lv_at hl 4 rfl) ?_
  refine lv_iconst (v := (1 : Int32)) hx hb dX1_reckon_2 (by decide) ?_
  refine lv_icmp_ne (tgt := 12) hx hb dX1_reckon_3 (by decide) (fun c_1 => ?_) (fun c_1 => ?_)
  · have hf := itF c_1 hf
    refine lv_ldc2 (v := (100 : Int64)) hx hb hown (hts _ q_X1_reckon_2) dX1_reckon_12 ?_
    exact t_X1_reckon_15 (fu := fu) C0 hA  _ _ _ _ _ hf _ _ hP hD hS _ (lv_sub hl [0, 1, 2, 3, 4] rfl)
  · have hf := itT c_1 hf
    refine lv_ldc2 (v := (10 : Int64)) hx hb hown (hts _ q_X1_reckon_1) dX1_reckon_6 ?_
    refine lv_goto (tgt := 15) hx hb dX1_reckon_9 (by decide) ?_
    exact t_X1_reckon_15 (fu := fu) C0 hA  _ _ _ _ _ hf _ _ hP hD hS _ (lv_sub hl [0, 1, 2, 3, 4] rfl)
