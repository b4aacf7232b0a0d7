theorem q_X3_becomeLike_1 : (Cond.fieldLink RX3 9 "UpWhenDies$Tower" "kind" "[I" : Cond) ∈ wsX3_becomeLike := List.mem_of_getElem? (i := 1) rfl
theorem q_X3_becomeLike_2 : (Cond.fieldLink RX3 15 "UpWhenDies$Tower" "age" "[I" : Cond) ∈ wsX3_becomeLike := List.mem_of_getElem? (i := 2) rfl
theorem q_X3_becomeLike_3 : (Cond.fieldLink RX3 18 "UpWhenDies$Tower" "floor" "[I" : Cond) ∈ wsX3_becomeLike := List.mem_of_getElem? (i := 3) rfl
theorem q_X3_becomeLike_4 : (Cond.fieldLink RX3 21 "UpWhenDies$Tower" "load" "[I" : Cond) ∈ wsX3_becomeLike := List.mem_of_getElem? (i := 4) rfl
theorem q_X3_becomeLike_5 : (Cond.fieldLink RX3 24 "UpWhenDies$Tower" "wished" "[I" : Cond) ∈ wsX3_becomeLike := List.mem_of_getElem? (i := 5) rfl
theorem q_X3_becomeLike_6 : (Cond.fieldLink RX3 27 "UpWhenDies$Tower" "came" "I" : Cond) ∈ wsX3_becomeLike := List.mem_of_getElem? (i := 6) rfl
theorem q_X3_becomeLike_7 : (Cond.fieldLink RX3 31 "UpWhenDies$Tower" "yearNow" "I" : Cond) ∈ wsX3_becomeLike := List.mem_of_getElem? (i := 7) rfl
theorem i_X3_becomeLike_X3 : ∀ w ∈ wsX30, w ∈ wsX3_becomeLike := fun _ h => (List.mem_cons_of_mem _ (List.mem_append_right _ h))
abbrev rm_X3_becomeLike : Room := { frames := 0, cells := 0, slots := 0, locals := 0 }
set_option maxHeartbeats 4000000 in
set_option maxRecDepth 100000 in
theorem t_X3_becomeLike_74 {p : Program} {l : Launch} {e : Env} {s : State} {m : MethodId} {args : Array Value} {below : List Frame} {meth : Method} {c : Code} {D : va_G} {cI cJ : ClassId} {A : Nat → Prop} {fu : Nat} {zt qt0 qt1 qt2 qt3 qt4 zu qu0 qu1 qu2 qu3 qu4 : Nat} {SU : S32} {o : S32} (C0 : Cx RX3 wsX3_becomeLike cX3_becomeLike 3 none D vwCl (tyS cI cJ) p s m args meth c) (hA : ∀ q : Nat, s.heap.size ≤ q → A q) : ∀ (ST : S32), f_X3_becomeLike_74 fu  SU ST = some o → ∀ (H : Heap) (locs : List Loc), va_P D vwCl ((wT zt qt0 qt1 qt2 qt3 qt4 cI ST) ++ (wT zu qu0 qu1 qu2 qu3 qu4 cI SU)) H → va_D A ((wT zt qt0 qt1 qt2 qt3 qt4 cI ST) ++ (wT zu qu0 qu1 qu2 qu3 qu4 cI SU)) → va_S A s.heap H locs → ∀ (ls : Array Slot), lv_has ls 3 [(0, .ref zt), (1, .ref zu)] → W p l e rm_X3_becomeLike s m args below meth c H locs 0 0 (MQ below (sZv D vwCl (tyS cI cJ) A ((wT zt qt0 qt1 qt2 qt3 qt4 cI (o)) ++ (wT zu qu0 qu1 qu2 qu3 qu4 cI SU))) args s 0 0 A) (F0 m 74 ls []) := by
  obtain ⟨hx, hb, hr, hml, hown, hts, hlocks, hK⟩ := id C0
  intro ST hf H locs hP hD hS ls hl
  have hP : va_P D vwCl [(zt, .inr (2, [.ref qt0, .ref qt1, .ref qt2, .ref qt3, .ref qt4, .int (ST 5 0), .int (ST 6 0)])), (qt0, .inl (cI, 8, .inl (ST 0))), (qt1, .inl (cI, 8, .inl (ST 1))), (qt2, .inl (cI, 8, .inl (ST 2))), (qt3, .inl (cI, 8, .inl (ST 3))), (qt4, .inl (cI, 8, .inl (ST 4))), (zu, .inr (2, [.ref qu0, .ref qu1, .ref qu2, .ref qu3, .ref qu4, .int (SU 5 0), .int (SU 6 0)])), (qu0, .inl (cI, 8, .inl (SU 0))), (qu1, .inl (cI, 8, .inl (SU 1))), (qu2, .inl (cI, 8, .inl (SU 2))), (qu3, .inl (cI, 8, .inl (SU 3))), (qu4, .inl (cI, 8, .inl (SU 4)))] H := hP
  have hD : va_D A [(zt, .inr (2, [.ref qt0, .ref qt1, .ref qt2, .ref qt3, .ref qt4, .int (ST 5 0), .int (ST 6 0)])), (qt0, .inl (cI, 8, .inl (ST 0))), (qt1, .inl (cI, 8, .inl (ST 1))), (qt2, .inl (cI, 8, .inl (ST 2))), (qt3, .inl (cI, 8, .inl (ST 3))), (qt4, .inl (cI, 8, .inl (ST 4))), (zu, .inr (2, [.ref qu0, .ref qu1, .ref qu2, .ref qu3, .ref qu4, .int (SU 5 0), .int (SU 6 0)])), (qu0, .inl (cI, 8, .inl (SU 0))), (qu1, .inl (cI, 8, .inl (SU 1))), (qu2, .inl (cI, 8, .inl (SU 2))), (qu3, .inl (cI, 8, .inl (SU 3))), (qu4, .inl (cI, 8, .inl (SU 4)))] := hD
  refine lv_aload_n hx hb dX3_becomeLike_74 rfl (lv_at hl 0 rfl) ?_
  refine lv_aload_n hx hb dX3_becomeLike_75 rfl (lv_at hl 1 rfl) ?_
  refine va_get (D := D) (ci := 2) (v := .int (SU 5 0)) (C := RX3) (T := TX3) (N := 7) hx hb hts i_X3_becomeLike_X3 hown hK hP 6 rfl rfl 5 (by decide) (hts _ q_X3_becomeLike_6) (fun _ h9 => h9) rfl dX3_becomeLike_76 ?_
  refine va_put (D := D) (ci := 2) (v := .int (SU 5 0)) (ty := .int) (C := RX3) (T := TX3) (N := 7) hx hb hts i_X3_becomeLike_X3 tyX3 tyX3_ok nmX3 hown hK hP hD hS 0 rfl rfl 5 (by decide) (hts _ q_X3_becomeLike_6) (fun _ h9 => h9) rfl (by decide +kernel) rfl rfl (Nat.le_of_ble_eq_true rfl) dX3_becomeLike_79 (fun H locs hP hD hS => ?_)
  have hP : va_P D vwCl [(zt, .inr (2, [.ref qt0, .ref qt1, .ref qt2, .ref qt3, .ref qt4, .int (SU 5 0), .int (ST 6 0)])), (qt0, .inl (cI, 8, .inl (ST 0))), (qt1, .inl (cI, 8, .inl (ST 1))), (qt2, .inl (cI, 8, .inl (ST 2))), (qt3, .inl (cI, 8, .inl (ST 3))), (qt4, .inl (cI, 8, .inl (ST 4))), (zu, .inr (2, [.ref qu0, .ref qu1, .ref qu2, .ref qu3, .ref qu4, .int (SU 5 0), .int (SU 6 0)])), (qu0, .inl (cI, 8, .inl (SU 0))), (qu1, .inl (cI, 8, .inl (SU 1))), (qu2, .inl (cI, 8, .inl (SU 2))), (qu3, .inl (cI, 8, .inl (SU 3))), (qu4, .inl (cI, 8, .inl (SU 4)))] H := hP
  have hD : va_D A [(zt, .inr (2, [.ref qt0, .ref qt1, .ref qt2, .ref qt3, .ref qt4, .int (SU 5 0), .int (ST 6 0)])), (qt0, .inl (cI, 8, .inl (ST 0))), (qt1, .inl (cI, 8, .inl (ST 1))), (qt2, .inl (cI, 8, .inl (ST 2))), (qt3, .inl (cI, 8, .inl (ST 3))), (qt4, .inl (cI, 8, .inl (ST 4))), (zu, .inr (2, [.ref qu0, .ref qu1, .ref qu2, .ref qu3, .ref qu4, .int (SU 5 0), .int (SU 6 0)])), (qu0, .inl (cI, 8, .inl (SU 0))), (qu1, .inl (cI, 8, .inl (SU 1))), (qu2, .inl (cI, 8, .inl (SU 2))), (qu3, .inl (cI, 8, .inl (SU 3))), (qu4, .inl (cI, 8, .inl (SU 4)))] := hD
  refine lv_aload_n hx hb dX3_becomeLike_82 rfl (lv_at hl 0 rfl) ?_
  refine lv_aload_n hx hb dX3_becomeLike_83 rfl (lv_at hl 1 rfl) ?_
  refine va_get (D := D) (ci := 2) (v := .int (SU 6 0)) (C := RX3) (T := TX3) (N := 7) hx hb hts i_X3_becomeLike_X3 hown hK hP 6 rfl rfl 6 (by decide) (hts _ q_X3_becomeLike_7) (fun _ h9 => h9) rfl dX3_becomeLike_84 ?_
  refine va_put (D := D) (ci := 2) (v := .int (SU 6 0)) (ty := .int) (C := RX3) (T := TX3) (N := 7) hx hb hts i_X3_becomeLike_X3 tyX3 tyX3_ok nmX3 hown hK hP hD hS 0 rfl rfl 6 (by decide) (hts _ q_X3_becomeLike_7) (fun _ h9 => h9) rfl (by decide +kernel) rfl rfl (Nat.le_of_ble_eq_true rfl) dX3_becomeLike_87 (fun H locs hP hD hS => ?_)
  have hP : va_P D vwCl [(zt, .inr (2, [.ref qt0, .ref qt1, .ref qt2, .ref qt3, .ref qt4, .int (SU 5 0), .int (SU 6 0)])), (qt0, .inl (cI, 8, .inl (ST 0))), (qt1, .inl (cI, 8, .inl (ST 1))), (qt2, .inl (cI, 8, .inl (ST 2))), (qt3, .inl (cI, 8, .inl (ST 3))), (qt4, .inl (cI, 8, .inl (ST 4))), (zu, .inr (2, [.ref qu0, .ref qu1, .ref qu2, .ref qu3, .ref qu4, .int (SU 5 0), .int (SU 6 0)])), (qu0, .inl (cI, 8, .inl (SU 0))), (qu1, .inl (cI, 8, .inl (SU 1))), (qu2, .inl (cI, 8, .inl (SU 2))), (qu3, .inl (cI, 8, .inl (SU 3))), (qu4, .inl (cI, 8, .inl (SU 4)))] H := hP
  have hD : va_D A [(zt, .inr (2, [.ref qt0, .ref qt1, .ref qt2, .ref qt3, .ref qt4, .int (SU 5 0), .int (SU 6 0)])), (qt0, .inl (cI, 8, .inl (ST 0))), (qt1, .inl (cI, 8, .inl (ST 1))), (qt2, .inl (cI, 8, .inl (ST 2))), (qt3, .inl (cI, 8, .inl (ST 3))), (qt4, .inl (cI, 8, .inl (ST 4))), (zu, .inr (2, [.ref qu0, .ref qu1, .ref qu2, .ref qu3, .ref qu4, .int (SU 5 0), .int (SU 6 0)])), (qu0, .inl (cI, 8, .inl (SU 0))), (qu1, .inl (cI, 8, .inl (SU 1))), (qu2, .inl (cI, 8, .inl (SU 2))), (qu3, .inl (cI, 8, .inl (SU 3))), (qu4, .inl (cI, 8, .inl (SU 4)))] := hD
  obtain rfl := Option.some.inj hf
  exact s_vret hx hb hr hlocks hK hP hD hS dX3_becomeLike_90
set_option maxHeartbeats 4000000 in
set_option maxRecDepth 100000 in
theorem ts_X3_becomeLike_2 {p : Program} {l : Launch} {e : Env} {s : State} {m : MethodId} {args : Array Value} {below : List Frame} {meth : Method} {c : Code} {D : va_G} {cI cJ : ClassId} {A : Nat → Prop} {fu : Nat} {zt qt0 qt1 qt2 qt3 qt4 zu qu0 qu1 qu2 qu3 qu4 : Nat} {SU : S32} {o : S32} (C0 : Cx RX3 wsX3_becomeLike cX3_becomeLike 3 none D vwCl (tyS cI cJ) p s m args meth c) (hA : ∀ q : Nat, s.heap.size ≤ q → A q) {k2 : Int32 → S32 → Option (S32)} (K2 : ∀ (x2 : Int32) (ST : S32), k2 x2 ST = some o → ∀ (H : Heap) (locs : List Loc), va_P D vwCl ((wT zt qt0 qt1 qt2 qt3 qt4 cI ST) ++ (wT zu qu0 qu1 qu2 qu3 qu4 cI SU)) H → va_D A ((wT zt qt0 qt1 qt2 qt3 qt4 cI ST) ++ (wT zu qu0 qu1 qu2 qu3 qu4 cI SU)) → va_S A s.heap H locs → ∀ (ls : Array Slot), lv_has ls 3 [(0, .ref zt), (1, .ref zu), (2, .int x2)] → W p l e rm_X3_becomeLike s m args below meth c H locs 0 0 (MQ below (sZv D vwCl (tyS cI cJ) A ((wT zt qt0 qt1 qt2 qt3 qt4 cI (o)) ++ (wT zu qu0 qu1 qu2 qu3 qu4 cI SU))) args s 0 0 A) (F0 m 2 ls [])) : ∀ (x2 : Int32) (ST : S32), s_X3_becomeLike_2 fu  k2 SU x2 ST = some o → ∀ (H : Heap) (locs : List Loc), va_P D vwCl ((wT zt qt0 qt1 qt2 qt3 qt4 cI ST) ++ (wT zu qu0 qu1 qu2 qu3 qu4 cI SU)) H → va_D A ((wT zt qt0 qt1 qt2 qt3 qt4 cI ST) ++ (wT zu qu0 qu1 qu2 qu3 qu4 cI SU)) → va_S A s.heap H locs → ∀ (ls : Array Slot), lv_has ls 3 [(0, .ref zt), (1, .ref zu), (2, .int x2)] → W p l e rm_X3_becomeLike s m args below meth c H locs 0 0 (MQ below (sZv D vwCl (tyS cI cJ) A ((wT zt qt0 qt1 qt2 qt3 qt4 cI (o)) ++ (wT zu qu0 qu1 qu2 qu3 qu4 cI SU))) args s 0 0 A) (F0 m 2 ls []) := by
  obtain ⟨hx, hb, hr, hml, hown, hts, hlocks, hK⟩ := id C0
  intro x2 ST hf H locs hP hD hS ls hl
  have hP : va_P D vwCl [(zt, .inr (2, [.ref qt0, .ref qt1, .ref qt2, .ref qt3, .ref qt4, .int (ST 5 0), .int (ST 6 0)])), (qt0, .inl (cI, 8, .inl (ST 0))), (qt1, .inl (cI, 8, .inl (ST 1))), (qt2, .inl (cI, 8, .inl (ST 2))), (qt3, .inl (cI, 8, .inl (ST 3))), (qt4, .inl (cI, 8, .inl (ST 4))), (zu, .inr (2, [.ref qu0, .ref qu1, .ref qu2, .ref qu3, .ref qu4, .int (SU 5 0), .int (SU 6 0)])), (qu0, .inl (cI, 8, .inl (SU 0))), (qu1, .inl (cI, 8, .inl (SU 1))), (qu2, .inl (cI, 8, .inl (SU 2))), (qu3, .inl (cI, 8, .inl (SU 3))), (qu4, .inl (cI, 8, .inl (SU 4)))] H := hP
  have hD : va_D A [(zt, .inr (2, [.ref qt0, .ref qt1, .ref qt2, .ref qt3, .ref qt4, .int (ST 5 0), .int (ST 6 0)])), (qt0, .inl (cI, 8, .inl (ST 0))), (qt1, .inl (cI, 8, .inl (ST 1))), (qt2, .inl (cI, 8, .inl (ST 2))), (qt3, .inl (cI, 8, .inl (ST 3))), (qt4, .inl (cI, 8, .inl (ST 4))), (zu, .inr (2, [.ref qu0, .ref qu1, .ref qu2, .ref qu3, .ref qu4, .int (SU 5 0), .int (SU 6 0)])), (qu0, .inl (cI, 8, .inl (SU 0))), (qu1, .inl (cI, 8, .inl (SU 1))), (qu2, .inl (cI, 8, .inl (SU 2))), (qu3, .inl (cI, 8, .inl (SU 3))), (qu4, .inl (cI, 8, .inl (SU 4)))] := hD
  refine lv_iload_n hx hb dX3_becomeLike_2 rfl (lv_at hl 2 rfl) ?_
  refine lv_bipush (v := (8 : Int32)) hx hb dX3_becomeLike_3 (by decide) ?_
  refine lv_icmp_ge (tgt := 74) hx hb dX3_becomeLike_5 (by decide) (fun c_1 => ?_) (fun c_1 => ?_)
  · have hf := itT c_1 hf
    exact t_X3_becomeLike_74 (fu := fu) C0 hA  _ hf _ _ hP hD hS _ (lv_sub hl [0, 1] rfl)
  · have hf := itF c_1 hf
    refine lv_aload_n hx hb dX3_becomeLike_8 rfl (lv_at hl 0 rfl) ?_
    refine va_get (D := D) (ci := 2) (v := .ref qt0) (C := RX3) (T := TX3) (N := 7) hx hb hts i_X3_becomeLike_X3 hown hK hP 0 rfl rfl 0 (by decide) (hts _ q_X3_becomeLike_1) (fun _ h9 => h9) rfl dX3_becomeLike_9 ?_
    refine lv_iload_n hx hb dX3_becomeLike_12 rfl (lv_at hl 2 rfl) ?_
    refine lv_aload_n hx hb dX3_becomeLike_13 rfl (lv_at hl 1 rfl) ?_
    refine va_get (D := D) (ci := 2) (v := .ref qu0) (C := RX3) (T := TX3) (N := 7) hx hb hts i_X3_becomeLike_X3 hown hK hP 6 rfl rfl 0 (by decide) (hts _ q_X3_becomeLike_1) (fun _ h9 => h9) rfl dX3_becomeLike_14 ?_
    refine lv_iload_n hx hb dX3_becomeLike_17 rfl (lv_at hl 2 rfl) ?_
    obtain ⟨g_2, hf⟩ := gd_some hf
    refine va_iald hx hb hK hP 7 0 rfl rfl g_2 dX3_becomeLike_18 ?_
    obtain ⟨g_3, hf⟩ := gd_some hf
    refine va_iast hx hb hK hP hD hS 1 0 rfl rfl g_3 dX3_becomeLike_19 (fun H locs hP hD hS => ?_)
    have hP : va_P D vwCl [(zt, .inr (2, [.ref qt0, .ref qt1, .ref qt2, .ref qt3, .ref qt4, .int (ST 5 0), .int (ST 6 0)])), (qt0, .inl (cI, 8, .inl (upd (ST 0) x2.toNatClampNeg (SU 0 x2.toNatClampNeg)))), (qt1, .inl (cI, 8, .inl (ST 1))), (qt2, .inl (cI, 8, .inl (ST 2))), (qt3, .inl (cI, 8, .inl (ST 3))), (qt4, .inl (cI, 8, .inl (ST 4))), (zu, .inr (2, [.ref qu0, .ref qu1, .ref qu2, .ref qu3, .ref qu4, .int (SU 5 0), .int (SU 6 0)])), (qu0, .inl (cI, 8, .inl (SU 0))), (qu1, .inl (cI, 8, .inl (SU 1))), (qu2, .inl (cI, 8, .inl (SU 2))), (qu3, .inl (cI, 8, .inl (SU 3))), (qu4, .inl (cI, 8, .inl (SU 4)))] H := hP
    have hD : va_D A [(zt, .inr (2, [.ref qt0, .ref qt1, .ref qt2, .ref qt3, .ref qt4, .int (ST 5 0), .int (ST 6 0)])), (qt0, .inl (cI, 8, .inl (upd (ST 0) x2.toNatClampNeg (SU 0 x2.toNatClampNeg)))), (qt1, .inl (cI, 8, .inl (ST 1))), (qt2, .inl (cI, 8, .inl (ST 2))), (qt3, .inl (cI, 8, .inl (ST 3))), (qt4, .inl (cI, 8, .inl (ST 4))), (zu, .inr (2, [.ref qu0, .ref qu1, .ref qu2, .ref qu3, .ref qu4, .int (SU 5 0), .int (SU 6 0)])), (qu0, .inl (cI, 8, .inl (SU 0))), (qu1, .inl (cI, 8, .inl (SU 1))), (qu2, .inl (cI, 8, .inl (SU 2))), (qu3, .inl (cI, 8, .inl (SU 3))), (qu4, .inl (cI, 8, .inl (SU 4)))] := hD
    refine lv_aload_n hx hb dX3_becomeLike_20 rfl (lv_at hl 0 rfl) ?_
    refine va_get (D := D) (ci := 2) (v := .ref qt1) (C := RX3) (T := TX3) (N := 7) hx hb hts i_X3_becomeLike_X3 hown hK hP 0 rfl rfl 1 (by decide) (hts _ q_X3_becomeLike_2) (fun _ h9 => h9) rfl dX3_becomeLike_21 ?_
    refine lv_iload_n hx hb dX3_becomeLike_24 rfl (lv_at hl 2 rfl) ?_
    refine lv_aload_n hx hb dX3_becomeLike_25 rfl (lv_at hl 1 rfl) ?_
    refine va_get (D := D) (ci := 2) (v := .ref qu1) (C := RX3) (T := TX3) (N := 7) hx hb hts i_X3_becomeLike_X3 hown hK hP 6 rfl rfl 1 (by decide) (hts _ q_X3_becomeLike_2) (fun _ h9 => h9) rfl dX3_becomeLike_26 ?_
    refine lv_iload_n hx hb dX3_becomeLike_29 rfl (lv_at hl 2 rfl) ?_
    obtain ⟨g_4, hf⟩ := gd_some hf
    refine va_iald hx hb hK hP 8 0 rfl rfl g_4 dX3_becomeLike_30 ?_
    obtain ⟨g_5, hf⟩ := gd_some hf
    refine va_iast hx hb hK hP hD hS 2 0 rfl rfl g_5 dX3_becomeLike_31 (fun H locs hP hD hS => ?_)
    have hP : va_P D vwCl [(zt, .inr (2, [.ref qt0, .ref qt1, .ref qt2, .ref qt3, .ref qt4, .int (ST 5 0), .int (ST 6 0)])), (qt0, .inl (cI, 8, .inl (upd (ST 0) x2.toNatClampNeg (SU 0 x2.toNatClampNeg)))), (qt1, .inl (cI, 8, .inl (upd (ST 1) x2.toNatClampNeg (SU 1 x2.toNatClampNeg)))), (qt2, .inl (cI, 8, .inl (ST 2))), (qt3, .inl (cI, 8, .inl (ST 3))), (qt4, .inl (cI, 8, .inl (ST 4))), (zu, .inr (2, [.ref qu0, .ref qu1, .ref qu2, .ref qu3, .ref qu4, .int (SU 5 0), .int (SU 6 0)])), (qu0, .inl (cI, 8, .inl (SU 0))), (qu1, .inl (cI, 8, .inl (SU 1))), (qu2, .inl (cI, 8, .inl (SU 2))), (qu3, .inl (cI, 8, .inl (SU 3))), (qu4, .inl (cI, 8, .inl (SU 4)))] H := hP
    have hD : va_D A [(zt, .inr (2, [.ref qt0, .ref qt1, .ref qt2, .ref qt3, .ref qt4, .int (ST 5 0), .int (ST 6 0)])), (qt0, .inl (cI, 8, .inl (upd (ST 0) x2.toNatClampNeg (SU 0 x2.toNatClampNeg)))), (qt1, .inl (cI, 8, .inl (upd (ST 1) x2.toNatClampNeg (SU 1 x2.toNatClampNeg)))), (qt2, .inl (cI, 8, .inl (ST 2))), (qt3, .inl (cI, 8, .inl (ST 3))), (qt4, .inl (cI, 8, .inl (ST 4))), (zu, .inr (2, [.ref qu0, .ref qu1, .ref qu2, .ref qu3, .ref qu4, .int (SU 5 0), .int (SU 6 0)])), (qu0, .inl (cI, 8, .inl (SU 0))), (qu1, .inl (cI, 8, .inl (SU 1))), (qu2, .inl (cI, 8, .inl (SU 2))), (qu3, .inl (cI, 8, .inl (SU 3))), (qu4, .inl (cI, 8, .inl (SU 4)))] := hD
    refine lv_aload_n hx hb dX3_becomeLike_32 rfl (lv_at hl 0 rfl) ?_
    refine va_get (D := D) (ci := 2) (v := .ref qt2) (C := RX3) (T := TX3) (N := 7) hx hb hts i_X3_becomeLike_X3 hown hK hP 0 rfl rfl 2 (by decide) (hts _ q_X3_becomeLike_3) (fun _ h9 => h9) rfl dX3_becomeLike_33 ?_
    refine lv_iload_n hx hb dX3_becomeLike_36 rfl (lv_at hl 2 rfl) ?_
    refine lv_aload_n hx hb dX3_becomeLike_37 rfl (lv_at hl 1 rfl) ?_
    refine va_get (D := D) (ci := 2) (v := .ref qu2) (C := RX3) (T := TX3) (N := 7) hx hb hts i_X3_becomeLike_X3 hown hK hP 6 rfl rfl 2 (by decide) (hts _ q_X3_becomeLike_3) (fun _ h9 => h9) rfl dX3_becomeLike_38 ?_
    refine lv_iload_n hx hb dX3_becomeLike_41 rfl (lv_at hl 2 rfl) ?_
    obtain ⟨g_6, hf⟩ := gd_some hf
    refine va_iald hx hb hK hP 9 0 rfl rfl g_6 dX3_becomeLike_42 ?_
    obtain ⟨g_7, hf⟩ := gd_some hf
    refine va_iast hx hb hK hP hD hS 3 0 rfl rfl g_7 dX3_becomeLike_43 (fun H locs hP hD hS => ?_)
    have hP : va_P D vwCl [(zt, .inr (2, [.ref qt0, .ref qt1, .ref qt2, .ref qt3, .ref qt4, .int (ST 5 0), .int (ST 6 0)])), (qt0, .inl (cI, 8, .inl (upd (ST 0) x2.toNatClampNeg (SU 0 x2.toNatClampNeg)))), (qt1, .inl (cI, 8, .inl (upd (ST 1) x2.toNatClampNeg (SU 1 x2.toNatClampNeg)))), (qt2, .inl (cI, 8, .inl (upd (ST 2) x2.toNatClampNeg (SU 2 x2.toNatClampNeg)))), (qt3, .inl (cI, 8, .inl (ST 3))), (qt4, .inl (cI, 8, .inl (ST 4))), (zu, .inr (2, [.ref qu0, .ref qu1, .ref qu2, .ref qu3, .ref qu4, .int (SU 5 0), .int (SU 6 0)])), (qu0, .inl (cI, 8, .inl (SU 0))), (qu1, .inl (cI, 8, .inl (SU 1))), (qu2, .inl (cI, 8, .inl (SU 2))), (qu3, .inl (cI, 8, .inl (SU 3))), (qu4, .inl (cI, 8, .inl (SU 4)))] H := hP
    have hD : va_D A [(zt, .inr (2, [.ref qt0, .ref qt1, .ref qt2, .ref qt3, .ref qt4, .int (ST 5 0), .int (ST 6 0)])), (qt0, .inl (cI, 8, .inl (upd (ST 0) x2.toNatClampNeg (SU 0 x2.toNatClampNeg)))), (qt1, .inl (cI, 8, .inl (upd (ST 1) x2.toNatClampNeg (SU 1 x2.toNatClampNeg)))), (qt2, .inl (cI, 8, .inl (upd (ST 2) x2.toNatClampNeg (SU 2 x2.toNatClampNeg)))), (qt3, .inl (cI, 8, .inl (ST 3))), (qt4, .inl (cI, 8, .inl (ST 4))), (zu, .inr (2, [.ref qu0, .ref qu1, .ref qu2, .ref qu3, .ref qu4, .int (SU 5 0), .int (SU 6 0)])), (qu0, .inl (cI, 8, .inl (SU 0))), (qu1, .inl (cI, 8, .inl (SU 1))), (qu2, .inl (cI, 8, .inl (SU 2))), (qu3, .inl (cI, 8, .inl (SU 3))), (qu4, .inl (cI, 8, .inl (SU 4)))] := hD
    refine lv_aload_n hx hb dX3_becomeLike_44 rfl (lv_at hl 0 rfl) ?_
    refine va_get (D := D) (ci := 2) (v := .ref qt3) (C := RX3) (T := TX3) (N := 7) hx hb hts i_X3_becomeLike_X3 hown hK hP 0 rfl rfl 3 (by decide) (hts _ q_X3_becomeLike_4) (fun _ h9 => h9) rfl dX3_becomeLike_45 ?_
    refine lv_iload_n hx hb dX3_becomeLike_48 rfl (lv_at hl 2 rfl) ?_
    refine lv_aload_n hx hb dX3_becomeLike_49 rfl (lv_at hl 1 rfl) ?_
    refine va_get (D := D) (ci := 2) (v := .ref qu3) (C := RX3) (T := TX3) (N := 7) hx hb hts i_X3_becomeLike_X3 hown hK hP 6 rfl rfl 3 (by decide) (hts _ q_X3_becomeLike_4) (fun _ h9 => h9) rfl dX3_becomeLike_50 ?_
    refine lv_iload_n hx hb dX3_becomeLike_53 rfl (lv_at hl 2 rfl) ?_
    obtain ⟨g_8, hf⟩ := gd_some hf
    refine va_iald hx hb hK hP 10 0 rfl rfl g_8 dX3_becomeLike_54 ?_
    obtain ⟨g_9, hf⟩ := gd_some hf
    refine va_iast hx hb hK hP hD hS 4 0 rfl rfl g_9 dX3_becomeLike_55 (fun H locs hP hD hS => ?_)
    have hP : va_P D vwCl [(zt, .inr (2, [.ref qt0, .ref qt1, .ref qt2, .ref qt3, .ref qt4, .int (ST 5 0), .int (ST 6 0)])), (qt0, .inl (cI, 8, .inl (upd (ST 0) x2.toNatClampNeg (SU 0 x2.toNatClampNeg)))), (qt1, .inl (cI, 8, .inl (upd (ST 1) x2.toNatClampNeg (SU 1 x2.toNatClampNeg)))), (qt2, .inl (cI, 8, .inl (upd (ST 2) x2.toNatClampNeg (SU 2 x2.toNatClampNeg)))), (qt3, .inl (cI, 8, .inl (upd (ST 3) x2.toNatClampNeg (SU 3 x2.toNatClampNeg)))), (qt4, .inl (cI, 8, .inl (ST 4))), (zu, .inr (2, [.ref qu0, .ref qu1, .ref qu2, .ref qu3, .ref qu4, .int (SU 5 0), .int (SU 6 0)])), (qu0, .inl (cI, 8, .inl (SU 0))), (qu1, .inl (cI, 8, .inl (SU 1))), (qu2, .inl (cI, 8, .inl (SU 2))), (qu3, .inl (cI, 8, .inl (SU 3))), (qu4, .inl (cI, 8, .inl (SU 4)))] H := hP
    have hD : va_D A [(zt, .inr (2, [.ref qt0, .ref qt1, .ref qt2, .ref qt3, .ref qt4, .int (ST 5 0), .int (ST 6 0)])), (qt0, .inl (cI, 8, .inl (upd (ST 0) x2.toNatClampNeg (SU 0 x2.toNatClampNeg)))), (qt1, .inl (cI, 8, .inl (upd (ST 1) x2.toNatClampNeg (SU 1 x2.toNatClampNeg)))), (qt2, .inl (cI, 8, .inl (upd (ST 2) x2.toNatClampNeg (SU 2 x2.toNatClampNeg)))), (qt3, .inl (cI, 8, .inl (upd (ST 3) x2.toNatClampNeg (SU 3 x2.toNatClampNeg)))), (qt4, .inl (cI, 8, .inl (ST 4))), (zu, .inr (2, [.ref qu0, .ref qu1, .ref qu2, .ref qu3, .ref qu4, .int (SU 5 0), .int (SU 6 0)])), (qu0, .inl (cI, 8, .inl (SU 0))), (qu1, .inl (cI, 8, .inl (SU 1))), (qu2, .inl (cI, 8, .inl (SU 2))), (qu3, .inl (cI, 8, .inl (SU 3))), (qu4, .inl (cI, 8, .inl (SU 4)))] := hD
    refine lv_aload_n hx hb dX3_becomeLike_56 rfl (lv_at hl 0 rfl) ?_
    refine va_get (D := D) (ci := 2) (v := .ref qt4) (C := RX3) (T := TX3) (N := 7) hx hb hts i_X3_becomeLike_X3 hown hK hP 0 rfl rfl 4 (by decide) (hts _ q_X3_becomeLike_5) (fun _ h9 => h9) rfl dX3_becomeLike_57 ?_
    refine lv_iload_n hx hb dX3_becomeLike_60 rfl (lv_at hl 2 rfl) ?_
    refine lv_aload_n hx hb dX3_becomeLike_61 rfl (lv_at hl 1 rfl) ?_
    refine va_get (D := D) (ci := 2) (v := .ref qu4) (C := RX3) (T := TX3) (N := 7) hx hb hts i_X3_becomeLike_X3 hown hK hP 6 rfl rfl 4 (by decide) (hts _ q_X3_becomeLike_5) (fun _ h9 => h9) rfl dX3_becomeLike_62 ?_
    refine lv_iload_n hx hb dX3_becomeLike_65 rfl (lv_at hl 2 rfl) ?_
    obtain ⟨g_10, hf⟩ := gd_some hf
    refine va_iald hx hb hK hP 11 0 rfl rfl g_10 dX3_becomeLike_66 ?_
    obtain ⟨g_11, hf⟩ := gd_some hf
    refine va_iast hx hb hK hP hD hS 5 0 rfl rfl g_11 dX3_becomeLike_67 (fun H locs hP hD hS => ?_)
    have hP : va_P D vwCl [(zt, .inr (2, [.ref qt0, .ref qt1, .ref qt2, .ref qt3, .ref qt4, .int (ST 5 0), .int (ST 6 0)])), (qt0, .inl (cI, 8, .inl (upd (ST 0) x2.toNatClampNeg (SU 0 x2.toNatClampNeg)))), (qt1, .inl (cI, 8, .inl (upd (ST 1) x2.toNatClampNeg (SU 1 x2.toNatClampNeg)))), (qt2, .inl (cI, 8, .inl (upd (ST 2) x2.toNatClampNeg (SU 2 x2.toNatClampNeg)))), (qt3, .inl (cI, 8, .inl (upd (ST 3) x2.toNatClampNeg (SU 3 x2.toNatClampNeg)))), (qt4, .inl (cI, 8, .inl (upd (ST 4) x2.toNatClampNeg (SU 4 x2.toNatClampNeg)))), (zu, .inr (2, [.ref qu0, .ref qu1, .ref qu2, .ref qu3, .ref qu4, .int (SU 5 0), .int (SU 6 0)])), (qu0, .inl (cI, 8, .inl (SU 0))), (qu1, .inl (cI, 8, .inl (SU 1))), (qu2, .inl (cI, 8, .inl (SU 2))), (qu3, .inl (cI, 8, .inl (SU 3))), (qu4, .inl (cI, 8, .inl (SU 4)))] H := hP
    have hD : va_D A [(zt, .inr (2, [.ref qt0, .ref qt1, .ref qt2, .ref qt3, .ref qt4, .int (ST 5 0), .int (ST 6 0)])), (qt0, .inl (cI, 8, .inl (upd (ST 0) x2.toNatClampNeg (SU 0 x2.toNatClampNeg)))), (qt1, .inl (cI, 8, .inl (upd (ST 1) x2.toNatClampNeg (SU 1 x2.toNatClampNeg)))), (qt2, .inl (cI, 8, .inl (upd (ST 2) x2.toNatClampNeg (SU 2 x2.toNatClampNeg)))), (qt3, .inl (cI, 8, .inl (upd (ST 3) x2.toNatClampNeg (SU 3 x2.toNatClampNeg)))), (qt4, .inl (cI, 8, .inl (upd (ST 4) x2.toNatClampNeg (SU 4 x2.toNatClampNeg)))), (zu, .inr (2, [.ref qu0, .ref qu1, .ref qu2, .ref qu3, .ref qu4, .int (SU 5 0), .int (SU 6 0)])), (qu0, .inl (cI, 8, .inl (SU 0))), (qu1, .inl (cI, 8, .inl (SU 1))), (qu2, .inl (cI, 8, .inl (SU 2))), (qu3, .inl (cI, 8, .inl (SU 3))), (qu4, .inl (cI, 8, .inl (SU 4)))] := hD
    refine lv_iinc (v := (x2 + (1 : Int32))) (lv' := [(2, .int (x2 + (1 : Int32))), (0, .ref zt), (1, .ref zu)]) hx hb dX3_becomeLike_68 hl (k := 2) rfl rfl (by decide) rfl (fun ls hl => ?_)
    refine lv_goto (tgt := 2) hx hb dX3_becomeLike_71 (by decide) ?_
    exact K2 _ _ hf _ _ hP hD hS _ (lv_sub hl [1, 2, 0] rfl)
theorem t_X3_becomeLike_2 {p : Program} {l : Launch} {e : Env} {s : State} {m : MethodId} {args : Array Value} {below : List Frame} {meth : Method} {c : Code} {D : va_G} {cI cJ : ClassId} {A : Nat → Prop} {fu : Nat} {zt qt0 qt1 qt2 qt3 qt4 zu qu0 qu1 qu2 qu3 qu4 : Nat} {SU : S32} {o : S32} (C0 : Cx RX3 wsX3_becomeLike cX3_becomeLike 3 none D vwCl (tyS cI cJ) p s m args meth c) (hA : ∀ q : Nat, s.heap.size ≤ q → A q) : ∀ (n : Nat) (x2 : Int32) (ST : S32), f_X3_becomeLike_2 fu  SU n x2 ST = some o → ∀ (H : Heap) (locs : List Loc), va_P D vwCl ((wT zt qt0 qt1 qt2 qt3 qt4 cI ST) ++ (wT zu qu0 qu1 qu2 qu3 qu4 cI SU)) H → va_D A ((wT zt qt0 qt1 qt2 qt3 qt4 cI ST) ++ (wT zu qu0 qu1 qu2 qu3 qu4 cI SU)) → va_S A s.heap H locs → ∀ (ls : Array Slot), lv_has ls 3 [(0, .ref zt), (1, .ref zu), (2, .int x2)] → W p l e rm_X3_becomeLike s m args below meth c H locs 0 0 (MQ below (sZv D vwCl (tyS cI cJ) A ((wT zt qt0 qt1 qt2 qt3 qt4 cI (o)) ++ (wT zu qu0 qu1 qu2 qu3 qu4 cI SU))) args s 0 0 A) (F0 m 2 ls []) := by
  intro n
  induction n with
  | zero =>
    intro x2 ST hf
    have hf : (none : Option (S32)) = some o := hf
    cases hf
  | succ n ih => exact ts_X3_becomeLike_2 (fu := fu) (k2 := f_X3_becomeLike_2 fu  SU n) C0 hA  ih
set_option maxHeartbeats 4000000 in
set_option maxRecDepth 100000 in
theorem c_X3_becomeLike (l : Launch) (D : va_G) (cI cJ : ClassId) (fu : Nat) (zt qt0 qt1 qt2 qt3 qt4 zu qu0 qu1 qu2 qu3 qu4 : Nat) (ST : S32) (SU : S32) (o : S32) (hf : f_X3_becomeLike fu ST SU = some o) : MV l yX3_becomeLike wsX3_becomeLike rm_X3_becomeLike D vwCl (tyS cI cJ) [.ref zt, .ref zu] ((wT zt qt0 qt1 qt2 qt3 qt4 cI ST) ++ (wT zu qu0 qu1 qu2 qu3 qu4 cI SU)) ((wT zt qt0 qt1 qt2 qt3 qt4 cI (o)) ++ (wT zu qu0 qu1 qu2 qu3 qu4 cI SU)) := by
  intro sz
  refine s_entry (own := RX3) (cc := cX3_becomeLike) (maxL := 3) (ret := none) (Qc := fun A => sZv D vwCl (tyS cI cJ) A ((wT zt qt0 qt1 qt2 qt3 qt4 cI (o)) ++ (wT zu qu0 qu1 qu2 qu3 qu4 cI SU))) rfl (by decide) rfl rfl (Nat.le_of_ble_eq_true rfl) ?_
  intro p e s m args below meth c A C0 hA hP hD hS ls hl
  obtain ⟨hx, hb, hr, hml, hown, hts, hlocks, hK⟩ := id C0
  have hl : lv_has ls 3 [(0, .ref zt), (1, .ref zu)] := hl
  have hP : va_P D vwCl [(zt, .inr (2, [.ref qt0, .ref qt1, .ref qt2, .ref qt3, .ref qt4, .int (ST 5 0), .int (ST 6 0)])), (qt0, .inl (cI, 8, .inl (ST 0))), (qt1, .inl (cI, 8, .inl (ST 1))), (qt2, .inl (cI, 8, .inl (ST 2))), (qt3, .inl (cI, 8, .inl (ST 3))), (qt4, .inl (cI, 8, .inl (ST 4))), (zu, .inr (2, [.ref qu0, .ref qu1, .ref qu2, .ref qu3, .ref qu4, .int (SU 5 0), .int (SU 6 0)])), (qu0, .inl (cI, 8, .inl (SU 0))), (qu1, .inl (cI, 8, .inl (SU 1))), (qu2, .inl (cI, 8, .inl (SU 2))), (qu3, .inl (cI, 8, .inl (SU 3))), (qu4, .inl (cI, 8, .inl (SU 4)))] s.heap := hP
  have hD : va_D A [(zt, .inr (2, [.ref qt0, .ref qt1, .ref qt2, .ref qt3, .ref qt4, .int (ST 5 0), .int (ST 6 0)])), (qt0, .inl (cI, 8, .inl (ST 0))), (qt1, .inl (cI, 8, .inl (ST 1))), (qt2, .inl (cI, 8, .inl (ST 2))), (qt3, .inl (cI, 8, .inl (ST 3))), (qt4, .inl (cI, 8, .inl (ST 4))), (zu, .inr (2, [.ref qu0, .ref qu1, .ref qu2, .ref qu3, .ref qu4, .int (SU 5 0), .int (SU 6 0)])), (qu0, .inl (cI, 8, .inl (SU 0))), (qu1, .inl (cI, 8, .inl (SU 1))), (qu2, .inl (cI, 8, .inl (SU 2))), (qu3, .inl (cI, 8, .inl (SU 3))), (qu4, .inl (cI, 8, .inl (SU 4)))] := hD
  refine lv_iconst (v := (0 : Int32)) hx hb dX3_becomeLike_0 (by decide) ?_
  refine lv_istore_n (lv' := [(2, .int (0 : Int32)), (0, .ref zt), (1, .ref zu)]) hx hb dX3_becomeLike_1 rfl hl (by decide) rfl (fun ls hl => ?_)
  exact t_X3_becomeLike_2 (fu := fu) C0 hA  fu _ _ hf _ _ hP hD hS _ (lv_sub hl [1, 2, 0] rfl)
theorem q_X3_isFull_1 : (Cond.fieldLink RX3 27 "UpWhenDies$Tower" "came" "I" : Cond) ∈ wsX3_isFull := List.mem_of_getElem? (i := 1) rfl
theorem i_X3_isFull_X3 : ∀ w ∈ wsX30, w ∈ wsX3_isFull := fun _ h => (List.mem_cons_of_mem _ (List.mem_append_right _ h))
abbrev rm_X3_isFull : Room := { frames := 0, cells := 0, slots := 0, locals := 0 }
set_option maxHeartbeats 4000000 in
set_option maxRecDepth 100000 in
theorem c_X3_isFull (l : Launch) (D : va_G) (cI cJ : ClassId) (fu : Nat) (zt qt0 qt1 qt2 qt3 qt4 : Nat) (ST : S32) (o : Int32) (hf : f_X3_isFull fu ST = some o) : MI l yX3_isFull wsX3_isFull rm_X3_isFull D vwCl (tyS cI cJ) [.ref zt] (wT zt qt0 qt1 qt2 qt3 qt4 cI ST) (wT zt qt0 qt1 qt2 qt3 qt4 cI ST) (o) := by
  intro sz
  refine s_entry (own := RX3) (cc := cX3_isFull) (maxL := 1) (ret := (some .boolean)) (Qc := fun A => sZi D vwCl (tyS cI cJ) A (wT zt qt0 qt1 qt2 qt3 qt4 cI ST) (o)) rfl (by decide) rfl rfl (Nat.le_of_ble_eq_true rfl) ?_
  intro p e s m args below meth c A C0 hA hP hD hS ls hl
  obtain ⟨hx, hb, hr, hml, hown, hts, hlocks, hK⟩ := id C0
  have hl : lv_has ls 1 [(0, .ref zt)] := hl
  have hP : va_P D vwCl [(zt, .inr (2, [.ref qt0, .ref qt1, .ref qt2, .ref qt3, .ref qt4, .int (ST 5 0), .int (ST 6 0)])), (qt0, .inl (cI, 8, .inl (ST 0))), (qt1, .inl (cI, 8, .inl (ST 1))), (qt2, .inl (cI, 8, .inl (ST 2))), (qt3, .inl (cI, 8, .inl (ST 3))), (qt4, .inl (cI, 8, .inl (ST 4)))] s.heap := hP
  have hD : va_D A [(zt, .inr (2, [.ref qt0, .ref qt1, .ref qt2, .ref qt3, .ref qt4, .int (ST 5 0), .int (ST 6 0)])), (qt0, .inl (cI, 8, .inl (ST 0))), (qt1, .inl (cI, 8, .inl (ST 1))), (qt2, .inl (cI, 8, .inl (ST 2))), (qt3, .inl (cI, 8, .inl (ST 3))), (qt4, .inl (cI, 8, .inl (ST 4)))] := hD
  refine lv_aload_n hx hb dX3_isFull_0 rfl (lv_at hl 0 rfl) ?_
  refine va_get (D := D) (ci := 2) (v := .int (ST 5 0)) (C := RX3) (T := TX3) (N := 7) hx hb hts i_X3_isFull_X3 hown hK hP 0 rfl rfl 5 (by decide) (hts _ q_X3_isFull_1) (fun _ h9 => h9) rfl dX3_isFull_1 ?_
  refine lv_bipush (v := (8 : Int32)) hx hb dX3_isFull_4 (by decide) ?_
  refine lv_icmp_lt (tgt := 13) hx hb dX3_isFull_6 (by decide) (fun c_1 => ?_) (fun c_1 => ?_)
  · have hf := itT c_1 hf
    refine lv_iconst (v := (0 : Int32)) hx hb dX3_isFull_13 (by decide) ?_
    obtain rfl := Option.some.inj hf
    exact s_zret (r := (0 : Int32)) hx hb hr hlocks hK hP hD hS rfl dX3_isFull_14
  · have hf := itF c_1 hf
    refine lv_iconst (v := (1 : Int32)) hx hb dX3_isFull_9 (by decide) ?_
    refine lv_goto (tgt := 14) hx hb dX3_isFull_10 (by decide) ?_
    obtain rfl := Option.some.inj hf
    exact s_zret (r := (1 : Int32)) hx hb hr hlocks hK hP hD hS rfl dX3_isFull_14
theorem q_X3_isAlive_1 : (Cond.fieldLink RX3 27 "UpWhenDies$Tower" "came" "I" : Cond) ∈ wsX3_isAlive := List.mem_of_getElem? (i := 1) rfl
theorem q_X3_isAlive_2 : (Cond.fieldLink RX3 18 "UpWhenDies$Tower" "floor" "[I" : Cond) ∈ wsX3_isAlive := List.mem_of_getElem? (i := 2) rfl
theorem i_X3_isAlive_X3 : ∀ w ∈ wsX30, w ∈ wsX3_isAlive := fun _ h => (List.mem_cons_of_mem _ (List.mem_append_right _ h))
abbrev rm_X3_isAlive : Room := { frames := 0, cells := 0, slots := 0, locals := 0 }
set_option maxHeartbeats 4000000 in
set_option maxRecDepth 100000 in
theorem c_X3_isAlive (l : Launch) (D : va_G) (cI cJ : ClassId) (fu : Nat) (zt qt0 qt1 qt2 qt3 qt4 : Nat) (ST : S32) (x1 : Int32) (o : Int32) (hf : f_X3_isAlive fu ST x1 = some o) : MI l yX3_isAlive wsX3_isAlive rm_X3_isAlive D vwCl (tyS cI cJ) [.ref zt, .int x1] (wT zt qt0 qt1 qt2 qt3 qt4 cI ST) (wT zt qt0 qt1 qt2 qt3 qt4 cI ST) (o) := by
  intro sz
  refine s_entry (own := RX3) (cc := cX3_isAlive) (maxL := 2) (ret := (some .boolean)) (Qc := fun A => sZi D vwCl (tyS cI cJ) A (wT zt qt0 qt1 qt2 qt3 qt4 cI ST) (o)) rfl (by decide) rfl rfl (Nat.le_of_ble_eq_true rfl) ?_
  intro p e s m args below meth c A C0 hA hP hD hS ls hl
  obtain ⟨hx, hb, hr, hml, hown, hts, hlocks, hK⟩ := id C0
  have hl : lv_has ls 2 [(0, .ref zt), (1, .int x1)] := hl
  have hP : va_P D vwCl [(zt, .inr (2, [.ref qt0, .ref qt1, .ref qt2, .ref qt3, .ref qt4, .int (ST 5 0), .int (ST 6 0)])), (qt0, .inl (cI, 8, .inl (ST 0))), (qt1, .inl (cI, 8, .inl (ST 1))), (qt2, .inl (cI, 8, .inl (ST 2))), (qt3, .inl (cI, 8, .inl (ST 3))), (qt4, .inl (cI, 8, .inl (ST 4)))] s.heap := hP
  have hD : va_D A [(zt, .inr (2, [.ref qt0, .ref qt1, .ref qt2, .ref qt3, .ref qt4, .int (ST 5 0), .int (ST 6 0)])), (qt0, .inl (cI, 8, .inl (ST 0))), (qt1, .inl (cI, 8, .inl (ST 1))), (qt2, .inl (cI, 8, .inl (ST 2))), (qt3, .inl (cI, 8, .inl (ST 3))), (qt4, .inl (cI, 8, .inl (ST 4)))] := hD
  refine lv_iload_n hx hb dX3_isAlive_0 rfl (lv_at hl 1 rfl) ?_
  refine lv_if_lt (tgt := 32) hx hb dX3_isAlive_1 (by decide) (fun c_1 => ?_) (fun c_1 => ?_)
  · have hf := itT c_1 hf
    refine lv_iconst (v := (0 : Int32)) hx hb dX3_isAlive_32 (by decide) ?_
    obtain rfl := Option.some.inj hf
    exact s_zret (r := (0 : Int32)) hx hb hr hlocks hK hP hD hS rfl dX3_isAlive_33
  · have hf := itF c_1 hf
    refine lv_iload_n hx hb dX3_isAlive_4 rfl (lv_at hl 1 rfl) ?_
    refine lv_bipush (v := (8 : Int32)) hx hb dX3_isAlive_5 (by decide) ?_
    refine lv_icmp_ge (tgt := 32) hx hb dX3_isAlive_7 (by decide) (fun c_2 => ?_) (fun c_2 => ?_)
    · have hf := itT c_2 hf
      refine lv_iconst (v := (0 : Int32)) hx hb dX3_isAlive_32 (by decide) ?_
      obtain rfl := Option.some.inj hf
      exact s_zret (r := (0 : Int32)) hx hb hr hlocks hK hP hD hS rfl dX3_isAlive_33
    · have hf := itF c_2 hf
      refine lv_iload_n hx hb dX3_isAlive_10 rfl (lv_at hl 1 rfl) ?_
      refine lv_aload_n hx hb dX3_isAlive_11 rfl (lv_at hl 0 rfl) ?_
      refine va_get (D := D) (ci := 2) (v := .int (ST 5 0)) (C := RX3) (T := TX3) (N := 7) hx hb hts i_X3_isAlive_X3 hown hK hP 0 rfl rfl 5 (by decide) (hts _ q_X3_isAlive_1) (fun _ h9 => h9) rfl dX3_isAlive_12 ?_
      refine lv_icmp_ge (tgt := 32) hx hb dX3_isAlive_15 (by decide) (fun c_3 => ?_) (fun c_3 => ?_)
      · have hf := itT c_3 hf
        refine lv_iconst (v := (0 : Int32)) hx hb dX3_isAlive_32 (by decide) ?_
        obtain rfl := Option.some.inj hf
        exact s_zret (r := (0 : Int32)) hx hb hr hlocks hK hP hD hS rfl dX3_isAlive_33
      · have hf := itF c_3 hf
        refine lv_aload_n hx hb dX3_isAlive_18 rfl (lv_at hl 0 rfl) ?_
        refine va_get (D := D) (ci := 2) (v := .ref qt2) (C := RX3) (T := TX3) (N := 7) hx hb hts i_X3_isAlive_X3 hown hK hP 0 rfl rfl 2 (by decide) (hts _ q_X3_isAlive_2) (fun _ h9 => h9) rfl dX3_isAlive_19 ?_
        refine lv_iload_n hx hb dX3_isAlive_22 rfl (lv_at hl 1 rfl) ?_
        obtain ⟨g_4, hf⟩ := gd_some hf
        refine va_iald hx hb hK hP 3 0 rfl rfl g_4 dX3_isAlive_23 ?_
        refine lv_iconst (v := (-1 : Int32)) hx hb dX3_isAlive_24 (by decide) ?_
        refine lv_icmp_eq (tgt := 32) hx hb dX3_isAlive_25 (by decide) (fun c_5 => ?_) (fun c_5 => ?_)
        · have hf := itT c_5 hf
          refine lv_iconst (v := (0 : Int32)) hx hb dX3_isAlive_32 (by decide) ?_
          obtain rfl := Option.some.inj hf
          exact s_zret (r := (0 : Int32)) hx hb hr hlocks hK hP hD hS rfl dX3_isAlive_33
        · have hf := itF c_5 hf
          refine lv_iconst (v := (1 : Int32)) hx hb dX3_isAlive_28 (by decide) ?_
          refine lv_goto (tgt := 33) hx hb dX3_isAlive_29 (by decide) ?_
          obtain rfl := Option.some.inj hf
          exact s_zret (r := (1 : Int32)) hx hb hr hlocks hK hP hD hS rfl dX3_isAlive_33
theorem q_X3_whoLivesOn_1 : (Cond.fieldLink RX3 18 "UpWhenDies$Tower" "floor" "[I" : Cond) ∈ wsX3_whoLivesOn := List.mem_of_getElem? (i := 1) rfl
theorem i_X3_whoLivesOn_X3 : ∀ w ∈ wsX30, w ∈ wsX3_whoLivesOn := fun _ h => (List.mem_cons_of_mem _ (List.mem_append_right _ h))
abbrev rm_X3_whoLivesOn : Room := { frames := 1, cells := 0, slots := 0, locals := 21 }
set_option maxHeartbeats 4000000 in
set_option maxRecDepth 100000 in
theorem ts_X3_whoLivesOn_2 {p : Program} {l : Launch} {e : Env} {s : State} {m : MethodId} {args : Array Value} {below : List Frame} {meth : Method} {c : Code} {D : va_G} {cI cJ : ClassId} {A : Nat → Prop} {fu : Nat} {zt qt0 qt1 qt2 qt3 qt4 : Nat} {ST : S32} {o : Int32} (C0 : Cx RX3 wsX3_whoLivesOn cX3_whoLivesOn 3 (some .int) D vwCl (tyS cI cJ) p s m args meth c) (hA : ∀ q : Nat, s.heap.size ≤ q → A q) {k2 : Int32 → Int32 → Option (Int32)} (K2 : ∀ (x1 : Int32) (x2 : Int32), k2 x1 x2 = some o → ∀ (H : Heap) (locs : List Loc), va_P D vwCl (wT zt qt0 qt1 qt2 qt3 qt4 cI ST) H → va_D A (wT zt qt0 qt1 qt2 qt3 qt4 cI ST) → va_S A s.heap H locs → ∀ (ls : Array Slot), lv_has ls 3 [(0, .ref zt), (1, .int x1), (2, .int x2)] → W p l e rm_X3_whoLivesOn s m args below meth c H locs 0 0 (MQ below (sZi D vwCl (tyS cI cJ) A (wT zt qt0 qt1 qt2 qt3 qt4 cI ST) (o)) args s 0 0 A) (F0 m 2 ls [])) : ∀ (x1 : Int32) (x2 : Int32), s_X3_whoLivesOn_2 fu  k2 ST x1 x2 = some o → ∀ (H : Heap) (locs : List Loc), va_P D vwCl (wT zt qt0 qt1 qt2 qt3 qt4 cI ST) H → va_D A (wT zt qt0 qt1 qt2 qt3 qt4 cI ST) → va_S A s.heap H locs → ∀ (ls : Array Slot), lv_has ls 3 [(0, .ref zt), (1, .int x1), (2, .int x2)] → W p l e rm_X3_whoLivesOn s m args below meth c H locs 0 0 (MQ below (sZi D vwCl (tyS cI cJ) A (wT zt qt0 qt1 qt2 qt3 qt4 cI ST) (o)) args s 0 0 A) (F0 m 2 ls []) := by
  obtain ⟨hx, hb, hr, hml, hown, hts, hlocks, hK⟩ := id C0
  intro x1 x2 hf H locs hP hD hS ls hl
  have hP : va_P D vwCl [(zt, .inr (2, [.ref qt0, .ref qt1, .ref qt2, .ref qt3, .ref qt4, .int (ST 5 0), .int (ST 6 0)])), (qt0, .inl (cI, 8, .inl (ST 0))), (qt1, .inl (cI, 8, .inl (ST 1))), (qt2, .inl (cI, 8, .inl (ST 2))), (qt3, .inl (cI, 8, .inl (ST 3))), (qt4, .inl (cI, 8, .inl (ST 4)))] H := hP
  have hD : va_D A [(zt, .inr (2, [.ref qt0, .ref qt1, .ref qt2, .ref qt3, .ref qt4, .int (ST 5 0), .int (ST 6 0)])), (qt0, .inl (cI, 8, .inl (ST 0))), (qt1, .inl (cI, 8, .inl (ST 1))), (qt2, .inl (cI, 8, .inl (ST 2))), (qt3, .inl (cI, 8, .inl (ST 3))), (qt4, .inl (cI, 8, .inl (ST 4)))] := hD
  refine lv_iload_n hx hb dX3_whoLivesOn_2 rfl (lv_at hl 2 rfl) ?_
  refine lv_bipush (v := (8 : Int32)) hx hb dX3_whoLivesOn_3 (by decide) ?_
  refine lv_icmp_ge (tgt := 34) hx hb dX3_whoLivesOn_5 (by decide) (fun c_1 => ?_) (fun c_1 => ?_)
  · have hf := itT c_1 hf
    refine lv_iconst (v := (-1 : Int32)) hx hb dX3_whoLivesOn_34 (by decide) ?_
    obtain rfl := Option.some.inj hf
    exact s_iret (r := (-1 : Int32)) hx hb hr hlocks hK hP hD hS dX3_whoLivesOn_35
  · have hf := itF c_1 hf
    refine lv_aload_n hx hb dX3_whoLivesOn_8 rfl (lv_at hl 0 rfl) ?_
    refine lv_iload_n hx hb dX3_whoLivesOn_9 rfl (lv_at hl 2 rfl) ?_
    obtain ⟨o_2, h_2, hf⟩ := bd_some hf
    refine s_callVI (wc := (wT zt qt0 qt1 qt2 qt3 qt4 cI ST)) (wr := []) (wc' := (wT zt qt0 qt1 qt2 qt3 qt4 cI ST)) (w' := [(zt, .inr (2, [.ref qt0, .ref qt1, .ref qt2, .ref qt3, .ref qt4, .int (ST 5 0), .int (ST 6 0)])), (qt0, .inl (cI, 8, .inl (ST 0))), (qt1, .inl (cI, 8, .inl (ST 1))), (qt2, .inl (cI, 8, .inl (ST 2))), (qt3, .inl (cI, 8, .inl (ST 3))), (qt4, .inl (cI, 8, .inl (ST 4)))]) (isC := [0, 1, 2, 3, 4, 5]) (isR := []) (perm := [0, 1, 2, 3, 4, 5]) (As := [.int x2]) (rest := []) (ci := 2) (q := (RX3, TX3, 7)) ⟨hx, hb, hml, hown, hts⟩ (c_X3_isAlive l D cI cJ fu zt qt0 qt1 qt2 qt3 qt4 ST x2 o_2 h_2) (cwV 1 hts gX3_whoLivesOn_X3_isAlive rfl rfl rfl (by decide +kernel) ⟨Nat.le_of_ble_eq_true rfl, Nat.le_of_ble_eq_true rfl⟩) hK hP hD hS hA ⟨rfl, rfl, by decide, by decide, by decide, by decide, rfl⟩ rfl rfl rfl rfl hl.1 rfl (Nat.le_of_ble_eq_true rfl) dX3_whoLivesOn_10 (fun H locs hP hD hS => ?_)
    refine lv_if_eq (tgt := 28) hx hb dX3_whoLivesOn_13 (by decide) (fun c_3 => ?_) (fun c_3 => ?_)
    · have hf := itT c_3 hf
      refine lv_iinc (v := (x2 + (1 : Int32))) (lv' := [(2, .int (x2 + (1 : Int32))), (0, .ref zt), (1, .int x1)]) hx hb dX3_whoLivesOn_28 hl (k := 2) rfl rfl (by decide) rfl (fun ls hl => ?_)
      refine lv_goto (tgt := 2) hx hb dX3_whoLivesOn_31 (by decide) ?_
      exact K2 _ _ hf _ _ hP hD hS _ (lv_sub hl [1, 2, 0] rfl)
    · have hf := itF c_3 hf
      refine lv_aload_n hx hb dX3_whoLivesOn_16 rfl (lv_at hl 0 rfl) ?_
      refine va_get (D := D) (ci := 2) (v := .ref qt2) (C := RX3) (T := TX3) (N := 7) hx hb hts i_X3_whoLivesOn_X3 hown hK hP 0 rfl rfl 2 (by decide) (hts _ q_X3_whoLivesOn_1) (fun _ h9 => h9) rfl dX3_whoLivesOn_17 ?_
      refine lv_iload_n hx hb dX3_whoLivesOn_20 rfl (lv_at hl 2 rfl) ?_
      obtain ⟨g_4, hf⟩ := gd_some hf
      refine va_iald hx hb hK hP 3 0 rfl rfl g_4 dX3_whoLivesOn_21 ?_
      refine lv_iload_n hx hb dX3_whoLivesOn_22 rfl (lv_at hl 1 rfl) ?_
      refine lv_icmp_ne (tgt := 28) hx hb dX3_whoLivesOn_23 (by decide) (fun c_5 => ?_) (fun c_5 => ?_)
      · have hf := itF c_5 hf
        refine lv_iinc (v := (x2 + (1 : Int32))) (lv' := [(2, .int (x2 + (1 : Int32))), (0, .ref zt), (1, .int x1)]) hx hb dX3_whoLivesOn_28 hl (k := 2) rfl rfl (by decide) rfl (fun ls hl => ?_)
        refine lv_goto (tgt := 2) hx hb dX3_whoLivesOn_31 (by decide) ?_
        exact K2 _ _ hf _ _ hP hD hS _ (lv_sub hl [1, 2, 0] rfl)
      · have hf := itT c_5 hf
        refine lv_iload_n hx hb dX3_whoLivesOn_26 rfl (lv_at hl 2 rfl) ?_
        obtain rfl := Option.some.inj hf
        exact s_iret (r := x2) hx hb hr hlocks hK hP hD hS dX3_whoLivesOn_27
theorem t_X3_whoLivesOn_2 {p : Program} {l : Launch} {e : Env} {s : State} {m : MethodId} {args : Array Value} {below : List Frame} {meth : Method} {c : Code} {D : va_G} {cI cJ : ClassId} {A : Nat → Prop} {fu : Nat} {zt qt0 qt1 qt2 qt3 qt4 : Nat} {ST : S32} {o : Int32} (C0 : Cx RX3 wsX3_whoLivesOn cX3_whoLivesOn 3 (some .int) D vwCl (tyS cI cJ) p s m args meth c) (hA : ∀ q : Nat, s.heap.size ≤ q → A q) : ∀ (n : Nat) (x1 : Int32) (x2 : Int32), f_X3_whoLivesOn_2 fu  ST n x1 x2 = some o → ∀ (H : Heap) (locs : List Loc), va_P D vwCl (wT zt qt0 qt1 qt2 qt3 qt4 cI ST) H → va_D A (wT zt qt0 qt1 qt2 qt3 qt4 cI ST) → va_S A s.heap H locs → ∀ (ls : Array Slot), lv_has ls 3 [(0, .ref zt), (1, .int x1), (2, .int x2)] → W p l e rm_X3_whoLivesOn s m args below meth c H locs 0 0 (MQ below (sZi D vwCl (tyS cI cJ) A (wT zt qt0 qt1 qt2 qt3 qt4 cI ST) (o)) args s 0 0 A) (F0 m 2 ls []) := by
  intro n
  induction n with
  | zero =>
    intro x1 x2 hf
    have hf : (none : Option (Int32)) = some o := hf
    cases hf
  | succ n ih => exact ts_X3_whoLivesOn_2 (fu := fu) (k2 := f_X3_whoLivesOn_2 fu  ST n) C0 hA  ih
set_option maxHeartbeats 4000000 in
set_option maxRecDepth 100000 in
theorem c_X3_whoLivesOn (l : Launch) (D : va_G) (cI cJ : ClassId) (fu : Nat) (zt qt0 qt1 qt2 qt3 qt4 : Nat) (ST : S32) (x1 : Int32) (o : Int32) (hf : f_X3_whoLivesOn fu ST x1 = some o) : MI l yX3_whoLivesOn wsX3_whoLivesOn rm_X3_whoLivesOn D vwCl (tyS cI cJ) [.ref zt, .int x1] (wT zt qt0 qt1 qt2 qt3 qt4 cI ST) (wT zt qt0 qt1 qt2 qt3 qt4 cI ST) (o) := by
  intro sz
  refine s_entry (own := RX3) (cc := cX3_whoLivesOn) (maxL := 3) (ret := (some .int)) (Qc := fun A => sZi D vwCl (tyS cI cJ) A (wT zt qt0 qt1 qt2 qt3 qt4 cI ST) (o)) rfl (by decide) rfl rfl (Nat.le_of_ble_eq_true rfl) ?_
  intro p e s m args below meth c A C0 hA hP hD hS ls hl
  obtain ⟨hx, hb, hr, hml, hown, hts, hlocks, hK⟩ := id C0
  have hl : lv_has ls 3 [(0, .ref zt), (1, .int x1)] := hl
  have hP : va_P D vwCl [(zt, .inr (2, [.ref qt0, .ref qt1, .ref qt2, .ref qt3, .ref qt4, .int (ST 5 0), .int (ST 6 0)])), (qt0, .inl (cI, 8, .inl (ST 0))), (qt1, .inl (cI, 8, .inl (ST 1))), (qt2, .inl (cI, 8, .inl (ST 2))), (qt3, .inl (cI, 8, .inl (ST 3))), (qt4, .inl (cI, 8, .inl (ST 4)))] s.heap := hP
  have hD : va_D A [(zt, .inr (2, [.ref qt0, .ref qt1, .ref qt2, .ref qt3, .ref qt4, .int (ST 5 0), .int (ST 6 0)])), (qt0, .inl (cI, 8, .inl (ST 0))), (qt1, .inl (cI, 8, .inl (ST 1))), (qt2, .inl (cI, 8, .inl (ST 2))), (qt3, .inl (cI, 8, .inl (ST 3))), (qt4, .inl (cI, 8, .inl (ST 4)))] := hD
  refine lv_iconst (v := (0 : Int32)) hx hb dX3_whoLivesOn_0 (by decide) ?_
  refine lv_istore_n (lv' := [(2, .int (0 : Int32)), (0, .ref zt), (1, .int x1)]) hx hb dX3_whoLivesOn_1 rfl hl (by decide) rfl (fun ls hl => ?_)
  exact t_X3_whoLivesOn_2 (fu := fu) C0 hA  fu _ _ hf _ _ hP hD hS _ (lv_sub hl [1, 2, 0] rfl)
abbrev rm_X3_couldComeIn : Room := { frames := 2, cells := 0, slots := 0, locals := 43 }
set_option maxHeartbeats 4000000 in
set_option maxRecDepth 100000 in
theorem c_X3_couldComeIn (l : Launch) (D : va_G) (cI cJ : ClassId) (fu : Nat) (zt qt0 qt1 qt2 qt3 qt4 : Nat) (ST : S32) (x1 : Int32) (x2 : Int32) (o : Int32) (hf : f_X3_couldComeIn fu ST x1 x2 = some o) : MI l yX3_couldComeIn wsX3_couldComeIn rm_X3_couldComeIn D vwCl (tyS cI cJ) [.ref zt, .int x1, .int x2] (wT zt qt0 qt1 qt2 qt3 qt4 cI ST) (wT zt qt0 qt1 qt2 qt3 qt4 cI ST) (o) := by
  intro sz
  refine s_entry (own := RX3) (cc := cX3_couldComeIn) (maxL := 3) (ret := (some .boolean)) (Qc := fun A => sZi D vwCl (tyS cI cJ) A (wT zt qt0 qt1 qt2 qt3 qt4 cI ST) (o)) rfl (by decide) rfl rfl (Nat.le_of_ble_eq_true rfl) ?_
  intro p e s m args below meth c A C0 hA hP hD hS ls hl
  obtain ⟨hx, hb, hr, hml, hown, hts, hlocks, hK⟩ := id C0
  have hl : lv_has ls 3 [(0, .ref zt), (1, .int x1), (2, .int x2)] := hl
  have hP : va_P D vwCl [(zt, .inr (2, [.ref qt0, .ref qt1, .ref qt2, .ref qt3, .ref qt4, .int (ST 5 0), .int (ST 6 0)])), (qt0, .inl (cI, 8, .inl (ST 0))), (qt1, .inl (cI, 8, .inl (ST 1))), (qt2, .inl (cI, 8, .inl (ST 2))), (qt3, .inl (cI, 8, .inl (ST 3))), (qt4, .inl (cI, 8, .inl (ST 4)))] s.heap := hP
  have hD : va_D A [(zt, .inr (2, [.ref qt0, .ref qt1, .ref qt2, .ref qt3, .ref qt4, .int (ST 5 0), .int (ST 6 0)])), (qt0, .inl (cI, 8, .inl (ST 0))), (qt1, .inl (cI, 8, .inl (ST 1))), (qt2, .inl (cI, 8, .inl (ST 2))), (qt3, .inl (cI, 8, .inl (ST 3))), (qt4, .inl (cI, 8, .inl (ST 4)))] := hD
  refine lv_aload_n hx hb dX3_couldComeIn_0 rfl (lv_at hl 0 rfl) ?_
  obtain ⟨o_1, h_1, hf⟩ := bd_some hf
  refine s_callVI (wc := (wT zt qt0 qt1 qt2 qt3 qt4 cI ST)) (wr := []) (wc' := (wT zt qt0 qt1 qt2 qt3 qt4 cI ST)) (w' := [(zt, .inr (2, [.ref qt0, .ref qt1, .ref qt2, .ref qt3, .ref qt4, .int (ST 5 0), .int (ST 6 0)])), (qt0, .inl (cI, 8, .inl (ST 0))), (qt1, .inl (cI, 8, .inl (ST 1))), (qt2, .inl (cI, 8, .inl (ST 2))), (qt3, .inl (cI, 8, .inl (ST 3))), (qt4, .inl (cI, 8, .inl (ST 4)))]) (isC := [0, 1, 2, 3, 4, 5]) (isR := []) (perm := [0, 1, 2, 3, 4, 5]) (As := []) (rest := []) (ci := 2) (q := (RX3, TX3, 7)) ⟨hx, hb, hml, hown, hts⟩ (c_X3_isFull l D cI cJ fu zt qt0 qt1 qt2 qt3 qt4 ST o_1 h_1) (cwV 0 hts gX3_couldComeIn_X3_isFull rfl rfl rfl (by decide +kernel) ⟨Nat.le_of_ble_eq_true rfl, Nat.le_of_ble_eq_true rfl⟩) hK hP hD hS hA ⟨rfl, rfl, by decide, by decide, by decide, by decide, rfl⟩ rfl rfl rfl rfl hl.1 rfl (Nat.le_of_ble_eq_true rfl) dX3_couldComeIn_1 (fun H locs hP hD hS => ?_)
  refine lv_if_ne (tgt := 23) hx hb dX3_couldComeIn_4 (by decide) (fun c_2 => ?_) (fun c_2 => ?_)
  · have hf := itF c_2 hf
    refine lv_iconst (v := (0 : Int32)) hx hb dX3_couldComeIn_23 (by decide) ?_
    obtain rfl := Option.some.inj hf
    exact s_zret (r := (0 : Int32)) hx hb hr hlocks hK hP hD hS rfl dX3_couldComeIn_24
  · have hf := itT c_2 hf
    refine lv_aload_n hx hb dX3_couldComeIn_7 rfl (lv_at hl 0 rfl) ?_
    refine lv_iload_n hx hb dX3_couldComeIn_8 rfl (lv_at hl 1 rfl) ?_
    refine lv_iload_n hx hb dX3_couldComeIn_9 rfl (lv_at hl 2 rfl) ?_
    obtain ⟨o_3, h_3, hf⟩ := bd_some hf
    refine s_callSI (wc := []) (wr := [(zt, .inr (2, [.ref qt0, .ref qt1, .ref qt2, .ref qt3, .ref qt4, .int (ST 5 0), .int (ST 6 0)])), (qt0, .inl (cI, 8, .inl (ST 0))), (qt1, .inl (cI, 8, .inl (ST 1))), (qt2, .inl (cI, 8, .inl (ST 2))), (qt3, .inl (cI, 8, .inl (ST 3))), (qt4, .inl (cI, 8, .inl (ST 4)))]) (wc' := []) (w' := [(zt, .inr (2, [.ref qt0, .ref qt1, .ref qt2, .ref qt3, .ref qt4, .int (ST 5 0), .int (ST 6 0)])), (qt0, .inl (cI, 8, .inl (ST 0))), (qt1, .inl (cI, 8, .inl (ST 1))), (qt2, .inl (cI, 8, .inl (ST 2))), (qt3, .inl (cI, 8, .inl (ST 3))), (qt4, .inl (cI, 8, .inl (ST 4)))]) (isC := []) (isR := [0, 1, 2, 3, 4, 5]) (perm := [0, 1, 2, 3, 4, 5]) (As := [.int x1, .int x2]) (rest := [.ref zt]) ⟨hx, hb, hml, hown, hts⟩ (c_X0_entryFloor l D cI cJ fu x1 x2 o_3 h_3) (va_cwS 2 hts gX3_couldComeIn_X0_entryFloor rfl rfl rfl (by decide +kernel) ⟨Nat.le_of_ble_eq_true rfl, Nat.le_of_ble_eq_true rfl⟩) hK hP hD hS hA ⟨rfl, rfl, by decide, by decide, by decide, by decide, rfl⟩ rfl hl.1 rfl (Nat.le_of_ble_eq_true rfl) dX3_couldComeIn_10 (fun H locs hP hD hS => ?_)
    obtain ⟨o_4, h_4, hf⟩ := bd_some hf
    refine s_callVI (wc := (wT zt qt0 qt1 qt2 qt3 qt4 cI ST)) (wr := []) (wc' := (wT zt qt0 qt1 qt2 qt3 qt4 cI ST)) (w' := [(zt, .inr (2, [.ref qt0, .ref qt1, .ref qt2, .ref qt3, .ref qt4, .int (ST 5 0), .int (ST 6 0)])), (qt0, .inl (cI, 8, .inl (ST 0))), (qt1, .inl (cI, 8, .inl (ST 1))), (qt2, .inl (cI, 8, .inl (ST 2))), (qt3, .inl (cI, 8, .inl (ST 3))), (qt4, .inl (cI, 8, .inl (ST 4)))]) (isC := [0, 1, 2, 3, 4, 5]) (isR := []) (perm := [0, 1, 2, 3, 4, 5]) (As := [.int o_3]) (rest := []) (ci := 2) (q := (RX3, TX3, 7)) ⟨hx, hb, hml, hown, hts⟩ (c_X3_whoLivesOn l D cI cJ fu zt qt0 qt1 qt2 qt3 qt4 ST o_3 o_4 h_4) (cwV 1 hts gX3_couldComeIn_X3_whoLivesOn rfl rfl rfl (by decide +kernel) ⟨Nat.le_of_ble_eq_true rfl, Nat.le_of_ble_eq_true rfl⟩) hK hP hD hS hA ⟨rfl, rfl, by decide, by decide, by decide, by decide, rfl⟩ rfl rfl rfl rfl hl.1 rfl (Nat.le_of_ble_eq_true rfl) dX3_couldComeIn_13 (fun H locs hP hD hS => ?_)
    refine lv_if_ge (tgt := 23) hx hb dX3_couldComeIn_16 (by decide) (fun c_5 => ?_) (fun c_5 => ?_)
    · have hf := itT c_5 hf
      refine lv_iconst (v := (0 : Int32)) hx hb dX3_couldComeIn_23 (by decide) ?_
      obtain rfl := Option.some.inj hf
      exact s_zret (r := (0 : Int32)) hx hb hr hlocks hK hP hD hS rfl dX3_couldComeIn_24
    · have hf := itF c_5 hf
      refine lv_iconst (v := (1 : Int32)) hx hb dX3_couldComeIn_19 (by decide) ?_
      refine lv_goto (tgt := 24) hx hb dX3_couldComeIn_20 (by decide) ?_
      obtain rfl := Option.some.inj hf
      exact s_zret (r := (1 : Int32)) hx hb hr hlocks hK hP hD hS rfl dX3_couldComeIn_24
theorem q_X3_admit_1 : (Cond.fieldLink RX3 27 "UpWhenDies$Tower" "came" "I" : Cond) ∈ wsX3_admit := List.mem_of_getElem? (i := 1) rfl
theorem q_X3_admit_2 : (Cond.fieldLink RX3 9 "UpWhenDies$Tower" "kind" "[I" : Cond) ∈ wsX3_admit := List.mem_of_getElem? (i := 2) rfl
theorem q_X3_admit_3 : (Cond.fieldLink RX3 15 "UpWhenDies$Tower" "age" "[I" : Cond) ∈ wsX3_admit := List.mem_of_getElem? (i := 3) rfl
theorem q_X3_admit_4 : (Cond.fieldLink RX3 18 "UpWhenDies$Tower" "floor" "[I" : Cond) ∈ wsX3_admit := List.mem_of_getElem? (i := 4) rfl
theorem q_X3_admit_5 : (Cond.fieldLink RX3 21 "UpWhenDies$Tower" "load" "[I" : Cond) ∈ wsX3_admit := List.mem_of_getElem? (i := 5) rfl
theorem q_X3_admit_6 : (Cond.fieldLink RX3 24 "UpWhenDies$Tower" "wished" "[I" : Cond) ∈ wsX3_admit := List.mem_of_getElem? (i := 6) rfl
theorem i_X3_admit_X3 : ∀ w ∈ wsX30, w ∈ wsX3_admit := fun _ h => (List.mem_cons_of_mem _ (List.mem_append_right _ h))
abbrev rm_X3_admit : Room := { frames := 2, cells := 0, slots := 0, locals := 43 }
set_option maxHeartbeats 4000000 in
set_option maxRecDepth 100000 in
theorem c_X3_admit (l : Launch) (D : va_G) (cI cJ : ClassId) (fu : Nat) (zt qt0 qt1 qt2 qt3 qt4 : Nat) (ST : S32) (x1 : Int32) (x2 : Int32) (x3 : Int32) (o : Int32 × S32) (hf : f_X3_admit fu ST x1 x2 x3 = some o) : MI l yX3_admit wsX3_admit rm_X3_admit D vwCl (tyS cI cJ) [.ref zt, .int x1, .int x2, .int x3] (wT zt qt0 qt1 qt2 qt3 qt4 cI ST) (wT zt qt0 qt1 qt2 qt3 qt4 cI (o.2)) (o.1) := by
  intro sz
  refine s_entry (own := RX3) (cc := cX3_admit) (maxL := 5) (ret := (some .int)) (Qc := fun A => sZi D vwCl (tyS cI cJ) A (wT zt qt0 qt1 qt2 qt3 qt4 cI (o.2)) (o.1)) rfl (by decide) rfl rfl (Nat.le_of_ble_eq_true rfl) ?_
  intro p e s m args below meth c A C0 hA hP hD hS ls hl
  obtain ⟨hx, hb, hr, hml, hown, hts, hlocks, hK⟩ := id C0
  have hl : lv_has ls 5 [(0, .ref zt), (1, .int x1), (2, .int x2), (3, .int x3)] := hl
  have hP : va_P D vwCl [(zt, .inr (2, [.ref qt0, .ref qt1, .ref qt2, .ref qt3, .ref qt4, .int (ST 5 0), .int (ST 6 0)])), (qt0, .inl (cI, 8, .inl (ST 0))), (qt1, .inl (cI, 8, .inl (ST 1))), (qt2, .inl (cI, 8, .inl (ST 2))), (qt3, .inl (cI, 8, .inl (ST 3))), (qt4, .inl (cI, 8, .inl (ST 4)))] s.heap := hP
  have hD : va_D A [(zt, .inr (2, [.ref qt0, .ref qt1, .ref qt2, .ref qt3, .ref qt4, .int (ST 5 0), .int (ST 6 0)])), (qt0, .inl (cI, 8, .inl (ST 0))), (qt1, .inl (cI, 8, .inl (ST 1))), (qt2, .inl (cI, 8, .inl (ST 2))), (qt3, .inl (cI, 8, .inl (ST 3))), (qt4, .inl (cI, 8, .inl (ST 4)))] := hD
  refine lv_aload_n hx hb dX3_admit_0 rfl (lv_at hl 0 rfl) ?_
  refine va_get (D := D) (ci := 2) (v := .int (ST 5 0)) (C := RX3) (T := TX3) (N := 7) hx hb hts i_X3_admit_X3 hown hK hP 0 rfl rfl 5 (by decide) (hts _ q_X3_admit_1) (fun _ h9 => h9) rfl dX3_admit_1 ?_
  refine lv_istore (lv' := [(4, .int (ST 5 0)), (0, .ref zt), (1, .int x1), (2, .int x2), (3, .int x3)]) hx hb dX3_admit_4 hl (by decide) rfl (fun ls hl => ?_)
  refine lv_iload hx hb dX3_admit_6 (lv_at hl 0 rfl) ?_
  refine lv_if_lt (tgt := 18) hx hb dX3_admit_8 (by decide) (fun c_1 => ?_) (fun c_1 => ?_)
  · have hf := itT c_1 hf
    refine lv_iconst (v := (-1 : Int32)) hx hb dX3_admit_18 (by decide) ?_
    obtain rfl := Option.some.inj hf
    exact s_iret (r := (-1 : Int32)) hx hb hr hlocks hK hP hD hS dX3_admit_19
  · have hf := itF c_1 hf
    refine lv_iload hx hb dX3_admit_11 (lv_at hl 0 rfl) ?_
    refine lv_bipush (v := (8 : Int32)) hx hb dX3_admit_13 (by decide) ?_
    refine lv_icmp_lt (tgt := 20) hx hb dX3_admit_15 (by decide) (fun c_2 => ?_) (fun c_2 => ?_)
    · have hf := itT c_2 hf
      refine lv_aload_n hx hb dX3_admit_20 rfl (lv_at hl 1 rfl) ?_
      refine va_get (D := D) (ci := 2) (v := .ref qt0) (C := RX3) (T := TX3) (N := 7) hx hb hts i_X3_admit_X3 hown hK hP 0 rfl rfl 0 (by decide) (hts _ q_X3_admit_2) (fun _ h9 => h9) rfl dX3_admit_21 ?_
      refine lv_iload hx hb dX3_admit_24 (lv_at hl 0 rfl) ?_
      refine lv_iload_n hx hb dX3_admit_26 rfl (lv_at hl 2 rfl) ?_
      obtain ⟨g_3, hf⟩ := gd_some hf
      refine va_iast hx hb hK hP hD hS 1 0 rfl rfl g_3 dX3_admit_27 (fun H locs hP hD hS => ?_)
      have hP : va_P D vwCl [(zt, .inr (2, [.ref qt0, .ref qt1, .ref qt2, .ref qt3, .ref qt4, .int (ST 5 0), .int (ST 6 0)])), (qt0, .inl (cI, 8, .inl (upd (ST 0) (ST 5 0).toNatClampNeg x1))), (qt1, .inl (cI, 8, .inl (ST 1))), (qt2, .inl (cI, 8, .inl (ST 2))), (qt3, .inl (cI, 8, .inl (ST 3))), (qt4, .inl (cI, 8, .inl (ST 4)))] H := hP
      have hD : va_D A [(zt, .inr (2, [.ref qt0, .ref qt1, .ref qt2, .ref qt3, .ref qt4, .int (ST 5 0), .int (ST 6 0)])), (qt0, .inl (cI, 8, .inl (upd (ST 0) (ST 5 0).toNatClampNeg x1))), (qt1, .inl (cI, 8, .inl (ST 1))), (qt2, .inl (cI, 8, .inl (ST 2))), (qt3, .inl (cI, 8, .inl (ST 3))), (qt4, .inl (cI, 8, .inl (ST 4)))] := hD
      refine lv_aload_n hx hb dX3_admit_28 rfl (lv_at hl 1 rfl) ?_
      refine va_get (D := D) (ci := 2) (v := .ref qt1) (C := RX3) (T := TX3) (N := 7) hx hb hts i_X3_admit_X3 hown hK hP 0 rfl rfl 1 (by decide) (hts _ q_X3_admit_3) (fun _ h9 => h9) rfl dX3_admit_29 ?_
      refine lv_iload hx hb dX3_admit_32 (lv_at hl 0 rfl) ?_
      refine lv_iload_n hx hb dX3_admit_34 rfl (lv_at hl 3 rfl) ?_
      obtain ⟨g_4, hf⟩ := gd_some hf
      refine va_iast hx hb hK hP hD hS 2 0 rfl rfl g_4 dX3_admit_35 (fun H locs hP hD hS => ?_)
      have hP : va_P D vwCl [(zt, .inr (2, [.ref qt0, .ref qt1, .ref qt2, .ref qt3, .ref qt4, .int (ST 5 0), .int (ST 6 0)])), (qt0, .inl (cI, 8, .inl (upd (ST 0) (ST 5 0).toNatClampNeg x1))), (qt1, .inl (cI, 8, .inl (upd (ST 1) (ST 5 0).toNatClampNeg x2))), (qt2, .inl (cI, 8, .inl (ST 2))), (qt3, .inl (cI, 8, .inl (ST 3))), (qt4, .inl (cI, 8, .inl (ST 4)))] H := hP
      have hD : va_D A [(zt, .inr (2, [.ref qt0, .ref qt1, .ref qt2, .ref qt3, .ref qt4, .int (ST 5 0), .int (ST 6 0)])), (qt0, .inl (cI, 8, .inl (upd (ST 0) (ST 5 0).toNatClampNeg x1))), (qt1, .inl (cI, 8, .inl (upd (ST 1) (ST 5 0).toNatClampNeg x2))), (qt2, .inl (cI, 8, .inl (ST 2))), (qt3, .inl (cI, 8, .inl (ST 3))), (qt4, .inl (cI, 8, .inl (ST 4)))] := hD
      refine lv_aload_n hx hb dX3_admit_36 rfl (lv_at hl 1 rfl) ?_
      refine va_get (D := D) (ci := 2) (v := .ref qt2) (C := RX3) (T := TX3) (N := 7) hx hb hts i_X3_admit_X3 hown hK hP 0 rfl rfl 2 (by decide) (hts _ q_X3_admit_4) (fun _ h9 => h9) rfl dX3_admit_37 ?_
      refine lv_iload hx hb dX3_admit_40 (lv_at hl 0 rfl) ?_
      refine lv_iload_n hx hb dX3_admit_42 rfl (lv_at hl 2 rfl) ?_
      refine lv_iload_n hx hb dX3_admit_43 rfl (lv_at hl 3 rfl) ?_
      obtain ⟨o_5, h_5, hf⟩ := bd_some hf
      refine s_callSI (wc := []) (wr := [(zt, .inr (2, [.ref qt0, .ref qt1, .ref qt2, .ref qt3, .ref qt4, .int (ST 5 0), .int (ST 6 0)])), (qt0, .inl (cI, 8, .inl (upd (ST 0) (ST 5 0).toNatClampNeg x1))), (qt1, .inl (cI, 8, .inl (upd (ST 1) (ST 5 0).toNatClampNeg x2))), (qt2, .inl (cI, 8, .inl (ST 2))), (qt3, .inl (cI, 8, .inl (ST 3))), (qt4, .inl (cI, 8, .inl (ST 4)))]) (wc' := []) (w' := [(zt, .inr (2, [.ref qt0, .ref qt1, .ref qt2, .ref qt3, .ref qt4, .int (ST 5 0), .int (ST 6 0)])), (qt0, .inl (cI, 8, .inl (upd (ST 0) (ST 5 0).toNatClampNeg x1))), (qt1, .inl (cI, 8, .inl (upd (ST 1) (ST 5 0).toNatClampNeg x2))), (qt2, .inl (cI, 8, .inl (ST 2))), (qt3, .inl (cI, 8, .inl (ST 3))), (qt4, .inl (cI, 8, .inl (ST 4)))]) (isC := []) (isR := [0, 1, 2, 3, 4, 5]) (perm := [0, 1, 2, 3, 4, 5]) (As := [.int x1, .int x2]) (rest := [.int (ST 5 0), .ref qt2]) ⟨hx, hb, hml, hown, hts⟩ (c_X0_entryFloor l D cI cJ fu x1 x2 o_5 h_5) (va_cwS 2 hts gX3_admit_X0_entryFloor rfl rfl rfl (by decide +kernel) ⟨Nat.le_of_ble_eq_true rfl, Nat.le_of_ble_eq_true rfl⟩) hK hP hD hS hA ⟨rfl, rfl, by decide, by decide, by decide, by decide, rfl⟩ rfl hl.1 rfl (Nat.le_of_ble_eq_true rfl) dX3_admit_44 (fun H locs hP hD hS => ?_)
      obtain ⟨g_6, hf⟩ := gd_some hf
      refine va_iast hx hb hK hP hD hS 3 0 rfl rfl g_6 dX3_admit_47 (fun H locs hP hD hS => ?_)
      have hP : va_P D vwCl [(zt, .inr (2, [.ref qt0, .ref qt1, .ref qt2, .ref qt3, .ref qt4, .int (ST 5 0), .int (ST 6 0)])), (qt0, .inl (cI, 8, .inl (upd (ST 0) (ST 5 0).toNatClampNeg x1))), (qt1, .inl (cI, 8, .inl (upd (ST 1) (ST 5 0).toNatClampNeg x2))), (qt2, .inl (cI, 8, .inl (upd (ST 2) (ST 5 0).toNatClampNeg o_5))), (qt3, .inl (cI, 8, .inl (ST 3))), (qt4, .inl (cI, 8, .inl (ST 4)))] H := hP
      have hD : va_D A [(zt, .inr (2, [.ref qt0, .ref qt1, .ref qt2, .ref qt3, .ref qt4, .int (ST 5 0), .int (ST 6 0)])), (qt0, .inl (cI, 8, .inl (upd (ST 0) (ST 5 0).toNatClampNeg x1))), (qt1, .inl (cI, 8, .inl (upd (ST 1) (ST 5 0).toNatClampNeg x2))), (qt2, .inl (cI, 8, .inl (upd (ST 2) (ST 5 0).toNatClampNeg o_5))), (qt3, .inl (cI, 8, .inl (ST 3))), (qt4, .inl (cI, 8, .inl (ST 4)))] := hD
      refine lv_aload_n hx hb dX3_admit_48 rfl (lv_at hl 1 rfl) ?_
      refine va_get (D := D) (ci := 2) (v := .ref qt3) (C := RX3) (T := TX3) (N := 7) hx hb hts i_X3_admit_X3 hown hK hP 0 rfl rfl 3 (by decide) (hts _ q_X3_admit_5) (fun _ h9 => h9) rfl dX3_admit_49 ?_
      refine lv_iload hx hb dX3_admit_52 (lv_at hl 0 rfl) ?_
      refine lv_iload_n hx hb dX3_admit_54 rfl (lv_at hl 4 rfl) ?_
      obtain ⟨g_7, hf⟩ := gd_some hf
      refine va_iast hx hb hK hP hD hS 4 0 rfl rfl g_7 dX3_admit_55 (fun H locs hP hD hS => ?_)
      have hP : va_P D vwCl [(zt, .inr (2, [.ref qt0, .ref qt1, .ref qt2, .ref qt3, .ref qt4, .int (ST 5 0), .int (ST 6 0)])), (qt0, .inl (cI, 8, .inl (upd (ST 0) (ST 5 0).toNatClampNeg x1))), (qt1, .inl (cI, 8, .inl (upd (ST 1) (ST 5 0).toNatClampNeg x2))), (qt2, .inl (cI, 8, .inl (upd (ST 2) (ST 5 0).toNatClampNeg o_5))), (qt3, .inl (cI, 8, .inl (upd (ST 3) (ST 5 0).toNatClampNeg x3))), (qt4, .inl (cI, 8, .inl (ST 4)))] H := hP
      have hD : va_D A [(zt, .inr (2, [.ref qt0, .ref qt1, .ref qt2, .ref qt3, .ref qt4, .int (ST 5 0), .int (ST 6 0)])), (qt0, .inl (cI, 8, .inl (upd (ST 0) (ST 5 0).toNatClampNeg x1))), (qt1, .inl (cI, 8, .inl (upd (ST 1) (ST 5 0).toNatClampNeg x2))), (qt2, .inl (cI, 8, .inl (upd (ST 2) (ST 5 0).toNatClampNeg o_5))), (qt3, .inl (cI, 8, .inl (upd (ST 3) (ST 5 0).toNatClampNeg x3))), (qt4, .inl (cI, 8, .inl (ST 4)))] := hD
      refine lv_aload_n hx hb dX3_admit_56 rfl (lv_at hl 1 rfl) ?_
      refine va_get (D := D) (ci := 2) (v := .ref qt4) (C := RX3) (T := TX3) (N := 7) hx hb hts i_X3_admit_X3 hown hK hP 0 rfl rfl 4 (by decide) (hts _ q_X3_admit_6) (fun _ h9 => h9) rfl dX3_admit_57 ?_
      refine lv_iload hx hb dX3_admit_60 (lv_at hl 0 rfl) ?_
      refine lv_iconst (v := (-1 : Int32)) hx hb dX3_admit_62 (by decide) ?_
      obtain ⟨g_8, hf⟩ := gd_some hf
      refine va_iast hx hb hK hP hD hS 5 0 rfl rfl g_8 dX3_admit_63 (fun H locs hP hD hS => ?_)
      have hP : va_P D vwCl [(zt, .inr (2, [.ref qt0, .ref qt1, .ref qt2, .ref qt3, .ref qt4, .int (ST 5 0), .int (ST 6 0)])), (qt0, .inl (cI, 8, .inl (upd (ST 0) (ST 5 0).toNatClampNeg x1))), (qt1, .inl (cI, 8, .inl (upd (ST 1) (ST 5 0).toNatClampNeg x2))), (qt2, .inl (cI, 8, .inl (upd (ST 2) (ST 5 0).toNatClampNeg o_5))), (qt3, .inl (cI, 8, .inl (upd (ST 3) (ST 5 0).toNatClampNeg x3))), (qt4, .inl (cI, 8, .inl (upd (ST 4) (ST 5 0).toNatClampNeg (-1 : Int32))))] H := hP
      have hD : va_D A [(zt, .inr (2, [.ref qt0, .ref qt1, .ref qt2, .ref qt3, .ref qt4, .int (ST 5 0), .int (ST 6 0)])), (qt0, .inl (cI, 8, .inl (upd (ST 0) (ST 5 0).toNatClampNeg x1))), (qt1, .inl (cI, 8, .inl (upd (ST 1) (ST 5 0).toNatClampNeg x2))), (qt2, .inl (cI, 8, .inl (upd (ST 2) (ST 5 0).toNatClampNeg o_5))), (qt3, .inl (cI, 8, .inl (upd (ST 3) (ST 5 0).toNatClampNeg x3))), (qt4, .inl (cI, 8, .inl (upd (ST 4) (ST 5 0).toNatClampNeg (-1 : Int32))))] := hD
      refine lv_aload_n hx hb dX3_admit_64 rfl (lv_at hl 1 rfl) ?_
      refine lv_dup hx hb dX3_admit_65 rfl ?_
      refine va_get (D := D) (ci := 2) (v := .int (ST 5 0)) (C := RX3) (T := TX3) (N := 7) hx hb hts i_X3_admit_X3 hown hK hP 0 rfl rfl 5 (by decide) (hts _ q_X3_admit_1) (fun _ h9 => h9) rfl dX3_admit_66 ?_
      refine lv_iconst (v := (1 : Int32)) hx hb dX3_admit_69 (by decide) ?_
      refine lv_iadd hx hb dX3_admit_70 ?_
      refine va_put (D := D) (ci := 2) (v := .int ((ST 5 0) + (1 : Int32))) (ty := .int) (C := RX3) (T := TX3) (N := 7) hx hb hts i_X3_admit_X3 tyX3 tyX3_ok nmX3 hown hK hP hD hS 0 rfl rfl 5 (by decide) (hts _ q_X3_admit_1) (fun _ h9 => h9) rfl (by decide +kernel) rfl rfl (Nat.le_of_ble_eq_true rfl) dX3_admit_71 (fun H locs hP hD hS => ?_)
      have hP : va_P D vwCl [(zt, .inr (2, [.ref qt0, .ref qt1, .ref qt2, .ref qt3, .ref qt4, .int ((ST 5 0) + (1 : Int32)), .int (ST 6 0)])), (qt0, .inl (cI, 8, .inl (upd (ST 0) (ST 5 0).toNatClampNeg x1))), (qt1, .inl (cI, 8, .inl (upd (ST 1) (ST 5 0).toNatClampNeg x2))), (qt2, .inl (cI, 8, .inl (upd (ST 2) (ST 5 0).toNatClampNeg o_5))), (qt3, .inl (cI, 8, .inl (upd (ST 3) (ST 5 0).toNatClampNeg x3))), (qt4, .inl (cI, 8, .inl (upd (ST 4) (ST 5 0).toNatClampNeg (-1 : Int32))))] H := hP
      have hD : va_D A [(zt, .inr (2, [.ref qt0, .ref qt1, .ref qt2, .ref qt3, .ref qt4, .int ((ST 5 0) + (1 : Int32)), .int (ST 6 0)])), (qt0, .inl (cI, 8, .inl (upd (ST 0) (ST 5 0).toNatClampNeg x1))), (qt1, .inl (cI, 8, .inl (upd (ST 1) (ST 5 0).toNatClampNeg x2))), (qt2, .inl (cI, 8, .inl (upd (ST 2) (ST 5 0).toNatClampNeg o_5))), (qt3, .inl (cI, 8, .inl (upd (ST 3) (ST 5 0).toNatClampNeg x3))), (qt4, .inl (cI, 8, .inl (upd (ST 4) (ST 5 0).toNatClampNeg (-1 : Int32))))] := hD
      refine lv_iload hx hb dX3_admit_74 (lv_at hl 0 rfl) ?_
      obtain rfl := Option.some.inj hf
      exact s_iret (r := (ST 5 0)) hx hb hr hlocks hK hP hD hS dX3_admit_76
    · have hf := itF c_2 hf
      refine lv_iconst (v := (-1 : Int32)) hx hb dX3_admit_18 (by decide) ?_
      obtain rfl := Option.some.inj hf
      exact s_iret (r := (-1 : Int32)) hx hb hr hlocks hK hP hD hS dX3_admit_19
abbrev rm_X3_holds : Room := { frames := 0, cells := 0, slots := 0, locals := 0 }
set_option maxHeartbeats 4000000 in
set_option maxRecDepth 100000 in
theorem c_X3_holds (l : Launch) (D : va_G) (cI cJ : ClassId) (fu : Nat) (x0 : Int32) (x1 : Int32) (o : Int32) (hf : f_X3_holds fu x0 x1 = some o) : MI l yX3_holds wsX3_holds rm_X3_holds D vwCl (tyS cI cJ) [.int x0, .int x1] [] [] (o) := by
  intro sz
  refine s_entry (own := RX3) (cc := cX3_holds) (maxL := 2) (ret := (some .boolean)) (Qc := fun A => sZi D vwCl (tyS cI cJ) A [] (o)) rfl (by decide) rfl rfl (Nat.le_of_ble_eq_true rfl) ?_
  intro p e s m args below meth c A C0 hA hP hD hS ls hl
  obtain ⟨hx, hb, hr, hml, hown, hts, hlocks, hK⟩ := id C0
  have hl : lv_has ls 2 [(0, .int x0), (1, .int x1)] := hl
  have hP : va_P D vwCl [] s.heap := hP
  have hD : va_D A [] := hD
  refine lv_iload_n hx hb dX3_holds_0 rfl (lv_at hl 0 rfl) ?_
  refine lv_iload_n hx hb dX3_holds_1 rfl (lv_at hl 1 rfl) ?_
  refine lv_ishr hx hb dX3_holds_2 ?_
  refine lv_iconst (v := (1 : Int32)) hx hb dX3_holds_3 (by decide) ?_
  refine lv_iand hx hb dX3_holds_4 ?_
  refine lv_if_eq (tgt := 12) hx hb dX3_holds_5 (by decide) (fun c_1 => ?_) (fun c_1 => ?_)
  · have hf := itT c_1 hf
    refine lv_iconst (v := (0 : Int32)) hx hb dX3_holds_12 (by decide) ?_
    obtain rfl := Option.some.inj hf
    exact s_zret (r := (0 : Int32)) hx hb hr hlocks hK hP hD hS rfl dX3_holds_13
  · have hf := itF c_1 hf
    refine lv_iconst (v := (1 : Int32)) hx hb dX3_holds_8 (by decide) ?_
    refine lv_goto (tgt := 13) hx hb dX3_holds_9 (by decide) ?_
    obtain rfl := Option.some.inj hf
    exact s_zret (r := (1 : Int32)) hx hb hr hlocks hK hP hD hS rfl dX3_holds_13
theorem q_X3_floorsOf_1 : (Cond.fieldLink RX3 18 "UpWhenDies$Tower" "floor" "[I" : Cond) ∈ wsX3_floorsOf := List.mem_of_getElem? (i := 1) rfl
theorem i_X3_floorsOf_X3 : ∀ w ∈ wsX30, w ∈ wsX3_floorsOf := fun _ h => (List.mem_cons_of_mem _ (List.mem_append_right _ h))
abbrev rm_X3_floorsOf : Room := { frames := 1, cells := 0, slots := 0, locals := 21 }
set_option maxHeartbeats 4000000 in
set_option maxRecDepth 100000 in
theorem ts_X3_floorsOf_4 {p : Program} {l : Launch} {e : Env} {s : State} {m : MethodId} {args : Array Value} {below : List Frame} {meth : Method} {c : Code} {D : va_G} {cI cJ : ClassId} {A : Nat → Prop} {fu : Nat} {zt qt0 qt1 qt2 qt3 qt4 : Nat} {ST : S32} {o : Int32} (C0 : Cx RX3 wsX3_floorsOf cX3_floorsOf 4 (some .int) D vwCl (tyS cI cJ) p s m args meth c) (hA : ∀ q : Nat, s.heap.size ≤ q → A q) {k4 : Int32 → Int32 → Int32 → Option (Int32)} (K4 : ∀ (x1 : Int32) (x2 : Int32) (x3 : Int32), k4 x1 x2 x3 = some o → ∀ (H : Heap) (locs : List Loc), va_P D vwCl (wT zt qt0 qt1 qt2 qt3 qt4 cI ST) H → va_D A (wT zt qt0 qt1 qt2 qt3 qt4 cI ST) → va_S A s.heap H locs → ∀ (ls : Array Slot), lv_has ls 4 [(0, .ref zt), (1, .int x1), (2, .int x2), (3, .int x3)] → W p l e rm_X3_floorsOf s m args below meth c H locs 0 0 (MQ below (sZi D vwCl (tyS cI cJ) A (wT zt qt0 qt1 qt2 qt3 qt4 cI ST) (o)) args s 0 0 A) (F0 m 4 ls [])) : ∀ (x1 : Int32) (x2 : Int32) (x3 : Int32), s_X3_floorsOf_4 fu  k4 ST x1 x2 x3 = some o → ∀ (H : Heap) (locs : List Loc), va_P D vwCl (wT zt qt0 qt1 qt2 qt3 qt4 cI ST) H → va_D A (wT zt qt0 qt1 qt2 qt3 qt4 cI ST) → va_S A s.heap H locs → ∀ (ls : Array Slot), lv_has ls 4 [(0, .ref zt), (1, .int x1), (2, .int x2), (3, .int x3)] → W p l e rm_X3_floorsOf s m args below meth c H locs 0 0 (MQ below (sZi D vwCl (tyS cI cJ) A (wT zt qt0 qt1 qt2 qt3 qt4 cI ST) (o)) args s 0 0 A) (F0 m 4 ls []) := by
  obtain ⟨hx, hb, hr, hml, hown, hts, hlocks, hK⟩ := id C0
  intro x1 x2 x3 hf H locs hP hD hS ls hl
  have hP : va_P D vwCl [(zt, .inr (2, [.ref qt0, .ref qt1, .ref qt2, .ref qt3, .ref qt4, .int (ST 5 0), .int (ST 6 0)])), (qt0, .inl (cI, 8, .inl (ST 0))), (qt1, .inl (cI, 8, .inl (ST 1))), (qt2, .inl (cI, 8, .inl (ST 2))), (qt3, .inl (cI, 8, .inl (ST 3))), (qt4, .inl (cI, 8, .inl (ST 4)))] H := hP
  have hD : va_D A [(zt, .inr (2, [.ref qt0, .ref qt1, .ref qt2, .ref qt3, .ref qt4, .int (ST 5 0), .int (ST 6 0)])), (qt0, .inl (cI, 8, .inl (ST 0))), (qt1, .inl (cI, 8, .inl (ST 1))), (qt2, .inl (cI, 8, .inl (ST 2))), (qt3, .inl (cI, 8, .inl (ST 3))), (qt4, .inl (cI, 8, .inl (ST 4)))] := hD
  refine lv_iload_n hx hb dX3_floorsOf_4 rfl (lv_at hl 3 rfl) ?_
  refine lv_bipush (v := (8 : Int32)) hx hb dX3_floorsOf_5 (by decide) ?_
  refine lv_icmp_ge (tgt := 35) hx hb dX3_floorsOf_7 (by decide) (fun c_1 => ?_) (fun c_1 => ?_)
  · have hf := itT c_1 hf
    refine lv_iload_n hx hb dX3_floorsOf_35 rfl (lv_at hl 2 rfl) ?_
    obtain rfl := Option.some.inj hf
    exact s_iret (r := x2) hx hb hr hlocks hK hP hD hS dX3_floorsOf_36
  · have hf := itF c_1 hf
    refine lv_iload_n hx hb dX3_floorsOf_10 rfl (lv_at hl 1 rfl) ?_
    refine lv_iload_n hx hb dX3_floorsOf_11 rfl (lv_at hl 3 rfl) ?_
    obtain ⟨o_2, h_2, hf⟩ := bd_some hf
    refine s_callSI (wc := []) (wr := [(zt, .inr (2, [.ref qt0, .ref qt1, .ref qt2, .ref qt3, .ref qt4, .int (ST 5 0), .int (ST 6 0)])), (qt0, .inl (cI, 8, .inl (ST 0))), (qt1, .inl (cI, 8, .inl (ST 1))), (qt2, .inl (cI, 8, .inl (ST 2))), (qt3, .inl (cI, 8, .inl (ST 3))), (qt4, .inl (cI, 8, .inl (ST 4)))]) (wc' := []) (w' := [(zt, .inr (2, [.ref qt0, .ref qt1, .ref qt2, .ref qt3, .ref qt4, .int (ST 5 0), .int (ST 6 0)])), (qt0, .inl (cI, 8, .inl (ST 0))), (qt1, .inl (cI, 8, .inl (ST 1))), (qt2, .inl (cI, 8, .inl (ST 2))), (qt3, .inl (cI, 8, .inl (ST 3))), (qt4, .inl (cI, 8, .inl (ST 4)))]) (isC := []) (isR := [0, 1, 2, 3, 4, 5]) (perm := [0, 1, 2, 3, 4, 5]) (As := [.int x1, .int x3]) (rest := []) ⟨hx, hb, hml, hown, hts⟩ (c_X3_holds l D cI cJ fu x1 x3 o_2 h_2) (va_cwS 2 hts gX3_floorsOf_X3_holds rfl rfl rfl (by decide +kernel) ⟨Nat.le_of_ble_eq_true rfl, Nat.le_of_ble_eq_true rfl⟩) hK hP hD hS hA ⟨rfl, rfl, by decide, by decide, by decide, by decide, rfl⟩ rfl hl.1 rfl (Nat.le_of_ble_eq_true rfl) dX3_floorsOf_12 (fun H locs hP hD hS => ?_)
    refine lv_if_eq (tgt := 29) hx hb dX3_floorsOf_15 (by decide) (fun c_3 => ?_) (fun c_3 => ?_)
    · have hf := itT c_3 hf
      refine lv_iinc (v := (x3 + (1 : Int32))) (lv' := [(3, .int (x3 + (1 : Int32))), (0, .ref zt), (1, .int x1), (2, .int x2)]) hx hb dX3_floorsOf_29 hl (k := 3) rfl rfl (by decide) rfl (fun ls hl => ?_)
      refine lv_goto (tgt := 4) hx hb dX3_floorsOf_32 (by decide) ?_
      exact K4 _ _ _ hf _ _ hP hD hS _ (lv_sub hl [1, 2, 3, 0] rfl)
    · have hf := itF c_3 hf
      refine lv_iload_n hx hb dX3_floorsOf_18 rfl (lv_at hl 2 rfl) ?_
      refine lv_iconst (v := (1 : Int32)) hx hb dX3_floorsOf_19 (by decide) ?_
      refine lv_aload_n hx hb dX3_floorsOf_20 rfl (lv_at hl 0 rfl) ?_
      refine va_get (D := D) (ci := 2) (v := .ref qt2) (C := RX3) (T := TX3) (N := 7) hx hb hts i_X3_floorsOf_X3 hown hK hP 0 rfl rfl 2 (by decide) (hts _ q_X3_floorsOf_1) (fun _ h9 => h9) rfl dX3_floorsOf_21 ?_
      refine lv_iload_n hx hb dX3_floorsOf_24 rfl (lv_at hl 3 rfl) ?_
      obtain ⟨g_4, hf⟩ := gd_some hf
      refine va_iald hx hb hK hP 3 0 rfl rfl g_4 dX3_floorsOf_25 ?_
      refine lv_ishl hx hb dX3_floorsOf_26 ?_
      refine lv_ior hx hb dX3_floorsOf_27 ?_
      refine lv_istore_n (lv' := [(2, .int (x2 ||| ((1 : Int32) <<< ((ST 2 x3.toNatClampNeg) &&& 31)))), (0, .ref zt), (1, .int x1), (3, .int x3)]) hx hb dX3_floorsOf_28 rfl hl (by decide) rfl (fun ls hl => ?_)
      refine lv_iinc (v := (x3 + (1 : Int32))) (lv' := [(3, .int (x3 + (1 : Int32))), (2, .int (x2 ||| ((1 : Int32) <<< ((ST 2 x3.toNatClampNeg) &&& 31)))), (0, .ref zt), (1, .int x1)]) hx hb dX3_floorsOf_29 hl (k := 3) rfl rfl (by decide) rfl (fun ls hl => ?_)
      refine lv_goto (tgt := 4) hx hb dX3_floorsOf_32 (by decide) ?_
      exact K4 _ _ _ hf _ _ hP hD hS _ (lv_sub hl [2, 3, 1, 0] rfl)
theorem t_X3_floorsOf_4 {p : Program} {l : Launch} {e : Env} {s : State} {m : MethodId} {args : Array Value} {below : List Frame} {meth : Method} {c : Code} {D : va_G} {cI cJ : ClassId} {A : Nat → Prop} {fu : Nat} {zt qt0 qt1 qt2 qt3 qt4 : Nat} {ST : S32} {o : Int32} (C0 : Cx RX3 wsX3_floorsOf cX3_floorsOf 4 (some .int) D vwCl (tyS cI cJ) p s m args meth c) (hA : ∀ q : Nat, s.heap.size ≤ q → A q) : ∀ (n : Nat) (x1 : Int32) (x2 : Int32) (x3 : Int32), f_X3_floorsOf_4 fu  ST n x1 x2 x3 = some o → ∀ (H : Heap) (locs : List Loc), va_P D vwCl (wT zt qt0 qt1 qt2 qt3 qt4 cI ST) H → va_D A (wT zt qt0 qt1 qt2 qt3 qt4 cI ST) → va_S A s.heap H locs → ∀ (ls : Array Slot), lv_has ls 4 [(0, .ref zt), (1, .int x1), (2, .int x2), (3, .int x3)] → W p l e rm_X3_floorsOf s m args below meth c H locs 0 0 (MQ below (sZi D vwCl (tyS cI cJ) A (wT zt qt0 qt1 qt2 qt3 qt4 cI ST) (o)) args s 0 0 A) (F0 m 4 ls []) := by
  intro n
  induction n with
  | zero =>
    intro x1 x2 x3 hf
    have hf : (none : Option (Int32)) = some o := hf
    cases hf
  | succ n ih => exact ts_X3_floorsOf_4 (fu := fu) (k4 := f_X3_floorsOf_4 fu  ST n) C0 hA  ih
set_option maxHeartbeats 4000000 in
set_option maxRecDepth 100000 in
theorem c_X3_floorsOf (l : Launch) (D : va_G) (cI cJ : ClassId) (fu : Nat) (zt qt0 qt1 qt2 qt3 qt4 : Nat) (ST : S32) (x1 : Int32) (o : Int32) (hf : f_X3_floorsOf fu ST x1 = some o) : MI l yX3_floorsOf wsX3_floorsOf rm_X3_floorsOf D vwCl (tyS cI cJ) [.ref zt, .int x1] (wT zt qt0 qt1 qt2 qt3 qt4 cI ST) (wT zt qt0 qt1 qt2 qt3 qt4 cI ST) (o) := by
  intro sz
  refine s_entry (own := RX3) (cc := cX3_floorsOf) (maxL := 4) (ret := (some .int)) (Qc := fun A => sZi D vwCl (tyS cI cJ) A (wT zt qt0 qt1 qt2 qt3 qt4 cI ST) (o)) rfl (by decide) rfl rfl (Nat.le_of_ble_eq_true rfl) ?_
  intro p e s m args below meth c A C0 hA hP hD hS ls hl
  obtain ⟨hx, hb, hr, hml, hown, hts, hlocks, hK⟩ := id C0
  have hl : lv_has ls 4 [(0, .ref zt), (1, .int x1)] := hl
  have hP : va_P D vwCl [(zt, .inr (2, [.ref qt0, .ref qt1, .ref qt2, .ref qt3, .ref qt4, .int (ST 5 0), .int (ST 6 0)])), (qt0, .inl (cI, 8, .inl (ST 0))), (qt1, .inl (cI, 8, .inl (ST 1))), (qt2, .inl (cI, 8, .inl (ST 2))), (qt3, .inl (cI, 8, .inl (ST 3))), (qt4, .inl (cI, 8, .inl (ST 4)))] s.heap := hP
  have hD : va_D A [(zt, .inr (2, [.ref qt0, .ref qt1, .ref qt2, .ref qt3, .ref qt4, .int (ST 5 0), .int (ST 6 0)])), (qt0, .inl (cI, 8, .inl (ST 0))), (qt1, .inl (cI, 8, .inl (ST 1))), (qt2, .inl (cI, 8, .inl (ST 2))), (qt3, .inl (cI, 8, .inl (ST 3))), (qt4, .inl (cI, 8, .inl (ST 4)))] := hD
  refine lv_iconst (v := (0 : Int32)) hx hb dX3_floorsOf_0 (by decide) ?_
  refine lv_istore_n (lv' := [(2, .int (0 : Int32)), (0, .ref zt), (1, .int x1)]) hx hb dX3_floorsOf_1 rfl hl (by decide) rfl (fun ls hl => ?_)
  refine lv_iconst (v := (0 : Int32)) hx hb dX3_floorsOf_2 (by decide) ?_
  refine lv_istore_n (lv' := [(3, .int (0 : Int32)), (2, .int (0 : Int32)), (0, .ref zt), (1, .int x1)]) hx hb dX3_floorsOf_3 rfl hl (by decide) rfl (fun ls hl => ?_)
  exact t_X3_floorsOf_4 (fu := fu) C0 hA  fu _ _ _ hf _ _ hP hD hS _ (lv_sub hl [2, 3, 1, 0] rfl)
abbrev rm_X3_living : Room := { frames := 1, cells := 0, slots := 0, locals := 21 }
set_option maxHeartbeats 4000000 in
set_option maxRecDepth 100000 in
theorem ts_X3_living_4 {p : Program} {l : Launch} {e : Env} {s : State} {m : MethodId} {args : Array Value} {below : List Frame} {meth : Method} {c : Code} {D : va_G} {cI cJ : ClassId} {A : Nat → Prop} {fu : Nat} {zt qt0 qt1 qt2 qt3 qt4 : Nat} {ST : S32} {o : Int32} (C0 : Cx RX3 wsX3_living cX3_living 3 (some .int) D vwCl (tyS cI cJ) p s m args meth c) (hA : ∀ q : Nat, s.heap.size ≤ q → A q) {k4 : Int32 → Int32 → Option (Int32)} (K4 : ∀ (x1 : Int32) (x2 : Int32), k4 x1 x2 = some o → ∀ (H : Heap) (locs : List Loc), va_P D vwCl (wT zt qt0 qt1 qt2 qt3 qt4 cI ST) H → va_D A (wT zt qt0 qt1 qt2 qt3 qt4 cI ST) → va_S A s.heap H locs → ∀ (ls : Array Slot), lv_has ls 3 [(0, .ref zt), (1, .int x1), (2, .int x2)] → W p l e rm_X3_living s m args below meth c H locs 0 0 (MQ below (sZi D vwCl (tyS cI cJ) A (wT zt qt0 qt1 qt2 qt3 qt4 cI ST) (o)) args s 0 0 A) (F0 m 4 ls [])) : ∀ (x1 : Int32) (x2 : Int32), s_X3_living_4 fu  k4 ST x1 x2 = some o → ∀ (H : Heap) (locs : List Loc), va_P D vwCl (wT zt qt0 qt1 qt2 qt3 qt4 cI ST) H → va_D A (wT zt qt0 qt1 qt2 qt3 qt4 cI ST) → va_S A s.heap H locs → ∀ (ls : Array Slot), lv_has ls 3 [(0, .ref zt), (1, .int x1), (2, .int x2)] → W p l e rm_X3_living s m args below meth c H locs 0 0 (MQ below (sZi D vwCl (tyS cI cJ) A (wT zt qt0 qt1 qt2 qt3 qt4 cI ST) (o)) args s 0 0 A) (F0 m 4 ls []) := by
  obtain ⟨hx, hb, hr, hml, hown, hts, hlocks, hK⟩ := id C0
  intro x1 x2 hf H locs hP hD hS ls hl
  have hP : va_P D vwCl [(zt, .inr (2, [.ref qt0, .ref qt1, .ref qt2, .ref qt3, .ref qt4, .int (ST 5 0), .int (ST 6 0)])), (qt0, .inl (cI, 8, .inl (ST 0))), (qt1, .inl (cI, 8, .inl (ST 1))), (qt2, .inl (cI, 8, .inl (ST 2))), (qt3, .inl (cI, 8, .inl (ST 3))), (qt4, .inl (cI, 8, .inl (ST 4)))] H := hP
  have hD : va_D A [(zt, .inr (2, [.ref qt0, .ref qt1, .ref qt2, .ref qt3, .ref qt4, .int (ST 5 0), .int (ST 6 0)])), (qt0, .inl (cI, 8, .inl (ST 0))), (qt1, .inl (cI, 8, .inl (ST 1))), (qt2, .inl (cI, 8, .inl (ST 2))), (qt3, .inl (cI, 8, .inl (ST 3))), (qt4, .inl (cI, 8, .inl (ST 4)))] := hD
  refine lv_iload_n hx hb dX3_living_4 rfl (lv_at hl 2 rfl) ?_
  refine lv_bipush (v := (8 : Int32)) hx hb dX3_living_5 (by decide) ?_
  refine lv_icmp_ge (tgt := 30) hx hb dX3_living_7 (by decide) (fun c_1 => ?_) (fun c_1 => ?_)
  · have hf := itT c_1 hf
    refine lv_iload_n hx hb dX3_living_30 rfl (lv_at hl 1 rfl) ?_
    obtain rfl := Option.some.inj hf
    exact s_iret (r := x1) hx hb hr hlocks hK hP hD hS dX3_living_31
  · have hf := itF c_1 hf
    refine lv_aload_n hx hb dX3_living_10 rfl (lv_at hl 0 rfl) ?_
    refine lv_iload_n hx hb dX3_living_11 rfl (lv_at hl 2 rfl) ?_
    obtain ⟨o_2, h_2, hf⟩ := bd_some hf
    refine s_callVI (wc := (wT zt qt0 qt1 qt2 qt3 qt4 cI ST)) (wr := []) (wc' := (wT zt qt0 qt1 qt2 qt3 qt4 cI ST)) (w' := [(zt, .inr (2, [.ref qt0, .ref qt1, .ref qt2, .ref qt3, .ref qt4, .int (ST 5 0), .int (ST 6 0)])), (qt0, .inl (cI, 8, .inl (ST 0))), (qt1, .inl (cI, 8, .inl (ST 1))), (qt2, .inl (cI, 8, .inl (ST 2))), (qt3, .inl (cI, 8, .inl (ST 3))), (qt4, .inl (cI, 8, .inl (ST 4)))]) (isC := [0, 1, 2, 3, 4, 5]) (isR := []) (perm := [0, 1, 2, 3, 4, 5]) (As := [.int x2]) (rest := []) (ci := 2) (q := (RX3, TX3, 7)) ⟨hx, hb, hml, hown, hts⟩ (c_X3_isAlive l D cI cJ fu zt qt0 qt1 qt2 qt3 qt4 ST x2 o_2 h_2) (cwV 1 hts gX3_living_X3_isAlive rfl rfl rfl (by decide +kernel) ⟨Nat.le_of_ble_eq_true rfl, Nat.le_of_ble_eq_true rfl⟩) hK hP hD hS hA ⟨rfl, rfl, by decide, by decide, by decide, by decide, rfl⟩ rfl rfl rfl rfl hl.1 rfl (Nat.le_of_ble_eq_true rfl) dX3_living_12 (fun H locs hP hD hS => ?_)
    refine lv_if_eq (tgt := 24) hx hb dX3_living_15 (by decide) (fun c_3 => ?_) (fun c_3 => ?_)
    · have hf := itT c_3 hf
      refine lv_iinc (v := (x2 + (1 : Int32))) (lv' := [(2, .int (x2 + (1 : Int32))), (0, .ref zt), (1, .int x1)]) hx hb dX3_living_24 hl (k := 2) rfl rfl (by decide) rfl (fun ls hl => ?_)
      refine lv_goto (tgt := 4) hx hb dX3_living_27 (by decide) ?_
      exact K4 _ _ hf _ _ hP hD hS _ (lv_sub hl [1, 2, 0] rfl)
    · have hf := itF c_3 hf
      refine lv_iload_n hx hb dX3_living_18 rfl (lv_at hl 1 rfl) ?_
      refine lv_iconst (v := (1 : Int32)) hx hb dX3_living_19 (by decide) ?_
      refine lv_iload_n hx hb dX3_living_20 rfl (lv_at hl 2 rfl) ?_
      refine lv_ishl hx hb dX3_living_21 ?_
      refine lv_ior hx hb dX3_living_22 ?_
      refine lv_istore_n (lv' := [(1, .int (x1 ||| ((1 : Int32) <<< (x2 &&& 31)))), (0, .ref zt), (2, .int x2)]) hx hb dX3_living_23 rfl hl (by decide) rfl (fun ls hl => ?_)
      refine lv_iinc (v := (x2 + (1 : Int32))) (lv' := [(2, .int (x2 + (1 : Int32))), (1, .int (x1 ||| ((1 : Int32) <<< (x2 &&& 31)))), (0, .ref zt)]) hx hb dX3_living_24 hl (k := 2) rfl rfl (by decide) rfl (fun ls hl => ?_)
      refine lv_goto (tgt := 4) hx hb dX3_living_27 (by decide) ?_
      exact K4 _ _ hf _ _ hP hD hS _ (lv_sub hl [2, 1, 0] rfl)
theorem t_X3_living_4 {p : Program} {l : Launch} {e : Env} {s : State} {m : MethodId} {args : Array Value} {below : List Frame} {meth : Method} {c : Code} {D : va_G} {cI cJ : ClassId} {A : Nat → Prop} {fu : Nat} {zt qt0 qt1 qt2 qt3 qt4 : Nat} {ST : S32} {o : Int32} (C0 : Cx RX3 wsX3_living cX3_living 3 (some .int) D vwCl (tyS cI cJ) p s m args meth c) (hA : ∀ q : Nat, s.heap.size ≤ q → A q) : ∀ (n : Nat) (x1 : Int32) (x2 : Int32), f_X3_living_4 fu  ST n x1 x2 = some o → ∀ (H : Heap) (locs : List Loc), va_P D vwCl (wT zt qt0 qt1 qt2 qt3 qt4 cI ST) H → va_D A (wT zt qt0 qt1 qt2 qt3 qt4 cI ST) → va_S A s.heap H locs → ∀ (ls : Array Slot), lv_has ls 3 [(0, .ref zt), (1, .int x1), (2, .int x2)] → W p l e rm_X3_living s m args below meth c H locs 0 0 (MQ below (sZi D vwCl (tyS cI cJ) A (wT zt qt0 qt1 qt2 qt3 qt4 cI ST) (o)) args s 0 0 A) (F0 m 4 ls []) := by
  intro n
  induction n with
  | zero =>
    intro x1 x2 hf
    have hf : (none : Option (Int32)) = some o := hf
    cases hf
  | succ n ih => exact ts_X3_living_4 (fu := fu) (k4 := f_X3_living_4 fu  ST n) C0 hA  ih
set_option maxHeartbeats 4000000 in
set_option maxRecDepth 100000 in
theorem c_X3_living (l : Launch) (D : va_G) (cI cJ : ClassId) (fu : Nat) (zt qt0 qt1 qt2 qt3 qt4 : Nat) (ST : S32) (o : Int32) (hf : f_X3_living fu ST = some o) : MI l yX3_living wsX3_living rm_X3_living D vwCl (tyS cI cJ) [.ref zt] (wT zt qt0 qt1 qt2 qt3 qt4 cI ST) (wT zt qt0 qt1 qt2 qt3 qt4 cI ST) (o) := by
  intro sz
  refine s_entry (own := RX3) (cc := cX3_living) (maxL := 3) (ret := (some .int)) (Qc := fun A => sZi D vwCl (tyS cI cJ) A (wT zt qt0 qt1 qt2 qt3 qt4 cI ST) (o)) rfl (by decide) rfl rfl (Nat.le_of_ble_eq_true rfl) ?_
  intro p e s m args below meth c A C0 hA hP hD hS ls hl
  obtain ⟨hx, hb, hr, hml, hown, hts, hlocks, hK⟩ := id C0
  have hl : lv_has ls 3 [(0, .ref zt)] := hl
  have hP : va_P D vwCl [(zt, .inr (2, [.ref qt0, .ref qt1, .ref qt2, .ref qt3, .ref qt4, .int (ST 5 0), .int (ST 6 0)])), (qt0, .inl (cI, 8, .inl (ST 0))), (qt1, .inl (cI, 8, .inl (ST 1))), (qt2, .inl (cI, 8, .inl (ST 2))), (qt3, .inl (cI, 8, .inl (ST 3))), (qt4, .inl (cI, 8, .inl (ST 4)))] s.heap := hP
  have hD : va_D A [(zt, .inr (2, [.ref qt0, .ref qt1, .ref qt2, .ref qt3, .ref qt4, .int (ST 5 0), .int (ST 6 0)])), (qt0, .inl (cI, 8, .inl (ST 0))), (qt1, .inl (cI, 8, .inl (ST 1))), (qt2, .inl (cI, 8, .inl (ST 2))), (qt3, .inl (cI, 8, .inl (ST 3))), (qt4, .inl (cI, 8, .inl (ST 4)))] := hD
  refine lv_iconst (v := (0 : Int32)) hx hb dX3_living_0 (by decide) ?_
  refine lv_istore_n (lv' := [(1, .int (0 : Int32)), (0, .ref zt)]) hx hb dX3_living_1 rfl hl (by decide) rfl (fun ls hl => ?_)
  refine lv_iconst (v := (0 : Int32)) hx hb dX3_living_2 (by decide) ?_
  refine lv_istore_n (lv' := [(2, .int (0 : Int32)), (1, .int (0 : Int32)), (0, .ref zt)]) hx hb dX3_living_3 rfl hl (by decide) rfl (fun ls hl => ?_)
  exact t_X3_living_4 (fu := fu) C0 hA  fu _ _ hf _ _ hP hD hS _ (lv_sub hl [2, 1, 0] rfl)
theorem q_X3_staysDown_1 : (Cond.fieldLink RX3 9 "UpWhenDies$Tower" "kind" "[I" : Cond) ∈ wsX3_staysDown := List.mem_of_getElem? (i := 1) rfl
theorem q_X3_staysDown_2 : (Cond.fieldLink RX3 18 "UpWhenDies$Tower" "floor" "[I" : Cond) ∈ wsX3_staysDown := List.mem_of_getElem? (i := 2) rfl
theorem i_X3_staysDown_X3 : ∀ w ∈ wsX30, w ∈ wsX3_staysDown := fun _ h => (List.mem_cons_of_mem _ (List.mem_append_right _ h))
abbrev rm_X3_staysDown : Room := { frames := 0, cells := 0, slots := 0, locals := 0 }
set_option maxHeartbeats 4000000 in
set_option maxRecDepth 100000 in
theorem c_X3_staysDown (l : Launch) (D : va_G) (cI cJ : ClassId) (fu : Nat) (zt qt0 qt1 qt2 qt3 qt4 : Nat) (ST : S32) (x1 : Int32) (o : Int32) (hf : f_X3_staysDown fu ST x1 = some o) : MI l yX3_staysDown wsX3_staysDown rm_X3_staysDown D vwCl (tyS cI cJ) [.ref zt, .int x1] (wT zt qt0 qt1 qt2 qt3 qt4 cI ST) (wT zt qt0 qt1 qt2 qt3 qt4 cI ST) (o) := by
  intro sz
  refine s_entry (own := RX3) (cc := cX3_staysDown) (maxL := 2) (ret := (some .boolean)) (Qc := fun A => sZi D vwCl (tyS cI cJ) A (wT zt qt0 qt1 qt2 qt3 qt4 cI ST) (o)) rfl (by decide) rfl rfl (Nat.le_of_ble_eq_true rfl) ?_
  intro p e s m args below meth c A C0 hA hP hD hS ls hl
  obtain ⟨hx, hb, hr, hml, hown, hts, hlocks, hK⟩ := id C0
  have hl : lv_has ls 2 [(0, .ref zt), (1, .int x1)] := hl
  have hP : va_P D vwCl [(zt, .inr (2, [.ref qt0, .ref qt1, .ref qt2, .ref qt3, .ref qt4, .int (ST 5 0), .int (ST 6 0)])), (qt0, .inl (cI, 8, .inl (ST 0))), (qt1, .inl (cI, 8, .inl (ST 1))), (qt2, .inl (cI, 8, .inl (ST 2))), (qt3, .inl (cI, 8, .inl (ST 3))), (qt4, .inl (cI, 8, .inl (ST 4)))] s.heap := hP
  have hD : va_D A [(zt, .inr (2, [.ref qt0, .ref qt1, .ref qt2, .ref qt3, .ref qt4, .int (ST 5 0), .int (ST 6 0)])), (qt0, .inl (cI, 8, .inl (ST 0))), (qt1, .inl (cI, 8, .inl (ST 1))), (qt2, .inl (cI, 8, .inl (ST 2))), (qt3, .inl (cI, 8, .inl (ST 3))), (qt4, .inl (cI, 8, .inl (ST 4)))] := hD
  refine lv_aload_n hx hb dX3_staysDown_0 rfl (lv_at hl 0 rfl) ?_
  refine va_get (D := D) (ci := 2) (v := .ref qt0) (C := RX3) (T := TX3) (N := 7) hx hb hts i_X3_staysDown_X3 hown hK hP 0 rfl rfl 0 (by decide) (hts _ q_X3_staysDown_1) (fun _ h9 => h9) rfl dX3_staysDown_1 ?_
  refine lv_iload_n hx hb dX3_staysDown_4 rfl (lv_at hl 1 rfl) ?_
  obtain ⟨g_1, hf⟩ := gd_some hf
  refine va_iald hx hb hK hP 1 0 rfl rfl g_1 dX3_staysDown_5 ?_
  refine lv_iconst (v := (3 : Int32)) hx hb dX3_staysDown_6 (by decide) ?_
  refine lv_icmp_ne (tgt := 23) hx hb dX3_staysDown_7 (by decide) (fun c_2 => ?_) (fun c_2 => ?_)
  · have hf := itF c_2 hf
    refine lv_iconst (v := (0 : Int32)) hx hb dX3_staysDown_23 (by decide) ?_
    obtain rfl := Option.some.inj hf
    exact s_zret (r := (0 : Int32)) hx hb hr hlocks hK hP hD hS rfl dX3_staysDown_24
  · have hf := itT c_2 hf
    refine lv_aload_n hx hb dX3_staysDown_10 rfl (lv_at hl 0 rfl) ?_
    refine va_get (D := D) (ci := 2) (v := .ref qt2) (C := RX3) (T := TX3) (N := 7) hx hb hts i_X3_staysDown_X3 hown hK hP 0 rfl rfl 2 (by decide) (hts _ q_X3_staysDown_2) (fun _ h9 => h9) rfl dX3_staysDown_11 ?_
    refine lv_iload_n hx hb dX3_staysDown_14 rfl (lv_at hl 1 rfl) ?_
    obtain ⟨g_3, hf⟩ := gd_some hf
    refine va_iald hx hb hK hP 3 0 rfl rfl g_3 dX3_staysDown_15 ?_
    refine lv_if_ne (tgt := 23) hx hb dX3_staysDown_16 (by decide) (fun c_4 => ?_) (fun c_4 => ?_)
    · have hf := itF c_4 hf
      refine lv_iconst (v := (0 : Int32)) hx hb dX3_staysDown_23 (by decide) ?_
      obtain rfl := Option.some.inj hf
      exact s_zret (r := (0 : Int32)) hx hb hr hlocks hK hP hD hS rfl dX3_staysDown_24
    · have hf := itT c_4 hf
      refine lv_iconst (v := (1 : Int32)) hx hb dX3_staysDown_19 (by decide) ?_
      refine lv_goto (tgt := 24) hx hb dX3_staysDown_20 (by decide) ?_
      obtain rfl := Option.some.inj hf
      exact s_zret (r := (1 : Int32)) hx hb hr hlocks hK hP hD hS rfl dX3_staysDown_24
theorem q_X3_floorsUp_1 : (Cond.fieldLink RX3 18 "UpWhenDies$Tower" "floor" "[I" : Cond) ∈ wsX3_floorsUp := List.mem_of_getElem? (i := 1) rfl
theorem i_X3_floorsUp_X3 : ∀ w ∈ wsX30, w ∈ wsX3_floorsUp := fun _ h => (List.mem_cons_of_mem _ (List.mem_append_right _ h))
abbrev rm_X3_floorsUp : Room := { frames := 1, cells := 0, slots := 0, locals := 21 }
set_option maxHeartbeats 4000000 in
set_option maxRecDepth 100000 in
theorem c_X3_floorsUp (l : Launch) (D : va_G) (cI cJ : ClassId) (fu : Nat) (zt qt0 qt1 qt2 qt3 qt4 : Nat) (ST : S32) (x1 : Int32) (x2 : Int32) (o : Int32) (hf : f_X3_floorsUp fu ST x1 x2 = some o) : MI l yX3_floorsUp wsX3_floorsUp rm_X3_floorsUp D vwCl (tyS cI cJ) [.ref zt, .int x1, .int x2] (wT zt qt0 qt1 qt2 qt3 qt4 cI ST) (wT zt qt0 qt1 qt2 qt3 qt4 cI ST) (o) := by
  intro sz
  refine s_entry (own := RX3) (cc := cX3_floorsUp) (maxL := 3) (ret := (some .int)) (Qc := fun A => sZi D vwCl (tyS cI cJ) A (wT zt qt0 qt1 qt2 qt3 qt4 cI ST) (o)) rfl (by decide) rfl rfl (Nat.le_of_ble_eq_true rfl) ?_
  intro p e s m args below meth c A C0 hA hP hD hS ls hl
  obtain ⟨hx, hb, hr, hml, hown, hts, hlocks, hK⟩ := id C0
  have hl : lv_has ls 3 [(0, .ref zt), (1, .int x1), (2, .int x2)] := hl
  have hP : va_P D vwCl [(zt, .inr (2, [.ref qt0, .ref qt1, .ref qt2, .ref qt3, .ref qt4, .int (ST 5 0), .int (ST 6 0)])), (qt0, .inl (cI, 8, .inl (ST 0))), (qt1, .inl (cI, 8, .inl (ST 1))), (qt2, .inl (cI, 8, .inl (ST 2))), (qt3, .inl (cI, 8, .inl (ST 3))), (qt4, .inl (cI, 8, .inl (ST 4)))] s.heap := hP
  have hD : va_D A [(zt, .inr (2, [.ref qt0, .ref qt1, .ref qt2, .ref qt3, .ref qt4, .int (ST 5 0), .int (ST 6 0)])), (qt0, .inl (cI, 8, .inl (ST 0))), (qt1, .inl (cI, 8, .inl (ST 1))), (qt2, .inl (cI, 8, .inl (ST 2))), (qt3, .inl (cI, 8, .inl (ST 3))), (qt4, .inl (cI, 8, .inl (ST 4)))] := hD
  refine lv_aload_n hx hb dX3_floorsUp_0 rfl (lv_at hl 0 rfl) ?_
  refine lv_iload_n hx hb dX3_floorsUp_1 rfl (lv_at hl 1 rfl) ?_
  obtain ⟨o_1, h_1, hf⟩ := bd_some hf
  refine s_callVI (wc := (wT zt qt0 qt1 qt2 qt3 qt4 cI ST)) (wr := []) (wc' := (wT zt qt0 qt1 qt2 qt3 qt4 cI ST)) (w' := [(zt, .inr (2, [.ref qt0, .ref qt1, .ref qt2, .ref qt3, .ref qt4, .int (ST 5 0), .int (ST 6 0)])), (qt0, .inl (cI, 8, .inl (ST 0))), (qt1, .inl (cI, 8, .inl (ST 1))), (qt2, .inl (cI, 8, .inl (ST 2))), (qt3, .inl (cI, 8, .inl (ST 3))), (qt4, .inl (cI, 8, .inl (ST 4)))]) (isC := [0, 1, 2, 3, 4, 5]) (isR := []) (perm := [0, 1, 2, 3, 4, 5]) (As := [.int x1]) (rest := []) (ci := 2) (q := (RX3, TX3, 7)) ⟨hx, hb, hml, hown, hts⟩ (c_X3_staysDown l D cI cJ fu zt qt0 qt1 qt2 qt3 qt4 ST x1 o_1 h_1) (cwV 1 hts gX3_floorsUp_X3_staysDown rfl rfl rfl (by decide +kernel) ⟨Nat.le_of_ble_eq_true rfl, Nat.le_of_ble_eq_true rfl⟩) hK hP hD hS hA ⟨rfl, rfl, by decide, by decide, by decide, by decide, rfl⟩ rfl rfl rfl rfl hl.1 rfl (Nat.le_of_ble_eq_true rfl) dX3_floorsUp_2 (fun H locs hP hD hS => ?_)
  refine lv_if_eq (tgt := 12) hx hb dX3_floorsUp_5 (by decide) (fun c_2 => ?_) (fun c_2 => ?_)
  · have hf := itT c_2 hf
    refine lv_iload_n hx hb dX3_floorsUp_12 rfl (lv_at hl 2 rfl) ?_
    refine lv_aload_n hx hb dX3_floorsUp_13 rfl (lv_at hl 0 rfl) ?_
    refine va_get (D := D) (ci := 2) (v := .ref qt2) (C := RX3) (T := TX3) (N := 7) hx hb hts i_X3_floorsUp_X3 hown hK hP 0 rfl rfl 2 (by decide) (hts _ q_X3_floorsUp_1) (fun _ h9 => h9) rfl dX3_floorsUp_14 ?_
    refine lv_iload_n hx hb dX3_floorsUp_17 rfl (lv_at hl 1 rfl) ?_
    obtain ⟨g_3, hf⟩ := gd_some hf
    refine va_iald hx hb hK hP 3 0 rfl rfl g_3 dX3_floorsUp_18 ?_
    refine lv_iconst (v := (1 : Int32)) hx hb dX3_floorsUp_19 (by decide) ?_
    refine lv_iadd hx hb dX3_floorsUp_20 ?_
    refine lv_ishr hx hb dX3_floorsUp_21 ?_
    obtain ⟨o_4, h_4, hf⟩ := bd_some hf
    refine s_callSI (wc := []) (wr := [(zt, .inr (2, [.ref qt0, .ref qt1, .ref qt2, .ref qt3, .ref qt4, .int (ST 5 0), .int (ST 6 0)])), (qt0, .inl (cI, 8, .inl (ST 0))), (qt1, .inl (cI, 8, .inl (ST 1))), (qt2, .inl (cI, 8, .inl (ST 2))), (qt3, .inl (cI, 8, .inl (ST 3))), (qt4, .inl (cI, 8, .inl (ST 4)))]) (wc' := []) (w' := [(zt, .inr (2, [.ref qt0, .ref qt1, .ref qt2, .ref qt3, .ref qt4, .int (ST 5 0), .int (ST 6 0)])), (qt0, .inl (cI, 8, .inl (ST 0))), (qt1, .inl (cI, 8, .inl (ST 1))), (qt2, .inl (cI, 8, .inl (ST 2))), (qt3, .inl (cI, 8, .inl (ST 3))), (qt4, .inl (cI, 8, .inl (ST 4)))]) (isC := []) (isR := [0, 1, 2, 3, 4, 5]) (perm := [0, 1, 2, 3, 4, 5]) (As := [.int (x2 >>> (((ST 2 x1.toNatClampNeg) + (1 : Int32)) &&& 31))]) (rest := []) ⟨hx, hb, hml, hown, hts⟩ (c_J6_bitCount_0f7a4 l D cI cJ fu (x2 >>> (((ST 2 x1.toNatClampNeg) + (1 : Int32)) &&& 31)) o_4 h_4) (va_cwS 1 hts gX3_floorsUp_J6_bitCount_0f7a4 rfl rfl rfl (by decide +kernel) ⟨Nat.le_of_ble_eq_true rfl, Nat.le_of_ble_eq_true rfl⟩) hK hP hD hS hA ⟨rfl, rfl, by decide, by decide, by decide, by decide, rfl⟩ rfl hl.1 rfl (Nat.le_of_ble_eq_true rfl) dX3_floorsUp_22 (fun H locs hP hD hS => ?_)
    obtain rfl := Option.some.inj hf
    exact s_iret (r := o_4) hx hb hr hlocks hK hP hD hS dX3_floorsUp_25
  · have hf := itF c_2 hf
    refine lv_iconst (v := (0 : Int32)) hx hb dX3_floorsUp_8 (by decide) ?_
    refine lv_goto (tgt := 25) hx hb dX3_floorsUp_9 (by decide) ?_
    obtain rfl := Option.some.inj hf
    exact s_iret (r := (0 : Int32)) hx hb hr hlocks hK hP hD hS dX3_floorsUp_25
theorem q_X3_ageAfter_1 : (Cond.fieldLink RX3 15 "UpWhenDies$Tower" "age" "[I" : Cond) ∈ wsX3_ageAfter := List.mem_of_getElem? (i := 1) rfl
theorem q_X3_ageAfter_2 : (Cond.methodLink RX3 98 Lib.Math.min.name : Cond) ∈ wsX3_ageAfter := List.mem_of_getElem? (i := 2) rfl
theorem q_X3_ageAfter_3 : (Cond.static Lib.Math.min.name : Cond) ∈ wsX3_ageAfter := List.mem_of_getElem? (i := 3) rfl
theorem q_X3_ageAfter_4 : (Cond.initialized "java/lang/Math" : Cond) ∈ wsX3_ageAfter := List.mem_of_getElem? (i := 4) rfl
theorem q_X3_ageAfter_5 : (Cond.code Lib.Math.min.name Lib.Math.min.code 2 (some .int) : Cond) ∈ wsX3_ageAfter := List.mem_of_getElem? (i := 5) rfl
theorem i_X3_ageAfter_X3 : ∀ w ∈ wsX30, w ∈ wsX3_ageAfter := fun _ h => (List.mem_cons_of_mem _ (List.mem_append_right _ h))
abbrev rm_X3_ageAfter : Room := { frames := 1, cells := 0, slots := 0, locals := 21 }
set_option maxHeartbeats 4000000 in
set_option maxRecDepth 100000 in
theorem c_X3_ageAfter (l : Launch) (D : va_G) (cI cJ : ClassId) (fu : Nat) (zt qt0 qt1 qt2 qt3 qt4 : Nat) (ST : S32) (x1 : Int32) (x2 : Int32) (o : Int32) (hf : f_X3_ageAfter fu ST x1 x2 = some o) : MI l yX3_ageAfter wsX3_ageAfter rm_X3_ageAfter D vwCl (tyS cI cJ) [.ref zt, .int x1, .int x2] (wT zt qt0 qt1 qt2 qt3 qt4 cI ST) (wT zt qt0 qt1 qt2 qt3 qt4 cI ST) (o) := by
  intro sz
  refine s_entry (own := RX3) (cc := cX3_ageAfter) (maxL := 3) (ret := (some .int)) (Qc := fun A => sZi D vwCl (tyS cI cJ) A (wT zt qt0 qt1 qt2 qt3 qt4 cI ST) (o)) rfl (by decide) rfl rfl (Nat.le_of_ble_eq_true rfl) ?_
  intro p e s m args below meth c A C0 hA hP hD hS ls hl
  obtain ⟨hx, hb, hr, hml, hown, hts, hlocks, hK⟩ := id C0
  have hl : lv_has ls 3 [(0, .ref zt), (1, .int x1), (2, .int x2)] := hl
  have hP : va_P D vwCl [(zt, .inr (2, [.ref qt0, .ref qt1, .ref qt2, .ref qt3, .ref qt4, .int (ST 5 0), .int (ST 6 0)])), (qt0, .inl (cI, 8, .inl (ST 0))), (qt1, .inl (cI, 8, .inl (ST 1))), (qt2, .inl (cI, 8, .inl (ST 2))), (qt3, .inl (cI, 8, .inl (ST 3))), (qt4, .inl (cI, 8, .inl (ST 4)))] s.heap := hP
  have hD : va_D A [(zt, .inr (2, [.ref qt0, .ref qt1, .ref qt2, .ref qt3, .ref qt4, .int (ST 5 0), .int (ST 6 0)])), (qt0, .inl (cI, 8, .inl (ST 0))), (qt1, .inl (cI, 8, .inl (ST 1))), (qt2, .inl (cI, 8, .inl (ST 2))), (qt3, .inl (cI, 8, .inl (ST 3))), (qt4, .inl (cI, 8, .inl (ST 4)))] := hD
  refine lv_bipush (v := (99 : Int32)) hx hb dX3_ageAfter_0 (by decide) ?_
  refine lv_aload_n hx hb dX3_ageAfter_2 rfl (lv_at hl 0 rfl) ?_
  refine va_get (D := D) (ci := 2) (v := .ref qt1) (C := RX3) (T := TX3) (N := 7) hx hb hts i_X3_ageAfter_X3 hown hK hP 0 rfl rfl 1 (by decide) (hts _ q_X3_ageAfter_1) (fun _ h9 => h9) rfl dX3_ageAfter_3 ?_
  refine lv_iload_n hx hb dX3_ageAfter_6 rfl (lv_at hl 1 rfl) ?_
  obtain ⟨g_1, hf⟩ := gd_some hf
  refine va_iald hx hb hK hP 2 0 rfl rfl g_1 dX3_ageAfter_7 ?_
  refine lv_iload_n hx hb dX3_ageAfter_8 rfl (lv_at hl 2 rfl) ?_
  refine lv_iadd hx hb dX3_ageAfter_9 ?_
  refine va_mmin hx hb (hml.trans hl.1.symm) hown (hts _ q_X3_ageAfter_2) (hts _ q_X3_ageAfter_3) (hts _ q_X3_ageAfter_4) (hts _ q_X3_ageAfter_5) (Nat.le_of_ble_eq_true rfl) (Nat.le_of_ble_eq_true rfl) (Nat.zero_le _) (Nat.zero_le _) dX3_ageAfter_10 ?_
  obtain rfl := Option.some.inj hf
  exact s_iret (r := (if ((ST 1 x1.toNatClampNeg) + x2) < (99 : Int32) then ((ST 1 x1.toNatClampNeg) + x2) else (99 : Int32))) hx hb hr hlocks hK hP hD hS dX3_ageAfter_13
theorem q_X3_passYear_1 : (Cond.fieldLink RX3 18 "UpWhenDies$Tower" "floor" "[I" : Cond) ∈ wsX3_passYear := List.mem_of_getElem? (i := 1) rfl
theorem q_X3_passYear_2 : (Cond.fieldLink RX3 15 "UpWhenDies$Tower" "age" "[I" : Cond) ∈ wsX3_passYear := List.mem_of_getElem? (i := 2) rfl
theorem q_X3_passYear_3 : (Cond.fieldLink RX3 31 "UpWhenDies$Tower" "yearNow" "I" : Cond) ∈ wsX3_passYear := List.mem_of_getElem? (i := 3) rfl
theorem i_X3_passYear_X3 : ∀ w ∈ wsX30, w ∈ wsX3_passYear := fun _ h => (List.mem_cons_of_mem _ (List.mem_append_right _ h))
abbrev rm_X3_passYear : Room := { frames := 2, cells := 0, slots := 0, locals := 44 }
set_option maxHeartbeats 4000000 in
set_option maxRecDepth 100000 in
theorem t_X3_passYear_112 {p : Program} {l : Launch} {e : Env} {s : State} {m : MethodId} {args : Array Value} {below : List Frame} {meth : Method} {c : Code} {D : va_G} {cI cJ : ClassId} {A : Nat → Prop} {fu : Nat} {zt qt0 qt1 qt2 qt3 qt4 : Nat} {o : Int32 × S32} (C0 : Cx RX3 wsX3_passYear cX3_passYear 8 (some .int) D vwCl (tyS cI cJ) p s m args meth c) (hA : ∀ q : Nat, s.heap.size ≤ q → A q) : ∀ (x4 : Int32) (ST : S32), f_X3_passYear_112 fu   x4 ST = some o → ∀ (H : Heap) (locs : List Loc), va_P D vwCl (wT zt qt0 qt1 qt2 qt3 qt4 cI ST) H → va_D A (wT zt qt0 qt1 qt2 qt3 qt4 cI ST) → va_S A s.heap H locs → ∀ (ls : Array Slot), lv_has ls 8 [(0, .ref zt), (4, .int x4)] → W p l e rm_X3_passYear s m args below meth c H locs 0 0 (MQ below (sZi D vwCl (tyS cI cJ) A (wT zt qt0 qt1 qt2 qt3 qt4 cI (o.2)) (o.1)) args s 0 0 A) (F0 m 112 ls []) := by
  obtain ⟨hx, hb, hr, hml, hown, hts, hlocks, hK⟩ := id C0
  intro x4 ST hf H locs hP hD hS ls hl
  have hP : va_P D vwCl [(zt, .inr (2, [.ref qt0, .ref qt1, .ref qt2, .ref qt3, .ref qt4, .int (ST 5 0), .int (ST 6 0)])), (qt0, .inl (cI, 8, .inl (ST 0))), (qt1, .inl (cI, 8, .inl (ST 1))), (qt2, .inl (cI, 8, .inl (ST 2))), (qt3, .inl (cI, 8, .inl (ST 3))), (qt4, .inl (cI, 8, .inl (ST 4)))] H := hP
  have hD : va_D A [(zt, .inr (2, [.ref qt0, .ref qt1, .ref qt2, .ref qt3, .ref qt4, .int (ST 5 0), .int (ST 6 0)])), (qt0, .inl (cI, 8, .inl (ST 0))), (qt1, .inl (cI, 8, .inl (ST 1))), (qt2, .inl (cI, 8, .inl (ST 2))), (qt3, .inl (cI, 8, .inl (ST 3))), (qt4, .inl (cI, 8, .inl (ST 4)))] := hD
  refine lv_aload_n hx hb dX3_passYear_112 rfl (lv_at hl 0 rfl) ?_
  refine lv_dup hx hb dX3_passYear_113 rfl ?_
  refine va_get (D := D) (ci := 2) (v := .int (ST 6 0)) (C := RX3) (T := TX3) (N := 7) hx hb hts i_X3_passYear_X3 hown hK hP 0 rfl rfl 6 (by decide) (hts _ q_X3_passYear_3) (fun _ h9 => h9) rfl dX3_passYear_114 ?_
  refine lv_iconst (v := (1 : Int32)) hx hb dX3_passYear_117 (by decide) ?_
  refine lv_iadd hx hb dX3_passYear_118 ?_
  refine va_put (D := D) (ci := 2) (v := .int ((ST 6 0) + (1 : Int32))) (ty := .int) (C := RX3) (T := TX3) (N := 7) hx hb hts i_X3_passYear_X3 tyX3 tyX3_ok nmX3 hown hK hP hD hS 0 rfl rfl 6 (by decide) (hts _ q_X3_passYear_3) (fun _ h9 => h9) rfl (by decide +kernel) rfl rfl (Nat.le_of_ble_eq_true rfl) dX3_passYear_119 (fun H locs hP hD hS => ?_)
  have hP : va_P D vwCl [(zt, .inr (2, [.ref qt0, .ref qt1, .ref qt2, .ref qt3, .ref qt4, .int (ST 5 0), .int ((ST 6 0) + (1 : Int32))])), (qt0, .inl (cI, 8, .inl (ST 0))), (qt1, .inl (cI, 8, .inl (ST 1))), (qt2, .inl (cI, 8, .inl (ST 2))), (qt3, .inl (cI, 8, .inl (ST 3))), (qt4, .inl (cI, 8, .inl (ST 4)))] H := hP
  have hD : va_D A [(zt, .inr (2, [.ref qt0, .ref qt1, .ref qt2, .ref qt3, .ref qt4, .int (ST 5 0), .int ((ST 6 0) + (1 : Int32))])), (qt0, .inl (cI, 8, .inl (ST 0))), (qt1, .inl (cI, 8, .inl (ST 1))), (qt2, .inl (cI, 8, .inl (ST 2))), (qt3, .inl (cI, 8, .inl (ST 3))), (qt4, .inl (cI, 8, .inl (ST 4)))] := hD
  refine lv_iload hx hb dX3_passYear_122 (lv_at hl 1 rfl) ?_
  obtain rfl := Option.some.inj hf
  exact s_iret (r := x4) hx hb hr hlocks hK hP hD hS dX3_passYear_124
set_option maxHeartbeats 4000000 in
set_option maxRecDepth 100000 in
theorem t_X3_passYear_91 {p : Program} {l : Launch} {e : Env} {s : State} {m : MethodId} {args : Array Value} {below : List Frame} {meth : Method} {c : Code} {D : va_G} {cI cJ : ClassId} {A : Nat → Prop} {fu : Nat} {zt qt0 qt1 qt2 qt3 qt4 : Nat} {o : Int32 × S32} (C0 : Cx RX3 wsX3_passYear cX3_passYear 8 (some .int) D vwCl (tyS cI cJ) p s m args meth c) (hA : ∀ q : Nat, s.heap.size ≤ q → A q) {k17 : Int32 → Int32 → Int32 → Int32 → Int32 → S32 → Option (Int32 × S32)} (K17 : ∀ (x1 : Int32) (x2 : Int32) (x3 : Int32) (x4 : Int32) (x5 : Int32) (ST : S32), k17 x1 x2 x3 x4 x5 ST = some o → ∀ (H : Heap) (locs : List Loc), va_P D vwCl (wT zt qt0 qt1 qt2 qt3 qt4 cI ST) H → va_D A (wT zt qt0 qt1 qt2 qt3 qt4 cI ST) → va_S A s.heap H locs → ∀ (ls : Array Slot), lv_has ls 8 [(0, .ref zt), (1, .int x1), (2, .int x2), (3, .int x3), (4, .int x4), (5, .int x5)] → W p l e rm_X3_passYear s m args below meth c H locs 0 0 (MQ below (sZi D vwCl (tyS cI cJ) A (wT zt qt0 qt1 qt2 qt3 qt4 cI (o.2)) (o.1)) args s 0 0 A) (F0 m 17 ls [])) : ∀ (x1 : Int32) (x2 : Int32) (x3 : Int32) (x4 : Int32) (x5 : Int32) (y1 : Int32) (y2 : Int32) (ST : S32), f_X3_passYear_91 fu k17  x1 x2 x3 x4 x5 y1 y2 ST = some o → ∀ (H : Heap) (locs : List Loc), va_P D vwCl (wT zt qt0 qt1 qt2 qt3 qt4 cI ST) H → va_D A (wT zt qt0 qt1 qt2 qt3 qt4 cI ST) → va_S A s.heap H locs → ∀ (ls : Array Slot), lv_has ls 8 [(0, .ref zt), (1, .int x1), (2, .int x2), (3, .int x3), (4, .int x4), (5, .int x5)] → W p l e rm_X3_passYear s m args below meth c H locs 0 0 (MQ below (sZi D vwCl (tyS cI cJ) A (wT zt qt0 qt1 qt2 qt3 qt4 cI (o.2)) (o.1)) args s 0 0 A) (F0 m 91 ls [.int y2, .int y1, .ref qt2]) := by
  obtain ⟨hx, hb, hr, hml, hown, hts, hlocks, hK⟩ := id C0
  intro x1 x2 x3 x4 x5 y1 y2 ST hf H locs hP hD hS ls hl
  have hP : va_P D vwCl [(zt, .inr (2, [.ref qt0, .ref qt1, .ref qt2, .ref qt3, .ref qt4, .int (ST 5 0), .int (ST 6 0)])), (qt0, .inl (cI, 8, .inl (ST 0))), (qt1, .inl (cI, 8, .inl (ST 1))), (qt2, .inl (cI, 8, .inl (ST 2))), (qt3, .inl (cI, 8, .inl (ST 3))), (qt4, .inl (cI, 8, .inl (ST 4)))] H := hP
  have hD : va_D A [(zt, .inr (2, [.ref qt0, .ref qt1, .ref qt2, .ref qt3, .ref qt4, .int (ST 5 0), .int (ST 6 0)])), (qt0, .inl (cI, 8, .inl (ST 0))), (qt1, .inl (cI, 8, .inl (ST 1))), (qt2, .inl (cI, 8, .inl (ST 2))), (qt3, .inl (cI, 8, .inl (ST 3))), (qt4, .inl (cI, 8, .inl (ST 4)))] := hD
  obtain ⟨g_1, hf⟩ := gd_some hf
  refine va_iast hx hb hK hP hD hS 3 0 rfl rfl g_1 dX3_passYear_91 (fun H locs hP hD hS => ?_)
  have hP : va_P D vwCl [(zt, .inr (2, [.ref qt0, .ref qt1, .ref qt2, .ref qt3, .ref qt4, .int (ST 5 0), .int (ST 6 0)])), (qt0, .inl (cI, 8, .inl (ST 0))), (qt1, .inl (cI, 8, .inl (ST 1))), (qt2, .inl (cI, 8, .inl (upd (ST 2) y1.toNatClampNeg y2))), (qt3, .inl (cI, 8, .inl (ST 3))), (qt4, .inl (cI, 8, .inl (ST 4)))] H := hP
  have hD : va_D A [(zt, .inr (2, [.ref qt0, .ref qt1, .ref qt2, .ref qt3, .ref qt4, .int (ST 5 0), .int (ST 6 0)])), (qt0, .inl (cI, 8, .inl (ST 0))), (qt1, .inl (cI, 8, .inl (ST 1))), (qt2, .inl (cI, 8, .inl (upd (ST 2) y1.toNatClampNeg y2))), (qt3, .inl (cI, 8, .inl (ST 3))), (qt4, .inl (cI, 8, .inl (ST 4)))] := hD
  refine lv_aload_n hx hb dX3_passYear_92 rfl (lv_at hl 0 rfl) ?_
  refine va_get (D := D) (ci := 2) (v := .ref qt1) (C := RX3) (T := TX3) (N := 7) hx hb hts i_X3_passYear_X3 hown hK hP 0 rfl rfl 1 (by decide) (hts _ q_X3_passYear_2) (fun _ h9 => h9) rfl dX3_passYear_93 ?_
  refine lv_iload hx hb dX3_passYear_96 (lv_at hl 5 rfl) ?_
  refine lv_aload_n hx hb dX3_passYear_98 rfl (lv_at hl 0 rfl) ?_
  refine lv_iload hx hb dX3_passYear_99 (lv_at hl 5 rfl) ?_
  refine lv_iconst (v := (1 : Int32)) hx hb dX3_passYear_101 (by decide) ?_
  obtain ⟨o_2, h_2, hf⟩ := bd_some hf
  refine s_callVI (wc := (wT zt qt0 qt1 qt2 qt3 qt4 cI (sa ST 2 (upd (ST 2) y1.toNatClampNeg y2)))) (wr := []) (wc' := (wT zt qt0 qt1 qt2 qt3 qt4 cI (sa ST 2 (upd (ST 2) y1.toNatClampNeg y2)))) (w' := [(zt, .inr (2, [.ref qt0, .ref qt1, .ref qt2, .ref qt3, .ref qt4, .int (ST 5 0), .int (ST 6 0)])), (qt0, .inl (cI, 8, .inl (ST 0))), (qt1, .inl (cI, 8, .inl (ST 1))), (qt2, .inl (cI, 8, .inl (upd (ST 2) y1.toNatClampNeg y2))), (qt3, .inl (cI, 8, .inl (ST 3))), (qt4, .inl (cI, 8, .inl (ST 4)))]) (isC := [0, 1, 2, 3, 4, 5]) (isR := []) (perm := [0, 1, 2, 3, 4, 5]) (As := [.int x5, .int (1 : Int32)]) (rest := [.int x5, .ref qt1]) (ci := 2) (q := (RX3, TX3, 7)) ⟨hx, hb, hml, hown, hts⟩ (c_X3_ageAfter l D cI cJ fu zt qt0 qt1 qt2 qt3 qt4 (sa ST 2 (upd (ST 2) y1.toNatClampNeg y2)) x5 (1 : Int32) o_2 h_2) (cwV 2 hts gX3_passYear_X3_ageAfter rfl rfl rfl (by decide +kernel) ⟨Nat.le_of_ble_eq_true rfl, Nat.le_of_ble_eq_true rfl⟩) hK hP hD hS hA ⟨rfl, rfl, by decide, by decide, by decide, by decide, rfl⟩ rfl rfl rfl rfl hl.1 rfl (Nat.le_of_ble_eq_true rfl) dX3_passYear_102 (fun H locs hP hD hS => ?_)
  obtain ⟨g_3, hf⟩ := gd_some hf
  refine va_iast hx hb hK hP hD hS 2 0 rfl rfl g_3 dX3_passYear_105 (fun H locs hP hD hS => ?_)
  have hP : va_P D vwCl [(zt, .inr (2, [.ref qt0, .ref qt1, .ref qt2, .ref qt3, .ref qt4, .int (ST 5 0), .int (ST 6 0)])), (qt0, .inl (cI, 8, .inl (ST 0))), (qt1, .inl (cI, 8, .inl (upd (ST 1) x5.toNatClampNeg o_2))), (qt2, .inl (cI, 8, .inl (upd (ST 2) y1.toNatClampNeg y2))), (qt3, .inl (cI, 8, .inl (ST 3))), (qt4, .inl (cI, 8, .inl (ST 4)))] H := hP
  have hD : va_D A [(zt, .inr (2, [.ref qt0, .ref qt1, .ref qt2, .ref qt3, .ref qt4, .int (ST 5 0), .int (ST 6 0)])), (qt0, .inl (cI, 8, .inl (ST 0))), (qt1, .inl (cI, 8, .inl (upd (ST 1) x5.toNatClampNeg o_2))), (qt2, .inl (cI, 8, .inl (upd (ST 2) y1.toNatClampNeg y2))), (qt3, .inl (cI, 8, .inl (ST 3))), (qt4, .inl (cI, 8, .inl (ST 4)))] := hD
  refine lv_iinc (v := (x5 + (1 : Int32))) (lv' := [(5, .int (x5 + (1 : Int32))), (0, .ref zt), (1, .int x1), (2, .int x2), (3, .int x3), (4, .int x4)]) hx hb dX3_passYear_106 hl (k := 5) rfl rfl (by decide) rfl (fun ls hl => ?_)
  refine lv_goto (tgt := 17) hx hb dX3_passYear_109 (by decide) ?_
  exact K17 _ _ _ _ _ _ hf _ _ hP hD hS _ (lv_sub hl [1, 2, 3, 4, 5, 0] rfl)
set_option maxHeartbeats 4000000 in
set_option maxRecDepth 100000 in
theorem t_X3_passYear_66 {p : Program} {l : Launch} {e : Env} {s : State} {m : MethodId} {args : Array Value} {below : List Frame} {meth : Method} {c : Code} {D : va_G} {cI cJ : ClassId} {A : Nat → Prop} {fu : Nat} {zt qt0 qt1 qt2 qt3 qt4 : Nat} {o : Int32 × S32} (C0 : Cx RX3 wsX3_passYear cX3_passYear 8 (some .int) D vwCl (tyS cI cJ) p s m args meth c) (hA : ∀ q : Nat, s.heap.size ≤ q → A q) {k17 : Int32 → Int32 → Int32 → Int32 → Int32 → S32 → Option (Int32 × S32)} (K17 : ∀ (x1 : Int32) (x2 : Int32) (x3 : Int32) (x4 : Int32) (x5 : Int32) (ST : S32), k17 x1 x2 x3 x4 x5 ST = some o → ∀ (H : Heap) (locs : List Loc), va_P D vwCl (wT zt qt0 qt1 qt2 qt3 qt4 cI ST) H → va_D A (wT zt qt0 qt1 qt2 qt3 qt4 cI ST) → va_S A s.heap H locs → ∀ (ls : Array Slot), lv_has ls 8 [(0, .ref zt), (1, .int x1), (2, .int x2), (3, .int x3), (4, .int x4), (5, .int x5)] → W p l e rm_X3_passYear s m args below meth c H locs 0 0 (MQ below (sZi D vwCl (tyS cI cJ) A (wT zt qt0 qt1 qt2 qt3 qt4 cI (o.2)) (o.1)) args s 0 0 A) (F0 m 17 ls [])) : ∀ (x1 : Int32) (x2 : Int32) (x3 : Int32) (x4 : Int32) (x5 : Int32) (x6 : Int32) (x7 : Int32) (ST : S32), f_X3_passYear_66 fu k17  x1 x2 x3 x4 x5 x6 x7 ST = some o → ∀ (H : Heap) (locs : List Loc), va_P D vwCl (wT zt qt0 qt1 qt2 qt3 qt4 cI ST) H → va_D A (wT zt qt0 qt1 qt2 qt3 qt4 cI ST) → va_S A s.heap H locs → ∀ (ls : Array Slot), lv_has ls 8 [(0, .ref zt), (1, .int x1), (2, .int x2), (3, .int x3), (4, .int x4), (5, .int x5), (6, .int x6), (7, .int x7)] → W p l e rm_X3_passYear s m args below meth c H locs 0 0 (MQ below (sZi D vwCl (tyS cI cJ) A (wT zt qt0 qt1 qt2 qt3 qt4 cI (o.2)) (o.1)) args s 0 0 A) (F0 m 66 ls []) := by
  obtain ⟨hx, hb, hr, hml, hown, hts, hlocks, hK⟩ := id C0
  intro x1 x2 x3 x4 x5 x6 x7 ST hf H locs hP hD hS ls hl
  have hP : va_P D vwCl [(zt, .inr (2, [.ref qt0, .ref qt1, .ref qt2, .ref qt3, .ref qt4, .int (ST 5 0), .int (ST 6 0)])), (qt0, .inl (cI, 8, .inl (ST 0))), (qt1, .inl (cI, 8, .inl (ST 1))), (qt2, .inl (cI, 8, .inl (ST 2))), (qt3, .inl (cI, 8, .inl (ST 3))), (qt4, .inl (cI, 8, .inl (ST 4)))] H := hP
  have hD : va_D A [(zt, .inr (2, [.ref qt0, .ref qt1, .ref qt2, .ref qt3, .ref qt4, .int (ST 5 0), .int (ST 6 0)])), (qt0, .inl (cI, 8, .inl (ST 0))), (qt1, .inl (cI, 8, .inl (ST 1))), (qt2, .inl (cI, 8, .inl (ST 2))), (qt3, .inl (cI, 8, .inl (ST 3))), (qt4, .inl (cI, 8, .inl (ST 4)))] := hD
  refine lv_aload_n hx hb dX3_passYear_66 rfl (lv_at hl 0 rfl) ?_
  refine va_get (D := D) (ci := 2) (v := .ref qt2) (C := RX3) (T := TX3) (N := 7) hx hb hts i_X3_passYear_X3 hown hK hP 0 rfl rfl 2 (by decide) (hts _ q_X3_passYear_1) (fun _ h9 => h9) rfl dX3_passYear_67 ?_
  refine lv_iload hx hb dX3_passYear_70 (lv_at hl 5 rfl) ?_
  refine lv_iload hx hb dX3_passYear_72 (lv_at hl 7 rfl) ?_
  refine lv_if_eq (tgt := 81) hx hb dX3_passYear_74 (by decide) (fun c_1 => ?_) (fun c_1 => ?_)
  · have hf := itT c_1 hf
    refine lv_aload_n hx hb dX3_passYear_81 rfl (lv_at hl 0 rfl) ?_
    refine va_get (D := D) (ci := 2) (v := .ref qt2) (C := RX3) (T := TX3) (N := 7) hx hb hts i_X3_passYear_X3 hown hK hP 0 rfl rfl 2 (by decide) (hts _ q_X3_passYear_1) (fun _ h9 => h9) rfl dX3_passYear_82 ?_
    refine lv_iload hx hb dX3_passYear_85 (lv_at hl 5 rfl) ?_
    obtain ⟨g_2, hf⟩ := gd_some hf
    refine va_iald hx hb hK hP 3 0 rfl rfl g_2 dX3_passYear_87 ?_
    refine lv_iload hx hb dX3_passYear_88 (lv_at hl 6 rfl) ?_
    refine lv_iadd hx hb dX3_passYear_90 ?_
    exact t_X3_passYear_91 (fu := fu) C0 hA K17 _ _ _ _ _ _ _ _ hf _ _ hP hD hS _ (lv_sub hl [0, 1, 2, 3, 4, 5] rfl)
  · have hf := itF c_1 hf
    refine lv_iconst (v := (-1 : Int32)) hx hb dX3_passYear_77 (by decide) ?_
    refine lv_goto (tgt := 91) hx hb dX3_passYear_78 (by decide) ?_
    exact t_X3_passYear_91 (fu := fu) C0 hA K17 _ _ _ _ _ _ _ _ hf _ _ hP hD hS _ (lv_sub hl [0, 1, 2, 3, 4, 5] rfl)
set_option maxHeartbeats 4000000 in
set_option maxRecDepth 100000 in
theorem ts_X3_passYear_17 {p : Program} {l : Launch} {e : Env} {s : State} {m : MethodId} {args : Array Value} {below : List Frame} {meth : Method} {c : Code} {D : va_G} {cI cJ : ClassId} {A : Nat → Prop} {fu : Nat} {zt qt0 qt1 qt2 qt3 qt4 : Nat} {o : Int32 × S32} (C0 : Cx RX3 wsX3_passYear cX3_passYear 8 (some .int) D vwCl (tyS cI cJ) p s m args meth c) (hA : ∀ q : Nat, s.heap.size ≤ q → A q) {k17 : Int32 → Int32 → Int32 → Int32 → Int32 → S32 → Option (Int32 × S32)} (K17 : ∀ (x1 : Int32) (x2 : Int32) (x3 : Int32) (x4 : Int32) (x5 : Int32) (ST : S32), k17 x1 x2 x3 x4 x5 ST = some o → ∀ (H : Heap) (locs : List Loc), va_P D vwCl (wT zt qt0 qt1 qt2 qt3 qt4 cI ST) H → va_D A (wT zt qt0 qt1 qt2 qt3 qt4 cI ST) → va_S A s.heap H locs → ∀ (ls : Array Slot), lv_has ls 8 [(0, .ref zt), (1, .int x1), (2, .int x2), (3, .int x3), (4, .int x4), (5, .int x5)] → W p l e rm_X3_passYear s m args below meth c H locs 0 0 (MQ below (sZi D vwCl (tyS cI cJ) A (wT zt qt0 qt1 qt2 qt3 qt4 cI (o.2)) (o.1)) args s 0 0 A) (F0 m 17 ls [])) : ∀ (x1 : Int32) (x2 : Int32) (x3 : Int32) (x4 : Int32) (x5 : Int32) (ST : S32), s_X3_passYear_17 fu  k17  x1 x2 x3 x4 x5 ST = some o → ∀ (H : Heap) (locs : List Loc), va_P D vwCl (wT zt qt0 qt1 qt2 qt3 qt4 cI ST) H → va_D A (wT zt qt0 qt1 qt2 qt3 qt4 cI ST) → va_S A s.heap H locs → ∀ (ls : Array Slot), lv_has ls 8 [(0, .ref zt), (1, .int x1), (2, .int x2), (3, .int x3), (4, .int x4), (5, .int x5)] → W p l e rm_X3_passYear s m args below meth c H locs 0 0 (MQ below (sZi D vwCl (tyS cI cJ) A (wT zt qt0 qt1 qt2 qt3 qt4 cI (o.2)) (o.1)) args s 0 0 A) (F0 m 17 ls []) := by
  obtain ⟨hx, hb, hr, hml, hown, hts, hlocks, hK⟩ := id C0
  intro x1 x2 x3 x4 x5 ST hf H locs hP hD hS ls hl
  have hP : va_P D vwCl [(zt, .inr (2, [.ref qt0, .ref qt1, .ref qt2, .ref qt3, .ref qt4, .int (ST 5 0), .int (ST 6 0)])), (qt0, .inl (cI, 8, .inl (ST 0))), (qt1, .inl (cI, 8, .inl (ST 1))), (qt2, .inl (cI, 8, .inl (ST 2))), (qt3, .inl (cI, 8, .inl (ST 3))), (qt4, .inl (cI, 8, .inl (ST 4)))] H := hP
  have hD : va_D A [(zt, .inr (2, [.ref qt0, .ref qt1, .ref qt2, .ref qt3, .ref qt4, .int (ST 5 0), .int (ST 6 0)])), (qt0, .inl (cI, 8, .inl (ST 0))), (qt1, .inl (cI, 8, .inl (ST 1))), (qt2, .inl (cI, 8, .inl (ST 2))), (qt3, .inl (cI, 8, .inl (ST 3))), (qt4, .inl (cI, 8, .inl (ST 4)))] := hD
  refine lv_iload hx hb dX3_passYear_17 (lv_at hl 5 rfl) ?_
  refine lv_bipush (v := (8 : Int32)) hx hb dX3_passYear_19 (by decide) ?_
  refine lv_icmp_ge (tgt := 112) hx hb dX3_passYear_21 (by decide) (fun c_1 => ?_) (fun c_1 => ?_)
  · have hf := itT c_1 hf
    exact t_X3_passYear_112 (fu := fu) C0 hA  _ _ hf _ _ hP hD hS _ (lv_sub hl [0, 4] rfl)
  · have hf := itF c_1 hf
    refine lv_iload_n hx hb dX3_passYear_24 rfl (lv_at hl 3 rfl) ?_
    refine lv_iload hx hb dX3_passYear_25 (lv_at hl 5 rfl) ?_
    obtain ⟨o_2, h_2, hf⟩ := bd_some hf
    refine s_callSI (wc := []) (wr := [(zt, .inr (2, [.ref qt0, .ref qt1, .ref qt2, .ref qt3, .ref qt4, .int (ST 5 0), .int (ST 6 0)])), (qt0, .inl (cI, 8, .inl (ST 0))), (qt1, .inl (cI, 8, .inl (ST 1))), (qt2, .inl (cI, 8, .inl (ST 2))), (qt3, .inl (cI, 8, .inl (ST 3))), (qt4, .inl (cI, 8, .inl (ST 4)))]) (wc' := []) (w' := [(zt, .inr (2, [.ref qt0, .ref qt1, .ref qt2, .ref qt3, .ref qt4, .int (ST 5 0), .int (ST 6 0)])), (qt0, .inl (cI, 8, .inl (ST 0))), (qt1, .inl (cI, 8, .inl (ST 1))), (qt2, .inl (cI, 8, .inl (ST 2))), (qt3, .inl (cI, 8, .inl (ST 3))), (qt4, .inl (cI, 8, .inl (ST 4)))]) (isC := []) (isR := [0, 1, 2, 3, 4, 5]) (perm := [0, 1, 2, 3, 4, 5]) (As := [.int x3, .int x5]) (rest := []) ⟨hx, hb, hml, hown, hts⟩ (c_X3_holds l D cI cJ fu x3 x5 o_2 h_2) (va_cwS 2 hts gX3_passYear_X3_holds rfl rfl rfl (by decide +kernel) ⟨Nat.le_of_ble_eq_true rfl, Nat.le_of_ble_eq_true rfl⟩) hK hP hD hS hA ⟨rfl, rfl, by decide, by decide, by decide, by decide, rfl⟩ rfl hl.1 rfl (Nat.le_of_ble_eq_true rfl) dX3_passYear_27 (fun H locs hP hD hS => ?_)
    refine lv_if_ne (tgt := 36) hx hb dX3_passYear_30 (by decide) (fun c_3 => ?_) (fun c_3 => ?_)
    · have hf := itF c_3 hf
      refine lv_aload_n hx hb dX3_passYear_36 rfl (lv_at hl 0 rfl) ?_
      refine lv_iload hx hb dX3_passYear_37 (lv_at hl 5 rfl) ?_
      refine lv_iload_n hx hb dX3_passYear_39 rfl (lv_at hl 2 rfl) ?_
      obtain ⟨o_4, h_4, hf⟩ := bd_some hf
      refine s_callVI (wc := (wT zt qt0 qt1 qt2 qt3 qt4 cI ST)) (wr := []) (wc' := (wT zt qt0 qt1 qt2 qt3 qt4 cI ST)) (w' := [(zt, .inr (2, [.ref qt0, .ref qt1, .ref qt2, .ref qt3, .ref qt4, .int (ST 5 0), .int (ST 6 0)])), (qt0, .inl (cI, 8, .inl (ST 0))), (qt1, .inl (cI, 8, .inl (ST 1))), (qt2, .inl (cI, 8, .inl (ST 2))), (qt3, .inl (cI, 8, .inl (ST 3))), (qt4, .inl (cI, 8, .inl (ST 4)))]) (isC := [0, 1, 2, 3, 4, 5]) (isR := []) (perm := [0, 1, 2, 3, 4, 5]) (As := [.int x5, .int x2]) (rest := []) (ci := 2) (q := (RX3, TX3, 7)) ⟨hx, hb, hml, hown, hts⟩ (c_X3_floorsUp l D cI cJ fu zt qt0 qt1 qt2 qt3 qt4 ST x5 x2 o_4 h_4) (cwV 2 hts gX3_passYear_X3_floorsUp rfl rfl rfl (by decide +kernel) ⟨Nat.le_of_ble_eq_true rfl, Nat.le_of_ble_eq_true rfl⟩) hK hP hD hS hA ⟨rfl, rfl, by decide, by decide, by decide, by decide, rfl⟩ rfl rfl rfl rfl hl.1 rfl (Nat.le_of_ble_eq_true rfl) dX3_passYear_40 (fun H locs hP hD hS => ?_)
      refine lv_istore (lv' := [(6, .int o_4), (0, .ref zt), (1, .int x1), (2, .int x2), (3, .int x3), (4, .int x4), (5, .int x5)]) hx hb dX3_passYear_43 hl (by decide) rfl (fun ls hl => ?_)
      refine lv_iload_n hx hb dX3_passYear_45 rfl (lv_at hl 2 rfl) ?_
      refine lv_iload hx hb dX3_passYear_46 (lv_at hl 6 rfl) ?_
      obtain ⟨o_5, h_5, hf⟩ := bd_some hf
      refine s_callSI (wc := []) (wr := [(zt, .inr (2, [.ref qt0, .ref qt1, .ref qt2, .ref qt3, .ref qt4, .int (ST 5 0), .int (ST 6 0)])), (qt0, .inl (cI, 8, .inl (ST 0))), (qt1, .inl (cI, 8, .inl (ST 1))), (qt2, .inl (cI, 8, .inl (ST 2))), (qt3, .inl (cI, 8, .inl (ST 3))), (qt4, .inl (cI, 8, .inl (ST 4)))]) (wc' := []) (w' := [(zt, .inr (2, [.ref qt0, .ref qt1, .ref qt2, .ref qt3, .ref qt4, .int (ST 5 0), .int (ST 6 0)])), (qt0, .inl (cI, 8, .inl (ST 0))), (qt1, .inl (cI, 8, .inl (ST 1))), (qt2, .inl (cI, 8, .inl (ST 2))), (qt3, .inl (cI, 8, .inl (ST 3))), (qt4, .inl (cI, 8, .inl (ST 4)))]) (isC := []) (isR := [0, 1, 2, 3, 4, 5]) (perm := [0, 1, 2, 3, 4, 5]) (As := [.int x1, .int x5]) (rest := []) ⟨hx, hb, hml, hown, hts⟩ (c_X3_holds l D cI cJ fu x1 x5 o_5 h_5) (va_cwS 2 hts gX3_passYear_X3_holds rfl rfl rfl (by decide +kernel) ⟨Nat.le_of_ble_eq_true rfl, Nat.le_of_ble_eq_true rfl⟩) hK hP hD hS hA ⟨rfl, rfl, by decide, by decide, by decide, by decide, rfl⟩ rfl hl.1 rfl (Nat.le_of_ble_eq_true rfl) dX3_passYear_48 (fun H locs hP hD hS => ?_)
      refine lv_istore (lv' := [(7, .int o_5), (6, .int o_4), (0, .ref zt), (1, .int x1), (2, .int x2), (3, .int x3), (4, .int x4), (5, .int x5)]) hx hb dX3_passYear_51 hl (by decide) rfl (fun ls hl => ?_)
      refine lv_iload hx hb dX3_passYear_53 (lv_at hl 0 rfl) ?_
      refine lv_if_ne (tgt := 66) hx hb dX3_passYear_55 (by decide) (fun c_6 => ?_) (fun c_6 => ?_)
      · have hf := itF c_6 hf
        exact t_X3_passYear_66 (fu := fu) C0 hA K17 _ _ _ _ _ _ _ _ hf _ _ hP hD hS _ (lv_sub hl [2, 3, 4, 5, 6, 7, 1, 0] rfl)
      · have hf := itT c_6 hf
        refine lv_iload hx hb dX3_passYear_58 (lv_at hl 1 rfl) ?_
        refine lv_if_le (tgt := 66) hx hb dX3_passYear_60 (by decide) (fun c_7 => ?_) (fun c_7 => ?_)
        · have hf := itT c_7 hf
          exact t_X3_passYear_66 (fu := fu) C0 hA K17 _ _ _ _ _ _ _ _ hf _ _ hP hD hS _ (lv_sub hl [2, 3, 4, 5, 6, 7, 1, 0] rfl)
        · have hf := itF c_7 hf
          refine lv_iinc (v := (x4 + (1 : Int32))) (lv' := [(4, .int (x4 + (1 : Int32))), (7, .int o_5), (6, .int o_4), (0, .ref zt), (1, .int x1), (2, .int x2), (3, .int x3), (5, .int x5)]) hx hb dX3_passYear_63 hl (k := 6) rfl rfl (by decide) rfl (fun ls hl => ?_)
          exact t_X3_passYear_66 (fu := fu) C0 hA K17 _ _ _ _ _ _ _ _ hf _ _ hP hD hS _ (lv_sub hl [3, 4, 5, 6, 0, 7, 2, 1] rfl)
    · have hf := itT c_3 hf
      refine lv_goto (tgt := 106) hx hb dX3_passYear_33 (by decide) ?_
      refine lv_iinc (v := (x5 + (1 : Int32))) (lv' := [(5, .int (x5 + (1 : Int32))), (0, .ref zt), (1, .int x1), (2, .int x2), (3, .int x3), (4, .int x4)]) hx hb dX3_passYear_106 hl (k := 5) rfl rfl (by decide) rfl (fun ls hl => ?_)
      refine lv_goto (tgt := 17) hx hb dX3_passYear_109 (by decide) ?_
      exact K17 _ _ _ _ _ _ hf _ _ hP hD hS _ (lv_sub hl [1, 2, 3, 4, 5, 0] rfl)
theorem t_X3_passYear_17 {p : Program} {l : Launch} {e : Env} {s : State} {m : MethodId} {args : Array Value} {below : List Frame} {meth : Method} {c : Code} {D : va_G} {cI cJ : ClassId} {A : Nat → Prop} {fu : Nat} {zt qt0 qt1 qt2 qt3 qt4 : Nat} {o : Int32 × S32} (C0 : Cx RX3 wsX3_passYear cX3_passYear 8 (some .int) D vwCl (tyS cI cJ) p s m args meth c) (hA : ∀ q : Nat, s.heap.size ≤ q → A q) : ∀ (n : Nat) (x1 : Int32) (x2 : Int32) (x3 : Int32) (x4 : Int32) (x5 : Int32) (ST : S32), f_X3_passYear_17 fu   n x1 x2 x3 x4 x5 ST = some o → ∀ (H : Heap) (locs : List Loc), va_P D vwCl (wT zt qt0 qt1 qt2 qt3 qt4 cI ST) H → va_D A (wT zt qt0 qt1 qt2 qt3 qt4 cI ST) → va_S A s.heap H locs → ∀ (ls : Array Slot), lv_has ls 8 [(0, .ref zt), (1, .int x1), (2, .int x2), (3, .int x3), (4, .int x4), (5, .int x5)] → W p l e rm_X3_passYear s m args below meth c H locs 0 0 (MQ below (sZi D vwCl (tyS cI cJ) A (wT zt qt0 qt1 qt2 qt3 qt4 cI (o.2)) (o.1)) args s 0 0 A) (F0 m 17 ls []) := by
  intro n
  induction n with
  | zero =>
    intro x1 x2 x3 x4 x5 ST hf
    have hf : (none : Option (Int32 × S32)) = some o := hf
    cases hf
  | succ n ih => exact ts_X3_passYear_17 (fu := fu) (k17 := f_X3_passYear_17 fu   n) C0 hA  ih
set_option maxHeartbeats 4000000 in
set_option maxRecDepth 100000 in
theorem c_X3_passYear (l : Launch) (D : va_G) (cI cJ : ClassId) (fu : Nat) (zt qt0 qt1 qt2 qt3 qt4 : Nat) (ST : S32) (x1 : Int32) (o : Int32 × S32) (hf : f_X3_passYear fu ST x1 = some o) : MI l yX3_passYear wsX3_passYear rm_X3_passYear D vwCl (tyS cI cJ) [.ref zt, .int x1] (wT zt qt0 qt1 qt2 qt3 qt4 cI ST) (wT zt qt0 qt1 qt2 qt3 qt4 cI (o.2)) (o.1) := by
  intro sz
  refine s_entry (own := RX3) (cc := cX3_passYear) (maxL := 8) (ret := (some .int)) (Qc := fun A => sZi D vwCl (tyS cI cJ) A (wT zt qt0 qt1 qt2 qt3 qt4 cI (o.2)) (o.1)) rfl (by decide) rfl rfl (Nat.le_of_ble_eq_true rfl) ?_
  intro p e s m args below meth c A C0 hA hP hD hS ls hl
  obtain ⟨hx, hb, hr, hml, hown, hts, hlocks, hK⟩ := id C0
  have hl : lv_has ls 8 [(0, .ref zt), (1, .int x1)] := hl
  have hP : va_P D vwCl [(zt, .inr (2, [.ref qt0, .ref qt1, .ref qt2, .ref qt3, .ref qt4, .int (ST 5 0), .int (ST 6 0)])), (qt0, .inl (cI, 8, .inl (ST 0))), (qt1, .inl (cI, 8, .inl (ST 1))), (qt2, .inl (cI, 8, .inl (ST 2))), (qt3, .inl (cI, 8, .inl (ST 3))), (qt4, .inl (cI, 8, .inl (ST 4)))] s.heap := hP
  have hD : va_D A [(zt, .inr (2, [.ref qt0, .ref qt1, .ref qt2, .ref qt3, .ref qt4, .int (ST 5 0), .int (ST 6 0)])), (qt0, .inl (cI, 8, .inl (ST 0))), (qt1, .inl (cI, 8, .inl (ST 1))), (qt2, .inl (cI, 8, .inl (ST 2))), (qt3, .inl (cI, 8, .inl (ST 3))), (qt4, .inl (cI, 8, .inl (ST 4)))] := hD
  refine lv_aload_n hx hb dX3_passYear_0 rfl (lv_at hl 0 rfl) ?_
  refine lv_iload_n hx hb dX3_passYear_1 rfl (lv_at hl 1 rfl) ?_
  obtain ⟨o_1, h_1, hf⟩ := bd_some hf
  refine s_callVI (wc := (wT zt qt0 qt1 qt2 qt3 qt4 cI ST)) (wr := []) (wc' := (wT zt qt0 qt1 qt2 qt3 qt4 cI ST)) (w' := [(zt, .inr (2, [.ref qt0, .ref qt1, .ref qt2, .ref qt3, .ref qt4, .int (ST 5 0), .int (ST 6 0)])), (qt0, .inl (cI, 8, .inl (ST 0))), (qt1, .inl (cI, 8, .inl (ST 1))), (qt2, .inl (cI, 8, .inl (ST 2))), (qt3, .inl (cI, 8, .inl (ST 3))), (qt4, .inl (cI, 8, .inl (ST 4)))]) (isC := [0, 1, 2, 3, 4, 5]) (isR := []) (perm := [0, 1, 2, 3, 4, 5]) (As := [.int x1]) (rest := []) (ci := 2) (q := (RX3, TX3, 7)) ⟨hx, hb, hml, hown, hts⟩ (c_X3_floorsOf l D cI cJ fu zt qt0 qt1 qt2 qt3 qt4 ST x1 o_1 h_1) (cwV 1 hts gX3_passYear_X3_floorsOf rfl rfl rfl (by decide +kernel) ⟨Nat.le_of_ble_eq_true rfl, Nat.le_of_ble_eq_true rfl⟩) hK hP hD hS hA ⟨rfl, rfl, by decide, by decide, by decide, by decide, rfl⟩ rfl rfl rfl rfl hl.1 rfl (Nat.le_of_ble_eq_true rfl) dX3_passYear_2 (fun H locs hP hD hS => ?_)
  refine lv_istore_n (lv' := [(2, .int o_1), (0, .ref zt), (1, .int x1)]) hx hb dX3_passYear_5 rfl hl (by decide) rfl (fun ls hl => ?_)
  refine lv_aload_n hx hb dX3_passYear_6 rfl (lv_at hl 1 rfl) ?_
  obtain ⟨o_2, h_2, hf⟩ := bd_some hf
  refine s_callVI (wc := (wT zt qt0 qt1 qt2 qt3 qt4 cI ST)) (wr := []) (wc' := (wT zt qt0 qt1 qt2 qt3 qt4 cI ST)) (w' := [(zt, .inr (2, [.ref qt0, .ref qt1, .ref qt2, .ref qt3, .ref qt4, .int (ST 5 0), .int (ST 6 0)])), (qt0, .inl (cI, 8, .inl (ST 0))), (qt1, .inl (cI, 8, .inl (ST 1))), (qt2, .inl (cI, 8, .inl (ST 2))), (qt3, .inl (cI, 8, .inl (ST 3))), (qt4, .inl (cI, 8, .inl (ST 4)))]) (isC := [0, 1, 2, 3, 4, 5]) (isR := []) (perm := [0, 1, 2, 3, 4, 5]) (As := []) (rest := []) (ci := 2) (q := (RX3, TX3, 7)) ⟨hx, hb, hml, hown, hts⟩ (c_X3_living l D cI cJ fu zt qt0 qt1 qt2 qt3 qt4 ST o_2 h_2) (cwV 0 hts gX3_passYear_X3_living rfl rfl rfl (by decide +kernel) ⟨Nat.le_of_ble_eq_true rfl, Nat.le_of_ble_eq_true rfl⟩) hK hP hD hS hA ⟨rfl, rfl, by decide, by decide, by decide, by decide, rfl⟩ rfl rfl rfl rfl hl.1 rfl (Nat.le_of_ble_eq_true rfl) dX3_passYear_7 (fun H locs hP hD hS => ?_)
  refine lv_istore_n (lv' := [(3, .int o_2), (2, .int o_1), (0, .ref zt), (1, .int x1)]) hx hb dX3_passYear_10 rfl hl (by decide) rfl (fun ls hl => ?_)
  refine lv_iconst (v := (0 : Int32)) hx hb dX3_passYear_11 (by decide) ?_
  refine lv_istore (lv' := [(4, .int (0 : Int32)), (3, .int o_2), (2, .int o_1), (0, .ref zt), (1, .int x1)]) hx hb dX3_passYear_12 hl (by decide) rfl (fun ls hl => ?_)
  refine lv_iconst (v := (0 : Int32)) hx hb dX3_passYear_14 (by decide) ?_
  refine lv_istore (lv' := [(5, .int (0 : Int32)), (4, .int (0 : Int32)), (3, .int o_2), (2, .int o_1), (0, .ref zt), (1, .int x1)]) hx hb dX3_passYear_15 hl (by decide) rfl (fun ls hl => ?_)
  exact t_X3_passYear_17 (fu := fu) C0 hA  fu _ _ _ _ _ _ hf _ _ hP hD hS _ (lv_sub hl [4, 5, 3, 2, 1, 0] rfl)
theorem q_X3_chanceAfter_1 : (Cond.fieldLink RX3 9 "UpWhenDies$Tower" "kind" "[I" : Cond) ∈ wsX3_chanceAfter := List.mem_of_getElem? (i := 1) rfl
theorem i_X3_chanceAfter_X3 : ∀ w ∈ wsX30, w ∈ wsX3_chanceAfter := fun _ h => (List.mem_cons_of_mem _ (List.mem_append_right _ h))
abbrev rm_X3_chanceAfter : Room := { frames := 3, cells := 0, slots := 0, locals := 63 }
set_option maxHeartbeats 4000000 in
set_option maxRecDepth 100000 in
theorem c_X3_chanceAfter (l : Launch) (D : va_G) (cI cJ : ClassId) (fu : Nat) (zt qt0 qt1 qt2 qt3 qt4 : Nat) (ST : S32) (x1 : Int32) (x2 : Int32) (o : Int32) (hf : f_X3_chanceAfter fu ST x1 x2 = some o) : MI l yX3_chanceAfter wsX3_chanceAfter rm_X3_chanceAfter D vwCl (tyS cI cJ) [.ref zt, .int x1, .int x2] (wT zt qt0 qt1 qt2 qt3 qt4 cI ST) (wT zt qt0 qt1 qt2 qt3 qt4 cI ST) (o) := by
  intro sz
  refine s_entry (own := RX3) (cc := cX3_chanceAfter) (maxL := 3) (ret := (some .int)) (Qc := fun A => sZi D vwCl (tyS cI cJ) A (wT zt qt0 qt1 qt2 qt3 qt4 cI ST) (o)) rfl (by decide) rfl rfl (Nat.le_of_ble_eq_true rfl) ?_
  intro p e s m args below meth c A C0 hA hP hD hS ls hl
  obtain ⟨hx, hb, hr, hml, hown, hts, hlocks, hK⟩ := id C0
  have hl : lv_has ls 3 [(0, .ref zt), (1, .int x1), (2, .int x2)] := hl
  have hP : va_P D vwCl [(zt, .inr (2, [.ref qt0, .ref qt1, .ref qt2, .ref qt3, .ref qt4, .int (ST 5 0), .int (ST 6 0)])), (qt0, .inl (cI, 8, .inl (ST 0))), (qt1, .inl (cI, 8, .inl (ST 1))), (qt2, .inl (cI, 8, .inl (ST 2))), (qt3, .inl (cI, 8, .inl (ST 3))), (qt4, .inl (cI, 8, .inl (ST 4)))] s.heap := hP
  have hD : va_D A [(zt, .inr (2, [.ref qt0, .ref qt1, .ref qt2, .ref qt3, .ref qt4, .int (ST 5 0), .int (ST 6 0)])), (qt0, .inl (cI, 8, .inl (ST 0))), (qt1, .inl (cI, 8, .inl (ST 1))), (qt2, .inl (cI, 8, .inl (ST 2))), (qt3, .inl (cI, 8, .inl (ST 3))), (qt4, .inl (cI, 8, .inl (ST 4)))] := hD
  refine lv_aload_n hx hb dX3_chanceAfter_0 rfl (lv_at hl 0 rfl) ?_
  refine va_get (D := D) (ci := 2) (v := .ref qt0) (C := RX3) (T := TX3) (N := 7) hx hb hts i_X3_chanceAfter_X3 hown hK hP 0 rfl rfl 0 (by decide) (hts _ q_X3_chanceAfter_1) (fun _ h9 => h9) rfl dX3_chanceAfter_1 ?_
  refine lv_iload_n hx hb dX3_chanceAfter_4 rfl (lv_at hl 1 rfl) ?_
  obtain ⟨g_1, hf⟩ := gd_some hf
  refine va_iald hx hb hK hP 1 0 rfl rfl g_1 dX3_chanceAfter_5 ?_
  refine lv_aload_n hx hb dX3_chanceAfter_6 rfl (lv_at hl 0 rfl) ?_
  refine lv_iload_n hx hb dX3_chanceAfter_7 rfl (lv_at hl 1 rfl) ?_
  refine lv_iload_n hx hb dX3_chanceAfter_8 rfl (lv_at hl 2 rfl) ?_
  obtain ⟨o_2, h_2, hf⟩ := bd_some hf
  refine s_callVI (wc := (wT zt qt0 qt1 qt2 qt3 qt4 cI ST)) (wr := []) (wc' := (wT zt qt0 qt1 qt2 qt3 qt4 cI ST)) (w' := [(zt, .inr (2, [.ref qt0, .ref qt1, .ref qt2, .ref qt3, .ref qt4, .int (ST 5 0), .int (ST 6 0)])), (qt0, .inl (cI, 8, .inl (ST 0))), (qt1, .inl (cI, 8, .inl (ST 1))), (qt2, .inl (cI, 8, .inl (ST 2))), (qt3, .inl (cI, 8, .inl (ST 3))), (qt4, .inl (cI, 8, .inl (ST 4)))]) (isC := [0, 1, 2, 3, 4, 5]) (isR := []) (perm := [0, 1, 2, 3, 4, 5]) (As := [.int x1, .int x2]) (rest := [.int (ST 0 x1.toNatClampNeg)]) (ci := 2) (q := (RX3, TX3, 7)) ⟨hx, hb, hml, hown, hts⟩ (c_X3_ageAfter l D cI cJ fu zt qt0 qt1 qt2 qt3 qt4 ST x1 x2 o_2 h_2) (cwV 2 hts gX3_chanceAfter_X3_ageAfter rfl rfl rfl (by decide +kernel) ⟨Nat.le_of_ble_eq_true rfl, Nat.le_of_ble_eq_true rfl⟩) hK hP hD hS hA ⟨rfl, rfl, by decide, by decide, by decide, by decide, rfl⟩ rfl rfl rfl rfl hl.1 rfl (Nat.le_of_ble_eq_true rfl) dX3_chanceAfter_9 (fun H locs hP hD hS => ?_)
  obtain ⟨o_3, h_3, hf⟩ := bd_some hf
  refine s_callSI (wc := []) (wr := [(zt, .inr (2, [.ref qt0, .ref qt1, .ref qt2, .ref qt3, .ref qt4, .int (ST 5 0), .int (ST 6 0)])), (qt0, .inl (cI, 8, .inl (ST 0))), (qt1, .inl (cI, 8, .inl (ST 1))), (qt2, .inl (cI, 8, .inl (ST 2))), (qt3, .inl (cI, 8, .inl (ST 3))), (qt4, .inl (cI, 8, .inl (ST 4)))]) (wc' := []) (w' := [(zt, .inr (2, [.ref qt0, .ref qt1, .ref qt2, .ref qt3, .ref qt4, .int (ST 5 0), .int (ST 6 0)])), (qt0, .inl (cI, 8, .inl (ST 0))), (qt1, .inl (cI, 8, .inl (ST 1))), (qt2, .inl (cI, 8, .inl (ST 2))), (qt3, .inl (cI, 8, .inl (ST 3))), (qt4, .inl (cI, 8, .inl (ST 4)))]) (isC := []) (isR := [0, 1, 2, 3, 4, 5]) (perm := [0, 1, 2, 3, 4, 5]) (As := [.int (ST 0 x1.toNatClampNeg), .int o_2]) (rest := []) ⟨hx, hb, hml, hown, hts⟩ (c_X0_chance l D cI cJ fu (ST 0 x1.toNatClampNeg) o_2 o_3 h_3) (va_cwS 2 hts gX3_chanceAfter_X0_chance rfl rfl rfl (by decide +kernel) ⟨Nat.le_of_ble_eq_true rfl, Nat.le_of_ble_eq_true rfl⟩) hK hP hD hS hA ⟨rfl, rfl, by decide, by decide, by decide, by decide, rfl⟩ rfl hl.1 rfl (Nat.le_of_ble_eq_true rfl) dX3_chanceAfter_12 (fun H locs hP hD hS => ?_)
  obtain rfl := Option.some.inj hf
  exact s_iret (r := o_3) hx hb hr hlocks hK hP hD hS dX3_chanceAfter_15
theorem q_X3_climbAfter_1 : (Cond.fieldLink RX3 9 "UpWhenDies$Tower" "kind" "[I" : Cond) ∈ wsX3_climbAfter := List.mem_of_getElem? (i := 1) rfl
theorem i_X3_climbAfter_X3 : ∀ w ∈ wsX30, w ∈ wsX3_climbAfter := fun _ h => (List.mem_cons_of_mem _ (List.mem_append_right _ h))
abbrev rm_X3_climbAfter : Room := { frames := 2, cells := 0, slots := 0, locals := 43 }
set_option maxHeartbeats 4000000 in
set_option maxRecDepth 100000 in
theorem c_X3_climbAfter (l : Launch) (D : va_G) (cI cJ : ClassId) (fu : Nat) (zt qt0 qt1 qt2 qt3 qt4 : Nat) (ST : S32) (x1 : Int32) (x2 : Int32) (o : Int32) (hf : f_X3_climbAfter fu ST x1 x2 = some o) : MI l yX3_climbAfter wsX3_climbAfter rm_X3_climbAfter D vwCl (tyS cI cJ) [.ref zt, .int x1, .int x2] (wT zt qt0 qt1 qt2 qt3 qt4 cI ST) (wT zt qt0 qt1 qt2 qt3 qt4 cI ST) (o) := by
  intro sz
  refine s_entry (own := RX3) (cc := cX3_climbAfter) (maxL := 3) (ret := (some .int)) (Qc := fun A => sZi D vwCl (tyS cI cJ) A (wT zt qt0 qt1 qt2 qt3 qt4 cI ST) (o)) rfl (by decide) rfl rfl (Nat.le_of_ble_eq_true rfl) ?_
  intro p e s m args below meth c A C0 hA hP hD hS ls hl
  obtain ⟨hx, hb, hr, hml, hown, hts, hlocks, hK⟩ := id C0
  have hl : lv_has ls 3 [(0, .ref zt), (1, .int x1), (2, .int x2)] := hl
  have hP : va_P D vwCl [(zt, .inr (2, [.ref qt0, .ref qt1, .ref qt2, .ref qt3, .ref qt4, .int (ST 5 0), .int (ST 6 0)])), (qt0, .inl (cI, 8, .inl (ST 0))), (qt1, .inl (cI, 8, .inl (ST 1))), (qt2, .inl (cI, 8, .inl (ST 2))), (qt3, .inl (cI, 8, .inl (ST 3))), (qt4, .inl (cI, 8, .inl (ST 4)))] s.heap := hP
  have hD : va_D A [(zt, .inr (2, [.ref qt0, .ref qt1, .ref qt2, .ref qt3, .ref qt4, .int (ST 5 0), .int (ST 6 0)])), (qt0, .inl (cI, 8, .inl (ST 0))), (qt1, .inl (cI, 8, .inl (ST 1))), (qt2, .inl (cI, 8, .inl (ST 2))), (qt3, .inl (cI, 8, .inl (ST 3))), (qt4, .inl (cI, 8, .inl (ST 4)))] := hD
  refine lv_aload_n hx hb dX3_climbAfter_0 rfl (lv_at hl 0 rfl) ?_
  refine va_get (D := D) (ci := 2) (v := .ref qt0) (C := RX3) (T := TX3) (N := 7) hx hb hts i_X3_climbAfter_X3 hown hK hP 0 rfl rfl 0 (by decide) (hts _ q_X3_climbAfter_1) (fun _ h9 => h9) rfl dX3_climbAfter_1 ?_
  refine lv_iload_n hx hb dX3_climbAfter_4 rfl (lv_at hl 1 rfl) ?_
  obtain ⟨g_1, hf⟩ := gd_some hf
  refine va_iald hx hb hK hP 1 0 rfl rfl g_1 dX3_climbAfter_5 ?_
  refine lv_aload_n hx hb dX3_climbAfter_6 rfl (lv_at hl 0 rfl) ?_
  refine lv_iload_n hx hb dX3_climbAfter_7 rfl (lv_at hl 1 rfl) ?_
  refine lv_iload_n hx hb dX3_climbAfter_8 rfl (lv_at hl 2 rfl) ?_
  obtain ⟨o_2, h_2, hf⟩ := bd_some hf
  refine s_callVI (wc := (wT zt qt0 qt1 qt2 qt3 qt4 cI ST)) (wr := []) (wc' := (wT zt qt0 qt1 qt2 qt3 qt4 cI ST)) (w' := [(zt, .inr (2, [.ref qt0, .ref qt1, .ref qt2, .ref qt3, .ref qt4, .int (ST 5 0), .int (ST 6 0)])), (qt0, .inl (cI, 8, .inl (ST 0))), (qt1, .inl (cI, 8, .inl (ST 1))), (qt2, .inl (cI, 8, .inl (ST 2))), (qt3, .inl (cI, 8, .inl (ST 3))), (qt4, .inl (cI, 8, .inl (ST 4)))]) (isC := [0, 1, 2, 3, 4, 5]) (isR := []) (perm := [0, 1, 2, 3, 4, 5]) (As := [.int x1, .int x2]) (rest := [.int (ST 0 x1.toNatClampNeg)]) (ci := 2) (q := (RX3, TX3, 7)) ⟨hx, hb, hml, hown, hts⟩ (c_X3_ageAfter l D cI cJ fu zt qt0 qt1 qt2 qt3 qt4 ST x1 x2 o_2 h_2) (cwV 2 hts gX3_climbAfter_X3_ageAfter rfl rfl rfl (by decide +kernel) ⟨Nat.le_of_ble_eq_true rfl, Nat.le_of_ble_eq_true rfl⟩) hK hP hD hS hA ⟨rfl, rfl, by decide, by decide, by decide, by decide, rfl⟩ rfl rfl rfl rfl hl.1 rfl (Nat.le_of_ble_eq_true rfl) dX3_climbAfter_9 (fun H locs hP hD hS => ?_)
  obtain ⟨o_3, h_3, hf⟩ := bd_some hf
  refine s_callSI (wc := []) (wr := [(zt, .inr (2, [.ref qt0, .ref qt1, .ref qt2, .ref qt3, .ref qt4, .int (ST 5 0), .int (ST 6 0)])), (qt0, .inl (cI, 8, .inl (ST 0))), (qt1, .inl (cI, 8, .inl (ST 1))), (qt2, .inl (cI, 8, .inl (ST 2))), (qt3, .inl (cI, 8, .inl (ST 3))), (qt4, .inl (cI, 8, .inl (ST 4)))]) (wc' := []) (w' := [(zt, .inr (2, [.ref qt0, .ref qt1, .ref qt2, .ref qt3, .ref qt4, .int (ST 5 0), .int (ST 6 0)])), (qt0, .inl (cI, 8, .inl (ST 0))), (qt1, .inl (cI, 8, .inl (ST 1))), (qt2, .inl (cI, 8, .inl (ST 2))), (qt3, .inl (cI, 8, .inl (ST 3))), (qt4, .inl (cI, 8, .inl (ST 4)))]) (isC := []) (isR := [0, 1, 2, 3, 4, 5]) (perm := [0, 1, 2, 3, 4, 5]) (As := [.int (ST 0 x1.toNatClampNeg), .int o_2]) (rest := []) ⟨hx, hb, hml, hown, hts⟩ (c_X0_climb l D cI cJ fu (ST 0 x1.toNatClampNeg) o_2 o_3 h_3) (va_cwS 2 hts gX3_climbAfter_X0_climb rfl rfl rfl (by decide +kernel) ⟨Nat.le_of_ble_eq_true rfl, Nat.le_of_ble_eq_true rfl⟩) hK hP hD hS hA ⟨rfl, rfl, by decide, by decide, by decide, by decide, rfl⟩ rfl hl.1 rfl (Nat.le_of_ble_eq_true rfl) dX3_climbAfter_12 (fun H locs hP hD hS => ?_)
  obtain rfl := Option.some.inj hf
  exact s_iret (r := o_3) hx hb hr hlocks hK hP hD hS dX3_climbAfter_15
theorem q_X3_wishTold_1 : (Cond.fieldLink RX3 24 "UpWhenDies$Tower" "wished" "[I" : Cond) ∈ wsX3_wishTold := List.mem_of_getElem? (i := 1) rfl
theorem i_X3_wishTold_X3 : ∀ w ∈ wsX30, w ∈ wsX3_wishTold := fun _ h => (List.mem_cons_of_mem _ (List.mem_append_right _ h))
abbrev rm_X3_wishTold : Room := { frames := 0, cells := 0, slots := 0, locals := 0 }
set_option maxHeartbeats 4000000 in
set_option maxRecDepth 100000 in
theorem c_X3_wishTold (l : Launch) (D : va_G) (cI cJ : ClassId) (fu : Nat) (zt qt0 qt1 qt2 qt3 qt4 : Nat) (ST : S32) (x1 : Int32) (o : Int32) (hf : f_X3_wishTold fu ST x1 = some o) : MI l yX3_wishTold wsX3_wishTold rm_X3_wishTold D vwCl (tyS cI cJ) [.ref zt, .int x1] (wT zt qt0 qt1 qt2 qt3 qt4 cI ST) (wT zt qt0 qt1 qt2 qt3 qt4 cI ST) (o) := by
  intro sz
  refine s_entry (own := RX3) (cc := cX3_wishTold) (maxL := 2) (ret := (some .int)) (Qc := fun A => sZi D vwCl (tyS cI cJ) A (wT zt qt0 qt1 qt2 qt3 qt4 cI ST) (o)) rfl (by decide) rfl rfl (Nat.le_of_ble_eq_true rfl) ?_
  intro p e s m args below meth c A C0 hA hP hD hS ls hl
  obtain ⟨hx, hb, hr, hml, hown, hts, hlocks, hK⟩ := id C0
  have hl : lv_has ls 2 [(0, .ref zt), (1, .int x1)] := hl
  have hP : va_P D vwCl [(zt, .inr (2, [.ref qt0, .ref qt1, .ref qt2, .ref qt3, .ref qt4, .int (ST 5 0), .int (ST 6 0)])), (qt0, .inl (cI, 8, .inl (ST 0))), (qt1, .inl (cI, 8, .inl (ST 1))), (qt2, .inl (cI, 8, .inl (ST 2))), (qt3, .inl (cI, 8, .inl (ST 3))), (qt4, .inl (cI, 8, .inl (ST 4)))] s.heap := hP
  have hD : va_D A [(zt, .inr (2, [.ref qt0, .ref qt1, .ref qt2, .ref qt3, .ref qt4, .int (ST 5 0), .int (ST 6 0)])), (qt0, .inl (cI, 8, .inl (ST 0))), (qt1, .inl (cI, 8, .inl (ST 1))), (qt2, .inl (cI, 8, .inl (ST 2))), (qt3, .inl (cI, 8, .inl (ST 3))), (qt4, .inl (cI, 8, .inl (ST 4)))] := hD
  refine lv_aload_n hx hb dX3_wishTold_0 rfl (lv_at hl 0 rfl) ?_
  refine va_get (D := D) (ci := 2) (v := .ref qt4) (C := RX3) (T := TX3) (N := 7) hx hb hts i_X3_wishTold_X3 hown hK hP 0 rfl rfl 4 (by decide) (hts _ q_X3_wishTold_1) (fun _ h9 => h9) rfl dX3_wishTold_1 ?_
  refine lv_iload_n hx hb dX3_wishTold_4 rfl (lv_at hl 1 rfl) ?_
  obtain ⟨g_1, hf⟩ := gd_some hf
  refine va_iald hx hb hK hP 5 0 rfl rfl g_1 dX3_wishTold_5 ?_
  refine lv_iconst (v := (-1 : Int32)) hx hb dX3_wishTold_6 (by decide) ?_
  refine lv_icmp_ne (tgt := 15) hx hb dX3_wishTold_7 (by decide) (fun c_2 => ?_) (fun c_2 => ?_)
  · have hf := itF c_2 hf
    refine lv_aload_n hx hb dX3_wishTold_15 rfl (lv_at hl 0 rfl) ?_
    refine va_get (D := D) (ci := 2) (v := .ref qt4) (C := RX3) (T := TX3) (N := 7) hx hb hts i_X3_wishTold_X3 hown hK hP 0 rfl rfl 4 (by decide) (hts _ q_X3_wishTold_1) (fun _ h9 => h9) rfl dX3_wishTold_16 ?_
    refine lv_iload_n hx hb dX3_wishTold_19 rfl (lv_at hl 1 rfl) ?_
    obtain ⟨g_3, hf⟩ := gd_some hf
    refine va_iald hx hb hK hP 5 0 rfl rfl g_3 dX3_wishTold_20 ?_
    obtain rfl := Option.some.inj hf
    exact s_iret (r := (ST 4 x1.toNatClampNeg)) hx hb hr hlocks hK hP hD hS dX3_wishTold_21
  · have hf := itT c_2 hf
    refine lv_bipush (v := (-9 : Int32)) hx hb dX3_wishTold_10 (by decide) ?_
    refine lv_goto (tgt := 21) hx hb dX3_wishTold_12 (by decide) ?_
    obtain rfl := Option.some.inj hf
    exact s_iret (r := (-9 : Int32)) hx hb hr hlocks hK hP hD hS dX3_wishTold_21
abbrev rm_X3_areAlive : Room := { frames := 2, cells := 0, slots := 0, locals := 43 }
set_option maxHeartbeats 4000000 in
set_option maxRecDepth 100000 in
theorem c_X3_areAlive (l : Launch) (D : va_G) (cI cJ : ClassId) (fu : Nat) (zt qt0 qt1 qt2 qt3 qt4 : Nat) (ST : S32) (x1 : Int32) (o : Int32) (hf : f_X3_areAlive fu ST x1 = some o) : MI l yX3_areAlive wsX3_areAlive rm_X3_areAlive D vwCl (tyS cI cJ) [.ref zt, .int x1] (wT zt qt0 qt1 qt2 qt3 qt4 cI ST) (wT zt qt0 qt1 qt2 qt3 qt4 cI ST) (o) := by
  intro sz
  refine s_entry (own := RX3) (cc := cX3_areAlive) (maxL := 2) (ret := (some .boolean)) (Qc := fun A => sZi D vwCl (tyS cI cJ) A (wT zt qt0 qt1 qt2 qt3 qt4 cI ST) (o)) rfl (by decide) rfl rfl (Nat.le_of_ble_eq_true rfl) ?_
  intro p e s m args below meth c A C0 hA hP hD hS ls hl
  obtain ⟨hx, hb, hr, hml, hown, hts, hlocks, hK⟩ := id C0
  have hl : lv_has ls 2 [(0, .ref zt), (1, .int x1)] := hl
  have hP : va_P D vwCl [(zt, .inr (2, [.ref qt0, .ref qt1, .ref qt2, .ref qt3, .ref qt4, .int (ST 5 0), .int (ST 6 0)])), (qt0, .inl (cI, 8, .inl (ST 0))), (qt1, .inl (cI, 8, .inl (ST 1))), (qt2, .inl (cI, 8, .inl (ST 2))), (qt3, .inl (cI, 8, .inl (ST 3))), (qt4, .inl (cI, 8, .inl (ST 4)))] s.heap := hP
  have hD : va_D A [(zt, .inr (2, [.ref qt0, .ref qt1, .ref qt2, .ref qt3, .ref qt4, .int (ST 5 0), .int (ST 6 0)])), (qt0, .inl (cI, 8, .inl (ST 0))), (qt1, .inl (cI, 8, .inl (ST 1))), (qt2, .inl (cI, 8, .inl (ST 2))), (qt3, .inl (cI, 8, .inl (ST 3))), (qt4, .inl (cI, 8, .inl (ST 4)))] := hD
  refine lv_iload_n hx hb dX3_areAlive_0 rfl (lv_at hl 1 rfl) ?_
  refine lv_aload_n hx hb dX3_areAlive_1 rfl (lv_at hl 0 rfl) ?_
  obtain ⟨o_1, h_1, hf⟩ := bd_some hf
  refine s_callVI (wc := (wT zt qt0 qt1 qt2 qt3 qt4 cI ST)) (wr := []) (wc' := (wT zt qt0 qt1 qt2 qt3 qt4 cI ST)) (w' := [(zt, .inr (2, [.ref qt0, .ref qt1, .ref qt2, .ref qt3, .ref qt4, .int (ST 5 0), .int (ST 6 0)])), (qt0, .inl (cI, 8, .inl (ST 0))), (qt1, .inl (cI, 8, .inl (ST 1))), (qt2, .inl (cI, 8, .inl (ST 2))), (qt3, .inl (cI, 8, .inl (ST 3))), (qt4, .inl (cI, 8, .inl (ST 4)))]) (isC := [0, 1, 2, 3, 4, 5]) (isR := []) (perm := [0, 1, 2, 3, 4, 5]) (As := []) (rest := [.int x1]) (ci := 2) (q := (RX3, TX3, 7)) ⟨hx, hb, hml, hown, hts⟩ (c_X3_living l D cI cJ fu zt qt0 qt1 qt2 qt3 qt4 ST o_1 h_1) (cwV 0 hts gX3_areAlive_X3_living rfl rfl rfl (by decide +kernel) ⟨Nat.le_of_ble_eq_true rfl, Nat.le_of_ble_eq_true rfl⟩) hK hP hD hS hA ⟨rfl, rfl, by decide, by decide, by decide, by decide, rfl⟩ rfl rfl rfl rfl hl.1 rfl (Nat.le_of_ble_eq_true rfl) dX3_areAlive_2 (fun H locs hP hD hS => ?_)
  refine lv_iconst (v := (-1 : Int32)) hx hb dX3_areAlive_5 (by decide) ?_
  refine lv_ixor hx hb dX3_areAlive_6 ?_
  refine lv_iand hx hb dX3_areAlive_7 ?_
  refine lv_if_ne (tgt := 15) hx hb dX3_areAlive_8 (by decide) (fun c_2 => ?_) (fun c_2 => ?_)
  · have hf := itF c_2 hf
    refine lv_iconst (v := (0 : Int32)) hx hb dX3_areAlive_15 (by decide) ?_
    obtain rfl := Option.some.inj hf
    exact s_zret (r := (0 : Int32)) hx hb hr hlocks hK hP hD hS rfl dX3_areAlive_16
  · have hf := itT c_2 hf
    refine lv_iconst (v := (1 : Int32)) hx hb dX3_areAlive_11 (by decide) ?_
    refine lv_goto (tgt := 16) hx hb dX3_areAlive_12 (by decide) ?_
    obtain rfl := Option.some.inj hf
    exact s_zret (r := (1 : Int32)) hx hb hr hlocks hK hP hD hS rfl dX3_areAlive_16
theorem q_X3_likeliestAbove_1 : (Cond.fieldLink RX3 18 "UpWhenDies$Tower" "floor" "[I" : Cond) ∈ wsX3_likeliestAbove := List.mem_of_getElem? (i := 1) rfl
theorem i_X3_likeliestAbove_X3 : ∀ w ∈ wsX30, w ∈ wsX3_likeliestAbove := fun _ h => (List.mem_cons_of_mem _ (List.mem_append_right _ h))
abbrev rm_X3_likeliestAbove : Room := { frames := 4, cells := 0, slots := 0, locals := 85 }
set_option maxHeartbeats 4000000 in
set_option maxRecDepth 100000 in
theorem t_X3_likeliestAbove_100 {p : Program} {l : Launch} {e : Env} {s : State} {m : MethodId} {args : Array Value} {below : List Frame} {meth : Method} {c : Code} {D : va_G} {cI cJ : ClassId} {A : Nat → Prop} {fu : Nat} {zt qt0 qt1 qt2 qt3 qt4 : Nat} {ST : S32} {o : Int32} (C0 : Cx RX3 wsX3_likeliestAbove cX3_likeliestAbove 7 (some .int) D vwCl (tyS cI cJ) p s m args meth c) (hA : ∀ q : Nat, s.heap.size ≤ q → A q) {k5 : Int32 → Int32 → Int32 → Int32 → Option (Int32)} (K5 : ∀ (x1 : Int32) (x2 : Int32) (x3 : Int32) (x4 : Int32), k5 x1 x2 x3 x4 = some o → ∀ (H : Heap) (locs : List Loc), va_P D vwCl (wT zt qt0 qt1 qt2 qt3 qt4 cI ST) H → va_D A (wT zt qt0 qt1 qt2 qt3 qt4 cI ST) → va_S A s.heap H locs → ∀ (ls : Array Slot), lv_has ls 7 [(0, .ref zt), (1, .int x1), (2, .int x2), (3, .int x3), (4, .int x4)] → W p l e rm_X3_likeliestAbove s m args below meth c H locs 0 0 (MQ below (sZi D vwCl (tyS cI cJ) A (wT zt qt0 qt1 qt2 qt3 qt4 cI ST) (o)) args s 0 0 A) (F0 m 5 ls [])) : ∀ (x1 : Int32) (x2 : Int32) (x3 : Int32) (x4 : Int32) (x5 : Int32), f_X3_likeliestAbove_100 fu k5 ST x1 x2 x3 x4 x5 = some o → ∀ (H : Heap) (locs : List Loc), va_P D vwCl (wT zt qt0 qt1 qt2 qt3 qt4 cI ST) H → va_D A (wT zt qt0 qt1 qt2 qt3 qt4 cI ST) → va_S A s.heap H locs → ∀ (ls : Array Slot), lv_has ls 7 [(0, .ref zt), (1, .int x1), (2, .int x2), (3, .int x3), (4, .int x4), (5, .int x5)] → W p l e rm_X3_likeliestAbove s m args below meth c H locs 0 0 (MQ below (sZi D vwCl (tyS cI cJ) A (wT zt qt0 qt1 qt2 qt3 qt4 cI ST) (o)) args s 0 0 A) (F0 m 100 ls []) := by
  obtain ⟨hx, hb, hr, hml, hown, hts, hlocks, hK⟩ := id C0
  intro x1 x2 x3 x4 x5 hf H locs hP hD hS ls hl
  have hP : va_P D vwCl [(zt, .inr (2, [.ref qt0, .ref qt1, .ref qt2, .ref qt3, .ref qt4, .int (ST 5 0), .int (ST 6 0)])), (qt0, .inl (cI, 8, .inl (ST 0))), (qt1, .inl (cI, 8, .inl (ST 1))), (qt2, .inl (cI, 8, .inl (ST 2))), (qt3, .inl (cI, 8, .inl (ST 3))), (qt4, .inl (cI, 8, .inl (ST 4)))] H := hP
  have hD : va_D A [(zt, .inr (2, [.ref qt0, .ref qt1, .ref qt2, .ref qt3, .ref qt4, .int (ST 5 0), .int (ST 6 0)])), (qt0, .inl (cI, 8, .inl (ST 0))), (qt1, .inl (cI, 8, .inl (ST 1))), (qt2, .inl (cI, 8, .inl (ST 2))), (qt3, .inl (cI, 8, .inl (ST 3))), (qt4, .inl (cI, 8, .inl (ST 4)))] := hD
  refine lv_iload hx hb dX3_likeliestAbove_100 (lv_at hl 5 rfl) ?_
  refine lv_if_lt (tgt := 112) hx hb dX3_likeliestAbove_102 (by decide) (fun c_1 => ?_) (fun c_1 => ?_)
  · have hf := itT c_1 hf
    refine lv_iinc (v := (x4 + (1 : Int32))) (lv' := [(4, .int (x4 + (1 : Int32))), (0, .ref zt), (1, .int x1), (2, .int x2), (3, .int x3), (5, .int x5)]) hx hb dX3_likeliestAbove_112 hl (k := 4) rfl rfl (by decide) rfl (fun ls hl => ?_)
    refine lv_goto (tgt := 5) hx hb dX3_likeliestAbove_115 (by decide) ?_
    exact K5 _ _ _ _ hf _ _ hP hD hS _ (lv_sub hl [1, 2, 3, 4, 0] rfl)
  · have hf := itF c_1 hf
    refine lv_iload_n hx hb dX3_likeliestAbove_105 rfl (lv_at hl 3 rfl) ?_
    refine lv_iconst (v := (1 : Int32)) hx hb dX3_likeliestAbove_106 (by decide) ?_
    refine lv_iload hx hb dX3_likeliestAbove_107 (lv_at hl 5 rfl) ?_
    refine lv_ishl hx hb dX3_likeliestAbove_109 ?_
    refine lv_ior hx hb dX3_likeliestAbove_110 ?_
    refine lv_istore_n (lv' := [(3, .int (x3 ||| ((1 : Int32) <<< (x5 &&& 31)))), (0, .ref zt), (1, .int x1), (2, .int x2), (4, .int x4), (5, .int x5)]) hx hb dX3_likeliestAbove_111 rfl hl (by decide) rfl (fun ls hl => ?_)
    refine lv_iinc (v := (x4 + (1 : Int32))) (lv' := [(4, .int (x4 + (1 : Int32))), (3, .int (x3 ||| ((1 : Int32) <<< (x5 &&& 31)))), (0, .ref zt), (1, .int x1), (2, .int x2), (5, .int x5)]) hx hb dX3_likeliestAbove_112 hl (k := 4) rfl rfl (by decide) rfl (fun ls hl => ?_)
    refine lv_goto (tgt := 5) hx hb dX3_likeliestAbove_115 (by decide) ?_
    exact K5 _ _ _ _ hf _ _ hP hD hS _ (lv_sub hl [2, 3, 4, 1, 0] rfl)
set_option maxHeartbeats 4000000 in
set_option maxRecDepth 100000 in
theorem ts_X3_likeliestAbove_24 {p : Program} {l : Launch} {e : Env} {s : State} {m : MethodId} {args : Array Value} {below : List Frame} {meth : Method} {c : Code} {D : va_G} {cI cJ : ClassId} {A : Nat → Prop} {fu : Nat} {zt qt0 qt1 qt2 qt3 qt4 : Nat} {ST : S32} {o : Int32} (C0 : Cx RX3 wsX3_likeliestAbove cX3_likeliestAbove 7 (some .int) D vwCl (tyS cI cJ) p s m args meth c) (hA : ∀ q : Nat, s.heap.size ≤ q → A q) {k5 : Int32 → Int32 → Int32 → Int32 → Option (Int32)} (K5 : ∀ (x1 : Int32) (x2 : Int32) (x3 : Int32) (x4 : Int32), k5 x1 x2 x3 x4 = some o → ∀ (H : Heap) (locs : List Loc), va_P D vwCl (wT zt qt0 qt1 qt2 qt3 qt4 cI ST) H → va_D A (wT zt qt0 qt1 qt2 qt3 qt4 cI ST) → va_S A s.heap H locs → ∀ (ls : Array Slot), lv_has ls 7 [(0, .ref zt), (1, .int x1), (2, .int x2), (3, .int x3), (4, .int x4)] → W p l e rm_X3_likeliestAbove s m args below meth c H locs 0 0 (MQ below (sZi D vwCl (tyS cI cJ) A (wT zt qt0 qt1 qt2 qt3 qt4 cI ST) (o)) args s 0 0 A) (F0 m 5 ls [])) {k24 : Int32 → Int32 → Int32 → Int32 → Int32 → Int32 → Option (Int32)} (K24 : ∀ (x1 : Int32) (x2 : Int32) (x3 : Int32) (x4 : Int32) (x5 : Int32) (x6 : Int32), k24 x1 x2 x3 x4 x5 x6 = some o → ∀ (H : Heap) (locs : List Loc), va_P D vwCl (wT zt qt0 qt1 qt2 qt3 qt4 cI ST) H → va_D A (wT zt qt0 qt1 qt2 qt3 qt4 cI ST) → va_S A s.heap H locs → ∀ (ls : Array Slot), lv_has ls 7 [(0, .ref zt), (1, .int x1), (2, .int x2), (3, .int x3), (4, .int x4), (5, .int x5), (6, .int x6)] → W p l e rm_X3_likeliestAbove s m args below meth c H locs 0 0 (MQ below (sZi D vwCl (tyS cI cJ) A (wT zt qt0 qt1 qt2 qt3 qt4 cI ST) (o)) args s 0 0 A) (F0 m 24 ls [])) : ∀ (x1 : Int32) (x2 : Int32) (x3 : Int32) (x4 : Int32) (x5 : Int32) (x6 : Int32), s_X3_likeliestAbove_24 fu k5 k24 ST x1 x2 x3 x4 x5 x6 = some o → ∀ (H : Heap) (locs : List Loc), va_P D vwCl (wT zt qt0 qt1 qt2 qt3 qt4 cI ST) H → va_D A (wT zt qt0 qt1 qt2 qt3 qt4 cI ST) → va_S A s.heap H locs → ∀ (ls : Array Slot), lv_has ls 7 [(0, .ref zt), (1, .int x1), (2, .int x2), (3, .int x3), (4, .int x4), (5, .int x5), (6, .int x6)] → W p l e rm_X3_likeliestAbove s m args below meth c H locs 0 0 (MQ below (sZi D vwCl (tyS cI cJ) A (wT zt qt0 qt1 qt2 qt3 qt4 cI ST) (o)) args s 0 0 A) (F0 m 24 ls []) := by
  obtain ⟨hx, hb, hr, hml, hown, hts, hlocks, hK⟩ := id C0
  intro x1 x2 x3 x4 x5 x6 hf H locs hP hD hS ls hl
  have hP : va_P D vwCl [(zt, .inr (2, [.ref qt0, .ref qt1, .ref qt2, .ref qt3, .ref qt4, .int (ST 5 0), .int (ST 6 0)])), (qt0, .inl (cI, 8, .inl (ST 0))), (qt1, .inl (cI, 8, .inl (ST 1))), (qt2, .inl (cI, 8, .inl (ST 2))), (qt3, .inl (cI, 8, .inl (ST 3))), (qt4, .inl (cI, 8, .inl (ST 4)))] H := hP
  have hD : va_D A [(zt, .inr (2, [.ref qt0, .ref qt1, .ref qt2, .ref qt3, .ref qt4, .int (ST 5 0), .int (ST 6 0)])), (qt0, .inl (cI, 8, .inl (ST 0))), (qt1, .inl (cI, 8, .inl (ST 1))), (qt2, .inl (cI, 8, .inl (ST 2))), (qt3, .inl (cI, 8, .inl (ST 3))), (qt4, .inl (cI, 8, .inl (ST 4)))] := hD
  refine lv_iload hx hb dX3_likeliestAbove_24 (lv_at hl 6 rfl) ?_
  refine lv_bipush (v := (8 : Int32)) hx hb dX3_likeliestAbove_26 (by decide) ?_
  refine lv_icmp_ge (tgt := 100) hx hb dX3_likeliestAbove_28 (by decide) (fun c_1 => ?_) (fun c_1 => ?_)
  · have hf := itT c_1 hf
    exact t_X3_likeliestAbove_100 (fu := fu) C0 hA K5 _ _ _ _ _ hf _ _ hP hD hS _ (lv_sub hl [0, 1, 2, 3, 4, 5] rfl)
  · have hf := itF c_1 hf
    refine lv_aload_n hx hb dX3_likeliestAbove_31 rfl (lv_at hl 0 rfl) ?_
    refine lv_iload hx hb dX3_likeliestAbove_32 (lv_at hl 6 rfl) ?_
    obtain ⟨o_2, h_2, hf⟩ := bd_some hf
    refine s_callVI (wc := (wT zt qt0 qt1 qt2 qt3 qt4 cI ST)) (wr := []) (wc' := (wT zt qt0 qt1 qt2 qt3 qt4 cI ST)) (w' := [(zt, .inr (2, [.ref qt0, .ref qt1, .ref qt2, .ref qt3, .ref qt4, .int (ST 5 0), .int (ST 6 0)])), (qt0, .inl (cI, 8, .inl (ST 0))), (qt1, .inl (cI, 8, .inl (ST 1))), (qt2, .inl (cI, 8, .inl (ST 2))), (qt3, .inl (cI, 8, .inl (ST 3))), (qt4, .inl (cI, 8, .inl (ST 4)))]) (isC := [0, 1, 2, 3, 4, 5]) (isR := []) (perm := [0, 1, 2, 3, 4, 5]) (As := [.int x6]) (rest := []) (ci := 2) (q := (RX3, TX3, 7)) ⟨hx, hb, hml, hown, hts⟩ (c_X3_isAlive l D cI cJ fu zt qt0 qt1 qt2 qt3 qt4 ST x6 o_2 h_2) (cwV 1 hts gX3_likeliestAbove_X3_isAlive rfl rfl rfl (by decide +kernel) ⟨Nat.le_of_ble_eq_true rfl, Nat.le_of_ble_eq_true rfl⟩) hK hP hD hS hA ⟨rfl, rfl, by decide, by decide, by decide, by decide, rfl⟩ rfl rfl rfl rfl hl.1 rfl (Nat.le_of_ble_eq_true rfl) dX3_likeliestAbove_34 (fun H locs hP hD hS => ?_)
    refine lv_if_eq (tgt := 94) hx hb dX3_likeliestAbove_37 (by decide) (fun c_3 => ?_) (fun c_3 => ?_)
    · have hf := itT c_3 hf
      refine lv_iinc (v := (x6 + (1 : Int32))) (lv' := [(6, .int (x6 + (1 : Int32))), (0, .ref zt), (1, .int x1), (2, .int x2), (3, .int x3), (4, .int x4), (5, .int x5)]) hx hb dX3_likeliestAbove_94 hl (k := 6) rfl rfl (by decide) rfl (fun ls hl => ?_)
      refine lv_goto (tgt := 24) hx hb dX3_likeliestAbove_97 (by decide) ?_
      exact K24 _ _ _ _ _ _ hf _ _ hP hD hS _ (lv_sub hl [1, 2, 3, 4, 5, 6, 0] rfl)
    · have hf := itF c_3 hf
      refine lv_iload_n hx hb dX3_likeliestAbove_40 rfl (lv_at hl 3 rfl) ?_
      refine lv_iload hx hb dX3_likeliestAbove_41 (lv_at hl 6 rfl) ?_
      obtain ⟨o_4, h_4, hf⟩ := bd_some hf
      refine s_callSI (wc := []) (wr := [(zt, .inr (2, [.ref qt0, .ref qt1, .ref qt2, .ref qt3, .ref qt4, .int (ST 5 0), .int (ST 6 0)])), (qt0, .inl (cI, 8, .inl (ST 0))), (qt1, .inl (cI, 8, .inl (ST 1))), (qt2, .inl (cI, 8, .inl (ST 2))), (qt3, .inl (cI, 8, .inl (ST 3))), (qt4, .inl (cI, 8, .inl (ST 4)))]) (wc' := []) (w' := [(zt, .inr (2, [.ref qt0, .ref qt1, .ref qt2, .ref qt3, .ref qt4, .int (ST 5 0), .int (ST 6 0)])), (qt0, .inl (cI, 8, .inl (ST 0))), (qt1, .inl (cI, 8, .inl (ST 1))), (qt2, .inl (cI, 8, .inl (ST 2))), (qt3, .inl (cI, 8, .inl (ST 3))), (qt4, .inl (cI, 8, .inl (ST 4)))]) (isC := []) (isR := [0, 1, 2, 3, 4, 5]) (perm := [0, 1, 2, 3, 4, 5]) (As := [.int x3, .int x6]) (rest := []) ⟨hx, hb, hml, hown, hts⟩ (c_X3_holds l D cI cJ fu x3 x6 o_4 h_4) (va_cwS 2 hts gX3_likeliestAbove_X3_holds rfl rfl rfl (by decide +kernel) ⟨Nat.le_of_ble_eq_true rfl, Nat.le_of_ble_eq_true rfl⟩) hK hP hD hS hA ⟨rfl, rfl, by decide, by decide, by decide, by decide, rfl⟩ rfl hl.1 rfl (Nat.le_of_ble_eq_true rfl) dX3_likeliestAbove_43 (fun H locs hP hD hS => ?_)
      refine lv_if_ne (tgt := 94) hx hb dX3_likeliestAbove_46 (by decide) (fun c_5 => ?_) (fun c_5 => ?_)
      · have hf := itF c_5 hf
        refine lv_iinc (v := (x6 + (1 : Int32))) (lv' := [(6, .int (x6 + (1 : Int32))), (0, .ref zt), (1, .int x1), (2, .int x2), (3, .int x3), (4, .int x4), (5, .int x5)]) hx hb dX3_likeliestAbove_94 hl (k := 6) rfl rfl (by decide) rfl (fun ls hl => ?_)
        refine lv_goto (tgt := 24) hx hb dX3_likeliestAbove_97 (by decide) ?_
        exact K24 _ _ _ _ _ _ hf _ _ hP hD hS _ (lv_sub hl [1, 2, 3, 4, 5, 6, 0] rfl)
      · have hf := itT c_5 hf
        refine lv_aload_n hx hb dX3_likeliestAbove_49 rfl (lv_at hl 0 rfl) ?_
        refine va_get (D := D) (ci := 2) (v := .ref qt2) (C := RX3) (T := TX3) (N := 7) hx hb hts i_X3_likeliestAbove_X3 hown hK hP 0 rfl rfl 2 (by decide) (hts _ q_X3_likeliestAbove_1) (fun _ h9 => h9) rfl dX3_likeliestAbove_50 ?_
        refine lv_iload hx hb dX3_likeliestAbove_53 (lv_at hl 6 rfl) ?_
        obtain ⟨g_6, hf⟩ := gd_some hf
        refine va_iald hx hb hK hP 3 0 rfl rfl g_6 dX3_likeliestAbove_55 ?_
        refine lv_aload_n hx hb dX3_likeliestAbove_56 rfl (lv_at hl 0 rfl) ?_
        refine va_get (D := D) (ci := 2) (v := .ref qt2) (C := RX3) (T := TX3) (N := 7) hx hb hts i_X3_likeliestAbove_X3 hown hK hP 0 rfl rfl 2 (by decide) (hts _ q_X3_likeliestAbove_1) (fun _ h9 => h9) rfl dX3_likeliestAbove_57 ?_
        refine lv_iload_n hx hb dX3_likeliestAbove_60 rfl (lv_at hl 1 rfl) ?_
        obtain ⟨g_7, hf⟩ := gd_some hf
        refine va_iald hx hb hK hP 3 0 rfl rfl g_7 dX3_likeliestAbove_61 ?_
        refine lv_icmp_gt (tgt := 68) hx hb dX3_likeliestAbove_62 (by decide) (fun c_8 => ?_) (fun c_8 => ?_)
        · have hf := itT c_8 hf
          refine lv_iload hx hb dX3_likeliestAbove_68 (lv_at hl 5 rfl) ?_
          refine lv_if_lt (tgt := 90) hx hb dX3_likeliestAbove_70 (by decide) (fun c_9 => ?_) (fun c_9 => ?_)
          · have hf := itT c_9 hf
            refine lv_iload hx hb dX3_likeliestAbove_90 (lv_at hl 6 rfl) ?_
            refine lv_istore (lv' := [(5, .int x6), (0, .ref zt), (1, .int x1), (2, .int x2), (3, .int x3), (4, .int x4), (6, .int x6)]) hx hb dX3_likeliestAbove_92 hl (by decide) rfl (fun ls hl => ?_)
            refine lv_iinc (v := (x6 + (1 : Int32))) (lv' := [(6, .int (x6 + (1 : Int32))), (5, .int x6), (0, .ref zt), (1, .int x1), (2, .int x2), (3, .int x3), (4, .int x4)]) hx hb dX3_likeliestAbove_94 hl (k := 6) rfl rfl (by decide) rfl (fun ls hl => ?_)
            refine lv_goto (tgt := 24) hx hb dX3_likeliestAbove_97 (by decide) ?_
            exact K24 _ _ _ _ _ _ hf _ _ hP hD hS _ (lv_sub hl [2, 3, 4, 5, 6, 1, 0] rfl)
          · have hf := itF c_9 hf
            refine lv_aload_n hx hb dX3_likeliestAbove_73 rfl (lv_at hl 0 rfl) ?_
            refine lv_iload hx hb dX3_likeliestAbove_74 (lv_at hl 6 rfl) ?_
            refine lv_iconst (v := (0 : Int32)) hx hb dX3_likeliestAbove_76 (by decide) ?_
            obtain ⟨o_10, h_10, hf⟩ := bd_some hf
            refine s_callVI (wc := (wT zt qt0 qt1 qt2 qt3 qt4 cI ST)) (wr := []) (wc' := (wT zt qt0 qt1 qt2 qt3 qt4 cI ST)) (w' := [(zt, .inr (2, [.ref qt0, .ref qt1, .ref qt2, .ref qt3, .ref qt4, .int (ST 5 0), .int (ST 6 0)])), (qt0, .inl (cI, 8, .inl (ST 0))), (qt1, .inl (cI, 8, .inl (ST 1))), (qt2, .inl (cI, 8, .inl (ST 2))), (qt3, .inl (cI, 8, .inl (ST 3))), (qt4, .inl (cI, 8, .inl (ST 4)))]) (isC := [0, 1, 2, 3, 4, 5]) (isR := []) (perm := [0, 1, 2, 3, 4, 5]) (As := [.int x6, .int (0 : Int32)]) (rest := []) (ci := 2) (q := (RX3, TX3, 7)) ⟨hx, hb, hml, hown, hts⟩ (c_X3_chanceAfter l D cI cJ fu zt qt0 qt1 qt2 qt3 qt4 ST x6 (0 : Int32) o_10 h_10) (cwV 2 hts gX3_likeliestAbove_X3_chanceAfter rfl rfl rfl (by decide +kernel) ⟨Nat.le_of_ble_eq_true rfl, Nat.le_of_ble_eq_true rfl⟩) hK hP hD hS hA ⟨rfl, rfl, by decide, by decide, by decide, by decide, rfl⟩ rfl rfl rfl rfl hl.1 rfl (Nat.le_of_ble_eq_true rfl) dX3_likeliestAbove_77 (fun H locs hP hD hS => ?_)
            refine lv_aload_n hx hb dX3_likeliestAbove_80 rfl (lv_at hl 0 rfl) ?_
            refine lv_iload hx hb dX3_likeliestAbove_81 (lv_at hl 5 rfl) ?_
            refine lv_iconst (v := (0 : Int32)) hx hb dX3_likeliestAbove_83 (by decide) ?_
            obtain ⟨o_11, h_11, hf⟩ := bd_some hf
            refine s_callVI (wc := (wT zt qt0 qt1 qt2 qt3 qt4 cI ST)) (wr := []) (wc' := (wT zt qt0 qt1 qt2 qt3 qt4 cI ST)) (w' := [(zt, .inr (2, [.ref qt0, .ref qt1, .ref qt2, .ref qt3, .ref qt4, .int (ST 5 0), .int (ST 6 0)])), (qt0, .inl (cI, 8, .inl (ST 0))), (qt1, .inl (cI, 8, .inl (ST 1))), (qt2, .inl (cI, 8, .inl (ST 2))), (qt3, .inl (cI, 8, .inl (ST 3))), (qt4, .inl (cI, 8, .inl (ST 4)))]) (isC := [0, 1, 2, 3, 4, 5]) (isR := []) (perm := [0, 1, 2, 3, 4, 5]) (As := [.int x5, .int (0 : Int32)]) (rest := [.int o_10]) (ci := 2) (q := (RX3, TX3, 7)) ⟨hx, hb, hml, hown, hts⟩ (c_X3_chanceAfter l D cI cJ fu zt qt0 qt1 qt2 qt3 qt4 ST x5 (0 : Int32) o_11 h_11) (cwV 2 hts gX3_likeliestAbove_X3_chanceAfter rfl rfl rfl (by decide +kernel) ⟨Nat.le_of_ble_eq_true rfl, Nat.le_of_ble_eq_true rfl⟩) hK hP hD hS hA ⟨rfl, rfl, by decide, by decide, by decide, by decide, rfl⟩ rfl rfl rfl rfl hl.1 rfl (Nat.le_of_ble_eq_true rfl) dX3_likeliestAbove_84 (fun H locs hP hD hS => ?_)
            refine lv_icmp_le (tgt := 94) hx hb dX3_likeliestAbove_87 (by decide) (fun c_12 => ?_) (fun c_12 => ?_)
            · have hf := itT c_12 hf
              refine lv_iinc (v := (x6 + (1 : Int32))) (lv' := [(6, .int (x6 + (1 : Int32))), (0, .ref zt), (1, .int x1), (2, .int x2), (3, .int x3), (4, .int x4), (5, .int x5)]) hx hb dX3_likeliestAbove_94 hl (k := 6) rfl rfl (by decide) rfl (fun ls hl => ?_)
              refine lv_goto (tgt := 24) hx hb dX3_likeliestAbove_97 (by decide) ?_
              exact K24 _ _ _ _ _ _ hf _ _ hP hD hS _ (lv_sub hl [1, 2, 3, 4, 5, 6, 0] rfl)
            · have hf := itF c_12 hf
              refine lv_iload hx hb dX3_likeliestAbove_90 (lv_at hl 6 rfl) ?_
              refine lv_istore (lv' := [(5, .int x6), (0, .ref zt), (1, .int x1), (2, .int x2), (3, .int x3), (4, .int x4), (6, .int x6)]) hx hb dX3_likeliestAbove_92 hl (by decide) rfl (fun ls hl => ?_)
              refine lv_iinc (v := (x6 + (1 : Int32))) (lv' := [(6, .int (x6 + (1 : Int32))), (5, .int x6), (0, .ref zt), (1, .int x1), (2, .int x2), (3, .int x3), (4, .int x4)]) hx hb dX3_likeliestAbove_94 hl (k := 6) rfl rfl (by decide) rfl (fun ls hl => ?_)
              refine lv_goto (tgt := 24) hx hb dX3_likeliestAbove_97 (by decide) ?_
              exact K24 _ _ _ _ _ _ hf _ _ hP hD hS _ (lv_sub hl [2, 3, 4, 5, 6, 1, 0] rfl)
        · have hf := itF c_8 hf
          refine lv_goto (tgt := 94) hx hb dX3_likeliestAbove_65 (by decide) ?_
          refine lv_iinc (v := (x6 + (1 : Int32))) (lv' := [(6, .int (x6 + (1 : Int32))), (0, .ref zt), (1, .int x1), (2, .int x2), (3, .int x3), (4, .int x4), (5, .int x5)]) hx hb dX3_likeliestAbove_94 hl (k := 6) rfl rfl (by decide) rfl (fun ls hl => ?_)
          refine lv_goto (tgt := 24) hx hb dX3_likeliestAbove_97 (by decide) ?_
          exact K24 _ _ _ _ _ _ hf _ _ hP hD hS _ (lv_sub hl [1, 2, 3, 4, 5, 6, 0] rfl)
theorem t_X3_likeliestAbove_24 {p : Program} {l : Launch} {e : Env} {s : State} {m : MethodId} {args : Array Value} {below : List Frame} {meth : Method} {c : Code} {D : va_G} {cI cJ : ClassId} {A : Nat → Prop} {fu : Nat} {zt qt0 qt1 qt2 qt3 qt4 : Nat} {ST : S32} {o : Int32} (C0 : Cx RX3 wsX3_likeliestAbove cX3_likeliestAbove 7 (some .int) D vwCl (tyS cI cJ) p s m args meth c) (hA : ∀ q : Nat, s.heap.size ≤ q → A q) {k5 : Int32 → Int32 → Int32 → Int32 → Option (Int32)} (K5 : ∀ (x1 : Int32) (x2 : Int32) (x3 : Int32) (x4 : Int32), k5 x1 x2 x3 x4 = some o → ∀ (H : Heap) (locs : List Loc), va_P D vwCl (wT zt qt0 qt1 qt2 qt3 qt4 cI ST) H → va_D A (wT zt qt0 qt1 qt2 qt3 qt4 cI ST) → va_S A s.heap H locs → ∀ (ls : Array Slot), lv_has ls 7 [(0, .ref zt), (1, .int x1), (2, .int x2), (3, .int x3), (4, .int x4)] → W p l e rm_X3_likeliestAbove s m args below meth c H locs 0 0 (MQ below (sZi D vwCl (tyS cI cJ) A (wT zt qt0 qt1 qt2 qt3 qt4 cI ST) (o)) args s 0 0 A) (F0 m 5 ls [])) : ∀ (n : Nat) (x1 : Int32) (x2 : Int32) (x3 : Int32) (x4 : Int32) (x5 : Int32) (x6 : Int32), f_X3_likeliestAbove_24 fu k5 ST n x1 x2 x3 x4 x5 x6 = some o → ∀ (H : Heap) (locs : List Loc), va_P D vwCl (wT zt qt0 qt1 qt2 qt3 qt4 cI ST) H → va_D A (wT zt qt0 qt1 qt2 qt3 qt4 cI ST) → va_S A s.heap H locs → ∀ (ls : Array Slot), lv_has ls 7 [(0, .ref zt), (1, .int x1), (2, .int x2), (3, .int x3), (4, .int x4), (5, .int x5), (6, .int x6)] → W p l e rm_X3_likeliestAbove s m args below meth c H locs 0 0 (MQ below (sZi D vwCl (tyS cI cJ) A (wT zt qt0 qt1 qt2 qt3 qt4 cI ST) (o)) args s 0 0 A) (F0 m 24 ls []) := by
  intro n
  induction n with
  | zero =>
    intro x1 x2 x3 x4 x5 x6 hf
    have hf : (none : Option (Int32)) = some o := hf
    cases hf
  | succ n ih => exact ts_X3_likeliestAbove_24 (fu := fu) (k24 := f_X3_likeliestAbove_24 fu k5 ST n) C0 hA K5 ih
set_option maxHeartbeats 4000000 in
set_option maxRecDepth 100000 in
theorem ts_X3_likeliestAbove_5 {p : Program} {l : Launch} {e : Env} {s : State} {m : MethodId} {args : Array Value} {below : List Frame} {meth : Method} {c : Code} {D : va_G} {cI cJ : ClassId} {A : Nat → Prop} {fu : Nat} {zt qt0 qt1 qt2 qt3 qt4 : Nat} {ST : S32} {o : Int32} (C0 : Cx RX3 wsX3_likeliestAbove cX3_likeliestAbove 7 (some .int) D vwCl (tyS cI cJ) p s m args meth c) (hA : ∀ q : Nat, s.heap.size ≤ q → A q) {k5 : Int32 → Int32 → Int32 → Int32 → Option (Int32)} (K5 : ∀ (x1 : Int32) (x2 : Int32) (x3 : Int32) (x4 : Int32), k5 x1 x2 x3 x4 = some o → ∀ (H : Heap) (locs : List Loc), va_P D vwCl (wT zt qt0 qt1 qt2 qt3 qt4 cI ST) H → va_D A (wT zt qt0 qt1 qt2 qt3 qt4 cI ST) → va_S A s.heap H locs → ∀ (ls : Array Slot), lv_has ls 7 [(0, .ref zt), (1, .int x1), (2, .int x2), (3, .int x3), (4, .int x4)] → W p l e rm_X3_likeliestAbove s m args below meth c H locs 0 0 (MQ below (sZi D vwCl (tyS cI cJ) A (wT zt qt0 qt1 qt2 qt3 qt4 cI ST) (o)) args s 0 0 A) (F0 m 5 ls [])) : ∀ (x1 : Int32) (x2 : Int32) (x3 : Int32) (x4 : Int32), s_X3_likeliestAbove_5 fu  k5 ST x1 x2 x3 x4 = some o → ∀ (H : Heap) (locs : List Loc), va_P D vwCl (wT zt qt0 qt1 qt2 qt3 qt4 cI ST) H → va_D A (wT zt qt0 qt1 qt2 qt3 qt4 cI ST) → va_S A s.heap H locs → ∀ (ls : Array Slot), lv_has ls 7 [(0, .ref zt), (1, .int x1), (2, .int x2), (3, .int x3), (4, .int x4)] → W p l e rm_X3_likeliestAbove s m args below meth c H locs 0 0 (MQ below (sZi D vwCl (tyS cI cJ) A (wT zt qt0 qt1 qt2 qt3 qt4 cI ST) (o)) args s 0 0 A) (F0 m 5 ls []) := by
  obtain ⟨hx, hb, hr, hml, hown, hts, hlocks, hK⟩ := id C0
  intro x1 x2 x3 x4 hf H locs hP hD hS ls hl
  have hP : va_P D vwCl [(zt, .inr (2, [.ref qt0, .ref qt1, .ref qt2, .ref qt3, .ref qt4, .int (ST 5 0), .int (ST 6 0)])), (qt0, .inl (cI, 8, .inl (ST 0))), (qt1, .inl (cI, 8, .inl (ST 1))), (qt2, .inl (cI, 8, .inl (ST 2))), (qt3, .inl (cI, 8, .inl (ST 3))), (qt4, .inl (cI, 8, .inl (ST 4)))] H := hP
  have hD : va_D A [(zt, .inr (2, [.ref qt0, .ref qt1, .ref qt2, .ref qt3, .ref qt4, .int (ST 5 0), .int (ST 6 0)])), (qt0, .inl (cI, 8, .inl (ST 0))), (qt1, .inl (cI, 8, .inl (ST 1))), (qt2, .inl (cI, 8, .inl (ST 2))), (qt3, .inl (cI, 8, .inl (ST 3))), (qt4, .inl (cI, 8, .inl (ST 4)))] := hD
  refine lv_iload hx hb dX3_likeliestAbove_5 (lv_at hl 4 rfl) ?_
  refine lv_iload_n hx hb dX3_likeliestAbove_7 rfl (lv_at hl 2 rfl) ?_
  refine lv_icmp_ge (tgt := 118) hx hb dX3_likeliestAbove_8 (by decide) (fun c_1 => ?_) (fun c_1 => ?_)
  · have hf := itT c_1 hf
    refine lv_iload_n hx hb dX3_likeliestAbove_118 rfl (lv_at hl 3 rfl) ?_
    obtain rfl := Option.some.inj hf
    exact s_iret (r := x3) hx hb hr hlocks hK hP hD hS dX3_likeliestAbove_119
  · have hf := itF c_1 hf
    refine lv_iload hx hb dX3_likeliestAbove_11 (lv_at hl 4 rfl) ?_
    refine lv_bipush (v := (8 : Int32)) hx hb dX3_likeliestAbove_13 (by decide) ?_
    refine lv_icmp_ge (tgt := 118) hx hb dX3_likeliestAbove_15 (by decide) (fun c_2 => ?_) (fun c_2 => ?_)
    · have hf := itT c_2 hf
      refine lv_iload_n hx hb dX3_likeliestAbove_118 rfl (lv_at hl 3 rfl) ?_
      obtain rfl := Option.some.inj hf
      exact s_iret (r := x3) hx hb hr hlocks hK hP hD hS dX3_likeliestAbove_119
    · have hf := itF c_2 hf
      refine lv_iconst (v := (-1 : Int32)) hx hb dX3_likeliestAbove_18 (by decide) ?_
      refine lv_istore (lv' := [(5, .int (-1 : Int32)), (0, .ref zt), (1, .int x1), (2, .int x2), (3, .int x3), (4, .int x4)]) hx hb dX3_likeliestAbove_19 hl (by decide) rfl (fun ls hl => ?_)
      refine lv_iconst (v := (0 : Int32)) hx hb dX3_likeliestAbove_21 (by decide) ?_
      refine lv_istore (lv' := [(6, .int (0 : Int32)), (5, .int (-1 : Int32)), (0, .ref zt), (1, .int x1), (2, .int x2), (3, .int x3), (4, .int x4)]) hx hb dX3_likeliestAbove_22 hl (by decide) rfl (fun ls hl => ?_)
      exact t_X3_likeliestAbove_24 (fu := fu) C0 hA K5 fu _ _ _ _ _ _ hf _ _ hP hD hS _ (lv_sub hl [2, 3, 4, 5, 6, 1, 0] rfl)
theorem t_X3_likeliestAbove_5 {p : Program} {l : Launch} {e : Env} {s : State} {m : MethodId} {args : Array Value} {below : List Frame} {meth : Method} {c : Code} {D : va_G} {cI cJ : ClassId} {A : Nat → Prop} {fu : Nat} {zt qt0 qt1 qt2 qt3 qt4 : Nat} {ST : S32} {o : Int32} (C0 : Cx RX3 wsX3_likeliestAbove cX3_likeliestAbove 7 (some .int) D vwCl (tyS cI cJ) p s m args meth c) (hA : ∀ q : Nat, s.heap.size ≤ q → A q) : ∀ (n : Nat) (x1 : Int32) (x2 : Int32) (x3 : Int32) (x4 : Int32), f_X3_likeliestAbove_5 fu  ST n x1 x2 x3 x4 = some o → ∀ (H : Heap) (locs : List Loc), va_P D vwCl (wT zt qt0 qt1 qt2 qt3 qt4 cI ST) H → va_D A (wT zt qt0 qt1 qt2 qt3 qt4 cI ST) → va_S A s.heap H locs → ∀ (ls : Array Slot), lv_has ls 7 [(0, .ref zt), (1, .int x1), (2, .int x2), (3, .int x3), (4, .int x4)] → W p l e rm_X3_likeliestAbove s m args below meth c H locs 0 0 (MQ below (sZi D vwCl (tyS cI cJ) A (wT zt qt0 qt1 qt2 qt3 qt4 cI ST) (o)) args s 0 0 A) (F0 m 5 ls []) := by
  intro n
  induction n with
  | zero =>
    intro x1 x2 x3 x4 hf
    have hf : (none : Option (Int32)) = some o := hf
    cases hf
  | succ n ih => exact ts_X3_likeliestAbove_5 (fu := fu) (k5 := f_X3_likeliestAbove_5 fu  ST n) C0 hA  ih
set_option maxHeartbeats 4000000 in
set_option maxRecDepth 100000 in
theorem c_X3_likeliestAbove (l : Launch) (D : va_G) (cI cJ : ClassId) (fu : Nat) (zt qt0 qt1 qt2 qt3 qt4 : Nat) (ST : S32) (x1 : Int32) (x2 : Int32) (o : Int32) (hf : f_X3_likeliestAbove fu ST x1 x2 = some o) : MI l yX3_likeliestAbove wsX3_likeliestAbove rm_X3_likeliestAbove D vwCl (tyS cI cJ) [.ref zt, .int x1, .int x2] (wT zt qt0 qt1 qt2 qt3 qt4 cI ST) (wT zt qt0 qt1 qt2 qt3 qt4 cI ST) (o) := by
  intro sz
  refine s_entry (own := RX3) (cc := cX3_likeliestAbove) (maxL := 7) (ret := (some .int)) (Qc := fun A => sZi D vwCl (tyS cI cJ) A (wT zt qt0 qt1 qt2 qt3 qt4 cI ST) (o)) rfl (by decide) rfl rfl (Nat.le_of_ble_eq_true rfl) ?_
  intro p e s m args below meth c A C0 hA hP hD hS ls hl
  obtain ⟨hx, hb, hr, hml, hown, hts, hlocks, hK⟩ := id C0
  have hl : lv_has ls 7 [(0, .ref zt), (1, .int x1), (2, .int x2)] := hl
  have hP : va_P D vwCl [(zt, .inr (2, [.ref qt0, .ref qt1, .ref qt2, .ref qt3, .ref qt4, .int (ST 5 0), .int (ST 6 0)])), (qt0, .inl (cI, 8, .inl (ST 0))), (qt1, .inl (cI, 8, .inl (ST 1))), (qt2, .inl (cI, 8, .inl (ST 2))), (qt3, .inl (cI, 8, .inl (ST 3))), (qt4, .inl (cI, 8, .inl (ST 4)))] s.heap := hP
  have hD : va_D A [(zt, .inr (2, [.ref qt0, .ref qt1, .ref qt2, .ref qt3, .ref qt4, .int (ST 5 0), .int (ST 6 0)])), (qt0, .inl (cI, 8, .inl (ST 0))), (qt1, .inl (cI, 8, .inl (ST 1))), (qt2, .inl (cI, 8, .inl (ST 2))), (qt3, .inl (cI, 8, .inl (ST 3))), (qt4, .inl (cI, 8, .inl (ST 4)))] := hD
  refine lv_iconst (v := (0 : Int32)) hx hb dX3_likeliestAbove_0 (by decide) ?_
  refine lv_istore_n (lv' := [(3, .int (0 : Int32)), (0, .ref zt), (1, .int x1), (2, .int x2)]) hx hb dX3_likeliestAbove_1 rfl hl (by decide) rfl (fun ls hl => ?_)
  refine lv_iconst (v := (0 : Int32)) hx hb dX3_likeliestAbove_2 (by decide) ?_
  refine lv_istore (lv' := [(4, .int (0 : Int32)), (3, .int (0 : Int32)), (0, .ref zt), (1, .int x1), (2, .int x2)]) hx hb dX3_likeliestAbove_3 hl (by decide) rfl (fun ls hl => ?_)
  exact t_X3_likeliestAbove_5 (fu := fu) C0 hA  fu _ _ _ _ hf _ _ hP hD hS _ (lv_sub hl [2, 3, 4, 1, 0] rfl)
theorem q_X3_isOutOfReach_1 : (Cond.fieldLink RX3 18 "UpWhenDies$Tower" "floor" "[I" : Cond) ∈ wsX3_isOutOfReach := List.mem_of_getElem? (i := 1) rfl
theorem i_X3_isOutOfReach_X3 : ∀ w ∈ wsX30, w ∈ wsX3_isOutOfReach := fun _ h => (List.mem_cons_of_mem _ (List.mem_append_right _ h))
abbrev rm_X3_isOutOfReach : Room := { frames := 3, cells := 0, slots := 0, locals := 65 }
set_option maxHeartbeats 4000000 in
set_option maxRecDepth 100000 in
theorem c_X3_isOutOfReach (l : Launch) (D : va_G) (cI cJ : ClassId) (fu : Nat) (zt qt0 qt1 qt2 qt3 qt4 : Nat) (ST : S32) (x1 : Int32) (x2 : Int32) (o : Int32) (hf : f_X3_isOutOfReach fu ST x1 x2 = some o) : MI l yX3_isOutOfReach wsX3_isOutOfReach rm_X3_isOutOfReach D vwCl (tyS cI cJ) [.ref zt, .int x1, .int x2] (wT zt qt0 qt1 qt2 qt3 qt4 cI ST) (wT zt qt0 qt1 qt2 qt3 qt4 cI ST) (o) := by
  intro sz
  refine s_entry (own := RX3) (cc := cX3_isOutOfReach) (maxL := 3) (ret := (some .boolean)) (Qc := fun A => sZi D vwCl (tyS cI cJ) A (wT zt qt0 qt1 qt2 qt3 qt4 cI ST) (o)) rfl (by decide) rfl rfl (Nat.le_of_ble_eq_true rfl) ?_
  intro p e s m args below meth c A C0 hA hP hD hS ls hl
  obtain ⟨hx, hb, hr, hml, hown, hts, hlocks, hK⟩ := id C0
  have hl : lv_has ls 3 [(0, .ref zt), (1, .int x1), (2, .int x2)] := hl
  have hP : va_P D vwCl [(zt, .inr (2, [.ref qt0, .ref qt1, .ref qt2, .ref qt3, .ref qt4, .int (ST 5 0), .int (ST 6 0)])), (qt0, .inl (cI, 8, .inl (ST 0))), (qt1, .inl (cI, 8, .inl (ST 1))), (qt2, .inl (cI, 8, .inl (ST 2))), (qt3, .inl (cI, 8, .inl (ST 3))), (qt4, .inl (cI, 8, .inl (ST 4)))] s.heap := hP
  have hD : va_D A [(zt, .inr (2, [.ref qt0, .ref qt1, .ref qt2, .ref qt3, .ref qt4, .int (ST 5 0), .int (ST 6 0)])), (qt0, .inl (cI, 8, .inl (ST 0))), (qt1, .inl (cI, 8, .inl (ST 1))), (qt2, .inl (cI, 8, .inl (ST 2))), (qt3, .inl (cI, 8, .inl (ST 3))), (qt4, .inl (cI, 8, .inl (ST 4)))] := hD
  refine lv_aload_n hx hb dX3_isOutOfReach_0 rfl (lv_at hl 0 rfl) ?_
  refine va_get (D := D) (ci := 2) (v := .ref qt2) (C := RX3) (T := TX3) (N := 7) hx hb hts i_X3_isOutOfReach_X3 hown hK hP 0 rfl rfl 2 (by decide) (hts _ q_X3_isOutOfReach_1) (fun _ h9 => h9) rfl dX3_isOutOfReach_1 ?_
  refine lv_iload_n hx hb dX3_isOutOfReach_4 rfl (lv_at hl 1 rfl) ?_
  obtain ⟨g_1, hf⟩ := gd_some hf
  refine va_iald hx hb hK hP 3 0 rfl rfl g_1 dX3_isOutOfReach_5 ?_
  refine lv_aload_n hx hb dX3_isOutOfReach_6 rfl (lv_at hl 0 rfl) ?_
  refine lv_iload_n hx hb dX3_isOutOfReach_7 rfl (lv_at hl 1 rfl) ?_
  refine lv_iload_n hx hb dX3_isOutOfReach_8 rfl (lv_at hl 2 rfl) ?_
  obtain ⟨o_2, h_2, hf⟩ := bd_some hf
  refine s_callVI (wc := (wT zt qt0 qt1 qt2 qt3 qt4 cI ST)) (wr := []) (wc' := (wT zt qt0 qt1 qt2 qt3 qt4 cI ST)) (w' := [(zt, .inr (2, [.ref qt0, .ref qt1, .ref qt2, .ref qt3, .ref qt4, .int (ST 5 0), .int (ST 6 0)])), (qt0, .inl (cI, 8, .inl (ST 0))), (qt1, .inl (cI, 8, .inl (ST 1))), (qt2, .inl (cI, 8, .inl (ST 2))), (qt3, .inl (cI, 8, .inl (ST 3))), (qt4, .inl (cI, 8, .inl (ST 4)))]) (isC := [0, 1, 2, 3, 4, 5]) (isR := []) (perm := [0, 1, 2, 3, 4, 5]) (As := [.int x1, .int x2]) (rest := [.int (ST 2 x1.toNatClampNeg)]) (ci := 2) (q := (RX3, TX3, 7)) ⟨hx, hb, hml, hown, hts⟩ (c_X3_climbAfter l D cI cJ fu zt qt0 qt1 qt2 qt3 qt4 ST x1 x2 o_2 h_2) (cwV 2 hts gX3_isOutOfReach_X3_climbAfter rfl rfl rfl (by decide +kernel) ⟨Nat.le_of_ble_eq_true rfl, Nat.le_of_ble_eq_true rfl⟩) hK hP hD hS hA ⟨rfl, rfl, by decide, by decide, by decide, by decide, rfl⟩ rfl rfl rfl rfl hl.1 rfl (Nat.le_of_ble_eq_true rfl) dX3_isOutOfReach_9 (fun H locs hP hD hS => ?_)
  refine lv_icmp_le (tgt := 19) hx hb dX3_isOutOfReach_12 (by decide) (fun c_3 => ?_) (fun c_3 => ?_)
  · have hf := itT c_3 hf
    refine lv_iconst (v := (0 : Int32)) hx hb dX3_isOutOfReach_19 (by decide) ?_
    obtain rfl := Option.some.inj hf
    exact s_zret (r := (0 : Int32)) hx hb hr hlocks hK hP hD hS rfl dX3_isOutOfReach_20
  · have hf := itF c_3 hf
    refine lv_iconst (v := (1 : Int32)) hx hb dX3_isOutOfReach_15 (by decide) ?_
    refine lv_goto (tgt := 20) hx hb dX3_isOutOfReach_16 (by decide) ?_
    obtain rfl := Option.some.inj hf
    exact s_zret (r := (1 : Int32)) hx hb hr hlocks hK hP hD hS rfl dX3_isOutOfReach_20
theorem q_X3_burden_1 : (Cond.fieldLink RX3 21 "UpWhenDies$Tower" "load" "[I" : Cond) ∈ wsX3_burden := List.mem_of_getElem? (i := 1) rfl
theorem i_X3_burden_X3 : ∀ w ∈ wsX30, w ∈ wsX3_burden := fun _ h => (List.mem_cons_of_mem _ (List.mem_append_right _ h))
abbrev rm_X3_burden : Room := { frames := 2, cells := 0, slots := 0, locals := 44 }
set_option maxHeartbeats 4000000 in
set_option maxRecDepth 100000 in
theorem ts_X3_burden_11 {p : Program} {l : Launch} {e : Env} {s : State} {m : MethodId} {args : Array Value} {below : List Frame} {meth : Method} {c : Code} {D : va_G} {cI cJ : ClassId} {A : Nat → Prop} {fu : Nat} {zt qt0 qt1 qt2 qt3 qt4 : Nat} {ST : S32} {o : Int32} (C0 : Cx RX3 wsX3_burden cX3_burden 5 (some .int) D vwCl (tyS cI cJ) p s m args meth c) (hA : ∀ q : Nat, s.heap.size ≤ q → A q) {k11 : Int32 → Int32 → Int32 → Int32 → Option (Int32)} (K11 : ∀ (x1 : Int32) (x2 : Int32) (x3 : Int32) (x4 : Int32), k11 x1 x2 x3 x4 = some o → ∀ (H : Heap) (locs : List Loc), va_P D vwCl (wT zt qt0 qt1 qt2 qt3 qt4 cI ST) H → va_D A (wT zt qt0 qt1 qt2 qt3 qt4 cI ST) → va_S A s.heap H locs → ∀ (ls : Array Slot), lv_has ls 5 [(0, .ref zt), (1, .int x1), (2, .int x2), (3, .int x3), (4, .int x4)] → W p l e rm_X3_burden s m args below meth c H locs 0 0 (MQ below (sZi D vwCl (tyS cI cJ) A (wT zt qt0 qt1 qt2 qt3 qt4 cI ST) (o)) args s 0 0 A) (F0 m 11 ls [])) : ∀ (x1 : Int32) (x2 : Int32) (x3 : Int32) (x4 : Int32), s_X3_burden_11 fu  k11 ST x1 x2 x3 x4 = some o → ∀ (H : Heap) (locs : List Loc), va_P D vwCl (wT zt qt0 qt1 qt2 qt3 qt4 cI ST) H → va_D A (wT zt qt0 qt1 qt2 qt3 qt4 cI ST) → va_S A s.heap H locs → ∀ (ls : Array Slot), lv_has ls 5 [(0, .ref zt), (1, .int x1), (2, .int x2), (3, .int x3), (4, .int x4)] → W p l e rm_X3_burden s m args below meth c H locs 0 0 (MQ below (sZi D vwCl (tyS cI cJ) A (wT zt qt0 qt1 qt2 qt3 qt4 cI ST) (o)) args s 0 0 A) (F0 m 11 ls []) := by
  obtain ⟨hx, hb, hr, hml, hown, hts, hlocks, hK⟩ := id C0
  intro x1 x2 x3 x4 hf H locs hP hD hS ls hl
  have hP : va_P D vwCl [(zt, .inr (2, [.ref qt0, .ref qt1, .ref qt2, .ref qt3, .ref qt4, .int (ST 5 0), .int (ST 6 0)])), (qt0, .inl (cI, 8, .inl (ST 0))), (qt1, .inl (cI, 8, .inl (ST 1))), (qt2, .inl (cI, 8, .inl (ST 2))), (qt3, .inl (cI, 8, .inl (ST 3))), (qt4, .inl (cI, 8, .inl (ST 4)))] H := hP
  have hD : va_D A [(zt, .inr (2, [.ref qt0, .ref qt1, .ref qt2, .ref qt3, .ref qt4, .int (ST 5 0), .int (ST 6 0)])), (qt0, .inl (cI, 8, .inl (ST 0))), (qt1, .inl (cI, 8, .inl (ST 1))), (qt2, .inl (cI, 8, .inl (ST 2))), (qt3, .inl (cI, 8, .inl (ST 3))), (qt4, .inl (cI, 8, .inl (ST 4)))] := hD
  refine lv_iload hx hb dX3_burden_11 (lv_at hl 4 rfl) ?_
  refine lv_bipush (v := (8 : Int32)) hx hb dX3_burden_13 (by decide) ?_
  refine lv_icmp_ge (tgt := 60) hx hb dX3_burden_15 (by decide) (fun c_1 => ?_) (fun c_1 => ?_)
  · have hf := itT c_1 hf
    refine lv_iload_n hx hb dX3_burden_60 rfl (lv_at hl 3 rfl) ?_
    obtain rfl := Option.some.inj hf
    exact s_iret (r := x3) hx hb hr hlocks hK hP hD hS dX3_burden_61
  · have hf := itF c_1 hf
    refine lv_aload_n hx hb dX3_burden_18 rfl (lv_at hl 0 rfl) ?_
    refine lv_iload hx hb dX3_burden_19 (lv_at hl 4 rfl) ?_
    obtain ⟨o_2, h_2, hf⟩ := bd_some hf
    refine s_callVI (wc := (wT zt qt0 qt1 qt2 qt3 qt4 cI ST)) (wr := []) (wc' := (wT zt qt0 qt1 qt2 qt3 qt4 cI ST)) (w' := [(zt, .inr (2, [.ref qt0, .ref qt1, .ref qt2, .ref qt3, .ref qt4, .int (ST 5 0), .int (ST 6 0)])), (qt0, .inl (cI, 8, .inl (ST 0))), (qt1, .inl (cI, 8, .inl (ST 1))), (qt2, .inl (cI, 8, .inl (ST 2))), (qt3, .inl (cI, 8, .inl (ST 3))), (qt4, .inl (cI, 8, .inl (ST 4)))]) (isC := [0, 1, 2, 3, 4, 5]) (isR := []) (perm := [0, 1, 2, 3, 4, 5]) (As := [.int x4]) (rest := []) (ci := 2) (q := (RX3, TX3, 7)) ⟨hx, hb, hml, hown, hts⟩ (c_X3_isAlive l D cI cJ fu zt qt0 qt1 qt2 qt3 qt4 ST x4 o_2 h_2) (cwV 1 hts gX3_burden_X3_isAlive rfl rfl rfl (by decide +kernel) ⟨Nat.le_of_ble_eq_true rfl, Nat.le_of_ble_eq_true rfl⟩) hK hP hD hS hA ⟨rfl, rfl, by decide, by decide, by decide, by decide, rfl⟩ rfl rfl rfl rfl hl.1 rfl (Nat.le_of_ble_eq_true rfl) dX3_burden_21 (fun H locs hP hD hS => ?_)
    refine lv_if_eq (tgt := 54) hx hb dX3_burden_24 (by decide) (fun c_3 => ?_) (fun c_3 => ?_)
    · have hf := itT c_3 hf
      refine lv_iinc (v := (x4 + (1 : Int32))) (lv' := [(4, .int (x4 + (1 : Int32))), (0, .ref zt), (1, .int x1), (2, .int x2), (3, .int x3)]) hx hb dX3_burden_54 hl (k := 4) rfl rfl (by decide) rfl (fun ls hl => ?_)
      refine lv_goto (tgt := 11) hx hb dX3_burden_57 (by decide) ?_
      exact K11 _ _ _ _ hf _ _ hP hD hS _ (lv_sub hl [1, 2, 3, 4, 0] rfl)
    · have hf := itF c_3 hf
      refine lv_iload_n hx hb dX3_burden_27 rfl (lv_at hl 1 rfl) ?_
      refine lv_iload hx hb dX3_burden_28 (lv_at hl 4 rfl) ?_
      obtain ⟨o_4, h_4, hf⟩ := bd_some hf
      refine s_callSI (wc := []) (wr := [(zt, .inr (2, [.ref qt0, .ref qt1, .ref qt2, .ref qt3, .ref qt4, .int (ST 5 0), .int (ST 6 0)])), (qt0, .inl (cI, 8, .inl (ST 0))), (qt1, .inl (cI, 8, .inl (ST 1))), (qt2, .inl (cI, 8, .inl (ST 2))), (qt3, .inl (cI, 8, .inl (ST 3))), (qt4, .inl (cI, 8, .inl (ST 4)))]) (wc' := []) (w' := [(zt, .inr (2, [.ref qt0, .ref qt1, .ref qt2, .ref qt3, .ref qt4, .int (ST 5 0), .int (ST 6 0)])), (qt0, .inl (cI, 8, .inl (ST 0))), (qt1, .inl (cI, 8, .inl (ST 1))), (qt2, .inl (cI, 8, .inl (ST 2))), (qt3, .inl (cI, 8, .inl (ST 3))), (qt4, .inl (cI, 8, .inl (ST 4)))]) (isC := []) (isR := [0, 1, 2, 3, 4, 5]) (perm := [0, 1, 2, 3, 4, 5]) (As := [.int x1, .int x4]) (rest := []) ⟨hx, hb, hml, hown, hts⟩ (c_X3_holds l D cI cJ fu x1 x4 o_4 h_4) (va_cwS 2 hts gX3_burden_X3_holds rfl rfl rfl (by decide +kernel) ⟨Nat.le_of_ble_eq_true rfl, Nat.le_of_ble_eq_true rfl⟩) hK hP hD hS hA ⟨rfl, rfl, by decide, by decide, by decide, by decide, rfl⟩ rfl hl.1 rfl (Nat.le_of_ble_eq_true rfl) dX3_burden_30 (fun H locs hP hD hS => ?_)
      refine lv_if_ne (tgt := 54) hx hb dX3_burden_33 (by decide) (fun c_5 => ?_) (fun c_5 => ?_)
      · have hf := itF c_5 hf
        refine lv_iinc (v := (x4 + (1 : Int32))) (lv' := [(4, .int (x4 + (1 : Int32))), (0, .ref zt), (1, .int x1), (2, .int x2), (3, .int x3)]) hx hb dX3_burden_54 hl (k := 4) rfl rfl (by decide) rfl (fun ls hl => ?_)
        refine lv_goto (tgt := 11) hx hb dX3_burden_57 (by decide) ?_
        exact K11 _ _ _ _ hf _ _ hP hD hS _ (lv_sub hl [1, 2, 3, 4, 0] rfl)
      · have hf := itT c_5 hf
        refine lv_iload_n hx hb dX3_burden_36 rfl (lv_at hl 3 rfl) ?_
        refine lv_aload_n hx hb dX3_burden_37 rfl (lv_at hl 0 rfl) ?_
        refine va_get (D := D) (ci := 2) (v := .ref qt3) (C := RX3) (T := TX3) (N := 7) hx hb hts i_X3_burden_X3 hown hK hP 0 rfl rfl 3 (by decide) (hts _ q_X3_burden_1) (fun _ h9 => h9) rfl dX3_burden_38 ?_
        refine lv_iload hx hb dX3_burden_41 (lv_at hl 4 rfl) ?_
        obtain ⟨g_6, hf⟩ := gd_some hf
        refine va_iald hx hb hK hP 4 0 rfl rfl g_6 dX3_burden_43 ?_
        refine lv_aload_n hx hb dX3_burden_44 rfl (lv_at hl 0 rfl) ?_
        refine lv_iload hx hb dX3_burden_45 (lv_at hl 4 rfl) ?_
        refine lv_iload_n hx hb dX3_burden_47 rfl (lv_at hl 2 rfl) ?_
        obtain ⟨o_7, h_7, hf⟩ := bd_some hf
        refine s_callVI (wc := (wT zt qt0 qt1 qt2 qt3 qt4 cI ST)) (wr := []) (wc' := (wT zt qt0 qt1 qt2 qt3 qt4 cI ST)) (w' := [(zt, .inr (2, [.ref qt0, .ref qt1, .ref qt2, .ref qt3, .ref qt4, .int (ST 5 0), .int (ST 6 0)])), (qt0, .inl (cI, 8, .inl (ST 0))), (qt1, .inl (cI, 8, .inl (ST 1))), (qt2, .inl (cI, 8, .inl (ST 2))), (qt3, .inl (cI, 8, .inl (ST 3))), (qt4, .inl (cI, 8, .inl (ST 4)))]) (isC := [0, 1, 2, 3, 4, 5]) (isR := []) (perm := [0, 1, 2, 3, 4, 5]) (As := [.int x4, .int x2]) (rest := [.int (ST 3 x4.toNatClampNeg), .int x3]) (ci := 2) (q := (RX3, TX3, 7)) ⟨hx, hb, hml, hown, hts⟩ (c_X3_floorsUp l D cI cJ fu zt qt0 qt1 qt2 qt3 qt4 ST x4 x2 o_7 h_7) (cwV 2 hts gX3_burden_X3_floorsUp rfl rfl rfl (by decide +kernel) ⟨Nat.le_of_ble_eq_true rfl, Nat.le_of_ble_eq_true rfl⟩) hK hP hD hS hA ⟨rfl, rfl, by decide, by decide, by decide, by decide, rfl⟩ rfl rfl rfl rfl hl.1 rfl (Nat.le_of_ble_eq_true rfl) dX3_burden_48 (fun H locs hP hD hS => ?_)
        refine lv_imul hx hb dX3_burden_51 ?_
        refine lv_iadd hx hb dX3_burden_52 ?_
        refine lv_istore_n (lv' := [(3, .int (x3 + ((ST 3 x4.toNatClampNeg) * o_7))), (0, .ref zt), (1, .int x1), (2, .int x2), (4, .int x4)]) hx hb dX3_burden_53 rfl hl (by decide) rfl (fun ls hl => ?_)
        refine lv_iinc (v := (x4 + (1 : Int32))) (lv' := [(4, .int (x4 + (1 : Int32))), (3, .int (x3 + ((ST 3 x4.toNatClampNeg) * o_7))), (0, .ref zt), (1, .int x1), (2, .int x2)]) hx hb dX3_burden_54 hl (k := 4) rfl rfl (by decide) rfl (fun ls hl => ?_)
        refine lv_goto (tgt := 11) hx hb dX3_burden_57 (by decide) ?_
        exact K11 _ _ _ _ hf _ _ hP hD hS _ (lv_sub hl [2, 3, 4, 1, 0] rfl)
theorem t_X3_burden_11 {p : Program} {l : Launch} {e : Env} {s : State} {m : MethodId} {args : Array Value} {below : List Frame} {meth : Method} {c : Code} {D : va_G} {cI cJ : ClassId} {A : Nat → Prop} {fu : Nat} {zt qt0 qt1 qt2 qt3 qt4 : Nat} {ST : S32} {o : Int32} (C0 : Cx RX3 wsX3_burden cX3_burden 5 (some .int) D vwCl (tyS cI cJ) p s m args meth c) (hA : ∀ q : Nat, s.heap.size ≤ q → A q) : ∀ (n : Nat) (x1 : Int32) (x2 : Int32) (x3 : Int32) (x4 : Int32), f_X3_burden_11 fu  ST n x1 x2 x3 x4 = some o → ∀ (H : Heap) (locs : List Loc), va_P D vwCl (wT zt qt0 qt1 qt2 qt3 qt4 cI ST) H → va_D A (wT zt qt0 qt1 qt2 qt3 qt4 cI ST) → va_S A s.heap H locs → ∀ (ls : Array Slot), lv_has ls 5 [(0, .ref zt), (1, .int x1), (2, .int x2), (3, .int x3), (4, .int x4)] → W p l e rm_X3_burden s m args below meth c H locs 0 0 (MQ below (sZi D vwCl (tyS cI cJ) A (wT zt qt0 qt1 qt2 qt3 qt4 cI ST) (o)) args s 0 0 A) (F0 m 11 ls []) := by
  intro n
  induction n with
  | zero =>
    intro x1 x2 x3 x4 hf
    have hf : (none : Option (Int32)) = some o := hf
    cases hf
  | succ n ih => exact ts_X3_burden_11 (fu := fu) (k11 := f_X3_burden_11 fu  ST n) C0 hA  ih
set_option maxHeartbeats 4000000 in
set_option maxRecDepth 100000 in
theorem c_X3_burden (l : Launch) (D : va_G) (cI cJ : ClassId) (fu : Nat) (zt qt0 qt1 qt2 qt3 qt4 : Nat) (ST : S32) (x1 : Int32) (o : Int32) (hf : f_X3_burden fu ST x1 = some o) : MI l yX3_burden wsX3_burden rm_X3_burden D vwCl (tyS cI cJ) [.ref zt, .int x1] (wT zt qt0 qt1 qt2 qt3 qt4 cI ST) (wT zt qt0 qt1 qt2 qt3 qt4 cI ST) (o) := by
  intro sz
  refine s_entry (own := RX3) (cc := cX3_burden) (maxL := 5) (ret := (some .int)) (Qc := fun A => sZi D vwCl (tyS cI cJ) A (wT zt qt0 qt1 qt2 qt3 qt4 cI ST) (o)) rfl (by decide) rfl rfl (Nat.le_of_ble_eq_true rfl) ?_
  intro p e s m args below meth c A C0 hA hP hD hS ls hl
  obtain ⟨hx, hb, hr, hml, hown, hts, hlocks, hK⟩ := id C0
  have hl : lv_has ls 5 [(0, .ref zt), (1, .int x1)] := hl
  have hP : va_P D vwCl [(zt, .inr (2, [.ref qt0, .ref qt1, .ref qt2, .ref qt3, .ref qt4, .int (ST 5 0), .int (ST 6 0)])), (qt0, .inl (cI, 8, .inl (ST 0))), (qt1, .inl (cI, 8, .inl (ST 1))), (qt2, .inl (cI, 8, .inl (ST 2))), (qt3, .inl (cI, 8, .inl (ST 3))), (qt4, .inl (cI, 8, .inl (ST 4)))] s.heap := hP
  have hD : va_D A [(zt, .inr (2, [.ref qt0, .ref qt1, .ref qt2, .ref qt3, .ref qt4, .int (ST 5 0), .int (ST 6 0)])), (qt0, .inl (cI, 8, .inl (ST 0))), (qt1, .inl (cI, 8, .inl (ST 1))), (qt2, .inl (cI, 8, .inl (ST 2))), (qt3, .inl (cI, 8, .inl (ST 3))), (qt4, .inl (cI, 8, .inl (ST 4)))] := hD
  refine lv_aload_n hx hb dX3_burden_0 rfl (lv_at hl 0 rfl) ?_
  refine lv_iload_n hx hb dX3_burden_1 rfl (lv_at hl 1 rfl) ?_
  obtain ⟨o_1, h_1, hf⟩ := bd_some hf
  refine s_callVI (wc := (wT zt qt0 qt1 qt2 qt3 qt4 cI ST)) (wr := []) (wc' := (wT zt qt0 qt1 qt2 qt3 qt4 cI ST)) (w' := [(zt, .inr (2, [.ref qt0, .ref qt1, .ref qt2, .ref qt3, .ref qt4, .int (ST 5 0), .int (ST 6 0)])), (qt0, .inl (cI, 8, .inl (ST 0))), (qt1, .inl (cI, 8, .inl (ST 1))), (qt2, .inl (cI, 8, .inl (ST 2))), (qt3, .inl (cI, 8, .inl (ST 3))), (qt4, .inl (cI, 8, .inl (ST 4)))]) (isC := [0, 1, 2, 3, 4, 5]) (isR := []) (perm := [0, 1, 2, 3, 4, 5]) (As := [.int x1]) (rest := []) (ci := 2) (q := (RX3, TX3, 7)) ⟨hx, hb, hml, hown, hts⟩ (c_X3_floorsOf l D cI cJ fu zt qt0 qt1 qt2 qt3 qt4 ST x1 o_1 h_1) (cwV 1 hts gX3_burden_X3_floorsOf rfl rfl rfl (by decide +kernel) ⟨Nat.le_of_ble_eq_true rfl, Nat.le_of_ble_eq_true rfl⟩) hK hP hD hS hA ⟨rfl, rfl, by decide, by decide, by decide, by decide, rfl⟩ rfl rfl rfl rfl hl.1 rfl (Nat.le_of_ble_eq_true rfl) dX3_burden_2 (fun H locs hP hD hS => ?_)
  refine lv_istore_n (lv' := [(2, .int o_1), (0, .ref zt), (1, .int x1)]) hx hb dX3_burden_5 rfl hl (by decide) rfl (fun ls hl => ?_)
  refine lv_iconst (v := (0 : Int32)) hx hb dX3_burden_6 (by decide) ?_
  refine lv_istore_n (lv' := [(3, .int (0 : Int32)), (2, .int o_1), (0, .ref zt), (1, .int x1)]) hx hb dX3_burden_7 rfl hl (by decide) rfl (fun ls hl => ?_)
  refine lv_iconst (v := (0 : Int32)) hx hb dX3_burden_8 (by decide) ?_
  refine lv_istore (lv' := [(4, .int (0 : Int32)), (3, .int (0 : Int32)), (2, .int o_1), (0, .ref zt), (1, .int x1)]) hx hb dX3_burden_9 hl (by decide) rfl (fun ls hl => ?_)
  exact t_X3_burden_11 (fu := fu) C0 hA  fu _ _ _ _ hf _ _ hP hD hS _ (lv_sub hl [3, 4, 2, 1, 0] rfl)
theorem q_X3_isInRing_1 : (Cond.fieldLink RX3 24 "UpWhenDies$Tower" "wished" "[I" : Cond) ∈ wsX3_isInRing := List.mem_of_getElem? (i := 1) rfl
theorem i_X3_isInRing_X3 : ∀ w ∈ wsX30, w ∈ wsX3_isInRing := fun _ h => (List.mem_cons_of_mem _ (List.mem_append_right _ h))
abbrev rm_X3_isInRing : Room := { frames := 2, cells := 0, slots := 0, locals := 43 }
set_option maxHeartbeats 4000000 in
set_option maxRecDepth 100000 in
theorem t_X3_isInRing_34 {p : Program} {l : Launch} {e : Env} {s : State} {m : MethodId} {args : Array Value} {below : List Frame} {meth : Method} {c : Code} {D : va_G} {cI cJ : ClassId} {A : Nat → Prop} {fu : Nat} {zt qt0 qt1 qt2 qt3 qt4 : Nat} {ST : S32} {o : Int32} (C0 : Cx RX3 wsX3_isInRing cX3_isInRing 4 (some .boolean) D vwCl (tyS cI cJ) p s m args meth c) (hA : ∀ q : Nat, s.heap.size ≤ q → A q) {k4 : Int32 → Int32 → Int32 → Option (Int32)} (K4 : ∀ (x1 : Int32) (x2 : Int32) (x3 : Int32), k4 x1 x2 x3 = some o → ∀ (H : Heap) (locs : List Loc), va_P D vwCl (wT zt qt0 qt1 qt2 qt3 qt4 cI ST) H → va_D A (wT zt qt0 qt1 qt2 qt3 qt4 cI ST) → va_S A s.heap H locs → ∀ (ls : Array Slot), lv_has ls 4 [(0, .ref zt), (1, .int x1), (2, .int x2), (3, .int x3)] → W p l e rm_X3_isInRing s m args below meth c H locs 0 0 (MQ below (sZi D vwCl (tyS cI cJ) A (wT zt qt0 qt1 qt2 qt3 qt4 cI ST) (o)) args s 0 0 A) (F0 m 4 ls [])) : ∀ (x1 : Int32) (x3 : Int32) (y0 : Int32), f_X3_isInRing_34 fu k4 ST x1 x3 y0 = some o → ∀ (H : Heap) (locs : List Loc), va_P D vwCl (wT zt qt0 qt1 qt2 qt3 qt4 cI ST) H → va_D A (wT zt qt0 qt1 qt2 qt3 qt4 cI ST) → va_S A s.heap H locs → ∀ (ls : Array Slot), lv_has ls 4 [(0, .ref zt), (1, .int x1), (3, .int x3)] → W p l e rm_X3_isInRing s m args below meth c H locs 0 0 (MQ below (sZi D vwCl (tyS cI cJ) A (wT zt qt0 qt1 qt2 qt3 qt4 cI ST) (o)) args s 0 0 A) (F0 m 34 ls [.int y0]) := by
  obtain ⟨hx, hb, hr, hml, hown, hts, hlocks, hK⟩ := id C0
  intro x1 x3 y0 hf H locs hP hD hS ls hl
  have hP : va_P D vwCl [(zt, .inr (2, [.ref qt0, .ref qt1, .ref qt2, .ref qt3, .ref qt4, .int (ST 5 0), .int (ST 6 0)])), (qt0, .inl (cI, 8, .inl (ST 0))), (qt1, .inl (cI, 8, .inl (ST 1))), (qt2, .inl (cI, 8, .inl (ST 2))), (qt3, .inl (cI, 8, .inl (ST 3))), (qt4, .inl (cI, 8, .inl (ST 4)))] H := hP
  have hD : va_D A [(zt, .inr (2, [.ref qt0, .ref qt1, .ref qt2, .ref qt3, .ref qt4, .int (ST 5 0), .int (ST 6 0)])), (qt0, .inl (cI, 8, .inl (ST 0))), (qt1, .inl (cI, 8, .inl (ST 1))), (qt2, .inl (cI, 8, .inl (ST 2))), (qt3, .inl (cI, 8, .inl (ST 3))), (qt4, .inl (cI, 8, .inl (ST 4)))] := hD
  refine lv_istore_n (lv' := [(2, .int y0), (0, .ref zt), (1, .int x1), (3, .int x3)]) hx hb dX3_isInRing_34 rfl hl (by decide) rfl (fun ls hl => ?_)
  refine lv_iload_n hx hb dX3_isInRing_35 rfl (lv_at hl 0 rfl) ?_
  refine lv_if_ge (tgt := 41) hx hb dX3_isInRing_36 (by decide) (fun c_1 => ?_) (fun c_1 => ?_)
  · have hf := itT c_1 hf
    refine lv_iload_n hx hb dX3_isInRing_41 rfl (lv_at hl 0 rfl) ?_
    refine lv_iload_n hx hb dX3_isInRing_42 rfl (lv_at hl 2 rfl) ?_
    refine lv_icmp_ne (tgt := 48) hx hb dX3_isInRing_43 (by decide) (fun c_2 => ?_) (fun c_2 => ?_)
    · have hf := itF c_2 hf
      refine lv_iinc (v := (x3 + (1 : Int32))) (lv' := [(3, .int (x3 + (1 : Int32))), (2, .int y0), (0, .ref zt), (1, .int x1)]) hx hb dX3_isInRing_48 hl (k := 3) rfl rfl (by decide) rfl (fun ls hl => ?_)
      refine lv_goto (tgt := 4) hx hb dX3_isInRing_51 (by decide) ?_
      exact K4 _ _ _ hf _ _ hP hD hS _ (lv_sub hl [2, 3, 1, 0] rfl)
    · have hf := itT c_2 hf
      refine lv_iconst (v := (1 : Int32)) hx hb dX3_isInRing_46 (by decide) ?_
      obtain rfl := Option.some.inj hf
      exact s_zret (r := (1 : Int32)) hx hb hr hlocks hK hP hD hS rfl dX3_isInRing_47
  · have hf := itF c_1 hf
    refine lv_iconst (v := (0 : Int32)) hx hb dX3_isInRing_39 (by decide) ?_
    obtain rfl := Option.some.inj hf
    exact s_zret (r := (0 : Int32)) hx hb hr hlocks hK hP hD hS rfl dX3_isInRing_40
set_option maxHeartbeats 4000000 in
set_option maxRecDepth 100000 in
theorem ts_X3_isInRing_4 {p : Program} {l : Launch} {e : Env} {s : State} {m : MethodId} {args : Array Value} {below : List Frame} {meth : Method} {c : Code} {D : va_G} {cI cJ : ClassId} {A : Nat → Prop} {fu : Nat} {zt qt0 qt1 qt2 qt3 qt4 : Nat} {ST : S32} {o : Int32} (C0 : Cx RX3 wsX3_isInRing cX3_isInRing 4 (some .boolean) D vwCl (tyS cI cJ) p s m args meth c) (hA : ∀ q : Nat, s.heap.size ≤ q → A q) {k4 : Int32 → Int32 → Int32 → Option (Int32)} (K4 : ∀ (x1 : Int32) (x2 : Int32) (x3 : Int32), k4 x1 x2 x3 = some o → ∀ (H : Heap) (locs : List Loc), va_P D vwCl (wT zt qt0 qt1 qt2 qt3 qt4 cI ST) H → va_D A (wT zt qt0 qt1 qt2 qt3 qt4 cI ST) → va_S A s.heap H locs → ∀ (ls : Array Slot), lv_has ls 4 [(0, .ref zt), (1, .int x1), (2, .int x2), (3, .int x3)] → W p l e rm_X3_isInRing s m args below meth c H locs 0 0 (MQ below (sZi D vwCl (tyS cI cJ) A (wT zt qt0 qt1 qt2 qt3 qt4 cI ST) (o)) args s 0 0 A) (F0 m 4 ls [])) : ∀ (x1 : Int32) (x2 : Int32) (x3 : Int32), s_X3_isInRing_4 fu  k4 ST x1 x2 x3 = some o → ∀ (H : Heap) (locs : List Loc), va_P D vwCl (wT zt qt0 qt1 qt2 qt3 qt4 cI ST) H → va_D A (wT zt qt0 qt1 qt2 qt3 qt4 cI ST) → va_S A s.heap H locs → ∀ (ls : Array Slot), lv_has ls 4 [(0, .ref zt), (1, .int x1), (2, .int x2), (3, .int x3)] → W p l e rm_X3_isInRing s m args below meth c H locs 0 0 (MQ below (sZi D vwCl (tyS cI cJ) A (wT zt qt0 qt1 qt2 qt3 qt4 cI ST) (o)) args s 0 0 A) (F0 m 4 ls []) := by
  obtain ⟨hx, hb, hr, hml, hown, hts, hlocks, hK⟩ := id C0
  intro x1 x2 x3 hf H locs hP hD hS ls hl
  have hP : va_P D vwCl [(zt, .inr (2, [.ref qt0, .ref qt1, .ref qt2, .ref qt3, .ref qt4, .int (ST 5 0), .int (ST 6 0)])), (qt0, .inl (cI, 8, .inl (ST 0))), (qt1, .inl (cI, 8, .inl (ST 1))), (qt2, .inl (cI, 8, .inl (ST 2))), (qt3, .inl (cI, 8, .inl (ST 3))), (qt4, .inl (cI, 8, .inl (ST 4)))] H := hP
  have hD : va_D A [(zt, .inr (2, [.ref qt0, .ref qt1, .ref qt2, .ref qt3, .ref qt4, .int (ST 5 0), .int (ST 6 0)])), (qt0, .inl (cI, 8, .inl (ST 0))), (qt1, .inl (cI, 8, .inl (ST 1))), (qt2, .inl (cI, 8, .inl (ST 2))), (qt3, .inl (cI, 8, .inl (ST 3))), (qt4, .inl (cI, 8, .inl (ST 4)))] := hD
  refine lv_iload_n hx hb dX3_isInRing_4 rfl (lv_at hl 3 rfl) ?_
  refine lv_bipush (v := (8 : Int32)) hx hb dX3_isInRing_5 (by decide) ?_
  refine lv_icmp_ge (tgt := 54) hx hb dX3_isInRing_7 (by decide) (fun c_1 => ?_) (fun c_1 => ?_)
  · have hf := itT c_1 hf
    refine lv_iconst (v := (0 : Int32)) hx hb dX3_isInRing_54 (by decide) ?_
    obtain rfl := Option.some.inj hf
    exact s_zret (r := (0 : Int32)) hx hb hr hlocks hK hP hD hS rfl dX3_isInRing_55
  · have hf := itF c_1 hf
    refine lv_aload_n hx hb dX3_isInRing_10 rfl (lv_at hl 0 rfl) ?_
    refine va_get (D := D) (ci := 2) (v := .ref qt4) (C := RX3) (T := TX3) (N := 7) hx hb hts i_X3_isInRing_X3 hown hK hP 0 rfl rfl 4 (by decide) (hts _ q_X3_isInRing_1) (fun _ h9 => h9) rfl dX3_isInRing_11 ?_
    refine lv_iload_n hx hb dX3_isInRing_14 rfl (lv_at hl 2 rfl) ?_
    obtain ⟨g_2, hf⟩ := gd_some hf
    refine va_iald hx hb hK hP 5 0 rfl rfl g_2 dX3_isInRing_15 ?_
    refine lv_iconst (v := (-1 : Int32)) hx hb dX3_isInRing_16 (by decide) ?_
    refine lv_icmp_ne (tgt := 24) hx hb dX3_isInRing_17 (by decide) (fun c_3 => ?_) (fun c_3 => ?_)
    · have hf := itF c_3 hf
      refine lv_aload_n hx hb dX3_isInRing_24 rfl (lv_at hl 0 rfl) ?_
      refine lv_aload_n hx hb dX3_isInRing_25 rfl (lv_at hl 0 rfl) ?_
      refine va_get (D := D) (ci := 2) (v := .ref qt4) (C := RX3) (T := TX3) (N := 7) hx hb hts i_X3_isInRing_X3 hown hK hP 0 rfl rfl 4 (by decide) (hts _ q_X3_isInRing_1) (fun _ h9 => h9) rfl dX3_isInRing_26 ?_
      refine lv_iload_n hx hb dX3_isInRing_29 rfl (lv_at hl 2 rfl) ?_
      obtain ⟨g_4, hf⟩ := gd_some hf
      refine va_iald hx hb hK hP 5 0 rfl rfl g_4 dX3_isInRing_30 ?_
      obtain ⟨o_5, h_5, hf⟩ := bd_some hf
      refine s_callVI (wc := (wT zt qt0 qt1 qt2 qt3 qt4 cI ST)) (wr := []) (wc' := (wT zt qt0 qt1 qt2 qt3 qt4 cI ST)) (w' := [(zt, .inr (2, [.ref qt0, .ref qt1, .ref qt2, .ref qt3, .ref qt4, .int (ST 5 0), .int (ST 6 0)])), (qt0, .inl (cI, 8, .inl (ST 0))), (qt1, .inl (cI, 8, .inl (ST 1))), (qt2, .inl (cI, 8, .inl (ST 2))), (qt3, .inl (cI, 8, .inl (ST 3))), (qt4, .inl (cI, 8, .inl (ST 4)))]) (isC := [0, 1, 2, 3, 4, 5]) (isR := []) (perm := [0, 1, 2, 3, 4, 5]) (As := [.int (ST 4 x2.toNatClampNeg)]) (rest := []) (ci := 2) (q := (RX3, TX3, 7)) ⟨hx, hb, hml, hown, hts⟩ (c_X3_whoLivesOn l D cI cJ fu zt qt0 qt1 qt2 qt3 qt4 ST (ST 4 x2.toNatClampNeg) o_5 h_5) (cwV 1 hts gX3_isInRing_X3_whoLivesOn rfl rfl rfl (by decide +kernel) ⟨Nat.le_of_ble_eq_true rfl, Nat.le_of_ble_eq_true rfl⟩) hK hP hD hS hA ⟨rfl, rfl, by decide, by decide, by decide, by decide, rfl⟩ rfl rfl rfl rfl hl.1 rfl (Nat.le_of_ble_eq_true rfl) dX3_isInRing_31 (fun H locs hP hD hS => ?_)
      exact t_X3_isInRing_34 (fu := fu) C0 hA K4 _ _ _ hf _ _ hP hD hS _ (lv_sub hl [0, 1, 3] rfl)
    · have hf := itT c_3 hf
      refine lv_iconst (v := (-1 : Int32)) hx hb dX3_isInRing_20 (by decide) ?_
      refine lv_goto (tgt := 34) hx hb dX3_isInRing_21 (by decide) ?_
      exact t_X3_isInRing_34 (fu := fu) C0 hA K4 _ _ _ hf _ _ hP hD hS _ (lv_sub hl [0, 1, 3] rfl)
theorem t_X3_isInRing_4 {p : Program} {l : Launch} {e : Env} {s : State} {m : MethodId} {args : Array Value} {below : List Frame} {meth : Method} {c : Code} {D : va_G} {cI cJ : ClassId} {A : Nat → Prop} {fu : Nat} {zt qt0 qt1 qt2 qt3 qt4 : Nat} {ST : S32} {o : Int32} (C0 : Cx RX3 wsX3_isInRing cX3_isInRing 4 (some .boolean) D vwCl (tyS cI cJ) p s m args meth c) (hA : ∀ q : Nat, s.heap.size ≤ q → A q) : ∀ (n : Nat) (x1 : Int32) (x2 : Int32) (x3 : Int32), f_X3_isInRing_4 fu  ST n x1 x2 x3 = some o → ∀ (H : Heap) (locs : List Loc), va_P D vwCl (wT zt qt0 qt1 qt2 qt3 qt4 cI ST) H → va_D A (wT zt qt0 qt1 qt2 qt3 qt4 cI ST) → va_S A s.heap H locs → ∀ (ls : Array Slot), lv_has ls 4 [(0, .ref zt), (1, .int x1), (2, .int x2), (3, .int x3)] → W p l e rm_X3_isInRing s m args below meth c H locs 0 0 (MQ below (sZi D vwCl (tyS cI cJ) A (wT zt qt0 qt1 qt2 qt3 qt4 cI ST) (o)) args s 0 0 A) (F0 m 4 ls []) := by
  intro n
  induction n with
  | zero =>
    intro x1 x2 x3 hf
    have hf : (none : Option (Int32)) = some o := hf
    cases hf
  | succ n ih => exact ts_X3_isInRing_4 (fu := fu) (k4 := f_X3_isInRing_4 fu  ST n) C0 hA  ih
set_option maxHeartbeats 4000000 in
set_option maxRecDepth 100000 in
theorem c_X3_isInRing (l : Launch) (D : va_G) (cI cJ : ClassId) (fu : Nat) (zt qt0 qt1 qt2 qt3 qt4 : Nat) (ST : S32) (x1 : Int32) (o : Int32) (hf : f_X3_isInRing fu ST x1 = some o) : MI l yX3_isInRing wsX3_isInRing rm_X3_isInRing D vwCl (tyS cI cJ) [.ref zt, .int x1] (wT zt qt0 qt1 qt2 qt3 qt4 cI ST) (wT zt qt0 qt1 qt2 qt3 qt4 cI ST) (o) := by
  intro sz
  refine s_entry (own := RX3) (cc := cX3_isInRing) (maxL := 4) (ret := (some .boolean)) (Qc := fun A => sZi D vwCl (tyS cI cJ) A (wT zt qt0 qt1 qt2 qt3 qt4 cI ST) (o)) rfl (by decide) rfl rfl (Nat.le_of_ble_eq_true rfl) ?_
  intro p e s m args below meth c A C0 hA hP hD hS ls hl
  obtain ⟨hx, hb, hr, hml, hown, hts, hlocks, hK⟩ := id C0
  have hl : lv_has ls 4 [(0, .ref zt), (1, .int x1)] := hl
  have hP : va_P D vwCl [(zt, .inr (2, [.ref qt0, .ref qt1, .ref qt2, .ref qt3, .ref qt4, .int (ST 5 0), .int (ST 6 0)])), (qt0, .inl (cI, 8, .inl (ST 0))), (qt1, .inl (cI, 8, .inl (ST 1))), (qt2, .inl (cI, 8, .inl (ST 2))), (qt3, .inl (cI, 8, .inl (ST 3))), (qt4, .inl (cI, 8, .inl (ST 4)))] s.heap := hP
  have hD : va_D A [(zt, .inr (2, [.ref qt0, .ref qt1, .ref qt2, .ref qt3, .ref qt4, .int (ST 5 0), .int (ST 6 0)])), (qt0, .inl (cI, 8, .inl (ST 0))), (qt1, .inl (cI, 8, .inl (ST 1))), (qt2, .inl (cI, 8, .inl (ST 2))), (qt3, .inl (cI, 8, .inl (ST 3))), (qt4, .inl (cI, 8, .inl (ST 4)))] := hD
  refine lv_iload_n hx hb dX3_isInRing_0 rfl (lv_at hl 1 rfl) ?_
  refine lv_istore_n (lv' := [(2, .int x1), (0, .ref zt), (1, .int x1)]) hx hb dX3_isInRing_1 rfl hl (by decide) rfl (fun ls hl => ?_)
  refine lv_iconst (v := (0 : Int32)) hx hb dX3_isInRing_2 (by decide) ?_
  refine lv_istore_n (lv' := [(3, .int (0 : Int32)), (2, .int x1), (0, .ref zt), (1, .int x1)]) hx hb dX3_isInRing_3 rfl hl (by decide) rfl (fun ls hl => ?_)
  exact t_X3_isInRing_4 (fu := fu) C0 hA  fu _ _ _ hf _ _ hP hD hS _ (lv_sub hl [2, 3, 1, 0] rfl)
abbrev rm_X3_inRings : Room := { frames := 3, cells := 0, slots := 0, locals := 66 }
set_option maxHeartbeats 4000000 in
set_option maxRecDepth 100000 in
theorem ts_X3_inRings_4 {p : Program} {l : Launch} {e : Env} {s : State} {m : MethodId} {args : Array Value} {below : List Frame} {meth : Method} {c : Code} {D : va_G} {cI cJ : ClassId} {A : Nat → Prop} {fu : Nat} {zt qt0 qt1 qt2 qt3 qt4 : Nat} {ST : S32} {o : Int32} (C0 : Cx RX3 wsX3_inRings cX3_inRings 3 (some .int) D vwCl (tyS cI cJ) p s m args meth c) (hA : ∀ q : Nat, s.heap.size ≤ q → A q) {k4 : Int32 → Int32 → Option (Int32)} (K4 : ∀ (x1 : Int32) (x2 : Int32), k4 x1 x2 = some o → ∀ (H : Heap) (locs : List Loc), va_P D vwCl (wT zt qt0 qt1 qt2 qt3 qt4 cI ST) H → va_D A (wT zt qt0 qt1 qt2 qt3 qt4 cI ST) → va_S A s.heap H locs → ∀ (ls : Array Slot), lv_has ls 3 [(0, .ref zt), (1, .int x1), (2, .int x2)] → W p l e rm_X3_inRings s m args below meth c H locs 0 0 (MQ below (sZi D vwCl (tyS cI cJ) A (wT zt qt0 qt1 qt2 qt3 qt4 cI ST) (o)) args s 0 0 A) (F0 m 4 ls [])) : ∀ (x1 : Int32) (x2 : Int32), s_X3_inRings_4 fu  k4 ST x1 x2 = some o → ∀ (H : Heap) (locs : List Loc), va_P D vwCl (wT zt qt0 qt1 qt2 qt3 qt4 cI ST) H → va_D A (wT zt qt0 qt1 qt2 qt3 qt4 cI ST) → va_S A s.heap H locs → ∀ (ls : Array Slot), lv_has ls 3 [(0, .ref zt), (1, .int x1), (2, .int x2)] → W p l e rm_X3_inRings s m args below meth c H locs 0 0 (MQ below (sZi D vwCl (tyS cI cJ) A (wT zt qt0 qt1 qt2 qt3 qt4 cI ST) (o)) args s 0 0 A) (F0 m 4 ls []) := by
  obtain ⟨hx, hb, hr, hml, hown, hts, hlocks, hK⟩ := id C0
  intro x1 x2 hf H locs hP hD hS ls hl
  have hP : va_P D vwCl [(zt, .inr (2, [.ref qt0, .ref qt1, .ref qt2, .ref qt3, .ref qt4, .int (ST 5 0), .int (ST 6 0)])), (qt0, .inl (cI, 8, .inl (ST 0))), (qt1, .inl (cI, 8, .inl (ST 1))), (qt2, .inl (cI, 8, .inl (ST 2))), (qt3, .inl (cI, 8, .inl (ST 3))), (qt4, .inl (cI, 8, .inl (ST 4)))] H := hP
  have hD : va_D A [(zt, .inr (2, [.ref qt0, .ref qt1, .ref qt2, .ref qt3, .ref qt4, .int (ST 5 0), .int (ST 6 0)])), (qt0, .inl (cI, 8, .inl (ST 0))), (qt1, .inl (cI, 8, .inl (ST 1))), (qt2, .inl (cI, 8, .inl (ST 2))), (qt3, .inl (cI, 8, .inl (ST 3))), (qt4, .inl (cI, 8, .inl (ST 4)))] := hD
  refine lv_iload_n hx hb dX3_inRings_4 rfl (lv_at hl 2 rfl) ?_
  refine lv_bipush (v := (8 : Int32)) hx hb dX3_inRings_5 (by decide) ?_
  refine lv_icmp_ge (tgt := 38) hx hb dX3_inRings_7 (by decide) (fun c_1 => ?_) (fun c_1 => ?_)
  · have hf := itT c_1 hf
    refine lv_iload_n hx hb dX3_inRings_38 rfl (lv_at hl 1 rfl) ?_
    obtain rfl := Option.some.inj hf
    exact s_iret (r := x1) hx hb hr hlocks hK hP hD hS dX3_inRings_39
  · have hf := itF c_1 hf
    refine lv_aload_n hx hb dX3_inRings_10 rfl (lv_at hl 0 rfl) ?_
    refine lv_iload_n hx hb dX3_inRings_11 rfl (lv_at hl 2 rfl) ?_
    obtain ⟨o_2, h_2, hf⟩ := bd_some hf
    refine s_callVI (wc := (wT zt qt0 qt1 qt2 qt3 qt4 cI ST)) (wr := []) (wc' := (wT zt qt0 qt1 qt2 qt3 qt4 cI ST)) (w' := [(zt, .inr (2, [.ref qt0, .ref qt1, .ref qt2, .ref qt3, .ref qt4, .int (ST 5 0), .int (ST 6 0)])), (qt0, .inl (cI, 8, .inl (ST 0))), (qt1, .inl (cI, 8, .inl (ST 1))), (qt2, .inl (cI, 8, .inl (ST 2))), (qt3, .inl (cI, 8, .inl (ST 3))), (qt4, .inl (cI, 8, .inl (ST 4)))]) (isC := [0, 1, 2, 3, 4, 5]) (isR := []) (perm := [0, 1, 2, 3, 4, 5]) (As := [.int x2]) (rest := []) (ci := 2) (q := (RX3, TX3, 7)) ⟨hx, hb, hml, hown, hts⟩ (c_X3_isAlive l D cI cJ fu zt qt0 qt1 qt2 qt3 qt4 ST x2 o_2 h_2) (cwV 1 hts gX3_inRings_X3_isAlive rfl rfl rfl (by decide +kernel) ⟨Nat.le_of_ble_eq_true rfl, Nat.le_of_ble_eq_true rfl⟩) hK hP hD hS hA ⟨rfl, rfl, by decide, by decide, by decide, by decide, rfl⟩ rfl rfl rfl rfl hl.1 rfl (Nat.le_of_ble_eq_true rfl) dX3_inRings_12 (fun H locs hP hD hS => ?_)
    refine lv_if_eq (tgt := 32) hx hb dX3_inRings_15 (by decide) (fun c_3 => ?_) (fun c_3 => ?_)
    · have hf := itT c_3 hf
      refine lv_iinc (v := (x2 + (1 : Int32))) (lv' := [(2, .int (x2 + (1 : Int32))), (0, .ref zt), (1, .int x1)]) hx hb dX3_inRings_32 hl (k := 2) rfl rfl (by decide) rfl (fun ls hl => ?_)
      refine lv_goto (tgt := 4) hx hb dX3_inRings_35 (by decide) ?_
      exact K4 _ _ hf _ _ hP hD hS _ (lv_sub hl [1, 2, 0] rfl)
    · have hf := itF c_3 hf
      refine lv_aload_n hx hb dX3_inRings_18 rfl (lv_at hl 0 rfl) ?_
      refine lv_iload_n hx hb dX3_inRings_19 rfl (lv_at hl 2 rfl) ?_
      obtain ⟨o_4, h_4, hf⟩ := bd_some hf
      refine s_callVI (wc := (wT zt qt0 qt1 qt2 qt3 qt4 cI ST)) (wr := []) (wc' := (wT zt qt0 qt1 qt2 qt3 qt4 cI ST)) (w' := [(zt, .inr (2, [.ref qt0, .ref qt1, .ref qt2, .ref qt3, .ref qt4, .int (ST 5 0), .int (ST 6 0)])), (qt0, .inl (cI, 8, .inl (ST 0))), (qt1, .inl (cI, 8, .inl (ST 1))), (qt2, .inl (cI, 8, .inl (ST 2))), (qt3, .inl (cI, 8, .inl (ST 3))), (qt4, .inl (cI, 8, .inl (ST 4)))]) (isC := [0, 1, 2, 3, 4, 5]) (isR := []) (perm := [0, 1, 2, 3, 4, 5]) (As := [.int x2]) (rest := []) (ci := 2) (q := (RX3, TX3, 7)) ⟨hx, hb, hml, hown, hts⟩ (c_X3_isInRing l D cI cJ fu zt qt0 qt1 qt2 qt3 qt4 ST x2 o_4 h_4) (cwV 1 hts gX3_inRings_X3_isInRing rfl rfl rfl (by decide +kernel) ⟨Nat.le_of_ble_eq_true rfl, Nat.le_of_ble_eq_true rfl⟩) hK hP hD hS hA ⟨rfl, rfl, by decide, by decide, by decide, by decide, rfl⟩ rfl rfl rfl rfl hl.1 rfl (Nat.le_of_ble_eq_true rfl) dX3_inRings_20 (fun H locs hP hD hS => ?_)
      refine lv_if_eq (tgt := 32) hx hb dX3_inRings_23 (by decide) (fun c_5 => ?_) (fun c_5 => ?_)
      · have hf := itT c_5 hf
        refine lv_iinc (v := (x2 + (1 : Int32))) (lv' := [(2, .int (x2 + (1 : Int32))), (0, .ref zt), (1, .int x1)]) hx hb dX3_inRings_32 hl (k := 2) rfl rfl (by decide) rfl (fun ls hl => ?_)
        refine lv_goto (tgt := 4) hx hb dX3_inRings_35 (by decide) ?_
        exact K4 _ _ hf _ _ hP hD hS _ (lv_sub hl [1, 2, 0] rfl)
      · have hf := itF c_5 hf
        refine lv_iload_n hx hb dX3_inRings_26 rfl (lv_at hl 1 rfl) ?_
        refine lv_iconst (v := (1 : Int32)) hx hb dX3_inRings_27 (by decide) ?_
        refine lv_iload_n hx hb dX3_inRings_28 rfl (lv_at hl 2 rfl) ?_
        refine lv_ishl hx hb dX3_inRings_29 ?_
        refine lv_ior hx hb dX3_inRings_30 ?_
        refine lv_istore_n (lv' := [(1, .int (x1 ||| ((1 : Int32) <<< (x2 &&& 31)))), (0, .ref zt), (2, .int x2)]) hx hb dX3_inRings_31 rfl hl (by decide) rfl (fun ls hl => ?_)
        refine lv_iinc (v := (x2 + (1 : Int32))) (lv' := [(2, .int (x2 + (1 : Int32))), (1, .int (x1 ||| ((1 : Int32) <<< (x2 &&& 31)))), (0, .ref zt)]) hx hb dX3_inRings_32 hl (k := 2) rfl rfl (by decide) rfl (fun ls hl => ?_)
        refine lv_goto (tgt := 4) hx hb dX3_inRings_35 (by decide) ?_
        exact K4 _ _ hf _ _ hP hD hS _ (lv_sub hl [2, 1, 0] rfl)
theorem t_X3_inRings_4 {p : Program} {l : Launch} {e : Env} {s : State} {m : MethodId} {args : Array Value} {below : List Frame} {meth : Method} {c : Code} {D : va_G} {cI cJ : ClassId} {A : Nat → Prop} {fu : Nat} {zt qt0 qt1 qt2 qt3 qt4 : Nat} {ST : S32} {o : Int32} (C0 : Cx RX3 wsX3_inRings cX3_inRings 3 (some .int) D vwCl (tyS cI cJ) p s m args meth c) (hA : ∀ q : Nat, s.heap.size ≤ q → A q) : ∀ (n : Nat) (x1 : Int32) (x2 : Int32), f_X3_inRings_4 fu  ST n x1 x2 = some o → ∀ (H : Heap) (locs : List Loc), va_P D vwCl (wT zt qt0 qt1 qt2 qt3 qt4 cI ST) H → va_D A (wT zt qt0 qt1 qt2 qt3 qt4 cI ST) → va_S A s.heap H locs → ∀ (ls : Array Slot), lv_has ls 3 [(0, .ref zt), (1, .int x1), (2, .int x2)] → W p l e rm_X3_inRings s m args below meth c H locs 0 0 (MQ below (sZi D vwCl (tyS cI cJ) A (wT zt qt0 qt1 qt2 qt3 qt4 cI ST) (o)) args s 0 0 A) (F0 m 4 ls []) := by
  intro n
  induction n with
  | zero =>
    intro x1 x2 hf
    have hf : (none : Option (Int32)) = some o := hf
    cases hf
  | succ n ih => exact ts_X3_inRings_4 (fu := fu) (k4 := f_X3_inRings_4 fu  ST n) C0 hA  ih
set_option maxHeartbeats 4000000 in
set_option maxRecDepth 100000 in
theorem c_X3_inRings (l : Launch) (D : va_G) (cI cJ : ClassId) (fu : Nat) (zt qt0 qt1 qt2 qt3 qt4 : Nat) (ST : S32) (o : Int32) (hf : f_X3_inRings fu ST = some o) : MI l yX3_inRings wsX3_inRings rm_X3_inRings D vwCl (tyS cI cJ) [.ref zt] (wT zt qt0 qt1 qt2 qt3 qt4 cI ST) (wT zt qt0 qt1 qt2 qt3 qt4 cI ST) (o) := by
  intro sz
  refine s_entry (own := RX3) (cc := cX3_inRings) (maxL := 3) (ret := (some .int)) (Qc := fun A => sZi D vwCl (tyS cI cJ) A (wT zt qt0 qt1 qt2 qt3 qt4 cI ST) (o)) rfl (by decide) rfl rfl (Nat.le_of_ble_eq_true rfl) ?_
  intro p e s m args below meth c A C0 hA hP hD hS ls hl
  obtain ⟨hx, hb, hr, hml, hown, hts, hlocks, hK⟩ := id C0
  have hl : lv_has ls 3 [(0, .ref zt)] := hl
  have hP : va_P D vwCl [(zt, .inr (2, [.ref qt0, .ref qt1, .ref qt2, .ref qt3, .ref qt4, .int (ST 5 0), .int (ST 6 0)])), (qt0, .inl (cI, 8, .inl (ST 0))), (qt1, .inl (cI, 8, .inl (ST 1))), (qt2, .inl (cI, 8, .inl (ST 2))), (qt3, .inl (cI, 8, .inl (ST 3))), (qt4, .inl (cI, 8, .inl (ST 4)))] s.heap := hP
  have hD : va_D A [(zt, .inr (2, [.ref qt0, .ref qt1, .ref qt2, .ref qt3, .ref qt4, .int (ST 5 0), .int (ST 6 0)])), (qt0, .inl (cI, 8, .inl (ST 0))), (qt1, .inl (cI, 8, .inl (ST 1))), (qt2, .inl (cI, 8, .inl (ST 2))), (qt3, .inl (cI, 8, .inl (ST 3))), (qt4, .inl (cI, 8, .inl (ST 4)))] := hD
  refine lv_iconst (v := (0 : Int32)) hx hb dX3_inRings_0 (by decide) ?_
  refine lv_istore_n (lv' := [(1, .int (0 : Int32)), (0, .ref zt)]) hx hb dX3_inRings_1 rfl hl (by decide) rfl (fun ls hl => ?_)
  refine lv_iconst (v := (0 : Int32)) hx hb dX3_inRings_2 (by decide) ?_
  refine lv_istore_n (lv' := [(2, .int (0 : Int32)), (1, .int (0 : Int32)), (0, .ref zt)]) hx hb dX3_inRings_3 rfl hl (by decide) rfl (fun ls hl => ?_)
  exact t_X3_inRings_4 (fu := fu) C0 hA  fu _ _ hf _ _ hP hD hS _ (lv_sub hl [2, 1, 0] rfl)
theorem q_X3_changeRings_1 : (Cond.fieldLink RX3 18 "UpWhenDies$Tower" "floor" "[I" : Cond) ∈ wsX3_changeRings := List.mem_of_getElem? (i := 1) rfl
theorem q_X3_changeRings_2 : (Cond.fieldLink RX3 24 "UpWhenDies$Tower" "wished" "[I" : Cond) ∈ wsX3_changeRings := List.mem_of_getElem? (i := 2) rfl
theorem i_X3_changeRings_X3 : ∀ w ∈ wsX30, w ∈ wsX3_changeRings := fun _ h => (List.mem_cons_of_mem _ (List.mem_append_right _ h))
abbrev rm_X3_changeRings : Room := { frames := 4, cells := 0, slots := 0, locals := 88 }
set_option maxHeartbeats 4000000 in
set_option maxRecDepth 100000 in
theorem t_X3_changeRings_44 {p : Program} {l : Launch} {e : Env} {s : State} {m : MethodId} {args : Array Value} {below : List Frame} {meth : Method} {c : Code} {D : va_G} {cI cJ : ClassId} {A : Nat → Prop} {fu : Nat} {zt qt0 qt1 qt2 qt3 qt4 : Nat} {o : Int32 × S32} (C0 : Cx RX3 wsX3_changeRings cX3_changeRings 4 (some .int) D vwCl (tyS cI cJ) p s m args meth c) (hA : ∀ q : Nat, s.heap.size ≤ q → A q) {k9 : Int32 → Int32 → Int32 → S32 → Option (Int32 × S32)} (K9 : ∀ (x1 : Int32) (x2 : Int32) (x3 : Int32) (ST : S32), k9 x1 x2 x3 ST = some o → ∀ (H : Heap) (locs : List Loc), va_P D vwCl (wT zt qt0 qt1 qt2 qt3 qt4 cI ST) H → va_D A (wT zt qt0 qt1 qt2 qt3 qt4 cI ST) → va_S A s.heap H locs → ∀ (ls : Array Slot), lv_has ls 4 [(0, .ref zt), (1, .int x1), (2, .int x2), (3, .int x3)] → W p l e rm_X3_changeRings s m args below meth c H locs 0 0 (MQ below (sZi D vwCl (tyS cI cJ) A (wT zt qt0 qt1 qt2 qt3 qt4 cI (o.2)) (o.1)) args s 0 0 A) (F0 m 9 ls [])) : ∀ (x1 : Int32) (x2 : Int32) (x3 : Int32) (ST : S32), f_X3_changeRings_44 fu k9  x1 x2 x3 ST = some o → ∀ (H : Heap) (locs : List Loc), va_P D vwCl (wT zt qt0 qt1 qt2 qt3 qt4 cI ST) H → va_D A (wT zt qt0 qt1 qt2 qt3 qt4 cI ST) → va_S A s.heap H locs → ∀ (ls : Array Slot), lv_has ls 4 [(0, .ref zt), (1, .int x1), (2, .int x2), (3, .int x3)] → W p l e rm_X3_changeRings s m args below meth c H locs 0 0 (MQ below (sZi D vwCl (tyS cI cJ) A (wT zt qt0 qt1 qt2 qt3 qt4 cI (o.2)) (o.1)) args s 0 0 A) (F0 m 44 ls []) := by
  obtain ⟨hx, hb, hr, hml, hown, hts, hlocks, hK⟩ := id C0
  intro x1 x2 x3 ST hf H locs hP hD hS ls hl
  have hP : va_P D vwCl [(zt, .inr (2, [.ref qt0, .ref qt1, .ref qt2, .ref qt3, .ref qt4, .int (ST 5 0), .int (ST 6 0)])), (qt0, .inl (cI, 8, .inl (ST 0))), (qt1, .inl (cI, 8, .inl (ST 1))), (qt2, .inl (cI, 8, .inl (ST 2))), (qt3, .inl (cI, 8, .inl (ST 3))), (qt4, .inl (cI, 8, .inl (ST 4)))] H := hP
  have hD : va_D A [(zt, .inr (2, [.ref qt0, .ref qt1, .ref qt2, .ref qt3, .ref qt4, .int (ST 5 0), .int (ST 6 0)])), (qt0, .inl (cI, 8, .inl (ST 0))), (qt1, .inl (cI, 8, .inl (ST 1))), (qt2, .inl (cI, 8, .inl (ST 2))), (qt3, .inl (cI, 8, .inl (ST 3))), (qt4, .inl (cI, 8, .inl (ST 4)))] := hD
  refine lv_aload_n hx hb dX3_changeRings_44 rfl (lv_at hl 0 rfl) ?_
  refine va_get (D := D) (ci := 2) (v := .ref qt2) (C := RX3) (T := TX3) (N := 7) hx hb hts i_X3_changeRings_X3 hown hK hP 0 rfl rfl 2 (by decide) (hts _ q_X3_changeRings_1) (fun _ h9 => h9) rfl dX3_changeRings_45 ?_
  refine lv_iload_n hx hb dX3_changeRings_48 rfl (lv_at hl 3 rfl) ?_
  refine lv_aload_n hx hb dX3_changeRings_49 rfl (lv_at hl 0 rfl) ?_
  refine va_get (D := D) (ci := 2) (v := .ref qt4) (C := RX3) (T := TX3) (N := 7) hx hb hts i_X3_changeRings_X3 hown hK hP 0 rfl rfl 4 (by decide) (hts _ q_X3_changeRings_2) (fun _ h9 => h9) rfl dX3_changeRings_50 ?_
  refine lv_iload_n hx hb dX3_changeRings_53 rfl (lv_at hl 3 rfl) ?_
  obtain ⟨g_1, hf⟩ := gd_some hf
  refine va_iald hx hb hK hP 5 0 rfl rfl g_1 dX3_changeRings_54 ?_
  obtain ⟨g_2, hf⟩ := gd_some hf
  refine va_iast hx hb hK hP hD hS 3 0 rfl rfl g_2 dX3_changeRings_55 (fun H locs hP hD hS => ?_)
  have hP : va_P D vwCl [(zt, .inr (2, [.ref qt0, .ref qt1, .ref qt2, .ref qt3, .ref qt4, .int (ST 5 0), .int (ST 6 0)])), (qt0, .inl (cI, 8, .inl (ST 0))), (qt1, .inl (cI, 8, .inl (ST 1))), (qt2, .inl (cI, 8, .inl (upd (ST 2) x3.toNatClampNeg (ST 4 x3.toNatClampNeg)))), (qt3, .inl (cI, 8, .inl (ST 3))), (qt4, .inl (cI, 8, .inl (ST 4)))] H := hP
  have hD : va_D A [(zt, .inr (2, [.ref qt0, .ref qt1, .ref qt2, .ref qt3, .ref qt4, .int (ST 5 0), .int (ST 6 0)])), (qt0, .inl (cI, 8, .inl (ST 0))), (qt1, .inl (cI, 8, .inl (ST 1))), (qt2, .inl (cI, 8, .inl (upd (ST 2) x3.toNatClampNeg (ST 4 x3.toNatClampNeg)))), (qt3, .inl (cI, 8, .inl (ST 3))), (qt4, .inl (cI, 8, .inl (ST 4)))] := hD
  refine lv_aload_n hx hb dX3_changeRings_56 rfl (lv_at hl 0 rfl) ?_
  refine va_get (D := D) (ci := 2) (v := .ref qt4) (C := RX3) (T := TX3) (N := 7) hx hb hts i_X3_changeRings_X3 hown hK hP 0 rfl rfl 4 (by decide) (hts _ q_X3_changeRings_2) (fun _ h9 => h9) rfl dX3_changeRings_57 ?_
  refine lv_iload_n hx hb dX3_changeRings_60 rfl (lv_at hl 3 rfl) ?_
  refine lv_iconst (v := (-1 : Int32)) hx hb dX3_changeRings_61 (by decide) ?_
  obtain ⟨g_3, hf⟩ := gd_some hf
  refine va_iast hx hb hK hP hD hS 5 0 rfl rfl g_3 dX3_changeRings_62 (fun H locs hP hD hS => ?_)
  have hP : va_P D vwCl [(zt, .inr (2, [.ref qt0, .ref qt1, .ref qt2, .ref qt3, .ref qt4, .int (ST 5 0), .int (ST 6 0)])), (qt0, .inl (cI, 8, .inl (ST 0))), (qt1, .inl (cI, 8, .inl (ST 1))), (qt2, .inl (cI, 8, .inl (upd (ST 2) x3.toNatClampNeg (ST 4 x3.toNatClampNeg)))), (qt3, .inl (cI, 8, .inl (ST 3))), (qt4, .inl (cI, 8, .inl (upd (ST 4) x3.toNatClampNeg (-1 : Int32))))] H := hP
  have hD : va_D A [(zt, .inr (2, [.ref qt0, .ref qt1, .ref qt2, .ref qt3, .ref qt4, .int (ST 5 0), .int (ST 6 0)])), (qt0, .inl (cI, 8, .inl (ST 0))), (qt1, .inl (cI, 8, .inl (ST 1))), (qt2, .inl (cI, 8, .inl (upd (ST 2) x3.toNatClampNeg (ST 4 x3.toNatClampNeg)))), (qt3, .inl (cI, 8, .inl (ST 3))), (qt4, .inl (cI, 8, .inl (upd (ST 4) x3.toNatClampNeg (-1 : Int32))))] := hD
  refine lv_iinc (v := (x3 + (1 : Int32))) (lv' := [(3, .int (x3 + (1 : Int32))), (0, .ref zt), (1, .int x1), (2, .int x2)]) hx hb dX3_changeRings_63 hl (k := 3) rfl rfl (by decide) rfl (fun ls hl => ?_)
  refine lv_goto (tgt := 9) hx hb dX3_changeRings_66 (by decide) ?_
  exact K9 _ _ _ _ hf _ _ hP hD hS _ (lv_sub hl [1, 2, 3, 0] rfl)
set_option maxHeartbeats 4000000 in
set_option maxRecDepth 100000 in
theorem ts_X3_changeRings_9 {p : Program} {l : Launch} {e : Env} {s : State} {m : MethodId} {args : Array Value} {below : List Frame} {meth : Method} {c : Code} {D : va_G} {cI cJ : ClassId} {A : Nat → Prop} {fu : Nat} {zt qt0 qt1 qt2 qt3 qt4 : Nat} {o : Int32 × S32} (C0 : Cx RX3 wsX3_changeRings cX3_changeRings 4 (some .int) D vwCl (tyS cI cJ) p s m args meth c) (hA : ∀ q : Nat, s.heap.size ≤ q → A q) {k9 : Int32 → Int32 → Int32 → S32 → Option (Int32 × S32)} (K9 : ∀ (x1 : Int32) (x2 : Int32) (x3 : Int32) (ST : S32), k9 x1 x2 x3 ST = some o → ∀ (H : Heap) (locs : List Loc), va_P D vwCl (wT zt qt0 qt1 qt2 qt3 qt4 cI ST) H → va_D A (wT zt qt0 qt1 qt2 qt3 qt4 cI ST) → va_S A s.heap H locs → ∀ (ls : Array Slot), lv_has ls 4 [(0, .ref zt), (1, .int x1), (2, .int x2), (3, .int x3)] → W p l e rm_X3_changeRings s m args below meth c H locs 0 0 (MQ below (sZi D vwCl (tyS cI cJ) A (wT zt qt0 qt1 qt2 qt3 qt4 cI (o.2)) (o.1)) args s 0 0 A) (F0 m 9 ls [])) : ∀ (x1 : Int32) (x2 : Int32) (x3 : Int32) (ST : S32), s_X3_changeRings_9 fu  k9  x1 x2 x3 ST = some o → ∀ (H : Heap) (locs : List Loc), va_P D vwCl (wT zt qt0 qt1 qt2 qt3 qt4 cI ST) H → va_D A (wT zt qt0 qt1 qt2 qt3 qt4 cI ST) → va_S A s.heap H locs → ∀ (ls : Array Slot), lv_has ls 4 [(0, .ref zt), (1, .int x1), (2, .int x2), (3, .int x3)] → W p l e rm_X3_changeRings s m args below meth c H locs 0 0 (MQ below (sZi D vwCl (tyS cI cJ) A (wT zt qt0 qt1 qt2 qt3 qt4 cI (o.2)) (o.1)) args s 0 0 A) (F0 m 9 ls []) := by
  obtain ⟨hx, hb, hr, hml, hown, hts, hlocks, hK⟩ := id C0
  intro x1 x2 x3 ST hf H locs hP hD hS ls hl
  have hP : va_P D vwCl [(zt, .inr (2, [.ref qt0, .ref qt1, .ref qt2, .ref qt3, .ref qt4, .int (ST 5 0), .int (ST 6 0)])), (qt0, .inl (cI, 8, .inl (ST 0))), (qt1, .inl (cI, 8, .inl (ST 1))), (qt2, .inl (cI, 8, .inl (ST 2))), (qt3, .inl (cI, 8, .inl (ST 3))), (qt4, .inl (cI, 8, .inl (ST 4)))] H := hP
  have hD : va_D A [(zt, .inr (2, [.ref qt0, .ref qt1, .ref qt2, .ref qt3, .ref qt4, .int (ST 5 0), .int (ST 6 0)])), (qt0, .inl (cI, 8, .inl (ST 0))), (qt1, .inl (cI, 8, .inl (ST 1))), (qt2, .inl (cI, 8, .inl (ST 2))), (qt3, .inl (cI, 8, .inl (ST 3))), (qt4, .inl (cI, 8, .inl (ST 4)))] := hD
  refine lv_iload_n hx hb dX3_changeRings_9 rfl (lv_at hl 3 rfl) ?_
  refine lv_bipush (v := (8 : Int32)) hx hb dX3_changeRings_10 (by decide) ?_
  refine lv_icmp_ge (tgt := 69) hx hb dX3_changeRings_12 (by decide) (fun c_1 => ?_) (fun c_1 => ?_)
  · have hf := itT c_1 hf
    refine lv_iload_n hx hb dX3_changeRings_69 rfl (lv_at hl 2 rfl) ?_
    obtain rfl := Option.some.inj hf
    exact s_iret (r := x2) hx hb hr hlocks hK hP hD hS dX3_changeRings_70
  · have hf := itF c_1 hf
    refine lv_iload_n hx hb dX3_changeRings_15 rfl (lv_at hl 1 rfl) ?_
    refine lv_iload_n hx hb dX3_changeRings_16 rfl (lv_at hl 3 rfl) ?_
    obtain ⟨o_2, h_2, hf⟩ := bd_some hf
    refine s_callSI (wc := []) (wr := [(zt, .inr (2, [.ref qt0, .ref qt1, .ref qt2, .ref qt3, .ref qt4, .int (ST 5 0), .int (ST 6 0)])), (qt0, .inl (cI, 8, .inl (ST 0))), (qt1, .inl (cI, 8, .inl (ST 1))), (qt2, .inl (cI, 8, .inl (ST 2))), (qt3, .inl (cI, 8, .inl (ST 3))), (qt4, .inl (cI, 8, .inl (ST 4)))]) (wc' := []) (w' := [(zt, .inr (2, [.ref qt0, .ref qt1, .ref qt2, .ref qt3, .ref qt4, .int (ST 5 0), .int (ST 6 0)])), (qt0, .inl (cI, 8, .inl (ST 0))), (qt1, .inl (cI, 8, .inl (ST 1))), (qt2, .inl (cI, 8, .inl (ST 2))), (qt3, .inl (cI, 8, .inl (ST 3))), (qt4, .inl (cI, 8, .inl (ST 4)))]) (isC := []) (isR := [0, 1, 2, 3, 4, 5]) (perm := [0, 1, 2, 3, 4, 5]) (As := [.int x1, .int x3]) (rest := []) ⟨hx, hb, hml, hown, hts⟩ (c_X3_holds l D cI cJ fu x1 x3 o_2 h_2) (va_cwS 2 hts gX3_changeRings_X3_holds rfl rfl rfl (by decide +kernel) ⟨Nat.le_of_ble_eq_true rfl, Nat.le_of_ble_eq_true rfl⟩) hK hP hD hS hA ⟨rfl, rfl, by decide, by decide, by decide, by decide, rfl⟩ rfl hl.1 rfl (Nat.le_of_ble_eq_true rfl) dX3_changeRings_17 (fun H locs hP hD hS => ?_)
    refine lv_if_ne (tgt := 26) hx hb dX3_changeRings_20 (by decide) (fun c_3 => ?_) (fun c_3 => ?_)
    · have hf := itF c_3 hf
      refine lv_aload_n hx hb dX3_changeRings_26 rfl (lv_at hl 0 rfl) ?_
      refine va_get (D := D) (ci := 2) (v := .ref qt2) (C := RX3) (T := TX3) (N := 7) hx hb hts i_X3_changeRings_X3 hown hK hP 0 rfl rfl 2 (by decide) (hts _ q_X3_changeRings_1) (fun _ h9 => h9) rfl dX3_changeRings_27 ?_
      refine lv_iload_n hx hb dX3_changeRings_30 rfl (lv_at hl 3 rfl) ?_
      obtain ⟨g_4, hf⟩ := gd_some hf
      refine va_iald hx hb hK hP 3 0 rfl rfl g_4 dX3_changeRings_31 ?_
      refine lv_aload_n hx hb dX3_changeRings_32 rfl (lv_at hl 0 rfl) ?_
      refine va_get (D := D) (ci := 2) (v := .ref qt4) (C := RX3) (T := TX3) (N := 7) hx hb hts i_X3_changeRings_X3 hown hK hP 0 rfl rfl 4 (by decide) (hts _ q_X3_changeRings_2) (fun _ h9 => h9) rfl dX3_changeRings_33 ?_
      refine lv_iload_n hx hb dX3_changeRings_36 rfl (lv_at hl 3 rfl) ?_
      obtain ⟨g_5, hf⟩ := gd_some hf
      refine va_iald hx hb hK hP 5 0 rfl rfl g_5 dX3_changeRings_37 ?_
      refine lv_icmp_eq (tgt := 44) hx hb dX3_changeRings_38 (by decide) (fun c_6 => ?_) (fun c_6 => ?_)
      · have hf := itT c_6 hf
        exact t_X3_changeRings_44 (fu := fu) C0 hA K9 _ _ _ _ hf _ _ hP hD hS _ (lv_sub hl [0, 1, 2, 3] rfl)
      · have hf := itF c_6 hf
        refine lv_iinc (v := (x2 + (1 : Int32))) (lv' := [(2, .int (x2 + (1 : Int32))), (0, .ref zt), (1, .int x1), (3, .int x3)]) hx hb dX3_changeRings_41 hl (k := 2) rfl rfl (by decide) rfl (fun ls hl => ?_)
        exact t_X3_changeRings_44 (fu := fu) C0 hA K9 _ _ _ _ hf _ _ hP hD hS _ (lv_sub hl [1, 2, 0, 3] rfl)
    · have hf := itT c_3 hf
      refine lv_goto (tgt := 63) hx hb dX3_changeRings_23 (by decide) ?_
      refine lv_iinc (v := (x3 + (1 : Int32))) (lv' := [(3, .int (x3 + (1 : Int32))), (0, .ref zt), (1, .int x1), (2, .int x2)]) hx hb dX3_changeRings_63 hl (k := 3) rfl rfl (by decide) rfl (fun ls hl => ?_)
      refine lv_goto (tgt := 9) hx hb dX3_changeRings_66 (by decide) ?_
      exact K9 _ _ _ _ hf _ _ hP hD hS _ (lv_sub hl [1, 2, 3, 0] rfl)
theorem t_X3_changeRings_9 {p : Program} {l : Launch} {e : Env} {s : State} {m : MethodId} {args : Array Value} {below : List Frame} {meth : Method} {c : Code} {D : va_G} {cI cJ : ClassId} {A : Nat → Prop} {fu : Nat} {zt qt0 qt1 qt2 qt3 qt4 : Nat} {o : Int32 × S32} (C0 : Cx RX3 wsX3_changeRings cX3_changeRings 4 (some .int) D vwCl (tyS cI cJ) p s m args meth c) (hA : ∀ q : Nat, s.heap.size ≤ q → A q) : ∀ (n : Nat) (x1 : Int32) (x2 : Int32) (x3 : Int32) (ST : S32), f_X3_changeRings_9 fu   n x1 x2 x3 ST = some o → ∀ (H : Heap) (locs : List Loc), va_P D vwCl (wT zt qt0 qt1 qt2 qt3 qt4 cI ST) H → va_D A (wT zt qt0 qt1 qt2 qt3 qt4 cI ST) → va_S A s.heap H locs → ∀ (ls : Array Slot), lv_has ls 4 [(0, .ref zt), (1, .int x1), (2, .int x2), (3, .int x3)] → W p l e rm_X3_changeRings s m args below meth c H locs 0 0 (MQ below (sZi D vwCl (tyS cI cJ) A (wT zt qt0 qt1 qt2 qt3 qt4 cI (o.2)) (o.1)) args s 0 0 A) (F0 m 9 ls []) := by
  intro n
  induction n with
  | zero =>
    intro x1 x2 x3 ST hf
    have hf : (none : Option (Int32 × S32)) = some o := hf
    cases hf
  | succ n ih => exact ts_X3_changeRings_9 (fu := fu) (k9 := f_X3_changeRings_9 fu   n) C0 hA  ih
set_option maxHeartbeats 4000000 in
set_option maxRecDepth 100000 in
theorem c_X3_changeRings (l : Launch) (D : va_G) (cI cJ : ClassId) (fu : Nat) (zt qt0 qt1 qt2 qt3 qt4 : Nat) (ST : S32) (o : Int32 × S32) (hf : f_X3_changeRings fu ST = some o) : MI l yX3_changeRings wsX3_changeRings rm_X3_changeRings D vwCl (tyS cI cJ) [.ref zt] (wT zt qt0 qt1 qt2 qt3 qt4 cI ST) (wT zt qt0 qt1 qt2 qt3 qt4 cI (o.2)) (o.1) := by
  intro sz
  refine s_entry (own := RX3) (cc := cX3_changeRings) (maxL := 4) (ret := (some .int)) (Qc := fun A => sZi D vwCl (tyS cI cJ) A (wT zt qt0 qt1 qt2 qt3 qt4 cI (o.2)) (o.1)) rfl (by decide) rfl rfl (Nat.le_of_ble_eq_true rfl) ?_
  intro p e s m args below meth c A C0 hA hP hD hS ls hl
  obtain ⟨hx, hb, hr, hml, hown, hts, hlocks, hK⟩ := id C0
  have hl : lv_has ls 4 [(0, .ref zt)] := hl
  have hP : va_P D vwCl [(zt, .inr (2, [.ref qt0, .ref qt1, .ref qt2, .ref qt3, .ref qt4, .int (ST 5 0), .int (ST 6 0)])), (qt0, .inl (cI, 8, .inl (ST 0))), (qt1, .inl (cI, 8, .inl (ST 1))), (qt2, .inl (cI, 8, .inl (ST 2))), (qt3, .inl (cI, 8, .inl (ST 3))), (qt4, .inl (cI, 8, .inl (ST 4)))] s.heap := hP
  have hD : va_D A [(zt, .inr (2, [.ref qt0, .ref qt1, .ref qt2, .ref qt3, .ref qt4, .int (ST 5 0), .int (ST 6 0)])), (qt0, .inl (cI, 8, .inl (ST 0))), (qt1, .inl (cI, 8, .inl (ST 1))), (qt2, .inl (cI, 8, .inl (ST 2))), (qt3, .inl (cI, 8, .inl (ST 3))), (qt4, .inl (cI, 8, .inl (ST 4)))] := hD
  refine lv_aload_n hx hb dX3_changeRings_0 rfl (lv_at hl 0 rfl) ?_
  obtain ⟨o_1, h_1, hf⟩ := bd_some hf
  refine s_callVI (wc := (wT zt qt0 qt1 qt2 qt3 qt4 cI ST)) (wr := []) (wc' := (wT zt qt0 qt1 qt2 qt3 qt4 cI ST)) (w' := [(zt, .inr (2, [.ref qt0, .ref qt1, .ref qt2, .ref qt3, .ref qt4, .int (ST 5 0), .int (ST 6 0)])), (qt0, .inl (cI, 8, .inl (ST 0))), (qt1, .inl (cI, 8, .inl (ST 1))), (qt2, .inl (cI, 8, .inl (ST 2))), (qt3, .inl (cI, 8, .inl (ST 3))), (qt4, .inl (cI, 8, .inl (ST 4)))]) (isC := [0, 1, 2, 3, 4, 5]) (isR := []) (perm := [0, 1, 2, 3, 4, 5]) (As := []) (rest := []) (ci := 2) (q := (RX3, TX3, 7)) ⟨hx, hb, hml, hown, hts⟩ (c_X3_inRings l D cI cJ fu zt qt0 qt1 qt2 qt3 qt4 ST o_1 h_1) (cwV 0 hts gX3_changeRings_X3_inRings rfl rfl rfl (by decide +kernel) ⟨Nat.le_of_ble_eq_true rfl, Nat.le_of_ble_eq_true rfl⟩) hK hP hD hS hA ⟨rfl, rfl, by decide, by decide, by decide, by decide, rfl⟩ rfl rfl rfl rfl hl.1 rfl (Nat.le_of_ble_eq_true rfl) dX3_changeRings_1 (fun H locs hP hD hS => ?_)
  refine lv_istore_n (lv' := [(1, .int o_1), (0, .ref zt)]) hx hb dX3_changeRings_4 rfl hl (by decide) rfl (fun ls hl => ?_)
  refine lv_iconst (v := (0 : Int32)) hx hb dX3_changeRings_5 (by decide) ?_
  refine lv_istore_n (lv' := [(2, .int (0 : Int32)), (1, .int o_1), (0, .ref zt)]) hx hb dX3_changeRings_6 rfl hl (by decide) rfl (fun ls hl => ?_)
  refine lv_iconst (v := (0 : Int32)) hx hb dX3_changeRings_7 (by decide) ?_
  refine lv_istore_n (lv' := [(3, .int (0 : Int32)), (2, .int (0 : Int32)), (1, .int o_1), (0, .ref zt)]) hx hb dX3_changeRings_8 rfl hl (by decide) rfl (fun ls hl => ?_)
  exact t_X3_changeRings_9 (fu := fu) C0 hA  fu _ _ _ _ hf _ _ hP hD hS _ (lv_sub hl [3, 2, 1, 0] rfl)
theorem q_X3_livingByLot_1 : (Cond.constant RX3 95 (1664525) : Cond) ∈ wsX3_livingByLot := List.mem_of_getElem? (i := 1) rfl
theorem q_X3_livingByLot_2 : (Cond.constant RX3 96 (1013904223) : Cond) ∈ wsX3_livingByLot := List.mem_of_getElem? (i := 2) rfl
theorem q_X3_livingByLot_3 : (Cond.constant RX3 97 (2147483647) : Cond) ∈ wsX3_livingByLot := List.mem_of_getElem? (i := 3) rfl
abbrev rm_X3_livingByLot : Room := { frames := 4, cells := 0, slots := 0, locals := 85 }
set_option maxHeartbeats 4000000 in
set_option maxRecDepth 100000 in
theorem ts_X3_livingByLot_20 {p : Program} {l : Launch} {e : Env} {s : State} {m : MethodId} {args : Array Value} {below : List Frame} {meth : Method} {c : Code} {D : va_G} {cI cJ : ClassId} {A : Nat → Prop} {fu : Nat} {zt qt0 qt1 qt2 qt3 qt4 : Nat} {ST : S32} {o : Int32} (C0 : Cx RX3 wsX3_livingByLot cX3_livingByLot 8 (some .int) D vwCl (tyS cI cJ) p s m args meth c) (hA : ∀ q : Nat, s.heap.size ≤ q → A q) {k11 : Int32 → Int32 → Int32 → Int32 → Option (Int32)} (K11 : ∀ (x1 : Int32) (x3 : Int32) (x4 : Int32) (x5 : Int32), k11 x1 x3 x4 x5 = some o → ∀ (H : Heap) (locs : List Loc), va_P D vwCl (wT zt qt0 qt1 qt2 qt3 qt4 cI ST) H → va_D A (wT zt qt0 qt1 qt2 qt3 qt4 cI ST) → va_S A s.heap H locs → ∀ (ls : Array Slot), lv_has ls 8 [(0, .ref zt), (1, .int x1), (3, .int x3), (4, .int x4), (5, .int x5)] → W p l e rm_X3_livingByLot s m args below meth c H locs 0 0 (MQ below (sZi D vwCl (tyS cI cJ) A (wT zt qt0 qt1 qt2 qt3 qt4 cI ST) (o)) args s 0 0 A) (F0 m 11 ls [])) {k20 : Int32 → Int32 → Int32 → Int32 → Int32 → Option (Int32)} (K20 : ∀ (x1 : Int32) (x3 : Int32) (x4 : Int32) (x5 : Int32) (x6 : Int32), k20 x1 x3 x4 x5 x6 = some o → ∀ (H : Heap) (locs : List Loc), va_P D vwCl (wT zt qt0 qt1 qt2 qt3 qt4 cI ST) H → va_D A (wT zt qt0 qt1 qt2 qt3 qt4 cI ST) → va_S A s.heap H locs → ∀ (ls : Array Slot), lv_has ls 8 [(0, .ref zt), (1, .int x1), (3, .int x3), (4, .int x4), (5, .int x5), (6, .int x6)] → W p l e rm_X3_livingByLot s m args below meth c H locs 0 0 (MQ below (sZi D vwCl (tyS cI cJ) A (wT zt qt0 qt1 qt2 qt3 qt4 cI ST) (o)) args s 0 0 A) (F0 m 20 ls [])) : ∀ (x1 : Int32) (x3 : Int32) (x4 : Int32) (x5 : Int32) (x6 : Int32), s_X3_livingByLot_20 fu k11 k20 ST x1 x3 x4 x5 x6 = some o → ∀ (H : Heap) (locs : List Loc), va_P D vwCl (wT zt qt0 qt1 qt2 qt3 qt4 cI ST) H → va_D A (wT zt qt0 qt1 qt2 qt3 qt4 cI ST) → va_S A s.heap H locs → ∀ (ls : Array Slot), lv_has ls 8 [(0, .ref zt), (1, .int x1), (3, .int x3), (4, .int x4), (5, .int x5), (6, .int x6)] → W p l e rm_X3_livingByLot s m args below meth c H locs 0 0 (MQ below (sZi D vwCl (tyS cI cJ) A (wT zt qt0 qt1 qt2 qt3 qt4 cI ST) (o)) args s 0 0 A) (F0 m 20 ls []) := by
  obtain ⟨hx, hb, hr, hml, hown, hts, hlocks, hK⟩ := id C0
  intro x1 x3 x4 x5 x6 hf H locs hP hD hS ls hl
  have hP : va_P D vwCl [(zt, .inr (2, [.ref qt0, .ref qt1, .ref qt2, .ref qt3, .ref qt4, .int (ST 5 0), .int (ST 6 0)])), (qt0, .inl (cI, 8, .inl (ST 0))), (qt1, .inl (cI, 8, .inl (ST 1))), (qt2, .inl (cI, 8, .inl (ST 2))), (qt3, .inl (cI, 8, .inl (ST 3))), (qt4, .inl (cI, 8, .inl (ST 4)))] H := hP
  have hD : va_D A [(zt, .inr (2, [.ref qt0, .ref qt1, .ref qt2, .ref qt3, .ref qt4, .int (ST 5 0), .int (ST 6 0)])), (qt0, .inl (cI, 8, .inl (ST 0))), (qt1, .inl (cI, 8, .inl (ST 1))), (qt2, .inl (cI, 8, .inl (ST 2))), (qt3, .inl (cI, 8, .inl (ST 3))), (qt4, .inl (cI, 8, .inl (ST 4)))] := hD
  refine lv_iload hx hb dX3_livingByLot_20 (lv_at hl 5 rfl) ?_
  refine lv_bipush (v := (8 : Int32)) hx hb dX3_livingByLot_22 (by decide) ?_
  refine lv_icmp_ge (tgt := 91) hx hb dX3_livingByLot_24 (by decide) (fun c_1 => ?_) (fun c_1 => ?_)
  · have hf := itT c_1 hf
    refine lv_iinc (v := (x5 + (1 : Int32))) (lv' := [(5, .int (x5 + (1 : Int32))), (0, .ref zt), (1, .int x1), (3, .int x3), (4, .int x4), (6, .int x6)]) hx hb dX3_livingByLot_91 hl (k := 4) rfl rfl (by decide) rfl (fun ls hl => ?_)
    refine lv_goto (tgt := 11) hx hb dX3_livingByLot_94 (by decide) ?_
    exact K11 _ _ _ _ hf _ _ hP hD hS _ (lv_sub hl [1, 2, 3, 4, 0] rfl)
  · have hf := itF c_1 hf
    refine lv_iload_n hx hb dX3_livingByLot_27 rfl (lv_at hl 2 rfl) ?_
    refine lv_iload hx hb dX3_livingByLot_28 (lv_at hl 5 rfl) ?_
    obtain ⟨o_2, h_2, hf⟩ := bd_some hf
    refine s_callSI (wc := []) (wr := [(zt, .inr (2, [.ref qt0, .ref qt1, .ref qt2, .ref qt3, .ref qt4, .int (ST 5 0), .int (ST 6 0)])), (qt0, .inl (cI, 8, .inl (ST 0))), (qt1, .inl (cI, 8, .inl (ST 1))), (qt2, .inl (cI, 8, .inl (ST 2))), (qt3, .inl (cI, 8, .inl (ST 3))), (qt4, .inl (cI, 8, .inl (ST 4)))]) (wc' := []) (w' := [(zt, .inr (2, [.ref qt0, .ref qt1, .ref qt2, .ref qt3, .ref qt4, .int (ST 5 0), .int (ST 6 0)])), (qt0, .inl (cI, 8, .inl (ST 0))), (qt1, .inl (cI, 8, .inl (ST 1))), (qt2, .inl (cI, 8, .inl (ST 2))), (qt3, .inl (cI, 8, .inl (ST 3))), (qt4, .inl (cI, 8, .inl (ST 4)))]) (isC := []) (isR := [0, 1, 2, 3, 4, 5]) (perm := [0, 1, 2, 3, 4, 5]) (As := [.int x3, .int x6]) (rest := []) ⟨hx, hb, hml, hown, hts⟩ (c_X3_holds l D cI cJ fu x3 x6 o_2 h_2) (va_cwS 2 hts gX3_livingByLot_X3_holds rfl rfl rfl (by decide +kernel) ⟨Nat.le_of_ble_eq_true rfl, Nat.le_of_ble_eq_true rfl⟩) hK hP hD hS hA ⟨rfl, rfl, by decide, by decide, by decide, by decide, rfl⟩ rfl hl.1 rfl (Nat.le_of_ble_eq_true rfl) dX3_livingByLot_30 (fun H locs hP hD hS => ?_)
    refine lv_if_ne (tgt := 39) hx hb dX3_livingByLot_33 (by decide) (fun c_3 => ?_) (fun c_3 => ?_)
    · have hf := itF c_3 hf
      refine lv_iload hx hb dX3_livingByLot_39 (lv_at hl 3 rfl) ?_
      refine lv_ldc (v := (1664525 : Int32)) hx hb hown (hts _ q_X3_livingByLot_1) dX3_livingByLot_41 ?_
      refine lv_imul hx hb dX3_livingByLot_43 ?_
      refine lv_ldc (v := (1013904223 : Int32)) hx hb hown (hts _ q_X3_livingByLot_2) dX3_livingByLot_44 ?_
      refine lv_iadd hx hb dX3_livingByLot_46 ?_
      refine lv_istore (lv' := [(4, .int ((x4 * (1664525 : Int32)) + (1013904223 : Int32))), (0, .ref zt), (1, .int x1), (3, .int x3), (5, .int x5), (6, .int x6)]) hx hb dX3_livingByLot_47 hl (by decide) rfl (fun ls hl => ?_)
      refine lv_iload hx hb dX3_livingByLot_49 (lv_at hl 0 rfl) ?_
      refine lv_ldc (v := (2147483647 : Int32)) hx hb hown (hts _ q_X3_livingByLot_3) dX3_livingByLot_51 ?_
      refine lv_iand hx hb dX3_livingByLot_53 ?_
      refine lv_sipush (v := (256 : Int32)) hx hb dX3_livingByLot_54 (by decide) ?_
      refine lv_idiv hx hb dX3_livingByLot_57 (by decide) ?_
      refine lv_bipush (v := (10 : Int32)) hx hb dX3_livingByLot_58 (by decide) ?_
      refine lv_irem hx hb dX3_livingByLot_60 (by decide) ?_
      refine lv_topi (fun v_4 e_4 => ?_)
      have hf := lt_use e_4 hf
      refine lv_istore (lv' := [(7, .int v_4), (4, .int ((x4 * (1664525 : Int32)) + (1013904223 : Int32))), (0, .ref zt), (1, .int x1), (3, .int x3), (5, .int x5), (6, .int x6)]) hx hb dX3_livingByLot_61 hl (by decide) rfl (fun ls hl => ?_)
      refine lv_iload hx hb dX3_livingByLot_63 (lv_at hl 0 rfl) ?_
      refine lv_aload_n hx hb dX3_livingByLot_65 rfl (lv_at hl 2 rfl) ?_
      refine lv_iload hx hb dX3_livingByLot_66 (lv_at hl 6 rfl) ?_
      refine lv_iload hx hb dX3_livingByLot_68 (lv_at hl 5 rfl) ?_
      obtain ⟨o_5, h_5, hf⟩ := bd_some hf
      refine s_callVI (wc := (wT zt qt0 qt1 qt2 qt3 qt4 cI ST)) (wr := []) (wc' := (wT zt qt0 qt1 qt2 qt3 qt4 cI ST)) (w' := [(zt, .inr (2, [.ref qt0, .ref qt1, .ref qt2, .ref qt3, .ref qt4, .int (ST 5 0), .int (ST 6 0)])), (qt0, .inl (cI, 8, .inl (ST 0))), (qt1, .inl (cI, 8, .inl (ST 1))), (qt2, .inl (cI, 8, .inl (ST 2))), (qt3, .inl (cI, 8, .inl (ST 3))), (qt4, .inl (cI, 8, .inl (ST 4)))]) (isC := [0, 1, 2, 3, 4, 5]) (isR := []) (perm := [0, 1, 2, 3, 4, 5]) (As := [.int x6, .int x5]) (rest := [.int v_4]) (ci := 2) (q := (RX3, TX3, 7)) ⟨hx, hb, hml, hown, hts⟩ (c_X3_chanceAfter l D cI cJ fu zt qt0 qt1 qt2 qt3 qt4 ST x6 x5 o_5 h_5) (cwV 2 hts gX3_livingByLot_X3_chanceAfter rfl rfl rfl (by decide +kernel) ⟨Nat.le_of_ble_eq_true rfl, Nat.le_of_ble_eq_true rfl⟩) hK hP hD hS hA ⟨rfl, rfl, by decide, by decide, by decide, by decide, rfl⟩ rfl rfl rfl rfl hl.1 rfl (Nat.le_of_ble_eq_true rfl) dX3_livingByLot_70 (fun H locs hP hD hS => ?_)
      refine lv_icmp_ge (tgt := 85) hx hb dX3_livingByLot_73 (by decide) (fun c_6 => ?_) (fun c_6 => ?_)
      · have hf := itT c_6 hf
        refine lv_iinc (v := (x6 + (1 : Int32))) (lv' := [(6, .int (x6 + (1 : Int32))), (7, .int v_4), (4, .int ((x4 * (1664525 : Int32)) + (1013904223 : Int32))), (0, .ref zt), (1, .int x1), (3, .int x3), (5, .int x5)]) hx hb dX3_livingByLot_85 hl (k := 6) rfl rfl (by decide) rfl (fun ls hl => ?_)
        refine lv_goto (tgt := 20) hx hb dX3_livingByLot_88 (by decide) ?_
        exact K20 _ _ _ _ _ hf _ _ hP hD hS _ (lv_sub hl [3, 4, 5, 2, 6, 0] rfl)
      · have hf := itF c_6 hf
        refine lv_iload_n hx hb dX3_livingByLot_76 rfl (lv_at hl 4 rfl) ?_
        refine lv_iconst (v := (1 : Int32)) hx hb dX3_livingByLot_77 (by decide) ?_
        refine lv_iload hx hb dX3_livingByLot_78 (lv_at hl 6 rfl) ?_
        refine lv_ishl hx hb dX3_livingByLot_80 ?_
        refine lv_iconst (v := (-1 : Int32)) hx hb dX3_livingByLot_81 (by decide) ?_
        refine lv_ixor hx hb dX3_livingByLot_82 ?_
        refine lv_iand hx hb dX3_livingByLot_83 ?_
        refine lv_istore_n (lv' := [(3, .int (x3 &&& (((1 : Int32) <<< (x6 &&& 31)) ^^^ (-1 : Int32)))), (7, .int v_4), (4, .int ((x4 * (1664525 : Int32)) + (1013904223 : Int32))), (0, .ref zt), (1, .int x1), (5, .int x5), (6, .int x6)]) hx hb dX3_livingByLot_84 rfl hl (by decide) rfl (fun ls hl => ?_)
        refine lv_iinc (v := (x6 + (1 : Int32))) (lv' := [(6, .int (x6 + (1 : Int32))), (3, .int (x3 &&& (((1 : Int32) <<< (x6 &&& 31)) ^^^ (-1 : Int32)))), (7, .int v_4), (4, .int ((x4 * (1664525 : Int32)) + (1013904223 : Int32))), (0, .ref zt), (1, .int x1), (5, .int x5)]) hx hb dX3_livingByLot_85 hl (k := 6) rfl rfl (by decide) rfl (fun ls hl => ?_)
        refine lv_goto (tgt := 20) hx hb dX3_livingByLot_88 (by decide) ?_
        exact K20 _ _ _ _ _ hf _ _ hP hD hS _ (lv_sub hl [4, 5, 1, 3, 6, 0] rfl)
    · have hf := itT c_3 hf
      refine lv_goto (tgt := 85) hx hb dX3_livingByLot_36 (by decide) ?_
      refine lv_iinc (v := (x6 + (1 : Int32))) (lv' := [(6, .int (x6 + (1 : Int32))), (0, .ref zt), (1, .int x1), (3, .int x3), (4, .int x4), (5, .int x5)]) hx hb dX3_livingByLot_85 hl (k := 5) rfl rfl (by decide) rfl (fun ls hl => ?_)
      refine lv_goto (tgt := 20) hx hb dX3_livingByLot_88 (by decide) ?_
      exact K20 _ _ _ _ _ hf _ _ hP hD hS _ (lv_sub hl [1, 2, 3, 4, 5, 0] rfl)
theorem t_X3_livingByLot_20 {p : Program} {l : Launch} {e : Env} {s : State} {m : MethodId} {args : Array Value} {below : List Frame} {meth : Method} {c : Code} {D : va_G} {cI cJ : ClassId} {A : Nat → Prop} {fu : Nat} {zt qt0 qt1 qt2 qt3 qt4 : Nat} {ST : S32} {o : Int32} (C0 : Cx RX3 wsX3_livingByLot cX3_livingByLot 8 (some .int) D vwCl (tyS cI cJ) p s m args meth c) (hA : ∀ q : Nat, s.heap.size ≤ q → A q) {k11 : Int32 → Int32 → Int32 → Int32 → Option (Int32)} (K11 : ∀ (x1 : Int32) (x3 : Int32) (x4 : Int32) (x5 : Int32), k11 x1 x3 x4 x5 = some o → ∀ (H : Heap) (locs : List Loc), va_P D vwCl (wT zt qt0 qt1 qt2 qt3 qt4 cI ST) H → va_D A (wT zt qt0 qt1 qt2 qt3 qt4 cI ST) → va_S A s.heap H locs → ∀ (ls : Array Slot), lv_has ls 8 [(0, .ref zt), (1, .int x1), (3, .int x3), (4, .int x4), (5, .int x5)] → W p l e rm_X3_livingByLot s m args below meth c H locs 0 0 (MQ below (sZi D vwCl (tyS cI cJ) A (wT zt qt0 qt1 qt2 qt3 qt4 cI ST) (o)) args s 0 0 A) (F0 m 11 ls [])) : ∀ (n : Nat) (x1 : Int32) (x3 : Int32) (x4 : Int32) (x5 : Int32) (x6 : Int32), f_X3_livingByLot_20 fu k11 ST n x1 x3 x4 x5 x6 = some o → ∀ (H : Heap) (locs : List Loc), va_P D vwCl (wT zt qt0 qt1 qt2 qt3 qt4 cI ST) H → va_D A (wT zt qt0 qt1 qt2 qt3 qt4 cI ST) → va_S A s.heap H locs → ∀ (ls : Array Slot), lv_has ls 8 [(0, .ref zt), (1, .int x1), (3, .int x3), (4, .int x4), (5, .int x5), (6, .int x6)] → W p l e rm_X3_livingByLot s m args below meth c H locs 0 0 (MQ below (sZi D vwCl (tyS cI cJ) A (wT zt qt0 qt1 qt2 qt3 qt4 cI ST) (o)) args s 0 0 A) (F0 m 20 ls []) := by
  intro n
  induction n with
  | zero =>
    intro x1 x3 x4 x5 x6 hf
    have hf : (none : Option (Int32)) = some o := hf
    cases hf
  | succ n ih => exact ts_X3_livingByLot_20 (fu := fu) (k20 := f_X3_livingByLot_20 fu k11 ST n) C0 hA K11 ih
set_option maxHeartbeats 4000000 in
set_option maxRecDepth 100000 in
theorem ts_X3_livingByLot_11 {p : Program} {l : Launch} {e : Env} {s : State} {m : MethodId} {args : Array Value} {below : List Frame} {meth : Method} {c : Code} {D : va_G} {cI cJ : ClassId} {A : Nat → Prop} {fu : Nat} {zt qt0 qt1 qt2 qt3 qt4 : Nat} {ST : S32} {o : Int32} (C0 : Cx RX3 wsX3_livingByLot cX3_livingByLot 8 (some .int) D vwCl (tyS cI cJ) p s m args meth c) (hA : ∀ q : Nat, s.heap.size ≤ q → A q) {k11 : Int32 → Int32 → Int32 → Int32 → Option (Int32)} (K11 : ∀ (x1 : Int32) (x3 : Int32) (x4 : Int32) (x5 : Int32), k11 x1 x3 x4 x5 = some o → ∀ (H : Heap) (locs : List Loc), va_P D vwCl (wT zt qt0 qt1 qt2 qt3 qt4 cI ST) H → va_D A (wT zt qt0 qt1 qt2 qt3 qt4 cI ST) → va_S A s.heap H locs → ∀ (ls : Array Slot), lv_has ls 8 [(0, .ref zt), (1, .int x1), (3, .int x3), (4, .int x4), (5, .int x5)] → W p l e rm_X3_livingByLot s m args below meth c H locs 0 0 (MQ below (sZi D vwCl (tyS cI cJ) A (wT zt qt0 qt1 qt2 qt3 qt4 cI ST) (o)) args s 0 0 A) (F0 m 11 ls [])) : ∀ (x1 : Int32) (x3 : Int32) (x4 : Int32) (x5 : Int32), s_X3_livingByLot_11 fu  k11 ST x1 x3 x4 x5 = some o → ∀ (H : Heap) (locs : List Loc), va_P D vwCl (wT zt qt0 qt1 qt2 qt3 qt4 cI ST) H → va_D A (wT zt qt0 qt1 qt2 qt3 qt4 cI ST) → va_S A s.heap H locs → ∀ (ls : Array Slot), lv_has ls 8 [(0, .ref zt), (1, .int x1), (3, .int x3), (4, .int x4), (5, .int x5)] → W p l e rm_X3_livingByLot s m args below meth c H locs 0 0 (MQ below (sZi D vwCl (tyS cI cJ) A (wT zt qt0 qt1 qt2 qt3 qt4 cI ST) (o)) args s 0 0 A) (F0 m 11 ls []) := by
  obtain ⟨hx, hb, hr, hml, hown, hts, hlocks, hK⟩ := id C0
  intro x1 x3 x4 x5 hf H locs hP hD hS ls hl
  have hP : va_P D vwCl [(zt, .inr (2, [.ref qt0, .ref qt1, .ref qt2, .ref qt3, .ref qt4, .int (ST 5 0), .int (ST 6 0)])), (qt0, .inl (cI, 8, .inl (ST 0))), (qt1, .inl (cI, 8, .inl (ST 1))), (qt2, .inl (cI, 8, .inl (ST 2))), (qt3, .inl (cI, 8, .inl (ST 3))), (qt4, .inl (cI, 8, .inl (ST 4)))] H := hP
  have hD : va_D A [(zt, .inr (2, [.ref qt0, .ref qt1, .ref qt2, .ref qt3, .ref qt4, .int (ST 5 0), .int (ST 6 0)])), (qt0, .inl (cI, 8, .inl (ST 0))), (qt1, .inl (cI, 8, .inl (ST 1))), (qt2, .inl (cI, 8, .inl (ST 2))), (qt3, .inl (cI, 8, .inl (ST 3))), (qt4, .inl (cI, 8, .inl (ST 4)))] := hD
  refine lv_iload hx hb dX3_livingByLot_11 (lv_at hl 4 rfl) ?_
  refine lv_iload_n hx hb dX3_livingByLot_13 rfl (lv_at hl 1 rfl) ?_
  refine lv_icmp_ge (tgt := 97) hx hb dX3_livingByLot_14 (by decide) (fun c_1 => ?_) (fun c_1 => ?_)
  · have hf := itT c_1 hf
    refine lv_iload_n hx hb dX3_livingByLot_97 rfl (lv_at hl 2 rfl) ?_
    obtain rfl := Option.some.inj hf
    exact s_iret (r := x3) hx hb hr hlocks hK hP hD hS dX3_livingByLot_98
  · have hf := itF c_1 hf
    refine lv_iconst (v := (0 : Int32)) hx hb dX3_livingByLot_17 (by decide) ?_
    refine lv_istore (lv' := [(6, .int (0 : Int32)), (0, .ref zt), (1, .int x1), (3, .int x3), (4, .int x4), (5, .int x5)]) hx hb dX3_livingByLot_18 hl (by decide) rfl (fun ls hl => ?_)
    exact t_X3_livingByLot_20 (fu := fu) C0 hA K11 fu _ _ _ _ _ hf _ _ hP hD hS _ (lv_sub hl [1, 2, 3, 4, 5, 0] rfl)
theorem t_X3_livingByLot_11 {p : Program} {l : Launch} {e : Env} {s : State} {m : MethodId} {args : Array Value} {below : List Frame} {meth : Method} {c : Code} {D : va_G} {cI cJ : ClassId} {A : Nat → Prop} {fu : Nat} {zt qt0 qt1 qt2 qt3 qt4 : Nat} {ST : S32} {o : Int32} (C0 : Cx RX3 wsX3_livingByLot cX3_livingByLot 8 (some .int) D vwCl (tyS cI cJ) p s m args meth c) (hA : ∀ q : Nat, s.heap.size ≤ q → A q) : ∀ (n : Nat) (x1 : Int32) (x3 : Int32) (x4 : Int32) (x5 : Int32), f_X3_livingByLot_11 fu  ST n x1 x3 x4 x5 = some o → ∀ (H : Heap) (locs : List Loc), va_P D vwCl (wT zt qt0 qt1 qt2 qt3 qt4 cI ST) H → va_D A (wT zt qt0 qt1 qt2 qt3 qt4 cI ST) → va_S A s.heap H locs → ∀ (ls : Array Slot), lv_has ls 8 [(0, .ref zt), (1, .int x1), (3, .int x3), (4, .int x4), (5, .int x5)] → W p l e rm_X3_livingByLot s m args below meth c H locs 0 0 (MQ below (sZi D vwCl (tyS cI cJ) A (wT zt qt0 qt1 qt2 qt3 qt4 cI ST) (o)) args s 0 0 A) (F0 m 11 ls []) := by
  intro n
  induction n with
  | zero =>
    intro x1 x3 x4 x5 hf
    have hf : (none : Option (Int32)) = some o := hf
    cases hf
  | succ n ih => exact ts_X3_livingByLot_11 (fu := fu) (k11 := f_X3_livingByLot_11 fu  ST n) C0 hA  ih
set_option maxHeartbeats 4000000 in
set_option maxRecDepth 100000 in
theorem c_X3_livingByLot (l : Launch) (D : va_G) (cI cJ : ClassId) (fu : Nat) (zt qt0 qt1 qt2 qt3 qt4 : Nat) (ST : S32) (x1 : Int32) (x2 : Int32) (o : Int32) (hf : f_X3_livingByLot fu ST x1 x2 = some o) : MI l yX3_livingByLot wsX3_livingByLot rm_X3_livingByLot D vwCl (tyS cI cJ) [.ref zt, .int x1, .int x2] (wT zt qt0 qt1 qt2 qt3 qt4 cI ST) (wT zt qt0 qt1 qt2 qt3 qt4 cI ST) (o) := by
  intro sz
  refine s_entry (own := RX3) (cc := cX3_livingByLot) (maxL := 8) (ret := (some .int)) (Qc := fun A => sZi D vwCl (tyS cI cJ) A (wT zt qt0 qt1 qt2 qt3 qt4 cI ST) (o)) rfl (by decide) rfl rfl (Nat.le_of_ble_eq_true rfl) ?_
  intro p e s m args below meth c A C0 hA hP hD hS ls hl
  obtain ⟨hx, hb, hr, hml, hown, hts, hlocks, hK⟩ := id C0
  have hl : lv_has ls 8 [(0, .ref zt), (1, .int x1), (2, .int x2)] := hl
  have hP : va_P D vwCl [(zt, .inr (2, [.ref qt0, .ref qt1, .ref qt2, .ref qt3, .ref qt4, .int (ST 5 0), .int (ST 6 0)])), (qt0, .inl (cI, 8, .inl (ST 0))), (qt1, .inl (cI, 8, .inl (ST 1))), (qt2, .inl (cI, 8, .inl (ST 2))), (qt3, .inl (cI, 8, .inl (ST 3))), (qt4, .inl (cI, 8, .inl (ST 4)))] s.heap := hP
  have hD : va_D A [(zt, .inr (2, [.ref qt0, .ref qt1, .ref qt2, .ref qt3, .ref qt4, .int (ST 5 0), .int (ST 6 0)])), (qt0, .inl (cI, 8, .inl (ST 0))), (qt1, .inl (cI, 8, .inl (ST 1))), (qt2, .inl (cI, 8, .inl (ST 2))), (qt3, .inl (cI, 8, .inl (ST 3))), (qt4, .inl (cI, 8, .inl (ST 4)))] := hD
  refine lv_aload_n hx hb dX3_livingByLot_0 rfl (lv_at hl 0 rfl) ?_
  obtain ⟨o_1, h_1, hf⟩ := bd_some hf
  refine s_callVI (wc := (wT zt qt0 qt1 qt2 qt3 qt4 cI ST)) (wr := []) (wc' := (wT zt qt0 qt1 qt2 qt3 qt4 cI ST)) (w' := [(zt, .inr (2, [.ref qt0, .ref qt1, .ref qt2, .ref qt3, .ref qt4, .int (ST 5 0), .int (ST 6 0)])), (qt0, .inl (cI, 8, .inl (ST 0))), (qt1, .inl (cI, 8, .inl (ST 1))), (qt2, .inl (cI, 8, .inl (ST 2))), (qt3, .inl (cI, 8, .inl (ST 3))), (qt4, .inl (cI, 8, .inl (ST 4)))]) (isC := [0, 1, 2, 3, 4, 5]) (isR := []) (perm := [0, 1, 2, 3, 4, 5]) (As := []) (rest := []) (ci := 2) (q := (RX3, TX3, 7)) ⟨hx, hb, hml, hown, hts⟩ (c_X3_living l D cI cJ fu zt qt0 qt1 qt2 qt3 qt4 ST o_1 h_1) (cwV 0 hts gX3_livingByLot_X3_living rfl rfl rfl (by decide +kernel) ⟨Nat.le_of_ble_eq_true rfl, Nat.le_of_ble_eq_true rfl⟩) hK hP hD hS hA ⟨rfl, rfl, by decide, by decide, by decide, by decide, rfl⟩ rfl rfl rfl rfl hl.1 rfl (Nat.le_of_ble_eq_true rfl) dX3_livingByLot_1 (fun H locs hP hD hS => ?_)
  refine lv_istore_n (lv' := [(3, .int o_1), (0, .ref zt), (1, .int x1), (2, .int x2)]) hx hb dX3_livingByLot_4 rfl hl (by decide) rfl (fun ls hl => ?_)
  refine lv_iload_n hx hb dX3_livingByLot_5 rfl (lv_at hl 3 rfl) ?_
  refine lv_istore (lv' := [(4, .int x2), (3, .int o_1), (0, .ref zt), (1, .int x1), (2, .int x2)]) hx hb dX3_livingByLot_6 hl (by decide) rfl (fun ls hl => ?_)
  refine lv_iconst (v := (0 : Int32)) hx hb dX3_livingByLot_8 (by decide) ?_
  refine lv_istore (lv' := [(5, .int (0 : Int32)), (4, .int x2), (3, .int o_1), (0, .ref zt), (1, .int x1), (2, .int x2)]) hx hb dX3_livingByLot_9 hl (by decide) rfl (fun ls hl => ?_)
  exact t_X3_livingByLot_11 (fu := fu) C0 hA  fu _ _ _ _ hf _ _ hP hD hS _ (lv_sub hl [3, 4, 2, 1, 0] rfl)
abbrev rm_X3_sumOfLiving_v3 : Room := { frames := 1, cells := 0, slots := 0, locals := 21 }
set_option maxHeartbeats 4000000 in
set_option maxRecDepth 100000 in
theorem ts_X3_sumOfLiving_v3_4 {p : Program} {l : Launch} {e : Env} {s : State} {m : MethodId} {args : Array Value} {below : List Frame} {meth : Method} {c : Code} {D : va_G} {cI cJ : ClassId} {A : Nat → Prop} {fu : Nat} {zt qt0 qt1 qt2 qt3 qt4 : Nat} {ST : S32} {o : Int32} (C0 : Cx RX3 wsX3_sumOfLiving cX3_sumOfLiving 4 (some .int) D vwCl (tyS cI cJ) p s m args meth c) (hA : ∀ q : Nat, s.heap.size ≤ q → A q) {k4 : Int32 → Int32 → Option (Int32)} (K4 : ∀ (x2 : Int32) (x3 : Int32), k4 x2 x3 = some o → ∀ (H : Heap) (locs : List Loc), va_P D vwCl (wT zt qt0 qt1 qt2 qt3 qt4 cI ST) H → va_D A (wT zt qt0 qt1 qt2 qt3 qt4 cI ST) → va_S A s.heap H locs → ∀ (ls : Array Slot), lv_has ls 4 [(0, .ref zt), (1, .ref qt3), (2, .int x2), (3, .int x3)] → W p l e rm_X3_sumOfLiving_v3 s m args below meth c H locs 0 0 (MQ below (sZi D vwCl (tyS cI cJ) A (wT zt qt0 qt1 qt2 qt3 qt4 cI ST) (o)) args s 0 0 A) (F0 m 4 ls [])) : ∀ (x2 : Int32) (x3 : Int32), s_X3_sumOfLiving_v3_4 fu  k4 ST x2 x3 = some o → ∀ (H : Heap) (locs : List Loc), va_P D vwCl (wT zt qt0 qt1 qt2 qt3 qt4 cI ST) H → va_D A (wT zt qt0 qt1 qt2 qt3 qt4 cI ST) → va_S A s.heap H locs → ∀ (ls : Array Slot), lv_has ls 4 [(0, .ref zt), (1, .ref qt3), (2, .int x2), (3, .int x3)] → W p l e rm_X3_sumOfLiving_v3 s m args below meth c H locs 0 0 (MQ below (sZi D vwCl (tyS cI cJ) A (wT zt qt0 qt1 qt2 qt3 qt4 cI ST) (o)) args s 0 0 A) (F0 m 4 ls []) := by
  obtain ⟨hx, hb, hr, hml, hown, hts, hlocks, hK⟩ := id C0
  intro x2 x3 hf H locs hP hD hS ls hl
  have hP : va_P D vwCl [(zt, .inr (2, [.ref qt0, .ref qt1, .ref qt2, .ref qt3, .ref qt4, .int (ST 5 0), .int (ST 6 0)])), (qt0, .inl (cI, 8, .inl (ST 0))), (qt1, .inl (cI, 8, .inl (ST 1))), (qt2, .inl (cI, 8, .inl (ST 2))), (qt3, .inl (cI, 8, .inl (ST 3))), (qt4, .inl (cI, 8, .inl (ST 4)))] H := hP
  have hD : va_D A [(zt, .inr (2, [.ref qt0, .ref qt1, .ref qt2, .ref qt3, .ref qt4, .int (ST 5 0), .int (ST 6 0)])), (qt0, .inl (cI, 8, .inl (ST 0))), (qt1, .inl (cI, 8, .inl (ST 1))), (qt2, .inl (cI, 8, .inl (ST 2))), (qt3, .inl (cI, 8, .inl (ST 3))), (qt4, .inl (cI, 8, .inl (ST 4)))] := hD
  refine lv_iload_n hx hb dX3_sumOfLiving_4 rfl (lv_at hl 3 rfl) ?_
  refine lv_bipush (v := (8 : Int32)) hx hb dX3_sumOfLiving_5 (by decide) ?_
  refine lv_icmp_ge (tgt := 36) hx hb dX3_sumOfLiving_7 (by decide) (fun c_1 => ?_) (fun c_1 => ?_)
  · have hf := itT c_1 hf
    refine lv_iload_n hx hb dX3_sumOfLiving_36 rfl (lv_at hl 2 rfl) ?_
    obtain rfl := Option.some.inj hf
    exact s_iret (r := x2) hx hb hr hlocks hK hP hD hS dX3_sumOfLiving_37
  · have hf := itF c_1 hf
    refine lv_iload_n hx hb dX3_sumOfLiving_10 rfl (lv_at hl 3 rfl) ?_
    refine lv_aload_n hx hb dX3_sumOfLiving_11 rfl (lv_at hl 1 rfl) ?_
    refine va_alen (v := (8 : Int32)) hx hb hK hP 4 0 rfl rfl rfl dX3_sumOfLiving_12 ?_
    refine lv_icmp_ge (tgt := 36) hx hb dX3_sumOfLiving_13 (by decide) (fun c_2 => ?_) (fun c_2 => ?_)
    · have hf := itT c_2 hf
      refine lv_iload_n hx hb dX3_sumOfLiving_36 rfl (lv_at hl 2 rfl) ?_
      obtain rfl := Option.some.inj hf
      exact s_iret (r := x2) hx hb hr hlocks hK hP hD hS dX3_sumOfLiving_37
    · have hf := itF c_2 hf
      refine lv_aload_n hx hb dX3_sumOfLiving_16 rfl (lv_at hl 0 rfl) ?_
      refine lv_iload_n hx hb dX3_sumOfLiving_17 rfl (lv_at hl 3 rfl) ?_
      obtain ⟨o_3, h_3, hf⟩ := bd_some hf
      refine s_callVI (wc := (wT zt qt0 qt1 qt2 qt3 qt4 cI ST)) (wr := []) (wc' := (wT zt qt0 qt1 qt2 qt3 qt4 cI ST)) (w' := [(zt, .inr (2, [.ref qt0, .ref qt1, .ref qt2, .ref qt3, .ref qt4, .int (ST 5 0), .int (ST 6 0)])), (qt0, .inl (cI, 8, .inl (ST 0))), (qt1, .inl (cI, 8, .inl (ST 1))), (qt2, .inl (cI, 8, .inl (ST 2))), (qt3, .inl (cI, 8, .inl (ST 3))), (qt4, .inl (cI, 8, .inl (ST 4)))]) (isC := [0, 1, 2, 3, 4, 5]) (isR := []) (perm := [0, 1, 2, 3, 4, 5]) (As := [.int x3]) (rest := []) (ci := 2) (q := (RX3, TX3, 7)) ⟨hx, hb, hml, hown, hts⟩ (c_X3_isAlive l D cI cJ fu zt qt0 qt1 qt2 qt3 qt4 ST x3 o_3 h_3) (cwV 1 hts gX3_sumOfLiving_X3_isAlive rfl rfl rfl (by decide +kernel) ⟨Nat.le_of_ble_eq_true rfl, Nat.le_of_ble_eq_true rfl⟩) hK hP hD hS hA ⟨rfl, rfl, by decide, by decide, by decide, by decide, rfl⟩ rfl rfl rfl rfl hl.1 rfl (Nat.le_of_ble_eq_true rfl) dX3_sumOfLiving_18 (fun H locs hP hD hS => ?_)
      refine lv_if_eq (tgt := 30) hx hb dX3_sumOfLiving_21 (by decide) (fun c_4 => ?_) (fun c_4 => ?_)
      · have hf := itT c_4 hf
        refine lv_iinc (v := (x3 + (1 : Int32))) (lv' := [(3, .int (x3 + (1 : Int32))), (0, .ref zt), (1, .ref qt3), (2, .int x2)]) hx hb dX3_sumOfLiving_30 hl (k := 3) rfl rfl (by decide) rfl (fun ls hl => ?_)
        refine lv_goto (tgt := 4) hx hb dX3_sumOfLiving_33 (by decide) ?_
        exact K4 _ _ hf _ _ hP hD hS _ (lv_sub hl [1, 2, 3, 0] rfl)
      · have hf := itF c_4 hf
        refine lv_iload_n hx hb dX3_sumOfLiving_24 rfl (lv_at hl 2 rfl) ?_
        refine lv_aload_n hx hb dX3_sumOfLiving_25 rfl (lv_at hl 1 rfl) ?_
        refine lv_iload_n hx hb dX3_sumOfLiving_26 rfl (lv_at hl 3 rfl) ?_
        obtain ⟨g_5, hf⟩ := gd_some hf
        refine va_iald hx hb hK hP 4 0 rfl rfl g_5 dX3_sumOfLiving_27 ?_
        refine lv_iadd hx hb dX3_sumOfLiving_28 ?_
        refine lv_istore_n (lv' := [(2, .int (x2 + (ST 3 x3.toNatClampNeg))), (0, .ref zt), (1, .ref qt3), (3, .int x3)]) hx hb dX3_sumOfLiving_29 rfl hl (by decide) rfl (fun ls hl => ?_)
        refine lv_iinc (v := (x3 + (1 : Int32))) (lv' := [(3, .int (x3 + (1 : Int32))), (2, .int (x2 + (ST 3 x3.toNatClampNeg))), (0, .ref zt), (1, .ref qt3)]) hx hb dX3_sumOfLiving_30 hl (k := 3) rfl rfl (by decide) rfl (fun ls hl => ?_)
        refine lv_goto (tgt := 4) hx hb dX3_sumOfLiving_33 (by decide) ?_
        exact K4 _ _ hf _ _ hP hD hS _ (lv_sub hl [2, 3, 1, 0] rfl)
theorem t_X3_sumOfLiving_v3_4 {p : Program} {l : Launch} {e : Env} {s : State} {m : MethodId} {args : Array Value} {below : List Frame} {meth : Method} {c : Code} {D : va_G} {cI cJ : ClassId} {A : Nat → Prop} {fu : Nat} {zt qt0 qt1 qt2 qt3 qt4 : Nat} {ST : S32} {o : Int32} (C0 : Cx RX3 wsX3_sumOfLiving cX3_sumOfLiving 4 (some .int) D vwCl (tyS cI cJ) p s m args meth c) (hA : ∀ q : Nat, s.heap.size ≤ q → A q) : ∀ (n : Nat) (x2 : Int32) (x3 : Int32), f_X3_sumOfLiving_v3_4 fu  ST n x2 x3 = some o → ∀ (H : Heap) (locs : List Loc), va_P D vwCl (wT zt qt0 qt1 qt2 qt3 qt4 cI ST) H → va_D A (wT zt qt0 qt1 qt2 qt3 qt4 cI ST) → va_S A s.heap H locs → ∀ (ls : Array Slot), lv_has ls 4 [(0, .ref zt), (1, .ref qt3), (2, .int x2), (3, .int x3)] → W p l e rm_X3_sumOfLiving_v3 s m args below meth c H locs 0 0 (MQ below (sZi D vwCl (tyS cI cJ) A (wT zt qt0 qt1 qt2 qt3 qt4 cI ST) (o)) args s 0 0 A) (F0 m 4 ls []) := by
  intro n
  induction n with
  | zero =>
    intro x2 x3 hf
    have hf : (none : Option (Int32)) = some o := hf
    cases hf
  | succ n ih => exact ts_X3_sumOfLiving_v3_4 (fu := fu) (k4 := f_X3_sumOfLiving_v3_4 fu  ST n) C0 hA  ih
set_option maxHeartbeats 4000000 in
set_option maxRecDepth 100000 in
theorem c_X3_sumOfLiving_v3 (l : Launch) (D : va_G) (cI cJ : ClassId) (fu : Nat) (zt qt0 qt1 qt2 qt3 qt4 : Nat) (ST : S32) (o : Int32) (hf : f_X3_sumOfLiving_v3 fu ST = some o) : MI l yX3_sumOfLiving wsX3_sumOfLiving rm_X3_sumOfLiving_v3 D vwCl (tyS cI cJ) [.ref zt, .ref qt3] (wT zt qt0 qt1 qt2 qt3 qt4 cI ST) (wT zt qt0 qt1 qt2 qt3 qt4 cI ST) (o) := by
  intro sz
  refine s_entry (own := RX3) (cc := cX3_sumOfLiving) (maxL := 4) (ret := (some .int)) (Qc := fun A => sZi D vwCl (tyS cI cJ) A (wT zt qt0 qt1 qt2 qt3 qt4 cI ST) (o)) rfl (by decide) rfl rfl (Nat.le_of_ble_eq_true rfl) ?_
  intro p e s m args below meth c A C0 hA hP hD hS ls hl
  obtain ⟨hx, hb, hr, hml, hown, hts, hlocks, hK⟩ := id C0
  have hl : lv_has ls 4 [(0, .ref zt), (1, .ref qt3)] := hl
  have hP : va_P D vwCl [(zt, .inr (2, [.ref qt0, .ref qt1, .ref qt2, .ref qt3, .ref qt4, .int (ST 5 0), .int (ST 6 0)])), (qt0, .inl (cI, 8, .inl (ST 0))), (qt1, .inl (cI, 8, .inl (ST 1))), (qt2, .inl (cI, 8, .inl (ST 2))), (qt3, .inl (cI, 8, .inl (ST 3))), (qt4, .inl (cI, 8, .inl (ST 4)))] s.heap := hP
  have hD : va_D A [(zt, .inr (2, [.ref qt0, .ref qt1, .ref qt2, .ref qt3, .ref qt4, .int (ST 5 0), .int (ST 6 0)])), (qt0, .inl (cI, 8, .inl (ST 0))), (qt1, .inl (cI, 8, .inl (ST 1))), (qt2, .inl (cI, 8, .inl (ST 2))), (qt3, .inl (cI, 8, .inl (ST 3))), (qt4, .inl (cI, 8, .inl (ST 4)))] := hD
  refine lv_iconst (v := (0 : Int32)) hx hb dX3_sumOfLiving_0 (by decide) ?_
  refine lv_istore_n (lv' := [(2, .int (0 : Int32)), (0, .ref zt), (1, .ref qt3)]) hx hb dX3_sumOfLiving_1 rfl hl (by decide) rfl (fun ls hl => ?_)
  refine lv_iconst (v := (0 : Int32)) hx hb dX3_sumOfLiving_2 (by decide) ?_
  refine lv_istore_n (lv' := [(3, .int (0 : Int32)), (2, .int (0 : Int32)), (0, .ref zt), (1, .ref qt3)]) hx hb dX3_sumOfLiving_3 rfl hl (by decide) rfl (fun ls hl => ?_)
  exact t_X3_sumOfLiving_v3_4 (fu := fu) C0 hA  fu _ _ hf _ _ hP hD hS _ (lv_sub hl [2, 3, 1, 0] rfl)
abbrev rm_X3_sumOfLiving_v1 : Room := { frames := 1, cells := 0, slots := 0, locals := 21 }
set_option maxHeartbeats 4000000 in
set_option maxRecDepth 100000 in
theorem ts_X3_sumOfLiving_v1_4 {p : Program} {l : Launch} {e : Env} {s : State} {m : MethodId} {args : Array Value} {below : List Frame} {meth : Method} {c : Code} {D : va_G} {cI cJ : ClassId} {A : Nat → Prop} {fu : Nat} {zt qt0 qt1 qt2 qt3 qt4 : Nat} {ST : S32} {o : Int32} (C0 : Cx RX3 wsX3_sumOfLiving cX3_sumOfLiving 4 (some .int) D vwCl (tyS cI cJ) p s m args meth c) (hA : ∀ q : Nat, s.heap.size ≤ q → A q) {k4 : Int32 → Int32 → Option (Int32)} (K4 : ∀ (x2 : Int32) (x3 : Int32), k4 x2 x3 = some o → ∀ (H : Heap) (locs : List Loc), va_P D vwCl (wT zt qt0 qt1 qt2 qt3 qt4 cI ST) H → va_D A (wT zt qt0 qt1 qt2 qt3 qt4 cI ST) → va_S A s.heap H locs → ∀ (ls : Array Slot), lv_has ls 4 [(0, .ref zt), (1, .ref qt1), (2, .int x2), (3, .int x3)] → W p l e rm_X3_sumOfLiving_v1 s m args below meth c H locs 0 0 (MQ below (sZi D vwCl (tyS cI cJ) A (wT zt qt0 qt1 qt2 qt3 qt4 cI ST) (o)) args s 0 0 A) (F0 m 4 ls [])) : ∀ (x2 : Int32) (x3 : Int32), s_X3_sumOfLiving_v1_4 fu  k4 ST x2 x3 = some o → ∀ (H : Heap) (locs : List Loc), va_P D vwCl (wT zt qt0 qt1 qt2 qt3 qt4 cI ST) H → va_D A (wT zt qt0 qt1 qt2 qt3 qt4 cI ST) → va_S A s.heap H locs → ∀ (ls : Array Slot), lv_has ls 4 [(0, .ref zt), (1, .ref qt1), (2, .int x2), (3, .int x3)] → W p l e rm_X3_sumOfLiving_v1 s m args below meth c H locs 0 0 (MQ below (sZi D vwCl (tyS cI cJ) A (wT zt qt0 qt1 qt2 qt3 qt4 cI ST) (o)) args s 0 0 A) (F0 m 4 ls []) := by
  obtain ⟨hx, hb, hr, hml, hown, hts, hlocks, hK⟩ := id C0
  intro x2 x3 hf H locs hP hD hS ls hl
  have hP : va_P D vwCl [(zt, .inr (2, [.ref qt0, .ref qt1, .ref qt2, .ref qt3, .ref qt4, .int (ST 5 0), .int (ST 6 0)])), (qt0, .inl (cI, 8, .inl (ST 0))), (qt1, .inl (cI, 8, .inl (ST 1))), (qt2, .inl (cI, 8, .inl (ST 2))), (qt3, .inl (cI, 8, .inl (ST 3))), (qt4, .inl (cI, 8, .inl (ST 4)))] H := hP
  have hD : va_D A [(zt, .inr (2, [.ref qt0, .ref qt1, .ref qt2, .ref qt3, .ref qt4, .int (ST 5 0), .int (ST 6 0)])), (qt0, .inl (cI, 8, .inl (ST 0))), (qt1, .inl (cI, 8, .inl (ST 1))), (qt2, .inl (cI, 8, .inl (ST 2))), (qt3, .inl (cI, 8, .inl (ST 3))), (qt4, .inl (cI, 8, .inl (ST 4)))] := hD
  refine lv_iload_n hx hb dX3_sumOfLiving_4 rfl (lv_at hl 3 rfl) ?_
  refine lv_bipush (v := (8 : Int32)) hx hb dX3_sumOfLiving_5 (by decide) ?_
  refine lv_icmp_ge (tgt := 36) hx hb dX3_sumOfLiving_7 (by decide) (fun c_1 => ?_) (fun c_1 => ?_)
  · have hf := itT c_1 hf
    refine lv_iload_n hx hb dX3_sumOfLiving_36 rfl (lv_at hl 2 rfl) ?_
    obtain rfl := Option.some.inj hf
    exact s_iret (r := x2) hx hb hr hlocks hK hP hD hS dX3_sumOfLiving_37
  · have hf := itF c_1 hf
    refine lv_iload_n hx hb dX3_sumOfLiving_10 rfl (lv_at hl 3 rfl) ?_
    refine lv_aload_n hx hb dX3_sumOfLiving_11 rfl (lv_at hl 1 rfl) ?_
    refine va_alen (v := (8 : Int32)) hx hb hK hP 2 0 rfl rfl rfl dX3_sumOfLiving_12 ?_
    refine lv_icmp_ge (tgt := 36) hx hb dX3_sumOfLiving_13 (by decide) (fun c_2 => ?_) (fun c_2 => ?_)
    · have hf := itT c_2 hf
      refine lv_iload_n hx hb dX3_sumOfLiving_36 rfl (lv_at hl 2 rfl) ?_
      obtain rfl := Option.some.inj hf
      exact s_iret (r := x2) hx hb hr hlocks hK hP hD hS dX3_sumOfLiving_37
    · have hf := itF c_2 hf
      refine lv_aload_n hx hb dX3_sumOfLiving_16 rfl (lv_at hl 0 rfl) ?_
      refine lv_iload_n hx hb dX3_sumOfLiving_17 rfl (lv_at hl 3 rfl) ?_
      obtain ⟨o_3, h_3, hf⟩ := bd_some hf
      refine s_callVI (wc := (wT zt qt0 qt1 qt2 qt3 qt4 cI ST)) (wr := []) (wc' := (wT zt qt0 qt1 qt2 qt3 qt4 cI ST)) (w' := [(zt, .inr (2, [.ref qt0, .ref qt1, .ref qt2, .ref qt3, .ref qt4, .int (ST 5 0), .int (ST 6 0)])), (qt0, .inl (cI, 8, .inl (ST 0))), (qt1, .inl (cI, 8, .inl (ST 1))), (qt2, .inl (cI, 8, .inl (ST 2))), (qt3, .inl (cI, 8, .inl (ST 3))), (qt4, .inl (cI, 8, .inl (ST 4)))]) (isC := [0, 1, 2, 3, 4, 5]) (isR := []) (perm := [0, 1, 2, 3, 4, 5]) (As := [.int x3]) (rest := []) (ci := 2) (q := (RX3, TX3, 7)) ⟨hx, hb, hml, hown, hts⟩ (c_X3_isAlive l D cI cJ fu zt qt0 qt1 qt2 qt3 qt4 ST x3 o_3 h_3) (cwV 1 hts gX3_sumOfLiving_X3_isAlive rfl rfl rfl (by decide +kernel) ⟨Nat.le_of_ble_eq_true rfl, Nat.le_of_ble_eq_true rfl⟩) hK hP hD hS hA ⟨rfl, rfl, by decide, by decide, by decide, by decide, rfl⟩ rfl rfl rfl rfl hl.1 rfl (Nat.le_of_ble_eq_true rfl) dX3_sumOfLiving_18 (fun H locs hP hD hS => ?_)
      refine lv_if_eq (tgt := 30) hx hb dX3_sumOfLiving_21 (by decide) (fun c_4 => ?_) (fun c_4 => ?_)
      · have hf := itT c_4 hf
        refine lv_iinc (v := (x3 + (1 : Int32))) (lv' := [(3, .int (x3 + (1 : Int32))), (0, .ref zt), (1, .ref qt1), (2, .int x2)]) hx hb dX3_sumOfLiving_30 hl (k := 3) rfl rfl (by decide) rfl (fun ls hl => ?_)
        refine lv_goto (tgt := 4) hx hb dX3_sumOfLiving_33 (by decide) ?_
        exact K4 _ _ hf _ _ hP hD hS _ (lv_sub hl [1, 2, 3, 0] rfl)
      · have hf := itF c_4 hf
        refine lv_iload_n hx hb dX3_sumOfLiving_24 rfl (lv_at hl 2 rfl) ?_
        refine lv_aload_n hx hb dX3_sumOfLiving_25 rfl (lv_at hl 1 rfl) ?_
        refine lv_iload_n hx hb dX3_sumOfLiving_26 rfl (lv_at hl 3 rfl) ?_
        obtain ⟨g_5, hf⟩ := gd_some hf
        refine va_iald hx hb hK hP 2 0 rfl rfl g_5 dX3_sumOfLiving_27 ?_
        refine lv_iadd hx hb dX3_sumOfLiving_28 ?_
        refine lv_istore_n (lv' := [(2, .int (x2 + (ST 1 x3.toNatClampNeg))), (0, .ref zt), (1, .ref qt1), (3, .int x3)]) hx hb dX3_sumOfLiving_29 rfl hl (by decide) rfl (fun ls hl => ?_)
        refine lv_iinc (v := (x3 + (1 : Int32))) (lv' := [(3, .int (x3 + (1 : Int32))), (2, .int (x2 + (ST 1 x3.toNatClampNeg))), (0, .ref zt), (1, .ref qt1)]) hx hb dX3_sumOfLiving_30 hl (k := 3) rfl rfl (by decide) rfl (fun ls hl => ?_)
        refine lv_goto (tgt := 4) hx hb dX3_sumOfLiving_33 (by decide) ?_
        exact K4 _ _ hf _ _ hP hD hS _ (lv_sub hl [2, 3, 1, 0] rfl)
theorem t_X3_sumOfLiving_v1_4 {p : Program} {l : Launch} {e : Env} {s : State} {m : MethodId} {args : Array Value} {below : List Frame} {meth : Method} {c : Code} {D : va_G} {cI cJ : ClassId} {A : Nat → Prop} {fu : Nat} {zt qt0 qt1 qt2 qt3 qt4 : Nat} {ST : S32} {o : Int32} (C0 : Cx RX3 wsX3_sumOfLiving cX3_sumOfLiving 4 (some .int) D vwCl (tyS cI cJ) p s m args meth c) (hA : ∀ q : Nat, s.heap.size ≤ q → A q) : ∀ (n : Nat) (x2 : Int32) (x3 : Int32), f_X3_sumOfLiving_v1_4 fu  ST n x2 x3 = some o → ∀ (H : Heap) (locs : List Loc), va_P D vwCl (wT zt qt0 qt1 qt2 qt3 qt4 cI ST) H → va_D A (wT zt qt0 qt1 qt2 qt3 qt4 cI ST) → va_S A s.heap H locs → ∀ (ls : Array Slot), lv_has ls 4 [(0, .ref zt), (1, .ref qt1), (2, .int x2), (3, .int x3)] → W p l e rm_X3_sumOfLiving_v1 s m args below meth c H locs 0 0 (MQ below (sZi D vwCl (tyS cI cJ) A (wT zt qt0 qt1 qt2 qt3 qt4 cI ST) (o)) args s 0 0 A) (F0 m 4 ls []) := by
  intro n
  induction n with
  | zero =>
    intro x2 x3 hf
    have hf : (none : Option (Int32)) = some o := hf
    cases hf
  | succ n ih => exact ts_X3_sumOfLiving_v1_4 (fu := fu) (k4 := f_X3_sumOfLiving_v1_4 fu  ST n) C0 hA  ih
set_option maxHeartbeats 4000000 in
set_option maxRecDepth 100000 in
theorem c_X3_sumOfLiving_v1 (l : Launch) (D : va_G) (cI cJ : ClassId) (fu : Nat) (zt qt0 qt1 qt2 qt3 qt4 : Nat) (ST : S32) (o : Int32) (hf : f_X3_sumOfLiving_v1 fu ST = some o) : MI l yX3_sumOfLiving wsX3_sumOfLiving rm_X3_sumOfLiving_v1 D vwCl (tyS cI cJ) [.ref zt, .ref qt1] (wT zt qt0 qt1 qt2 qt3 qt4 cI ST) (wT zt qt0 qt1 qt2 qt3 qt4 cI ST) (o) := by
  intro sz
  refine s_entry (own := RX3) (cc := cX3_sumOfLiving) (maxL := 4) (ret := (some .int)) (Qc := fun A => sZi D vwCl (tyS cI cJ) A (wT zt qt0 qt1 qt2 qt3 qt4 cI ST) (o)) rfl (by decide) rfl rfl (Nat.le_of_ble_eq_true rfl) ?_
  intro p e s m args below meth c A C0 hA hP hD hS ls hl
  obtain ⟨hx, hb, hr, hml, hown, hts, hlocks, hK⟩ := id C0
  have hl : lv_has ls 4 [(0, .ref zt), (1, .ref qt1)] := hl
  have hP : va_P D vwCl [(zt, .inr (2, [.ref qt0, .ref qt1, .ref qt2, .ref qt3, .ref qt4, .int (ST 5 0), .int (ST 6 0)])), (qt0, .inl (cI, 8, .inl (ST 0))), (qt1, .inl (cI, 8, .inl (ST 1))), (qt2, .inl (cI, 8, .inl (ST 2))), (qt3, .inl (cI, 8, .inl (ST 3))), (qt4, .inl (cI, 8, .inl (ST 4)))] s.heap := hP
  have hD : va_D A [(zt, .inr (2, [.ref qt0, .ref qt1, .ref qt2, .ref qt3, .ref qt4, .int (ST 5 0), .int (ST 6 0)])), (qt0, .inl (cI, 8, .inl (ST 0))), (qt1, .inl (cI, 8, .inl (ST 1))), (qt2, .inl (cI, 8, .inl (ST 2))), (qt3, .inl (cI, 8, .inl (ST 3))), (qt4, .inl (cI, 8, .inl (ST 4)))] := hD
  refine lv_iconst (v := (0 : Int32)) hx hb dX3_sumOfLiving_0 (by decide) ?_
  refine lv_istore_n (lv' := [(2, .int (0 : Int32)), (0, .ref zt), (1, .ref qt1)]) hx hb dX3_sumOfLiving_1 rfl hl (by decide) rfl (fun ls hl => ?_)
  refine lv_iconst (v := (0 : Int32)) hx hb dX3_sumOfLiving_2 (by decide) ?_
  refine lv_istore_n (lv' := [(3, .int (0 : Int32)), (2, .int (0 : Int32)), (0, .ref zt), (1, .ref qt1)]) hx hb dX3_sumOfLiving_3 rfl hl (by decide) rfl (fun ls hl => ?_)
  exact t_X3_sumOfLiving_v1_4 (fu := fu) C0 hA  fu _ _ hf _ _ hP hD hS _ (lv_sub hl [2, 3, 1, 0] rfl)
