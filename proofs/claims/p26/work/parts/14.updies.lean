theorem q_X4_refuse_1 : (Cond.fieldLink RX4 40 "UpWhenDies" "refused" "[I" : Cond) ∈ wsX4_refuse := List.mem_of_getElem? (i := 1) rfl
theorem i_X4_refuse_X4 : ∀ w ∈ wsX40, w ∈ wsX4_refuse := fun _ h => (List.mem_cons_of_mem _ (List.mem_append_right _ h))
abbrev rm_X4_refuse : Room := { frames := 0, cells := 0, slots := 0, locals := 0 }
set_option maxHeartbeats 4000000 in
set_option maxRecDepth 100000 in
theorem c_X4_refuse (l : Launch) (D : va_G) (cI cJ : ClassId) (fu : Nat) (zv qv6 qv8 zn zr zk zl zo : Nat) (SV : S32) (x1 : Int32) (o : Int32 × S32) (hf : f_X4_refuse fu SV x1 = some o) : MI l yX4_refuse wsX4_refuse rm_X4_refuse D vwCl (tyS cI cJ) [.ref zv, .int x1] (wV zv qv6 qv8 zn zr zk zl zo cI SV) (wV zv qv6 qv8 zn zr zk zl zo cI (o.2)) (o.1) := by
  intro sz
  refine s_entry (own := RX4) (cc := cX4_refuse) (maxL := 3) (ret := (some .int)) (Qc := fun A => sZi D vwCl (tyS cI cJ) A (wV zv qv6 qv8 zn zr zk zl zo cI (o.2)) (o.1)) rfl (by decide) rfl rfl (Nat.le_of_ble_eq_true rfl) ?_
  intro p e s m args below meth c A C0 hA hP hD hS ls hl
  obtain ⟨hx, hb, hr, hml, hown, hts, hlocks, hK⟩ := id C0
  have hl : lv_has ls 3 [(0, .ref zv), (1, .int x1)] := hl
  have hP : va_P D vwCl [(zv, .inr (3, [.ref zn, .ref zr, .ref zk, .int (SV 3 0), .ref zl, .ref zo, .ref qv6, .int (SV 7 0), .ref qv8])), (qv6, .inl (cI, 8, .inl (SV 6))), (qv8, .inl (cI, 7, .inl (SV 8)))] s.heap := hP
  have hD : va_D A [(zv, .inr (3, [.ref zn, .ref zr, .ref zk, .int (SV 3 0), .ref zl, .ref zo, .ref qv6, .int (SV 7 0), .ref qv8])), (qv6, .inl (cI, 8, .inl (SV 6))), (qv8, .inl (cI, 7, .inl (SV 8)))] := hD
  refine lv_iload_n hx hb dX4_refuse_0 rfl (lv_at hl 1 rfl) ?_
  refine lv_ineg hx hb dX4_refuse_1 ?_
  refine lv_istore_n (lv' := [(2, .int (-x1)), (0, .ref zv), (1, .int x1)]) hx hb dX4_refuse_2 rfl hl (by decide) rfl (fun ls hl => ?_)
  refine lv_iload_n hx hb dX4_refuse_3 rfl (lv_at hl 0 rfl) ?_
  refine lv_iconst (v := (1 : Int32)) hx hb dX4_refuse_4 (by decide) ?_
  refine lv_icmp_lt (tgt := 24) hx hb dX4_refuse_5 (by decide) (fun c_1 => ?_) (fun c_1 => ?_)
  · have hf := itT c_1 hf
    refine lv_iload_n hx hb dX4_refuse_24 rfl (lv_at hl 2 rfl) ?_
    obtain rfl := Option.some.inj hf
    exact s_iret (r := x1) hx hb hr hlocks hK hP hD hS dX4_refuse_25
  · have hf := itF c_1 hf
    refine lv_iload_n hx hb dX4_refuse_8 rfl (lv_at hl 0 rfl) ?_
    refine lv_bipush (v := (6 : Int32)) hx hb dX4_refuse_9 (by decide) ?_
    refine lv_icmp_gt (tgt := 24) hx hb dX4_refuse_11 (by decide) (fun c_2 => ?_) (fun c_2 => ?_)
    · have hf := itT c_2 hf
      refine lv_iload_n hx hb dX4_refuse_24 rfl (lv_at hl 2 rfl) ?_
      obtain rfl := Option.some.inj hf
      exact s_iret (r := x1) hx hb hr hlocks hK hP hD hS dX4_refuse_25
    · have hf := itF c_2 hf
      refine lv_aload_n hx hb dX4_refuse_14 rfl (lv_at hl 1 rfl) ?_
      refine va_get (D := D) (ci := 3) (v := .ref qv8) (C := RX4) (T := TX4) (N := 9) hx hb hts i_X4_refuse_X4 hown hK hP 0 rfl rfl 8 (by decide) (hts _ q_X4_refuse_1) (fun _ h9 => h9) rfl dX4_refuse_15 ?_
      refine lv_iload_n hx hb dX4_refuse_18 rfl (lv_at hl 0 rfl) ?_
      refine lv_dup2_11 hx hb dX4_refuse_19 rfl rfl ?_
      obtain ⟨g_3, hf⟩ := gd_some hf
      refine va_iald hx hb hK hP 2 0 rfl rfl g_3 dX4_refuse_20 ?_
      refine lv_iconst (v := (1 : Int32)) hx hb dX4_refuse_21 (by decide) ?_
      refine lv_iadd hx hb dX4_refuse_22 ?_
      obtain ⟨g_4, hf⟩ := gd_some hf
      refine va_iast hx hb hK hP hD hS 2 0 rfl rfl g_4 dX4_refuse_23 (fun H locs hP hD hS => ?_)
      have hP : va_P D vwCl [(zv, .inr (3, [.ref zn, .ref zr, .ref zk, .int (SV 3 0), .ref zl, .ref zo, .ref qv6, .int (SV 7 0), .ref qv8])), (qv6, .inl (cI, 8, .inl (SV 6))), (qv8, .inl (cI, 7, .inl (upd (SV 8) (-x1).toNatClampNeg ((SV 8 (-x1).toNatClampNeg) + (1 : Int32)))))] H := hP
      have hD : va_D A [(zv, .inr (3, [.ref zn, .ref zr, .ref zk, .int (SV 3 0), .ref zl, .ref zo, .ref qv6, .int (SV 7 0), .ref qv8])), (qv6, .inl (cI, 8, .inl (SV 6))), (qv8, .inl (cI, 7, .inl (upd (SV 8) (-x1).toNatClampNeg ((SV 8 (-x1).toNatClampNeg) + (1 : Int32)))))] := hD
      refine lv_iload_n hx hb dX4_refuse_24 rfl (lv_at hl 2 rfl) ?_
      obtain rfl := Option.some.inj hf
      exact s_iret (r := x1) hx hb hr hlocks hK hP hD hS dX4_refuse_25
theorem q_X4_letter_1 : (Cond.fieldLink RX4 25 "UpWhenDies" "telling" "LUpWhenDies$Telling;" : Cond) ∈ wsX4_letter := List.mem_of_getElem? (i := 1) rfl
theorem i_X4_letter_X4 : ∀ w ∈ wsX40, w ∈ wsX4_letter := fun _ h => (List.mem_cons_of_mem _ (List.mem_append_left _ (List.mem_append_right _ h)))
abbrev rm_X4_letter : Room := { frames := 1, cells := 0, slots := 0, locals := 22 }
set_option maxHeartbeats 4000000 in
set_option maxRecDepth 100000 in
theorem t_X4_letter_28 {p : Program} {l : Launch} {e : Env} {s : State} {m : MethodId} {args : Array Value} {below : List Frame} {meth : Method} {c : Code} {D : va_G} {cI cJ : ClassId} {A : Nat → Prop} {fu : Nat} {zv qv6 qv8 zn zr zk zl zo ql0 : Nat} {o : Int32 × S32 × S32} (C0 : Cx RX4 wsX4_letter cX4_letter 2 (some .int) D vwCl (tyS cI cJ) p s m args meth c) (hA : ∀ q : Nat, s.heap.size ≤ q → A q) : ∀ (SV : S32) (SL : S32), f_X4_letter_28 fu   SV SL = some o → ∀ (H : Heap) (locs : List Loc), va_P D vwCl ((wV zv qv6 qv8 zn zr zk zl zo cI SV) ++ (wL zl ql0 cI SL)) H → va_D A ((wV zv qv6 qv8 zn zr zk zl zo cI SV) ++ (wL zl ql0 cI SL)) → va_S A s.heap H locs → ∀ (ls : Array Slot), lv_has ls 2 [(0, .ref zv)] → W p l e rm_X4_letter s m args below meth c H locs 0 0 (MQ below (sZi D vwCl (tyS cI cJ) A ((wV zv qv6 qv8 zn zr zk zl zo cI (o.2.1)) ++ (wL zl ql0 cI (o.2.2))) (o.1)) args s 0 0 A) (F0 m 28 ls []) := by
  obtain ⟨hx, hb, hr, hml, hown, hts, hlocks, hK⟩ := id C0
  intro SV SL hf H locs hP hD hS ls hl
  have hP : va_P D vwCl [(zv, .inr (3, [.ref zn, .ref zr, .ref zk, .int (SV 3 0), .ref zl, .ref zo, .ref qv6, .int (SV 7 0), .ref qv8])), (qv6, .inl (cI, 8, .inl (SV 6))), (qv8, .inl (cI, 7, .inl (SV 8))), (zl, .inr (1, [.ref ql0, .int (SL 1 0)])), (ql0, .inl (cI, 80, .inl (SL 0)))] H := hP
  have hD : va_D A [(zv, .inr (3, [.ref zn, .ref zr, .ref zk, .int (SV 3 0), .ref zl, .ref zo, .ref qv6, .int (SV 7 0), .ref qv8])), (qv6, .inl (cI, 8, .inl (SV 6))), (qv8, .inl (cI, 7, .inl (SV 8))), (zl, .inr (1, [.ref ql0, .int (SL 1 0)])), (ql0, .inl (cI, 80, .inl (SL 0)))] := hD
  refine lv_aload_n hx hb dX4_letter_28 rfl (lv_at hl 0 rfl) ?_
  refine lv_bipush (v := (-6 : Int32)) hx hb dX4_letter_29 (by decide) ?_
  obtain ⟨o_1, h_1, hf⟩ := bd_some hf
  refine s_callVI (wc := (wV zv qv6 qv8 zn zr zk zl zo cI SV)) (wr := [(zl, .inr (1, [.ref ql0, .int (SL 1 0)])), (ql0, .inl (cI, 80, .inl (SL 0)))]) (wc' := (wV zv qv6 qv8 zn zr zk zl zo cI (o_1.2))) (w' := [(zv, .inr (3, [.ref zn, .ref zr, .ref zk, .int ((o_1.2) 3 0), .ref zl, .ref zo, .ref qv6, .int ((o_1.2) 7 0), .ref qv8])), (qv6, .inl (cI, 8, .inl ((o_1.2) 6))), (qv8, .inl (cI, 7, .inl ((o_1.2) 8))), (zl, .inr (1, [.ref ql0, .int (SL 1 0)])), (ql0, .inl (cI, 80, .inl (SL 0)))]) (isC := [0, 1, 2]) (isR := [3, 4]) (perm := [2, 3, 4, 0, 1]) (As := [.int (-6 : Int32)]) (rest := []) (ci := 3) (q := (RX4, TX4, 9)) ⟨hx, hb, hml, hown, hts⟩ (c_X4_refuse l D cI cJ fu zv qv6 qv8 zn zr zk zl zo SV (-6 : Int32) o_1 h_1) (cwV 1 hts gX4_letter_X4_refuse rfl rfl rfl (by decide +kernel) ⟨Nat.le_of_ble_eq_true rfl, Nat.le_of_ble_eq_true rfl⟩) hK hP hD hS hA ⟨rfl, rfl, by decide, by decide, by decide, by decide, rfl⟩ rfl rfl rfl rfl hl.1 rfl (Nat.le_of_ble_eq_true rfl) dX4_letter_31 (fun H locs hP hD hS => ?_)
  obtain rfl := Option.some.inj hf
  exact s_iret (r := o_1.1) hx hb hr hlocks hK hP hD hS dX4_letter_34
set_option maxHeartbeats 4000000 in
set_option maxRecDepth 100000 in
theorem c_X4_letter (l : Launch) (D : va_G) (cI cJ : ClassId) (fu : Nat) (zv qv6 qv8 zn zr zk zl zo ql0 : Nat) (SV : S32) (SL : S32) (x1 : Int32) (o : Int32 × S32 × S32) (hf : f_X4_letter fu SV SL x1 = some o) : MI l yX4_letter wsX4_letter rm_X4_letter D vwCl (tyS cI cJ) [.ref zv, .int x1] ((wV zv qv6 qv8 zn zr zk zl zo cI SV) ++ (wL zl ql0 cI SL)) ((wV zv qv6 qv8 zn zr zk zl zo cI (o.2.1)) ++ (wL zl ql0 cI (o.2.2))) (o.1) := by
  intro sz
  refine s_entry (own := RX4) (cc := cX4_letter) (maxL := 2) (ret := (some .int)) (Qc := fun A => sZi D vwCl (tyS cI cJ) A ((wV zv qv6 qv8 zn zr zk zl zo cI (o.2.1)) ++ (wL zl ql0 cI (o.2.2))) (o.1)) rfl (by decide) rfl rfl (Nat.le_of_ble_eq_true rfl) ?_
  intro p e s m args below meth c A C0 hA hP hD hS ls hl
  obtain ⟨hx, hb, hr, hml, hown, hts, hlocks, hK⟩ := id C0
  have hl : lv_has ls 2 [(0, .ref zv), (1, .int x1)] := hl
  have hP : va_P D vwCl [(zv, .inr (3, [.ref zn, .ref zr, .ref zk, .int (SV 3 0), .ref zl, .ref zo, .ref qv6, .int (SV 7 0), .ref qv8])), (qv6, .inl (cI, 8, .inl (SV 6))), (qv8, .inl (cI, 7, .inl (SV 8))), (zl, .inr (1, [.ref ql0, .int (SL 1 0)])), (ql0, .inl (cI, 80, .inl (SL 0)))] s.heap := hP
  have hD : va_D A [(zv, .inr (3, [.ref zn, .ref zr, .ref zk, .int (SV 3 0), .ref zl, .ref zo, .ref qv6, .int (SV 7 0), .ref qv8])), (qv6, .inl (cI, 8, .inl (SV 6))), (qv8, .inl (cI, 7, .inl (SV 8))), (zl, .inr (1, [.ref ql0, .int (SL 1 0)])), (ql0, .inl (cI, 80, .inl (SL 0)))] := hD
  refine lv_iload_n hx hb dX4_letter_0 rfl (lv_at hl 1 rfl) ?_
  refine lv_if_ge (tgt := 11) hx hb dX4_letter_1 (by decide) (fun c_1 => ?_) (fun c_1 => ?_)
  · have hf := itT c_1 hf
    refine lv_iload_n hx hb dX4_letter_11 rfl (lv_at hl 1 rfl) ?_
    refine lv_sipush (v := (255 : Int32)) hx hb dX4_letter_12 (by decide) ?_
    refine lv_icmp_gt (tgt := 28) hx hb dX4_letter_15 (by decide) (fun c_2 => ?_) (fun c_2 => ?_)
    · have hf := itT c_2 hf
      exact t_X4_letter_28 (fu := fu) C0 hA  _ _ hf _ _ hP hD hS _ (lv_sub hl [0] rfl)
    · have hf := itF c_2 hf
      refine lv_aload_n hx hb dX4_letter_18 rfl (lv_at hl 0 rfl) ?_
      refine va_get (D := D) (ci := 3) (v := .ref zl) (C := RX4) (T := TX4) (N := 9) hx hb hts i_X4_letter_X4 hown hK hP 0 rfl rfl 4 (by decide) (hts _ q_X4_letter_1) (fun _ h9 => h9) rfl dX4_letter_19 ?_
      obtain ⟨o_3, h_3, hf⟩ := bd_some hf
      refine s_callVI (wc := (wL zl ql0 cI SL)) (wr := [(zv, .inr (3, [.ref zn, .ref zr, .ref zk, .int (SV 3 0), .ref zl, .ref zo, .ref qv6, .int (SV 7 0), .ref qv8])), (qv6, .inl (cI, 8, .inl (SV 6))), (qv8, .inl (cI, 7, .inl (SV 8)))]) (wc' := (wL zl ql0 cI SL)) (w' := [(zv, .inr (3, [.ref zn, .ref zr, .ref zk, .int (SV 3 0), .ref zl, .ref zo, .ref qv6, .int (SV 7 0), .ref qv8])), (qv6, .inl (cI, 8, .inl (SV 6))), (qv8, .inl (cI, 7, .inl (SV 8))), (zl, .inr (1, [.ref ql0, .int (SL 1 0)])), (ql0, .inl (cI, 80, .inl (SL 0)))]) (isC := [3, 4]) (isR := [0, 1, 2]) (perm := [0, 1, 2, 3, 4]) (As := []) (rest := []) (ci := 1) (q := (RX2, TX2, 2)) ⟨hx, hb, hml, hown, hts⟩ (c_X2_isFull l D cI cJ fu zl ql0 SL o_3 h_3) (cwV 0 hts gX4_letter_X2_isFull rfl rfl rfl (by decide +kernel) ⟨Nat.le_of_ble_eq_true rfl, Nat.le_of_ble_eq_true rfl⟩) hK hP hD hS hA ⟨rfl, rfl, by decide, by decide, by decide, by decide, rfl⟩ rfl rfl rfl rfl hl.1 rfl (Nat.le_of_ble_eq_true rfl) dX4_letter_22 (fun H locs hP hD hS => ?_)
      refine lv_if_eq (tgt := 35) hx hb dX4_letter_25 (by decide) (fun c_4 => ?_) (fun c_4 => ?_)
      · have hf := itT c_4 hf
        refine lv_aload_n hx hb dX4_letter_35 rfl (lv_at hl 0 rfl) ?_
        refine va_get (D := D) (ci := 3) (v := .ref zl) (C := RX4) (T := TX4) (N := 9) hx hb hts i_X4_letter_X4 hown hK hP 0 rfl rfl 4 (by decide) (hts _ q_X4_letter_1) (fun _ h9 => h9) rfl dX4_letter_36 ?_
        refine lv_iload_n hx hb dX4_letter_39 rfl (lv_at hl 1 rfl) ?_
        obtain ⟨o_5, h_5, hf⟩ := bd_some hf
        refine s_callVI (wc := (wL zl ql0 cI SL)) (wr := [(zv, .inr (3, [.ref zn, .ref zr, .ref zk, .int (SV 3 0), .ref zl, .ref zo, .ref qv6, .int (SV 7 0), .ref qv8])), (qv6, .inl (cI, 8, .inl (SV 6))), (qv8, .inl (cI, 7, .inl (SV 8)))]) (wc' := (wL zl ql0 cI (o_5.2))) (w' := [(zv, .inr (3, [.ref zn, .ref zr, .ref zk, .int (SV 3 0), .ref zl, .ref zo, .ref qv6, .int (SV 7 0), .ref qv8])), (qv6, .inl (cI, 8, .inl (SV 6))), (qv8, .inl (cI, 7, .inl (SV 8))), (zl, .inr (1, [.ref ql0, .int ((o_5.2) 1 0)])), (ql0, .inl (cI, 80, .inl ((o_5.2) 0)))]) (isC := [3, 4]) (isR := [0, 1, 2]) (perm := [0, 1, 2, 3, 4]) (As := [.int x1]) (rest := []) (ci := 1) (q := (RX2, TX2, 2)) ⟨hx, hb, hml, hown, hts⟩ (c_X2_add l D cI cJ fu zl ql0 SL x1 o_5 h_5) (cwV 1 hts gX4_letter_X2_add rfl rfl rfl (by decide +kernel) ⟨Nat.le_of_ble_eq_true rfl, Nat.le_of_ble_eq_true rfl⟩) hK hP hD hS hA ⟨rfl, rfl, by decide, by decide, by decide, by decide, rfl⟩ rfl rfl rfl rfl hl.1 rfl (Nat.le_of_ble_eq_true rfl) dX4_letter_40 (fun H locs hP hD hS => ?_)
        obtain rfl := Option.some.inj hf
        exact s_iret (r := o_5.1) hx hb hr hlocks hK hP hD hS dX4_letter_43
      · have hf := itF c_4 hf
        exact t_X4_letter_28 (fu := fu) C0 hA  _ _ hf _ _ hP hD hS _ (lv_sub hl [0] rfl)
  · have hf := itF c_1 hf
    refine lv_aload_n hx hb dX4_letter_4 rfl (lv_at hl 0 rfl) ?_
    refine lv_bipush (v := (-4 : Int32)) hx hb dX4_letter_5 (by decide) ?_
    obtain ⟨o_6, h_6, hf⟩ := bd_some hf
    refine s_callVI (wc := (wV zv qv6 qv8 zn zr zk zl zo cI SV)) (wr := [(zl, .inr (1, [.ref ql0, .int (SL 1 0)])), (ql0, .inl (cI, 80, .inl (SL 0)))]) (wc' := (wV zv qv6 qv8 zn zr zk zl zo cI (o_6.2))) (w' := [(zv, .inr (3, [.ref zn, .ref zr, .ref zk, .int ((o_6.2) 3 0), .ref zl, .ref zo, .ref qv6, .int ((o_6.2) 7 0), .ref qv8])), (qv6, .inl (cI, 8, .inl ((o_6.2) 6))), (qv8, .inl (cI, 7, .inl ((o_6.2) 8))), (zl, .inr (1, [.ref ql0, .int (SL 1 0)])), (ql0, .inl (cI, 80, .inl (SL 0)))]) (isC := [0, 1, 2]) (isR := [3, 4]) (perm := [2, 3, 4, 0, 1]) (As := [.int (-4 : Int32)]) (rest := []) (ci := 3) (q := (RX4, TX4, 9)) ⟨hx, hb, hml, hown, hts⟩ (c_X4_refuse l D cI cJ fu zv qv6 qv8 zn zr zk zl zo SV (-4 : Int32) o_6 h_6) (cwV 1 hts gX4_letter_X4_refuse rfl rfl rfl (by decide +kernel) ⟨Nat.le_of_ble_eq_true rfl, Nat.le_of_ble_eq_true rfl⟩) hK hP hD hS hA ⟨rfl, rfl, by decide, by decide, by decide, by decide, rfl⟩ rfl rfl rfl rfl hl.1 rfl (Nat.le_of_ble_eq_true rfl) dX4_letter_7 (fun H locs hP hD hS => ?_)
    obtain rfl := Option.some.inj hf
    exact s_iret (r := o_6.1) hx hb hr hlocks hK hP hD hS dX4_letter_10
theorem q_X4_takeHouse_1 : (Cond.fieldLink RX4 25 "UpWhenDies" "telling" "LUpWhenDies$Telling;" : Cond) ∈ wsX4_takeHouse := List.mem_of_getElem? (i := 1) rfl
theorem q_X4_takeHouse_2 : (Cond.fieldLink RX4 16 "UpWhenDies" "trial" "LUpWhenDies$Tower;" : Cond) ∈ wsX4_takeHouse := List.mem_of_getElem? (i := 2) rfl
theorem q_X4_takeHouse_3 : (Cond.fieldLink RX4 10 "UpWhenDies" "now" "LUpWhenDies$Tower;" : Cond) ∈ wsX4_takeHouse := List.mem_of_getElem? (i := 3) rfl
theorem i_X4_takeHouse_X4 : ∀ w ∈ wsX40, w ∈ wsX4_takeHouse := fun _ h => (List.mem_cons_of_mem _ (List.mem_append_left _ (List.mem_append_left _ (List.mem_append_right _ h))))
abbrev rm_X4_takeHouse : Room := { frames := 5, cells := 0, slots := 0, locals := 121 }
set_option maxHeartbeats 4000000 in
set_option maxRecDepth 100000 in
theorem c_X4_takeHouse (l : Launch) (D : va_G) (cI cJ : ClassId) (fu : Nat) (zv qv6 qv8 zn zr zk zl zo qn0 qn1 qn2 qn3 qn4 qr0 qr1 qr2 qr3 qr4 ql0 : Nat) (SV : S32) (SN : S32) (SR : S32) (SL : S32) (o : Int32 × S32 × S32) (hf : f_X4_takeHouse fu SV SN SR SL = some o) : MI l yX4_takeHouse wsX4_takeHouse rm_X4_takeHouse D vwCl (tyS cI cJ) [.ref zv] ((wV zv qv6 qv8 zn zr zk zl zo cI SV) ++ ((wT zn qn0 qn1 qn2 qn3 qn4 cI SN) ++ ((wT zr qr0 qr1 qr2 qr3 qr4 cI SR) ++ (wL zl ql0 cI SL)))) ((wV zv qv6 qv8 zn zr zk zl zo cI SV) ++ ((wT zn qn0 qn1 qn2 qn3 qn4 cI (o.2.1)) ++ ((wT zr qr0 qr1 qr2 qr3 qr4 cI (o.2.2)) ++ (wL zl ql0 cI SL)))) (o.1) := by
  intro sz
  refine s_entry (own := RX4) (cc := cX4_takeHouse) (maxL := 2) (ret := (some .int)) (Qc := fun A => sZi D vwCl (tyS cI cJ) A ((wV zv qv6 qv8 zn zr zk zl zo cI SV) ++ ((wT zn qn0 qn1 qn2 qn3 qn4 cI (o.2.1)) ++ ((wT zr qr0 qr1 qr2 qr3 qr4 cI (o.2.2)) ++ (wL zl ql0 cI SL)))) (o.1)) rfl (by decide) rfl rfl (Nat.le_of_ble_eq_true rfl) ?_
  intro p e s m args below meth c A C0 hA hP hD hS ls hl
  obtain ⟨hx, hb, hr, hml, hown, hts, hlocks, hK⟩ := id C0
  have hl : lv_has ls 2 [(0, .ref zv)] := hl
  have hP : va_P D vwCl [(zv, .inr (3, [.ref zn, .ref zr, .ref zk, .int (SV 3 0), .ref zl, .ref zo, .ref qv6, .int (SV 7 0), .ref qv8])), (qv6, .inl (cI, 8, .inl (SV 6))), (qv8, .inl (cI, 7, .inl (SV 8))), (zn, .inr (2, [.ref qn0, .ref qn1, .ref qn2, .ref qn3, .ref qn4, .int (SN 5 0), .int (SN 6 0)])), (qn0, .inl (cI, 8, .inl (SN 0))), (qn1, .inl (cI, 8, .inl (SN 1))), (qn2, .inl (cI, 8, .inl (SN 2))), (qn3, .inl (cI, 8, .inl (SN 3))), (qn4, .inl (cI, 8, .inl (SN 4))), (zr, .inr (2, [.ref qr0, .ref qr1, .ref qr2, .ref qr3, .ref qr4, .int (SR 5 0), .int (SR 6 0)])), (qr0, .inl (cI, 8, .inl (SR 0))), (qr1, .inl (cI, 8, .inl (SR 1))), (qr2, .inl (cI, 8, .inl (SR 2))), (qr3, .inl (cI, 8, .inl (SR 3))), (qr4, .inl (cI, 8, .inl (SR 4))), (zl, .inr (1, [.ref ql0, .int (SL 1 0)])), (ql0, .inl (cI, 80, .inl (SL 0)))] s.heap := hP
  have hD : va_D A [(zv, .inr (3, [.ref zn, .ref zr, .ref zk, .int (SV 3 0), .ref zl, .ref zo, .ref qv6, .int (SV 7 0), .ref qv8])), (qv6, .inl (cI, 8, .inl (SV 6))), (qv8, .inl (cI, 7, .inl (SV 8))), (zn, .inr (2, [.ref qn0, .ref qn1, .ref qn2, .ref qn3, .ref qn4, .int (SN 5 0), .int (SN 6 0)])), (qn0, .inl (cI, 8, .inl (SN 0))), (qn1, .inl (cI, 8, .inl (SN 1))), (qn2, .inl (cI, 8, .inl (SN 2))), (qn3, .inl (cI, 8, .inl (SN 3))), (qn4, .inl (cI, 8, .inl (SN 4))), (zr, .inr (2, [.ref qr0, .ref qr1, .ref qr2, .ref qr3, .ref qr4, .int (SR 5 0), .int (SR 6 0)])), (qr0, .inl (cI, 8, .inl (SR 0))), (qr1, .inl (cI, 8, .inl (SR 1))), (qr2, .inl (cI, 8, .inl (SR 2))), (qr3, .inl (cI, 8, .inl (SR 3))), (qr4, .inl (cI, 8, .inl (SR 4))), (zl, .inr (1, [.ref ql0, .int (SL 1 0)])), (ql0, .inl (cI, 80, .inl (SL 0)))] := hD
  refine lv_aload_n hx hb dX4_takeHouse_0 rfl (lv_at hl 0 rfl) ?_
  refine va_get (D := D) (ci := 3) (v := .ref zl) (C := RX4) (T := TX4) (N := 9) hx hb hts i_X4_takeHouse_X4 hown hK hP 0 rfl rfl 4 (by decide) (hts _ q_X4_takeHouse_1) (fun _ h9 => h9) rfl dX4_takeHouse_1 ?_
  obtain ⟨o_1, h_1, hf⟩ := bd_some hf
  refine s_callVI (wc := (wL zl ql0 cI SL)) (wr := [(zv, .inr (3, [.ref zn, .ref zr, .ref zk, .int (SV 3 0), .ref zl, .ref zo, .ref qv6, .int (SV 7 0), .ref qv8])), (qv6, .inl (cI, 8, .inl (SV 6))), (qv8, .inl (cI, 7, .inl (SV 8))), (zn, .inr (2, [.ref qn0, .ref qn1, .ref qn2, .ref qn3, .ref qn4, .int (SN 5 0), .int (SN 6 0)])), (qn0, .inl (cI, 8, .inl (SN 0))), (qn1, .inl (cI, 8, .inl (SN 1))), (qn2, .inl (cI, 8, .inl (SN 2))), (qn3, .inl (cI, 8, .inl (SN 3))), (qn4, .inl (cI, 8, .inl (SN 4))), (zr, .inr (2, [.ref qr0, .ref qr1, .ref qr2, .ref qr3, .ref qr4, .int (SR 5 0), .int (SR 6 0)])), (qr0, .inl (cI, 8, .inl (SR 0))), (qr1, .inl (cI, 8, .inl (SR 1))), (qr2, .inl (cI, 8, .inl (SR 2))), (qr3, .inl (cI, 8, .inl (SR 3))), (qr4, .inl (cI, 8, .inl (SR 4)))]) (wc' := (wL zl ql0 cI SL)) (w' := [(zv, .inr (3, [.ref zn, .ref zr, .ref zk, .int (SV 3 0), .ref zl, .ref zo, .ref qv6, .int (SV 7 0), .ref qv8])), (qv6, .inl (cI, 8, .inl (SV 6))), (qv8, .inl (cI, 7, .inl (SV 8))), (zn, .inr (2, [.ref qn0, .ref qn1, .ref qn2, .ref qn3, .ref qn4, .int (SN 5 0), .int (SN 6 0)])), (qn0, .inl (cI, 8, .inl (SN 0))), (qn1, .inl (cI, 8, .inl (SN 1))), (qn2, .inl (cI, 8, .inl (SN 2))), (qn3, .inl (cI, 8, .inl (SN 3))), (qn4, .inl (cI, 8, .inl (SN 4))), (zr, .inr (2, [.ref qr0, .ref qr1, .ref qr2, .ref qr3, .ref qr4, .int (SR 5 0), .int (SR 6 0)])), (qr0, .inl (cI, 8, .inl (SR 0))), (qr1, .inl (cI, 8, .inl (SR 1))), (qr2, .inl (cI, 8, .inl (SR 2))), (qr3, .inl (cI, 8, .inl (SR 3))), (qr4, .inl (cI, 8, .inl (SR 4))), (zl, .inr (1, [.ref ql0, .int (SL 1 0)])), (ql0, .inl (cI, 80, .inl (SL 0)))]) (isC := [15, 16]) (isR := [0, 1, 2, 3, 4, 5, 6, 7, 8, 9, 10, 11, 12, 13, 14]) (perm := [0, 1, 2, 3, 4, 5, 6, 7, 8, 9, 10, 11, 12, 13, 14, 15, 16]) (As := []) (rest := []) (ci := 1) (q := (RX2, TX2, 2)) ⟨hx, hb, hml, hown, hts⟩ (c_X2_firstMisfit l D cI cJ fu zl ql0 SL o_1 h_1) (cwV 0 hts gX4_takeHouse_X2_firstMisfit rfl rfl rfl (by decide +kernel) ⟨Nat.le_of_ble_eq_true rfl, Nat.le_of_ble_eq_true rfl⟩) hK hP hD hS hA ⟨rfl, rfl, by decide, by decide, by decide, by decide, rfl⟩ rfl rfl rfl rfl hl.1 rfl (Nat.le_of_ble_eq_true rfl) dX4_takeHouse_4 (fun H locs hP hD hS => ?_)
  refine lv_istore_n (lv' := [(1, .int o_1), (0, .ref zv)]) hx hb dX4_takeHouse_7 rfl hl (by decide) rfl (fun ls hl => ?_)
  refine lv_iload_n hx hb dX4_takeHouse_8 rfl (lv_at hl 0 rfl) ?_
  refine lv_if_lt (tgt := 18) hx hb dX4_takeHouse_9 (by decide) (fun c_2 => ?_) (fun c_2 => ?_)
  · have hf := itT c_2 hf
    refine lv_aload_n hx hb dX4_takeHouse_18 rfl (lv_at hl 1 rfl) ?_
    refine va_get (D := D) (ci := 3) (v := .ref zr) (C := RX4) (T := TX4) (N := 9) hx hb hts i_X4_takeHouse_X4 hown hK hP 0 rfl rfl 1 (by decide) (hts _ q_X4_takeHouse_2) (fun _ h9 => h9) rfl dX4_takeHouse_19 ?_
    refine lv_aload_n hx hb dX4_takeHouse_22 rfl (lv_at hl 1 rfl) ?_
    refine va_get (D := D) (ci := 3) (v := .ref zn) (C := RX4) (T := TX4) (N := 9) hx hb hts i_X4_takeHouse_X4 hown hK hP 0 rfl rfl 0 (by decide) (hts _ q_X4_takeHouse_3) (fun _ h9 => h9) rfl dX4_takeHouse_23 ?_
    obtain ⟨o_3, h_3, hf⟩ := bd_some hf
    refine s_callVV (wc := ((wT zr qr0 qr1 qr2 qr3 qr4 cI SR) ++ (wT zn qn0 qn1 qn2 qn3 qn4 cI SN))) (wr := [(zv, .inr (3, [.ref zn, .ref zr, .ref zk, .int (SV 3 0), .ref zl, .ref zo, .ref qv6, .int (SV 7 0), .ref qv8])), (qv6, .inl (cI, 8, .inl (SV 6))), (qv8, .inl (cI, 7, .inl (SV 8))), (zl, .inr (1, [.ref ql0, .int (SL 1 0)])), (ql0, .inl (cI, 80, .inl (SL 0)))]) (wc' := ((wT zr qr0 qr1 qr2 qr3 qr4 cI (o_3)) ++ (wT zn qn0 qn1 qn2 qn3 qn4 cI SN))) (w' := [(zv, .inr (3, [.ref zn, .ref zr, .ref zk, .int (SV 3 0), .ref zl, .ref zo, .ref qv6, .int (SV 7 0), .ref qv8])), (qv6, .inl (cI, 8, .inl (SV 6))), (qv8, .inl (cI, 7, .inl (SV 8))), (zn, .inr (2, [.ref qn0, .ref qn1, .ref qn2, .ref qn3, .ref qn4, .int (SN 5 0), .int (SN 6 0)])), (qn0, .inl (cI, 8, .inl (SN 0))), (qn1, .inl (cI, 8, .inl (SN 1))), (qn2, .inl (cI, 8, .inl (SN 2))), (qn3, .inl (cI, 8, .inl (SN 3))), (qn4, .inl (cI, 8, .inl (SN 4))), (zr, .inr (2, [.ref qr0, .ref qr1, .ref qr2, .ref qr3, .ref qr4, .int ((o_3) 5 0), .int ((o_3) 6 0)])), (qr0, .inl (cI, 8, .inl ((o_3) 0))), (qr1, .inl (cI, 8, .inl ((o_3) 1))), (qr2, .inl (cI, 8, .inl ((o_3) 2))), (qr3, .inl (cI, 8, .inl ((o_3) 3))), (qr4, .inl (cI, 8, .inl ((o_3) 4))), (zl, .inr (1, [.ref ql0, .int (SL 1 0)])), (ql0, .inl (cI, 80, .inl (SL 0)))]) (isC := [9, 10, 11, 12, 13, 14, 3, 4, 5, 6, 7, 8]) (isR := [0, 1, 2, 15, 16]) (perm := [0, 1, 2, 11, 12, 13, 14, 15, 16, 5, 6, 7, 8, 9, 10, 3, 4]) (As := [.ref zn]) (rest := []) (ci := 2) (q := (RX3, TX3, 7)) ⟨hx, hb, hml, hown, hts⟩ (c_X3_becomeLike l D cI cJ fu zr qr0 qr1 qr2 qr3 qr4 zn qn0 qn1 qn2 qn3 qn4 SR SN o_3 h_3) (cwV 1 hts gX4_takeHouse_X3_becomeLike rfl rfl rfl (by decide +kernel) ⟨Nat.le_of_ble_eq_true rfl, Nat.le_of_ble_eq_true rfl⟩) hK hP hD hS hA ⟨rfl, rfl, by decide, by decide, by decide, by decide, rfl⟩ rfl rfl rfl rfl hl.1 rfl (Nat.le_of_ble_eq_true rfl) dX4_takeHouse_26 (fun H locs hP hD hS => ?_)
    refine lv_aload_n hx hb dX4_takeHouse_29 rfl (lv_at hl 1 rfl) ?_
    refine va_get (D := D) (ci := 3) (v := .ref zl) (C := RX4) (T := TX4) (N := 9) hx hb hts i_X4_takeHouse_X4 hown hK hP 0 rfl rfl 4 (by decide) (hts _ q_X4_takeHouse_1) (fun _ h9 => h9) rfl dX4_takeHouse_30 ?_
    refine lv_aload_n hx hb dX4_takeHouse_33 rfl (lv_at hl 1 rfl) ?_
    refine va_get (D := D) (ci := 3) (v := .ref zr) (C := RX4) (T := TX4) (N := 9) hx hb hts i_X4_takeHouse_X4 hown hK hP 0 rfl rfl 1 (by decide) (hts _ q_X4_takeHouse_2) (fun _ h9 => h9) rfl dX4_takeHouse_34 ?_
    obtain ⟨o_4, h_4, hf⟩ := bd_some hf
    refine s_callVI (wc := ((wL zl ql0 cI SL) ++ (wT zr qr0 qr1 qr2 qr3 qr4 cI (o_3)))) (wr := [(zv, .inr (3, [.ref zn, .ref zr, .ref zk, .int (SV 3 0), .ref zl, .ref zo, .ref qv6, .int (SV 7 0), .ref qv8])), (qv6, .inl (cI, 8, .inl (SV 6))), (qv8, .inl (cI, 7, .inl (SV 8))), (zn, .inr (2, [.ref qn0, .ref qn1, .ref qn2, .ref qn3, .ref qn4, .int (SN 5 0), .int (SN 6 0)])), (qn0, .inl (cI, 8, .inl (SN 0))), (qn1, .inl (cI, 8, .inl (SN 1))), (qn2, .inl (cI, 8, .inl (SN 2))), (qn3, .inl (cI, 8, .inl (SN 3))), (qn4, .inl (cI, 8, .inl (SN 4)))]) (wc' := ((wL zl ql0 cI SL) ++ (wT zr qr0 qr1 qr2 qr3 qr4 cI (o_4.2)))) (w' := [(zv, .inr (3, [.ref zn, .ref zr, .ref zk, .int (SV 3 0), .ref zl, .ref zo, .ref qv6, .int (SV 7 0), .ref qv8])), (qv6, .inl (cI, 8, .inl (SV 6))), (qv8, .inl (cI, 7, .inl (SV 8))), (zn, .inr (2, [.ref qn0, .ref qn1, .ref qn2, .ref qn3, .ref qn4, .int (SN 5 0), .int (SN 6 0)])), (qn0, .inl (cI, 8, .inl (SN 0))), (qn1, .inl (cI, 8, .inl (SN 1))), (qn2, .inl (cI, 8, .inl (SN 2))), (qn3, .inl (cI, 8, .inl (SN 3))), (qn4, .inl (cI, 8, .inl (SN 4))), (zr, .inr (2, [.ref qr0, .ref qr1, .ref qr2, .ref qr3, .ref qr4, .int ((o_4.2) 5 0), .int ((o_4.2) 6 0)])), (qr0, .inl (cI, 8, .inl ((o_4.2) 0))), (qr1, .inl (cI, 8, .inl ((o_4.2) 1))), (qr2, .inl (cI, 8, .inl ((o_4.2) 2))), (qr3, .inl (cI, 8, .inl ((o_4.2) 3))), (qr4, .inl (cI, 8, .inl ((o_4.2) 4))), (zl, .inr (1, [.ref ql0, .int (SL 1 0)])), (ql0, .inl (cI, 80, .inl (SL 0)))]) (isC := [15, 16, 9, 10, 11, 12, 13, 14]) (isR := [0, 1, 2, 3, 4, 5, 6, 7, 8]) (perm := [0, 1, 2, 3, 4, 5, 6, 7, 8, 11, 12, 13, 14, 15, 16, 9, 10]) (As := [.ref zr]) (rest := []) (ci := 1) (q := (RX2, TX2, 2)) ⟨hx, hb, hml, hown, hts⟩ (c_X2_playOn l D cI cJ fu zl ql0 zr qr0 qr1 qr2 qr3 qr4 SL (o_3) o_4 h_4) (cwV 1 hts gX4_takeHouse_X2_playOn rfl rfl rfl (by decide +kernel) ⟨Nat.le_of_ble_eq_true rfl, Nat.le_of_ble_eq_true rfl⟩) hK hP hD hS hA ⟨rfl, rfl, by decide, by decide, by decide, by decide, rfl⟩ rfl rfl rfl rfl hl.1 rfl (Nat.le_of_ble_eq_true rfl) dX4_takeHouse_37 (fun H locs hP hD hS => ?_)
    refine lv_istore_n (lv' := [(1, .int o_4.1), (0, .ref zv)]) hx hb dX4_takeHouse_40 rfl hl (by decide) rfl (fun ls hl => ?_)
    refine lv_iload_n hx hb dX4_takeHouse_41 rfl (lv_at hl 0 rfl) ?_
    refine lv_if_lt (tgt := 51) hx hb dX4_takeHouse_42 (by decide) (fun c_5 => ?_) (fun c_5 => ?_)
    · have hf := itT c_5 hf
      refine lv_aload_n hx hb dX4_takeHouse_51 rfl (lv_at hl 1 rfl) ?_
      refine va_get (D := D) (ci := 3) (v := .ref zn) (C := RX4) (T := TX4) (N := 9) hx hb hts i_X4_takeHouse_X4 hown hK hP 0 rfl rfl 0 (by decide) (hts _ q_X4_takeHouse_3) (fun _ h9 => h9) rfl dX4_takeHouse_52 ?_
      refine lv_aload_n hx hb dX4_takeHouse_55 rfl (lv_at hl 1 rfl) ?_
      refine va_get (D := D) (ci := 3) (v := .ref zr) (C := RX4) (T := TX4) (N := 9) hx hb hts i_X4_takeHouse_X4 hown hK hP 0 rfl rfl 1 (by decide) (hts _ q_X4_takeHouse_2) (fun _ h9 => h9) rfl dX4_takeHouse_56 ?_
      obtain ⟨o_6, h_6, hf⟩ := bd_some hf
      refine s_callVV (wc := ((wT zn qn0 qn1 qn2 qn3 qn4 cI SN) ++ (wT zr qr0 qr1 qr2 qr3 qr4 cI (o_4.2)))) (wr := [(zv, .inr (3, [.ref zn, .ref zr, .ref zk, .int (SV 3 0), .ref zl, .ref zo, .ref qv6, .int (SV 7 0), .ref qv8])), (qv6, .inl (cI, 8, .inl (SV 6))), (qv8, .inl (cI, 7, .inl (SV 8))), (zl, .inr (1, [.ref ql0, .int (SL 1 0)])), (ql0, .inl (cI, 80, .inl (SL 0)))]) (wc' := ((wT zn qn0 qn1 qn2 qn3 qn4 cI (o_6)) ++ (wT zr qr0 qr1 qr2 qr3 qr4 cI (o_4.2)))) (w' := [(zv, .inr (3, [.ref zn, .ref zr, .ref zk, .int (SV 3 0), .ref zl, .ref zo, .ref qv6, .int (SV 7 0), .ref qv8])), (qv6, .inl (cI, 8, .inl (SV 6))), (qv8, .inl (cI, 7, .inl (SV 8))), (zn, .inr (2, [.ref qn0, .ref qn1, .ref qn2, .ref qn3, .ref qn4, .int ((o_6) 5 0), .int ((o_6) 6 0)])), (qn0, .inl (cI, 8, .inl ((o_6) 0))), (qn1, .inl (cI, 8, .inl ((o_6) 1))), (qn2, .inl (cI, 8, .inl ((o_6) 2))), (qn3, .inl (cI, 8, .inl ((o_6) 3))), (qn4, .inl (cI, 8, .inl ((o_6) 4))), (zr, .inr (2, [.ref qr0, .ref qr1, .ref qr2, .ref qr3, .ref qr4, .int ((o_4.2) 5 0), .int ((o_4.2) 6 0)])), (qr0, .inl (cI, 8, .inl ((o_4.2) 0))), (qr1, .inl (cI, 8, .inl ((o_4.2) 1))), (qr2, .inl (cI, 8, .inl ((o_4.2) 2))), (qr3, .inl (cI, 8, .inl ((o_4.2) 3))), (qr4, .inl (cI, 8, .inl ((o_4.2) 4))), (zl, .inr (1, [.ref ql0, .int (SL 1 0)])), (ql0, .inl (cI, 80, .inl (SL 0)))]) (isC := [3, 4, 5, 6, 7, 8, 9, 10, 11, 12, 13, 14]) (isR := [0, 1, 2, 15, 16]) (perm := [0, 1, 2, 5, 6, 7, 8, 9, 10, 11, 12, 13, 14, 15, 16, 3, 4]) (As := [.ref zr]) (rest := []) (ci := 2) (q := (RX3, TX3, 7)) ⟨hx, hb, hml, hown, hts⟩ (c_X3_becomeLike l D cI cJ fu zn qn0 qn1 qn2 qn3 qn4 zr qr0 qr1 qr2 qr3 qr4 SN (o_4.2) o_6 h_6) (cwV 1 hts gX4_takeHouse_X3_becomeLike rfl rfl rfl (by decide +kernel) ⟨Nat.le_of_ble_eq_true rfl, Nat.le_of_ble_eq_true rfl⟩) hK hP hD hS hA ⟨rfl, rfl, by decide, by decide, by decide, by decide, rfl⟩ rfl rfl rfl rfl hl.1 rfl (Nat.le_of_ble_eq_true rfl) dX4_takeHouse_59 (fun H locs hP hD hS => ?_)
      refine lv_aload_n hx hb dX4_takeHouse_62 rfl (lv_at hl 1 rfl) ?_
      refine va_get (D := D) (ci := 3) (v := .ref zl) (C := RX4) (T := TX4) (N := 9) hx hb hts i_X4_takeHouse_X4 hown hK hP 0 rfl rfl 4 (by decide) (hts _ q_X4_takeHouse_1) (fun _ h9 => h9) rfl dX4_takeHouse_63 ?_
      obtain ⟨o_7, h_7, hf⟩ := bd_some hf
      refine s_callVI (wc := (wL zl ql0 cI SL)) (wr := [(zv, .inr (3, [.ref zn, .ref zr, .ref zk, .int (SV 3 0), .ref zl, .ref zo, .ref qv6, .int (SV 7 0), .ref qv8])), (qv6, .inl (cI, 8, .inl (SV 6))), (qv8, .inl (cI, 7, .inl (SV 8))), (zn, .inr (2, [.ref qn0, .ref qn1, .ref qn2, .ref qn3, .ref qn4, .int ((o_6) 5 0), .int ((o_6) 6 0)])), (qn0, .inl (cI, 8, .inl ((o_6) 0))), (qn1, .inl (cI, 8, .inl ((o_6) 1))), (qn2, .inl (cI, 8, .inl ((o_6) 2))), (qn3, .inl (cI, 8, .inl ((o_6) 3))), (qn4, .inl (cI, 8, .inl ((o_6) 4))), (zr, .inr (2, [.ref qr0, .ref qr1, .ref qr2, .ref qr3, .ref qr4, .int ((o_4.2) 5 0), .int ((o_4.2) 6 0)])), (qr0, .inl (cI, 8, .inl ((o_4.2) 0))), (qr1, .inl (cI, 8, .inl ((o_4.2) 1))), (qr2, .inl (cI, 8, .inl ((o_4.2) 2))), (qr3, .inl (cI, 8, .inl ((o_4.2) 3))), (qr4, .inl (cI, 8, .inl ((o_4.2) 4)))]) (wc' := (wL zl ql0 cI SL)) (w' := [(zv, .inr (3, [.ref zn, .ref zr, .ref zk, .int (SV 3 0), .ref zl, .ref zo, .ref qv6, .int (SV 7 0), .ref qv8])), (qv6, .inl (cI, 8, .inl (SV 6))), (qv8, .inl (cI, 7, .inl (SV 8))), (zn, .inr (2, [.ref qn0, .ref qn1, .ref qn2, .ref qn3, .ref qn4, .int ((o_6) 5 0), .int ((o_6) 6 0)])), (qn0, .inl (cI, 8, .inl ((o_6) 0))), (qn1, .inl (cI, 8, .inl ((o_6) 1))), (qn2, .inl (cI, 8, .inl ((o_6) 2))), (qn3, .inl (cI, 8, .inl ((o_6) 3))), (qn4, .inl (cI, 8, .inl ((o_6) 4))), (zr, .inr (2, [.ref qr0, .ref qr1, .ref qr2, .ref qr3, .ref qr4, .int ((o_4.2) 5 0), .int ((o_4.2) 6 0)])), (qr0, .inl (cI, 8, .inl ((o_4.2) 0))), (qr1, .inl (cI, 8, .inl ((o_4.2) 1))), (qr2, .inl (cI, 8, .inl ((o_4.2) 2))), (qr3, .inl (cI, 8, .inl ((o_4.2) 3))), (qr4, .inl (cI, 8, .inl ((o_4.2) 4))), (zl, .inr (1, [.ref ql0, .int (SL 1 0)])), (ql0, .inl (cI, 80, .inl (SL 0)))]) (isC := [15, 16]) (isR := [0, 1, 2, 3, 4, 5, 6, 7, 8, 9, 10, 11, 12, 13, 14]) (perm := [0, 1, 2, 3, 4, 5, 6, 7, 8, 9, 10, 11, 12, 13, 14, 15, 16]) (As := []) (rest := []) (ci := 1) (q := (RX2, TX2, 2)) ⟨hx, hb, hml, hown, hts⟩ (c_X2_statements l D cI cJ fu zl ql0 SL o_7 h_7) (cwV 0 hts gX4_takeHouse_X2_statements rfl rfl rfl (by decide +kernel) ⟨Nat.le_of_ble_eq_true rfl, Nat.le_of_ble_eq_true rfl⟩) hK hP hD hS hA ⟨rfl, rfl, by decide, by decide, by decide, by decide, rfl⟩ rfl rfl rfl rfl hl.1 rfl (Nat.le_of_ble_eq_true rfl) dX4_takeHouse_66 (fun H locs hP hD hS => ?_)
      obtain rfl := Option.some.inj hf
      exact s_iret (r := o_7) hx hb hr hlocks hK hP hD hS dX4_takeHouse_69
    · have hf := itF c_5 hf
      refine lv_sipush (v := (-2000 : Int32)) hx hb dX4_takeHouse_45 (by decide) ?_
      refine lv_iload_n hx hb dX4_takeHouse_48 rfl (lv_at hl 0 rfl) ?_
      refine lv_isub hx hb dX4_takeHouse_49 ?_
      obtain rfl := Option.some.inj hf
      exact s_iret (r := ((-2000 : Int32) - o_4.1)) hx hb hr hlocks hK hP hD hS dX4_takeHouse_50
  · have hf := itF c_2 hf
    refine lv_sipush (v := (-1000 : Int32)) hx hb dX4_takeHouse_12 (by decide) ?_
    refine lv_iload_n hx hb dX4_takeHouse_15 rfl (lv_at hl 0 rfl) ?_
    refine lv_isub hx hb dX4_takeHouse_16 ?_
    obtain rfl := Option.some.inj hf
    exact s_iret (r := ((-1000 : Int32) - o_1)) hx hb hr hlocks hK hP hD hS dX4_takeHouse_17
theorem q_X4_house_1 : (Cond.fieldLink RX4 25 "UpWhenDies" "telling" "LUpWhenDies$Telling;" : Cond) ∈ wsX4_house := List.mem_of_getElem? (i := 1) rfl
theorem i_X4_house_X4 : ∀ w ∈ wsX40, w ∈ wsX4_house := fun _ h => (List.mem_cons_of_mem _ (List.mem_append_left _ (List.mem_append_left _ (List.mem_append_right _ h))))
abbrev rm_X4_house : Room := { frames := 6, cells := 0, slots := 0, locals := 142 }
set_option maxHeartbeats 4000000 in
set_option maxRecDepth 100000 in
theorem c_X4_house (l : Launch) (D : va_G) (cI cJ : ClassId) (fu : Nat) (zv qv6 qv8 zn zr zk zl zo qn0 qn1 qn2 qn3 qn4 qr0 qr1 qr2 qr3 qr4 ql0 : Nat) (SV : S32) (SN : S32) (SR : S32) (SL : S32) (o : Int32 × S32 × S32 × S32) (hf : f_X4_house fu SV SN SR SL = some o) : MI l yX4_house wsX4_house rm_X4_house D vwCl (tyS cI cJ) [.ref zv] ((wV zv qv6 qv8 zn zr zk zl zo cI SV) ++ ((wT zn qn0 qn1 qn2 qn3 qn4 cI SN) ++ ((wT zr qr0 qr1 qr2 qr3 qr4 cI SR) ++ (wL zl ql0 cI SL)))) ((wV zv qv6 qv8 zn zr zk zl zo cI SV) ++ ((wT zn qn0 qn1 qn2 qn3 qn4 cI (o.2.1)) ++ ((wT zr qr0 qr1 qr2 qr3 qr4 cI (o.2.2.1)) ++ (wL zl ql0 cI (o.2.2.2))))) (o.1) := by
  intro sz
  refine s_entry (own := RX4) (cc := cX4_house) (maxL := 2) (ret := (some .int)) (Qc := fun A => sZi D vwCl (tyS cI cJ) A ((wV zv qv6 qv8 zn zr zk zl zo cI SV) ++ ((wT zn qn0 qn1 qn2 qn3 qn4 cI (o.2.1)) ++ ((wT zr qr0 qr1 qr2 qr3 qr4 cI (o.2.2.1)) ++ (wL zl ql0 cI (o.2.2.2))))) (o.1)) rfl (by decide) rfl rfl (Nat.le_of_ble_eq_true rfl) ?_
  intro p e s m args below meth c A C0 hA hP hD hS ls hl
  obtain ⟨hx, hb, hr, hml, hown, hts, hlocks, hK⟩ := id C0
  have hl : lv_has ls 2 [(0, .ref zv)] := hl
  have hP : va_P D vwCl [(zv, .inr (3, [.ref zn, .ref zr, .ref zk, .int (SV 3 0), .ref zl, .ref zo, .ref qv6, .int (SV 7 0), .ref qv8])), (qv6, .inl (cI, 8, .inl (SV 6))), (qv8, .inl (cI, 7, .inl (SV 8))), (zn, .inr (2, [.ref qn0, .ref qn1, .ref qn2, .ref qn3, .ref qn4, .int (SN 5 0), .int (SN 6 0)])), (qn0, .inl (cI, 8, .inl (SN 0))), (qn1, .inl (cI, 8, .inl (SN 1))), (qn2, .inl (cI, 8, .inl (SN 2))), (qn3, .inl (cI, 8, .inl (SN 3))), (qn4, .inl (cI, 8, .inl (SN 4))), (zr, .inr (2, [.ref qr0, .ref qr1, .ref qr2, .ref qr3, .ref qr4, .int (SR 5 0), .int (SR 6 0)])), (qr0, .inl (cI, 8, .inl (SR 0))), (qr1, .inl (cI, 8, .inl (SR 1))), (qr2, .inl (cI, 8, .inl (SR 2))), (qr3, .inl (cI, 8, .inl (SR 3))), (qr4, .inl (cI, 8, .inl (SR 4))), (zl, .inr (1, [.ref ql0, .int (SL 1 0)])), (ql0, .inl (cI, 80, .inl (SL 0)))] s.heap := hP
  have hD : va_D A [(zv, .inr (3, [.ref zn, .ref zr, .ref zk, .int (SV 3 0), .ref zl, .ref zo, .ref qv6, .int (SV 7 0), .ref qv8])), (qv6, .inl (cI, 8, .inl (SV 6))), (qv8, .inl (cI, 7, .inl (SV 8))), (zn, .inr (2, [.ref qn0, .ref qn1, .ref qn2, .ref qn3, .ref qn4, .int (SN 5 0), .int (SN 6 0)])), (qn0, .inl (cI, 8, .inl (SN 0))), (qn1, .inl (cI, 8, .inl (SN 1))), (qn2, .inl (cI, 8, .inl (SN 2))), (qn3, .inl (cI, 8, .inl (SN 3))), (qn4, .inl (cI, 8, .inl (SN 4))), (zr, .inr (2, [.ref qr0, .ref qr1, .ref qr2, .ref qr3, .ref qr4, .int (SR 5 0), .int (SR 6 0)])), (qr0, .inl (cI, 8, .inl (SR 0))), (qr1, .inl (cI, 8, .inl (SR 1))), (qr2, .inl (cI, 8, .inl (SR 2))), (qr3, .inl (cI, 8, .inl (SR 3))), (qr4, .inl (cI, 8, .inl (SR 4))), (zl, .inr (1, [.ref ql0, .int (SL 1 0)])), (ql0, .inl (cI, 80, .inl (SL 0)))] := hD
  refine lv_aload_n hx hb dX4_house_0 rfl (lv_at hl 0 rfl) ?_
  obtain ⟨o_1, h_1, hf⟩ := bd_some hf
  refine s_callVI (wc := ((wV zv qv6 qv8 zn zr zk zl zo cI SV) ++ ((wT zn qn0 qn1 qn2 qn3 qn4 cI SN) ++ ((wT zr qr0 qr1 qr2 qr3 qr4 cI SR) ++ (wL zl ql0 cI SL))))) (wr := []) (wc' := ((wV zv qv6 qv8 zn zr zk zl zo cI SV) ++ ((wT zn qn0 qn1 qn2 qn3 qn4 cI (o_1.2.1)) ++ ((wT zr qr0 qr1 qr2 qr3 qr4 cI (o_1.2.2)) ++ (wL zl ql0 cI SL))))) (w' := [(zv, .inr (3, [.ref zn, .ref zr, .ref zk, .int (SV 3 0), .ref zl, .ref zo, .ref qv6, .int (SV 7 0), .ref qv8])), (qv6, .inl (cI, 8, .inl (SV 6))), (qv8, .inl (cI, 7, .inl (SV 8))), (zn, .inr (2, [.ref qn0, .ref qn1, .ref qn2, .ref qn3, .ref qn4, .int ((o_1.2.1) 5 0), .int ((o_1.2.1) 6 0)])), (qn0, .inl (cI, 8, .inl ((o_1.2.1) 0))), (qn1, .inl (cI, 8, .inl ((o_1.2.1) 1))), (qn2, .inl (cI, 8, .inl ((o_1.2.1) 2))), (qn3, .inl (cI, 8, .inl ((o_1.2.1) 3))), (qn4, .inl (cI, 8, .inl ((o_1.2.1) 4))), (zr, .inr (2, [.ref qr0, .ref qr1, .ref qr2, .ref qr3, .ref qr4, .int ((o_1.2.2) 5 0), .int ((o_1.2.2) 6 0)])), (qr0, .inl (cI, 8, .inl ((o_1.2.2) 0))), (qr1, .inl (cI, 8, .inl ((o_1.2.2) 1))), (qr2, .inl (cI, 8, .inl ((o_1.2.2) 2))), (qr3, .inl (cI, 8, .inl ((o_1.2.2) 3))), (qr4, .inl (cI, 8, .inl ((o_1.2.2) 4))), (zl, .inr (1, [.ref ql0, .int (SL 1 0)])), (ql0, .inl (cI, 80, .inl (SL 0)))]) (isC := [0, 1, 2, 3, 4, 5, 6, 7, 8, 9, 10, 11, 12, 13, 14, 15, 16]) (isR := []) (perm := [0, 1, 2, 3, 4, 5, 6, 7, 8, 9, 10, 11, 12, 13, 14, 15, 16]) (As := []) (rest := []) (ci := 3) (q := (RX4, TX4, 9)) ⟨hx, hb, hml, hown, hts⟩ (c_X4_takeHouse l D cI cJ fu zv qv6 qv8 zn zr zk zl zo qn0 qn1 qn2 qn3 qn4 qr0 qr1 qr2 qr3 qr4 ql0 SV SN SR SL o_1 h_1) (cwV 0 hts gX4_house_X4_takeHouse rfl rfl rfl (by decide +kernel) ⟨Nat.le_of_ble_eq_true rfl, Nat.le_of_ble_eq_true rfl⟩) hK hP hD hS hA ⟨rfl, rfl, by decide, by decide, by decide, by decide, rfl⟩ rfl rfl rfl rfl hl.1 rfl (Nat.le_of_ble_eq_true rfl) dX4_house_1 (fun H locs hP hD hS => ?_)
  refine lv_istore_n (lv' := [(1, .int o_1.1), (0, .ref zv)]) hx hb dX4_house_4 rfl hl (by decide) rfl (fun ls hl => ?_)
  refine lv_aload_n hx hb dX4_house_5 rfl (lv_at hl 1 rfl) ?_
  refine va_get (D := D) (ci := 3) (v := .ref zl) (C := RX4) (T := TX4) (N := 9) hx hb hts i_X4_house_X4 hown hK hP 0 rfl rfl 4 (by decide) (hts _ q_X4_house_1) (fun _ h9 => h9) rfl dX4_house_6 ?_
  obtain ⟨o_2, h_2, hf⟩ := bd_some hf
  refine s_callVV (wc := (wL zl ql0 cI SL)) (wr := [(zv, .inr (3, [.ref zn, .ref zr, .ref zk, .int (SV 3 0), .ref zl, .ref zo, .ref qv6, .int (SV 7 0), .ref qv8])), (qv6, .inl (cI, 8, .inl (SV 6))), (qv8, .inl (cI, 7, .inl (SV 8))), (zn, .inr (2, [.ref qn0, .ref qn1, .ref qn2, .ref qn3, .ref qn4, .int ((o_1.2.1) 5 0), .int ((o_1.2.1) 6 0)])), (qn0, .inl (cI, 8, .inl ((o_1.2.1) 0))), (qn1, .inl (cI, 8, .inl ((o_1.2.1) 1))), (qn2, .inl (cI, 8, .inl ((o_1.2.1) 2))), (qn3, .inl (cI, 8, .inl ((o_1.2.1) 3))), (qn4, .inl (cI, 8, .inl ((o_1.2.1) 4))), (zr, .inr (2, [.ref qr0, .ref qr1, .ref qr2, .ref qr3, .ref qr4, .int ((o_1.2.2) 5 0), .int ((o_1.2.2) 6 0)])), (qr0, .inl (cI, 8, .inl ((o_1.2.2) 0))), (qr1, .inl (cI, 8, .inl ((o_1.2.2) 1))), (qr2, .inl (cI, 8, .inl ((o_1.2.2) 2))), (qr3, .inl (cI, 8, .inl ((o_1.2.2) 3))), (qr4, .inl (cI, 8, .inl ((o_1.2.2) 4)))]) (wc' := (wL zl ql0 cI (o_2))) (w' := [(zv, .inr (3, [.ref zn, .ref zr, .ref zk, .int (SV 3 0), .ref zl, .ref zo, .ref qv6, .int (SV 7 0), .ref qv8])), (qv6, .inl (cI, 8, .inl (SV 6))), (qv8, .inl (cI, 7, .inl (SV 8))), (zn, .inr (2, [.ref qn0, .ref qn1, .ref qn2, .ref qn3, .ref qn4, .int ((o_1.2.1) 5 0), .int ((o_1.2.1) 6 0)])), (qn0, .inl (cI, 8, .inl ((o_1.2.1) 0))), (qn1, .inl (cI, 8, .inl ((o_1.2.1) 1))), (qn2, .inl (cI, 8, .inl ((o_1.2.1) 2))), (qn3, .inl (cI, 8, .inl ((o_1.2.1) 3))), (qn4, .inl (cI, 8, .inl ((o_1.2.1) 4))), (zr, .inr (2, [.ref qr0, .ref qr1, .ref qr2, .ref qr3, .ref qr4, .int ((o_1.2.2) 5 0), .int ((o_1.2.2) 6 0)])), (qr0, .inl (cI, 8, .inl ((o_1.2.2) 0))), (qr1, .inl (cI, 8, .inl ((o_1.2.2) 1))), (qr2, .inl (cI, 8, .inl ((o_1.2.2) 2))), (qr3, .inl (cI, 8, .inl ((o_1.2.2) 3))), (qr4, .inl (cI, 8, .inl ((o_1.2.2) 4))), (zl, .inr (1, [.ref ql0, .int ((o_2) 1 0)])), (ql0, .inl (cI, 80, .inl ((o_2) 0)))]) (isC := [15, 16]) (isR := [0, 1, 2, 3, 4, 5, 6, 7, 8, 9, 10, 11, 12, 13, 14]) (perm := [0, 1, 2, 3, 4, 5, 6, 7, 8, 9, 10, 11, 12, 13, 14, 15, 16]) (As := []) (rest := []) (ci := 1) (q := (RX2, TX2, 2)) ⟨hx, hb, hml, hown, hts⟩ (c_X2_forget l D cI cJ fu zl ql0 SL o_2 h_2) (cwV 0 hts gX4_house_X2_forget rfl rfl rfl (by decide +kernel) ⟨Nat.le_of_ble_eq_true rfl, Nat.le_of_ble_eq_true rfl⟩) hK hP hD hS hA ⟨rfl, rfl, by decide, by decide, by decide, by decide, rfl⟩ rfl rfl rfl rfl hl.1 rfl (Nat.le_of_ble_eq_true rfl) dX4_house_9 (fun H locs hP hD hS => ?_)
  refine lv_iload_n hx hb dX4_house_12 rfl (lv_at hl 0 rfl) ?_
  obtain rfl := Option.some.inj hf
  exact s_iret (r := o_1.1) hx hb hr hlocks hK hP hD hS dX4_house_13
abbrev rm_X4_isKind : Room := { frames := 0, cells := 0, slots := 0, locals := 0 }
set_option maxHeartbeats 4000000 in
set_option maxRecDepth 100000 in
theorem c_X4_isKind (l : Launch) (D : va_G) (cI cJ : ClassId) (fu : Nat) (x0 : Int32) (o : Int32) (hf : f_X4_isKind fu x0 = some o) : MI l yX4_isKind wsX4_isKind rm_X4_isKind D vwCl (tyS cI cJ) [.int x0] [] [] (o) := by
  intro sz
  refine s_entry (own := RX4) (cc := cX4_isKind) (maxL := 1) (ret := (some .boolean)) (Qc := fun A => sZi D vwCl (tyS cI cJ) A [] (o)) rfl (by decide) rfl rfl (Nat.le_of_ble_eq_true rfl) ?_
  intro p e s m args below meth c A C0 hA hP hD hS ls hl
  obtain ⟨hx, hb, hr, hml, hown, hts, hlocks, hK⟩ := id C0
  have hl : lv_has ls 1 [(0, .int x0)] := hl
  have hP : va_P D vwCl [] s.heap := hP
  have hD : va_D A [] := hD
  refine lv_iload_n hx hb dX4_isKind_0 rfl (lv_at hl 0 rfl) ?_
  refine lv_if_lt (tgt := 14) hx hb dX4_isKind_1 (by decide) (fun c_1 => ?_) (fun c_1 => ?_)
  · have hf := itT c_1 hf
    refine lv_iconst (v := (0 : Int32)) hx hb dX4_isKind_14 (by decide) ?_
    obtain rfl := Option.some.inj hf
    exact s_zret (r := (0 : Int32)) hx hb hr hlocks hK hP hD hS rfl dX4_isKind_15
  · have hf := itF c_1 hf
    refine lv_iload_n hx hb dX4_isKind_4 rfl (lv_at hl 0 rfl) ?_
    refine lv_bipush (v := (6 : Int32)) hx hb dX4_isKind_5 (by decide) ?_
    refine lv_icmp_ge (tgt := 14) hx hb dX4_isKind_7 (by decide) (fun c_2 => ?_) (fun c_2 => ?_)
    · have hf := itT c_2 hf
      refine lv_iconst (v := (0 : Int32)) hx hb dX4_isKind_14 (by decide) ?_
      obtain rfl := Option.some.inj hf
      exact s_zret (r := (0 : Int32)) hx hb hr hlocks hK hP hD hS rfl dX4_isKind_15
    · have hf := itF c_2 hf
      refine lv_iconst (v := (1 : Int32)) hx hb dX4_isKind_10 (by decide) ?_
      refine lv_goto (tgt := 15) hx hb dX4_isKind_11 (by decide) ?_
      obtain rfl := Option.some.inj hf
      exact s_zret (r := (1 : Int32)) hx hb hr hlocks hK hP hD hS rfl dX4_isKind_15
theorem q_X4_enter_1 : (Cond.fieldLink RX4 10 "UpWhenDies" "now" "LUpWhenDies$Tower;" : Cond) ∈ wsX4_enter := List.mem_of_getElem? (i := 1) rfl
theorem i_X4_enter_X4 : ∀ w ∈ wsX40, w ∈ wsX4_enter := fun _ h => (List.mem_cons_of_mem _ (List.mem_append_left _ (List.mem_append_right _ h)))
abbrev rm_X4_enter : Room := { frames := 3, cells := 0, slots := 0, locals := 67 }
set_option maxHeartbeats 4000000 in
set_option maxRecDepth 100000 in
theorem t_X4_enter_22 {p : Program} {l : Launch} {e : Env} {s : State} {m : MethodId} {args : Array Value} {below : List Frame} {meth : Method} {c : Code} {D : va_G} {cI cJ : ClassId} {A : Nat → Prop} {fu : Nat} {zv qv6 qv8 zn zr zk zl zo qn0 qn1 qn2 qn3 qn4 : Nat} {o : Int32 × S32 × S32} (C0 : Cx RX4 wsX4_enter cX4_enter 4 (some .int) D vwCl (tyS cI cJ) p s m args meth c) (hA : ∀ q : Nat, s.heap.size ≤ q → A q) : ∀ (SV : S32) (SN : S32), f_X4_enter_22 fu   SV SN = some o → ∀ (H : Heap) (locs : List Loc), va_P D vwCl ((wV zv qv6 qv8 zn zr zk zl zo cI SV) ++ (wT zn qn0 qn1 qn2 qn3 qn4 cI SN)) H → va_D A ((wV zv qv6 qv8 zn zr zk zl zo cI SV) ++ (wT zn qn0 qn1 qn2 qn3 qn4 cI SN)) → va_S A s.heap H locs → ∀ (ls : Array Slot), lv_has ls 4 [(0, .ref zv)] → W p l e rm_X4_enter s m args below meth c H locs 0 0 (MQ below (sZi D vwCl (tyS cI cJ) A ((wV zv qv6 qv8 zn zr zk zl zo cI (o.2.1)) ++ (wT zn qn0 qn1 qn2 qn3 qn4 cI (o.2.2))) (o.1)) args s 0 0 A) (F0 m 22 ls []) := by
  obtain ⟨hx, hb, hr, hml, hown, hts, hlocks, hK⟩ := id C0
  intro SV SN hf H locs hP hD hS ls hl
  have hP : va_P D vwCl [(zv, .inr (3, [.ref zn, .ref zr, .ref zk, .int (SV 3 0), .ref zl, .ref zo, .ref qv6, .int (SV 7 0), .ref qv8])), (qv6, .inl (cI, 8, .inl (SV 6))), (qv8, .inl (cI, 7, .inl (SV 8))), (zn, .inr (2, [.ref qn0, .ref qn1, .ref qn2, .ref qn3, .ref qn4, .int (SN 5 0), .int (SN 6 0)])), (qn0, .inl (cI, 8, .inl (SN 0))), (qn1, .inl (cI, 8, .inl (SN 1))), (qn2, .inl (cI, 8, .inl (SN 2))), (qn3, .inl (cI, 8, .inl (SN 3))), (qn4, .inl (cI, 8, .inl (SN 4)))] H := hP
  have hD : va_D A [(zv, .inr (3, [.ref zn, .ref zr, .ref zk, .int (SV 3 0), .ref zl, .ref zo, .ref qv6, .int (SV 7 0), .ref qv8])), (qv6, .inl (cI, 8, .inl (SV 6))), (qv8, .inl (cI, 7, .inl (SV 8))), (zn, .inr (2, [.ref qn0, .ref qn1, .ref qn2, .ref qn3, .ref qn4, .int (SN 5 0), .int (SN 6 0)])), (qn0, .inl (cI, 8, .inl (SN 0))), (qn1, .inl (cI, 8, .inl (SN 1))), (qn2, .inl (cI, 8, .inl (SN 2))), (qn3, .inl (cI, 8, .inl (SN 3))), (qn4, .inl (cI, 8, .inl (SN 4)))] := hD
  refine lv_aload_n hx hb dX4_enter_22 rfl (lv_at hl 0 rfl) ?_
  refine lv_bipush (v := (-4 : Int32)) hx hb dX4_enter_23 (by decide) ?_
  obtain ⟨o_1, h_1, hf⟩ := bd_some hf
  refine s_callVI (wc := (wV zv qv6 qv8 zn zr zk zl zo cI SV)) (wr := [(zn, .inr (2, [.ref qn0, .ref qn1, .ref qn2, .ref qn3, .ref qn4, .int (SN 5 0), .int (SN 6 0)])), (qn0, .inl (cI, 8, .inl (SN 0))), (qn1, .inl (cI, 8, .inl (SN 1))), (qn2, .inl (cI, 8, .inl (SN 2))), (qn3, .inl (cI, 8, .inl (SN 3))), (qn4, .inl (cI, 8, .inl (SN 4)))]) (wc' := (wV zv qv6 qv8 zn zr zk zl zo cI (o_1.2))) (w' := [(zv, .inr (3, [.ref zn, .ref zr, .ref zk, .int ((o_1.2) 3 0), .ref zl, .ref zo, .ref qv6, .int ((o_1.2) 7 0), .ref qv8])), (qv6, .inl (cI, 8, .inl ((o_1.2) 6))), (qv8, .inl (cI, 7, .inl ((o_1.2) 8))), (zn, .inr (2, [.ref qn0, .ref qn1, .ref qn2, .ref qn3, .ref qn4, .int (SN 5 0), .int (SN 6 0)])), (qn0, .inl (cI, 8, .inl (SN 0))), (qn1, .inl (cI, 8, .inl (SN 1))), (qn2, .inl (cI, 8, .inl (SN 2))), (qn3, .inl (cI, 8, .inl (SN 3))), (qn4, .inl (cI, 8, .inl (SN 4)))]) (isC := [0, 1, 2]) (isR := [3, 4, 5, 6, 7, 8]) (perm := [6, 7, 8, 0, 1, 2, 3, 4, 5]) (As := [.int (-4 : Int32)]) (rest := []) (ci := 3) (q := (RX4, TX4, 9)) ⟨hx, hb, hml, hown, hts⟩ (c_X4_refuse l D cI cJ fu zv qv6 qv8 zn zr zk zl zo SV (-4 : Int32) o_1 h_1) (cwV 1 hts gX4_enter_X4_refuse rfl rfl rfl (by decide +kernel) ⟨Nat.le_of_ble_eq_true rfl, Nat.le_of_ble_eq_true rfl⟩) hK hP hD hS hA ⟨rfl, rfl, by decide, by decide, by decide, by decide, rfl⟩ rfl rfl rfl rfl hl.1 rfl (Nat.le_of_ble_eq_true rfl) dX4_enter_25 (fun H locs hP hD hS => ?_)
  obtain rfl := Option.some.inj hf
  exact s_iret (r := o_1.1) hx hb hr hlocks hK hP hD hS dX4_enter_28
set_option maxHeartbeats 4000000 in
set_option maxRecDepth 100000 in
theorem t_X4_enter_51 {p : Program} {l : Launch} {e : Env} {s : State} {m : MethodId} {args : Array Value} {below : List Frame} {meth : Method} {c : Code} {D : va_G} {cI cJ : ClassId} {A : Nat → Prop} {fu : Nat} {zv qv6 qv8 zn zr zk zl zo qn0 qn1 qn2 qn3 qn4 : Nat} {o : Int32 × S32 × S32} (C0 : Cx RX4 wsX4_enter cX4_enter 4 (some .int) D vwCl (tyS cI cJ) p s m args meth c) (hA : ∀ q : Nat, s.heap.size ≤ q → A q) : ∀ (SV : S32) (SN : S32), f_X4_enter_51 fu   SV SN = some o → ∀ (H : Heap) (locs : List Loc), va_P D vwCl ((wV zv qv6 qv8 zn zr zk zl zo cI SV) ++ (wT zn qn0 qn1 qn2 qn3 qn4 cI SN)) H → va_D A ((wV zv qv6 qv8 zn zr zk zl zo cI SV) ++ (wT zn qn0 qn1 qn2 qn3 qn4 cI SN)) → va_S A s.heap H locs → ∀ (ls : Array Slot), lv_has ls 4 [(0, .ref zv)] → W p l e rm_X4_enter s m args below meth c H locs 0 0 (MQ below (sZi D vwCl (tyS cI cJ) A ((wV zv qv6 qv8 zn zr zk zl zo cI (o.2.1)) ++ (wT zn qn0 qn1 qn2 qn3 qn4 cI (o.2.2))) (o.1)) args s 0 0 A) (F0 m 51 ls []) := by
  obtain ⟨hx, hb, hr, hml, hown, hts, hlocks, hK⟩ := id C0
  intro SV SN hf H locs hP hD hS ls hl
  have hP : va_P D vwCl [(zv, .inr (3, [.ref zn, .ref zr, .ref zk, .int (SV 3 0), .ref zl, .ref zo, .ref qv6, .int (SV 7 0), .ref qv8])), (qv6, .inl (cI, 8, .inl (SV 6))), (qv8, .inl (cI, 7, .inl (SV 8))), (zn, .inr (2, [.ref qn0, .ref qn1, .ref qn2, .ref qn3, .ref qn4, .int (SN 5 0), .int (SN 6 0)])), (qn0, .inl (cI, 8, .inl (SN 0))), (qn1, .inl (cI, 8, .inl (SN 1))), (qn2, .inl (cI, 8, .inl (SN 2))), (qn3, .inl (cI, 8, .inl (SN 3))), (qn4, .inl (cI, 8, .inl (SN 4)))] H := hP
  have hD : va_D A [(zv, .inr (3, [.ref zn, .ref zr, .ref zk, .int (SV 3 0), .ref zl, .ref zo, .ref qv6, .int (SV 7 0), .ref qv8])), (qv6, .inl (cI, 8, .inl (SV 6))), (qv8, .inl (cI, 7, .inl (SV 8))), (zn, .inr (2, [.ref qn0, .ref qn1, .ref qn2, .ref qn3, .ref qn4, .int (SN 5 0), .int (SN 6 0)])), (qn0, .inl (cI, 8, .inl (SN 0))), (qn1, .inl (cI, 8, .inl (SN 1))), (qn2, .inl (cI, 8, .inl (SN 2))), (qn3, .inl (cI, 8, .inl (SN 3))), (qn4, .inl (cI, 8, .inl (SN 4)))] := hD
  refine lv_aload_n hx hb dX4_enter_51 rfl (lv_at hl 0 rfl) ?_
  refine lv_bipush (v := (-6 : Int32)) hx hb dX4_enter_52 (by decide) ?_
  obtain ⟨o_1, h_1, hf⟩ := bd_some hf
  refine s_callVI (wc := (wV zv qv6 qv8 zn zr zk zl zo cI SV)) (wr := [(zn, .inr (2, [.ref qn0, .ref qn1, .ref qn2, .ref qn3, .ref qn4, .int (SN 5 0), .int (SN 6 0)])), (qn0, .inl (cI, 8, .inl (SN 0))), (qn1, .inl (cI, 8, .inl (SN 1))), (qn2, .inl (cI, 8, .inl (SN 2))), (qn3, .inl (cI, 8, .inl (SN 3))), (qn4, .inl (cI, 8, .inl (SN 4)))]) (wc' := (wV zv qv6 qv8 zn zr zk zl zo cI (o_1.2))) (w' := [(zv, .inr (3, [.ref zn, .ref zr, .ref zk, .int ((o_1.2) 3 0), .ref zl, .ref zo, .ref qv6, .int ((o_1.2) 7 0), .ref qv8])), (qv6, .inl (cI, 8, .inl ((o_1.2) 6))), (qv8, .inl (cI, 7, .inl ((o_1.2) 8))), (zn, .inr (2, [.ref qn0, .ref qn1, .ref qn2, .ref qn3, .ref qn4, .int (SN 5 0), .int (SN 6 0)])), (qn0, .inl (cI, 8, .inl (SN 0))), (qn1, .inl (cI, 8, .inl (SN 1))), (qn2, .inl (cI, 8, .inl (SN 2))), (qn3, .inl (cI, 8, .inl (SN 3))), (qn4, .inl (cI, 8, .inl (SN 4)))]) (isC := [0, 1, 2]) (isR := [3, 4, 5, 6, 7, 8]) (perm := [6, 7, 8, 0, 1, 2, 3, 4, 5]) (As := [.int (-6 : Int32)]) (rest := []) (ci := 3) (q := (RX4, TX4, 9)) ⟨hx, hb, hml, hown, hts⟩ (c_X4_refuse l D cI cJ fu zv qv6 qv8 zn zr zk zl zo SV (-6 : Int32) o_1 h_1) (cwV 1 hts gX4_enter_X4_refuse rfl rfl rfl (by decide +kernel) ⟨Nat.le_of_ble_eq_true rfl, Nat.le_of_ble_eq_true rfl⟩) hK hP hD hS hA ⟨rfl, rfl, by decide, by decide, by decide, by decide, rfl⟩ rfl rfl rfl rfl hl.1 rfl (Nat.le_of_ble_eq_true rfl) dX4_enter_54 (fun H locs hP hD hS => ?_)
  obtain rfl := Option.some.inj hf
  exact s_iret (r := o_1.1) hx hb hr hlocks hK hP hD hS dX4_enter_57
set_option maxHeartbeats 4000000 in
set_option maxRecDepth 100000 in
theorem c_X4_enter (l : Launch) (D : va_G) (cI cJ : ClassId) (fu : Nat) (zv qv6 qv8 zn zr zk zl zo qn0 qn1 qn2 qn3 qn4 : Nat) (SV : S32) (SN : S32) (x1 : Int32) (x2 : Int32) (x3 : Int32) (o : Int32 × S32 × S32) (hf : f_X4_enter fu SV SN x1 x2 x3 = some o) : MI l yX4_enter wsX4_enter rm_X4_enter D vwCl (tyS cI cJ) [.ref zv, .int x1, .int x2, .int x3] ((wV zv qv6 qv8 zn zr zk zl zo cI SV) ++ (wT zn qn0 qn1 qn2 qn3 qn4 cI SN)) ((wV zv qv6 qv8 zn zr zk zl zo cI (o.2.1)) ++ (wT zn qn0 qn1 qn2 qn3 qn4 cI (o.2.2))) (o.1) := by
  intro sz
  refine s_entry (own := RX4) (cc := cX4_enter) (maxL := 4) (ret := (some .int)) (Qc := fun A => sZi D vwCl (tyS cI cJ) A ((wV zv qv6 qv8 zn zr zk zl zo cI (o.2.1)) ++ (wT zn qn0 qn1 qn2 qn3 qn4 cI (o.2.2))) (o.1)) rfl (by decide) rfl rfl (Nat.le_of_ble_eq_true rfl) ?_
  intro p e s m args below meth c A C0 hA hP hD hS ls hl
  obtain ⟨hx, hb, hr, hml, hown, hts, hlocks, hK⟩ := id C0
  have hl : lv_has ls 4 [(0, .ref zv), (1, .int x1), (2, .int x2), (3, .int x3)] := hl
  have hP : va_P D vwCl [(zv, .inr (3, [.ref zn, .ref zr, .ref zk, .int (SV 3 0), .ref zl, .ref zo, .ref qv6, .int (SV 7 0), .ref qv8])), (qv6, .inl (cI, 8, .inl (SV 6))), (qv8, .inl (cI, 7, .inl (SV 8))), (zn, .inr (2, [.ref qn0, .ref qn1, .ref qn2, .ref qn3, .ref qn4, .int (SN 5 0), .int (SN 6 0)])), (qn0, .inl (cI, 8, .inl (SN 0))), (qn1, .inl (cI, 8, .inl (SN 1))), (qn2, .inl (cI, 8, .inl (SN 2))), (qn3, .inl (cI, 8, .inl (SN 3))), (qn4, .inl (cI, 8, .inl (SN 4)))] s.heap := hP
  have hD : va_D A [(zv, .inr (3, [.ref zn, .ref zr, .ref zk, .int (SV 3 0), .ref zl, .ref zo, .ref qv6, .int (SV 7 0), .ref qv8])), (qv6, .inl (cI, 8, .inl (SV 6))), (qv8, .inl (cI, 7, .inl (SV 8))), (zn, .inr (2, [.ref qn0, .ref qn1, .ref qn2, .ref qn3, .ref qn4, .int (SN 5 0), .int (SN 6 0)])), (qn0, .inl (cI, 8, .inl (SN 0))), (qn1, .inl (cI, 8, .inl (SN 1))), (qn2, .inl (cI, 8, .inl (SN 2))), (qn3, .inl (cI, 8, .inl (SN 3))), (qn4, .inl (cI, 8, .inl (SN 4)))] := hD
  refine lv_iload_n hx hb dX4_enter_0 rfl (lv_at hl 1 rfl) ?_
  obtain ⟨o_1, h_1, hf⟩ := bd_some hf
  refine s_callSI (wc := []) (wr := [(zv, .inr (3, [.ref zn, .ref zr, .ref zk, .int (SV 3 0), .ref zl, .ref zo, .ref qv6, .int (SV 7 0), .ref qv8])), (qv6, .inl (cI, 8, .inl (SV 6))), (qv8, .inl (cI, 7, .inl (SV 8))), (zn, .inr (2, [.ref qn0, .ref qn1, .ref qn2, .ref qn3, .ref qn4, .int (SN 5 0), .int (SN 6 0)])), (qn0, .inl (cI, 8, .inl (SN 0))), (qn1, .inl (cI, 8, .inl (SN 1))), (qn2, .inl (cI, 8, .inl (SN 2))), (qn3, .inl (cI, 8, .inl (SN 3))), (qn4, .inl (cI, 8, .inl (SN 4)))]) (wc' := []) (w' := [(zv, .inr (3, [.ref zn, .ref zr, .ref zk, .int (SV 3 0), .ref zl, .ref zo, .ref qv6, .int (SV 7 0), .ref qv8])), (qv6, .inl (cI, 8, .inl (SV 6))), (qv8, .inl (cI, 7, .inl (SV 8))), (zn, .inr (2, [.ref qn0, .ref qn1, .ref qn2, .ref qn3, .ref qn4, .int (SN 5 0), .int (SN 6 0)])), (qn0, .inl (cI, 8, .inl (SN 0))), (qn1, .inl (cI, 8, .inl (SN 1))), (qn2, .inl (cI, 8, .inl (SN 2))), (qn3, .inl (cI, 8, .inl (SN 3))), (qn4, .inl (cI, 8, .inl (SN 4)))]) (isC := []) (isR := [0, 1, 2, 3, 4, 5, 6, 7, 8]) (perm := [0, 1, 2, 3, 4, 5, 6, 7, 8]) (As := [.int x1]) (rest := []) ⟨hx, hb, hml, hown, hts⟩ (c_X4_isKind l D cI cJ fu x1 o_1 h_1) (va_cwS 1 hts gX4_enter_X4_isKind rfl rfl rfl (by decide +kernel) ⟨Nat.le_of_ble_eq_true rfl, Nat.le_of_ble_eq_true rfl⟩) hK hP hD hS hA ⟨rfl, rfl, by decide, by decide, by decide, by decide, rfl⟩ rfl hl.1 rfl (Nat.le_of_ble_eq_true rfl) dX4_enter_1 (fun H locs hP hD hS => ?_)
  refine lv_if_ne (tgt := 14) hx hb dX4_enter_4 (by decide) (fun c_2 => ?_) (fun c_2 => ?_)
  · have hf := itF c_2 hf
    refine lv_iload_n hx hb dX4_enter_14 rfl (lv_at hl 2 rfl) ?_
    refine lv_if_lt (tgt := 22) hx hb dX4_enter_15 (by decide) (fun c_3 => ?_) (fun c_3 => ?_)
    · have hf := itT c_3 hf
      exact t_X4_enter_22 (fu := fu) C0 hA  _ _ hf _ _ hP hD hS _ (lv_sub hl [0] rfl)
    · have hf := itF c_3 hf
      refine lv_iload_n hx hb dX4_enter_18 rfl (lv_at hl 3 rfl) ?_
      refine lv_if_ge (tgt := 29) hx hb dX4_enter_19 (by decide) (fun c_4 => ?_) (fun c_4 => ?_)
      · have hf := itT c_4 hf
        refine lv_iload_n hx hb dX4_enter_29 rfl (lv_at hl 2 rfl) ?_
        refine lv_bipush (v := (99 : Int32)) hx hb dX4_enter_30 (by decide) ?_
        refine lv_icmp_gt (tgt := 51) hx hb dX4_enter_32 (by decide) (fun c_5 => ?_) (fun c_5 => ?_)
        · have hf := itT c_5 hf
          exact t_X4_enter_51 (fu := fu) C0 hA  _ _ hf _ _ hP hD hS _ (lv_sub hl [0] rfl)
        · have hf := itF c_5 hf
          refine lv_iload_n hx hb dX4_enter_35 rfl (lv_at hl 3 rfl) ?_
          refine lv_bipush (v := (9 : Int32)) hx hb dX4_enter_36 (by decide) ?_
          refine lv_icmp_gt (tgt := 51) hx hb dX4_enter_38 (by decide) (fun c_6 => ?_) (fun c_6 => ?_)
          · have hf := itT c_6 hf
            exact t_X4_enter_51 (fu := fu) C0 hA  _ _ hf _ _ hP hD hS _ (lv_sub hl [0] rfl)
          · have hf := itF c_6 hf
            refine lv_aload_n hx hb dX4_enter_41 rfl (lv_at hl 0 rfl) ?_
            refine va_get (D := D) (ci := 3) (v := .ref zn) (C := RX4) (T := TX4) (N := 9) hx hb hts i_X4_enter_X4 hown hK hP 0 rfl rfl 0 (by decide) (hts _ q_X4_enter_1) (fun _ h9 => h9) rfl dX4_enter_42 ?_
            obtain ⟨o_7, h_7, hf⟩ := bd_some hf
            refine s_callVI (wc := (wT zn qn0 qn1 qn2 qn3 qn4 cI SN)) (wr := [(zv, .inr (3, [.ref zn, .ref zr, .ref zk, .int (SV 3 0), .ref zl, .ref zo, .ref qv6, .int (SV 7 0), .ref qv8])), (qv6, .inl (cI, 8, .inl (SV 6))), (qv8, .inl (cI, 7, .inl (SV 8)))]) (wc' := (wT zn qn0 qn1 qn2 qn3 qn4 cI SN)) (w' := [(zv, .inr (3, [.ref zn, .ref zr, .ref zk, .int (SV 3 0), .ref zl, .ref zo, .ref qv6, .int (SV 7 0), .ref qv8])), (qv6, .inl (cI, 8, .inl (SV 6))), (qv8, .inl (cI, 7, .inl (SV 8))), (zn, .inr (2, [.ref qn0, .ref qn1, .ref qn2, .ref qn3, .ref qn4, .int (SN 5 0), .int (SN 6 0)])), (qn0, .inl (cI, 8, .inl (SN 0))), (qn1, .inl (cI, 8, .inl (SN 1))), (qn2, .inl (cI, 8, .inl (SN 2))), (qn3, .inl (cI, 8, .inl (SN 3))), (qn4, .inl (cI, 8, .inl (SN 4)))]) (isC := [3, 4, 5, 6, 7, 8]) (isR := [0, 1, 2]) (perm := [0, 1, 2, 3, 4, 5, 6, 7, 8]) (As := []) (rest := []) (ci := 2) (q := (RX3, TX3, 7)) ⟨hx, hb, hml, hown, hts⟩ (c_X3_isFull l D cI cJ fu zn qn0 qn1 qn2 qn3 qn4 SN o_7 h_7) (cwV 0 hts gX4_enter_X3_isFull rfl rfl rfl (by decide +kernel) ⟨Nat.le_of_ble_eq_true rfl, Nat.le_of_ble_eq_true rfl⟩) hK hP hD hS hA ⟨rfl, rfl, by decide, by decide, by decide, by decide, rfl⟩ rfl rfl rfl rfl hl.1 rfl (Nat.le_of_ble_eq_true rfl) dX4_enter_45 (fun H locs hP hD hS => ?_)
            refine lv_if_eq (tgt := 58) hx hb dX4_enter_48 (by decide) (fun c_8 => ?_) (fun c_8 => ?_)
            · have hf := itT c_8 hf
              refine lv_aload_n hx hb dX4_enter_58 rfl (lv_at hl 0 rfl) ?_
              refine va_get (D := D) (ci := 3) (v := .ref zn) (C := RX4) (T := TX4) (N := 9) hx hb hts i_X4_enter_X4 hown hK hP 0 rfl rfl 0 (by decide) (hts _ q_X4_enter_1) (fun _ h9 => h9) rfl dX4_enter_59 ?_
              refine lv_iload_n hx hb dX4_enter_62 rfl (lv_at hl 1 rfl) ?_
              refine lv_iload_n hx hb dX4_enter_63 rfl (lv_at hl 2 rfl) ?_
              obtain ⟨o_9, h_9, hf⟩ := bd_some hf
              refine s_callVI (wc := (wT zn qn0 qn1 qn2 qn3 qn4 cI SN)) (wr := [(zv, .inr (3, [.ref zn, .ref zr, .ref zk, .int (SV 3 0), .ref zl, .ref zo, .ref qv6, .int (SV 7 0), .ref qv8])), (qv6, .inl (cI, 8, .inl (SV 6))), (qv8, .inl (cI, 7, .inl (SV 8)))]) (wc' := (wT zn qn0 qn1 qn2 qn3 qn4 cI SN)) (w' := [(zv, .inr (3, [.ref zn, .ref zr, .ref zk, .int (SV 3 0), .ref zl, .ref zo, .ref qv6, .int (SV 7 0), .ref qv8])), (qv6, .inl (cI, 8, .inl (SV 6))), (qv8, .inl (cI, 7, .inl (SV 8))), (zn, .inr (2, [.ref qn0, .ref qn1, .ref qn2, .ref qn3, .ref qn4, .int (SN 5 0), .int (SN 6 0)])), (qn0, .inl (cI, 8, .inl (SN 0))), (qn1, .inl (cI, 8, .inl (SN 1))), (qn2, .inl (cI, 8, .inl (SN 2))), (qn3, .inl (cI, 8, .inl (SN 3))), (qn4, .inl (cI, 8, .inl (SN 4)))]) (isC := [3, 4, 5, 6, 7, 8]) (isR := [0, 1, 2]) (perm := [0, 1, 2, 3, 4, 5, 6, 7, 8]) (As := [.int x1, .int x2]) (rest := []) (ci := 2) (q := (RX3, TX3, 7)) ⟨hx, hb, hml, hown, hts⟩ (c_X3_couldComeIn l D cI cJ fu zn qn0 qn1 qn2 qn3 qn4 SN x1 x2 o_9 h_9) (cwV 2 hts gX4_enter_X3_couldComeIn rfl rfl rfl (by decide +kernel) ⟨Nat.le_of_ble_eq_true rfl, Nat.le_of_ble_eq_true rfl⟩) hK hP hD hS hA ⟨rfl, rfl, by decide, by decide, by decide, by decide, rfl⟩ rfl rfl rfl rfl hl.1 rfl (Nat.le_of_ble_eq_true rfl) dX4_enter_64 (fun H locs hP hD hS => ?_)
              refine lv_if_ne (tgt := 77) hx hb dX4_enter_67 (by decide) (fun c_10 => ?_) (fun c_10 => ?_)
              · have hf := itF c_10 hf
                refine lv_aload_n hx hb dX4_enter_77 rfl (lv_at hl 0 rfl) ?_
                refine va_get (D := D) (ci := 3) (v := .ref zn) (C := RX4) (T := TX4) (N := 9) hx hb hts i_X4_enter_X4 hown hK hP 0 rfl rfl 0 (by decide) (hts _ q_X4_enter_1) (fun _ h9 => h9) rfl dX4_enter_78 ?_
                refine lv_iload_n hx hb dX4_enter_81 rfl (lv_at hl 1 rfl) ?_
                refine lv_iload_n hx hb dX4_enter_82 rfl (lv_at hl 2 rfl) ?_
                refine lv_iload_n hx hb dX4_enter_83 rfl (lv_at hl 3 rfl) ?_
                obtain ⟨o_11, h_11, hf⟩ := bd_some hf
                refine s_callVI (wc := (wT zn qn0 qn1 qn2 qn3 qn4 cI SN)) (wr := [(zv, .inr (3, [.ref zn, .ref zr, .ref zk, .int (SV 3 0), .ref zl, .ref zo, .ref qv6, .int (SV 7 0), .ref qv8])), (qv6, .inl (cI, 8, .inl (SV 6))), (qv8, .inl (cI, 7, .inl (SV 8)))]) (wc' := (wT zn qn0 qn1 qn2 qn3 qn4 cI (o_11.2))) (w' := [(zv, .inr (3, [.ref zn, .ref zr, .ref zk, .int (SV 3 0), .ref zl, .ref zo, .ref qv6, .int (SV 7 0), .ref qv8])), (qv6, .inl (cI, 8, .inl (SV 6))), (qv8, .inl (cI, 7, .inl (SV 8))), (zn, .inr (2, [.ref qn0, .ref qn1, .ref qn2, .ref qn3, .ref qn4, .int ((o_11.2) 5 0), .int ((o_11.2) 6 0)])), (qn0, .inl (cI, 8, .inl ((o_11.2) 0))), (qn1, .inl (cI, 8, .inl ((o_11.2) 1))), (qn2, .inl (cI, 8, .inl ((o_11.2) 2))), (qn3, .inl (cI, 8, .inl ((o_11.2) 3))), (qn4, .inl (cI, 8, .inl ((o_11.2) 4)))]) (isC := [3, 4, 5, 6, 7, 8]) (isR := [0, 1, 2]) (perm := [0, 1, 2, 3, 4, 5, 6, 7, 8]) (As := [.int x1, .int x2, .int x3]) (rest := []) (ci := 2) (q := (RX3, TX3, 7)) ⟨hx, hb, hml, hown, hts⟩ (c_X3_admit l D cI cJ fu zn qn0 qn1 qn2 qn3 qn4 SN x1 x2 x3 o_11 h_11) (cwV 3 hts gX4_enter_X3_admit rfl rfl rfl (by decide +kernel) ⟨Nat.le_of_ble_eq_true rfl, Nat.le_of_ble_eq_true rfl⟩) hK hP hD hS hA ⟨rfl, rfl, by decide, by decide, by decide, by decide, rfl⟩ rfl rfl rfl rfl hl.1 rfl (Nat.le_of_ble_eq_true rfl) dX4_enter_84 (fun H locs hP hD hS => ?_)
                obtain rfl := Option.some.inj hf
                exact s_iret (r := o_11.1) hx hb hr hlocks hK hP hD hS dX4_enter_87
              · have hf := itT c_10 hf
                refine lv_aload_n hx hb dX4_enter_70 rfl (lv_at hl 0 rfl) ?_
                refine lv_bipush (v := (-3 : Int32)) hx hb dX4_enter_71 (by decide) ?_
                obtain ⟨o_12, h_12, hf⟩ := bd_some hf
                refine s_callVI (wc := (wV zv qv6 qv8 zn zr zk zl zo cI SV)) (wr := [(zn, .inr (2, [.ref qn0, .ref qn1, .ref qn2, .ref qn3, .ref qn4, .int (SN 5 0), .int (SN 6 0)])), (qn0, .inl (cI, 8, .inl (SN 0))), (qn1, .inl (cI, 8, .inl (SN 1))), (qn2, .inl (cI, 8, .inl (SN 2))), (qn3, .inl (cI, 8, .inl (SN 3))), (qn4, .inl (cI, 8, .inl (SN 4)))]) (wc' := (wV zv qv6 qv8 zn zr zk zl zo cI (o_12.2))) (w' := [(zv, .inr (3, [.ref zn, .ref zr, .ref zk, .int ((o_12.2) 3 0), .ref zl, .ref zo, .ref qv6, .int ((o_12.2) 7 0), .ref qv8])), (qv6, .inl (cI, 8, .inl ((o_12.2) 6))), (qv8, .inl (cI, 7, .inl ((o_12.2) 8))), (zn, .inr (2, [.ref qn0, .ref qn1, .ref qn2, .ref qn3, .ref qn4, .int (SN 5 0), .int (SN 6 0)])), (qn0, .inl (cI, 8, .inl (SN 0))), (qn1, .inl (cI, 8, .inl (SN 1))), (qn2, .inl (cI, 8, .inl (SN 2))), (qn3, .inl (cI, 8, .inl (SN 3))), (qn4, .inl (cI, 8, .inl (SN 4)))]) (isC := [0, 1, 2]) (isR := [3, 4, 5, 6, 7, 8]) (perm := [6, 7, 8, 0, 1, 2, 3, 4, 5]) (As := [.int (-3 : Int32)]) (rest := []) (ci := 3) (q := (RX4, TX4, 9)) ⟨hx, hb, hml, hown, hts⟩ (c_X4_refuse l D cI cJ fu zv qv6 qv8 zn zr zk zl zo SV (-3 : Int32) o_12 h_12) (cwV 1 hts gX4_enter_X4_refuse rfl rfl rfl (by decide +kernel) ⟨Nat.le_of_ble_eq_true rfl, Nat.le_of_ble_eq_true rfl⟩) hK hP hD hS hA ⟨rfl, rfl, by decide, by decide, by decide, by decide, rfl⟩ rfl rfl rfl rfl hl.1 rfl (Nat.le_of_ble_eq_true rfl) dX4_enter_73 (fun H locs hP hD hS => ?_)
                obtain rfl := Option.some.inj hf
                exact s_iret (r := o_12.1) hx hb hr hlocks hK hP hD hS dX4_enter_76
            · have hf := itF c_8 hf
              exact t_X4_enter_51 (fu := fu) C0 hA  _ _ hf _ _ hP hD hS _ (lv_sub hl [0] rfl)
      · have hf := itF c_4 hf
        exact t_X4_enter_22 (fu := fu) C0 hA  _ _ hf _ _ hP hD hS _ (lv_sub hl [0] rfl)
  · have hf := itT c_2 hf
    refine lv_aload_n hx hb dX4_enter_7 rfl (lv_at hl 0 rfl) ?_
    refine lv_bipush (v := (-2 : Int32)) hx hb dX4_enter_8 (by decide) ?_
    obtain ⟨o_13, h_13, hf⟩ := bd_some hf
    refine s_callVI (wc := (wV zv qv6 qv8 zn zr zk zl zo cI SV)) (wr := [(zn, .inr (2, [.ref qn0, .ref qn1, .ref qn2, .ref qn3, .ref qn4, .int (SN 5 0), .int (SN 6 0)])), (qn0, .inl (cI, 8, .inl (SN 0))), (qn1, .inl (cI, 8, .inl (SN 1))), (qn2, .inl (cI, 8, .inl (SN 2))), (qn3, .inl (cI, 8, .inl (SN 3))), (qn4, .inl (cI, 8, .inl (SN 4)))]) (wc' := (wV zv qv6 qv8 zn zr zk zl zo cI (o_13.2))) (w' := [(zv, .inr (3, [.ref zn, .ref zr, .ref zk, .int ((o_13.2) 3 0), .ref zl, .ref zo, .ref qv6, .int ((o_13.2) 7 0), .ref qv8])), (qv6, .inl (cI, 8, .inl ((o_13.2) 6))), (qv8, .inl (cI, 7, .inl ((o_13.2) 8))), (zn, .inr (2, [.ref qn0, .ref qn1, .ref qn2, .ref qn3, .ref qn4, .int (SN 5 0), .int (SN 6 0)])), (qn0, .inl (cI, 8, .inl (SN 0))), (qn1, .inl (cI, 8, .inl (SN 1))), (qn2, .inl (cI, 8, .inl (SN 2))), (qn3, .inl (cI, 8, .inl (SN 3))), (qn4, .inl (cI, 8, .inl (SN 4)))]) (isC := [0, 1, 2]) (isR := [3, 4, 5, 6, 7, 8]) (perm := [6, 7, 8, 0, 1, 2, 3, 4, 5]) (As := [.int (-2 : Int32)]) (rest := []) (ci := 3) (q := (RX4, TX4, 9)) ⟨hx, hb, hml, hown, hts⟩ (c_X4_refuse l D cI cJ fu zv qv6 qv8 zn zr zk zl zo SV (-2 : Int32) o_13 h_13) (cwV 1 hts gX4_enter_X4_refuse rfl rfl rfl (by decide +kernel) ⟨Nat.le_of_ble_eq_true rfl, Nat.le_of_ble_eq_true rfl⟩) hK hP hD hS hA ⟨rfl, rfl, by decide, by decide, by decide, by decide, rfl⟩ rfl rfl rfl rfl hl.1 rfl (Nat.le_of_ble_eq_true rfl) dX4_enter_10 (fun H locs hP hD hS => ?_)
    obtain rfl := Option.some.inj hf
    exact s_iret (r := o_13.1) hx hb hr hlocks hK hP hD hS dX4_enter_13
theorem q_X4_lodger_1 : (Cond.fieldLink RX4 10 "UpWhenDies" "now" "LUpWhenDies$Tower;" : Cond) ∈ wsX4_lodger := List.mem_of_getElem? (i := 1) rfl
theorem q_X4_lodger_2 : (Cond.fieldLink RX4 77 "UpWhenDies$Tower" "kind" "[I" : Cond) ∈ wsX4_lodger := List.mem_of_getElem? (i := 2) rfl
theorem q_X4_lodger_3 : (Cond.fieldLink RX4 80 "UpWhenDies$Tower" "age" "[I" : Cond) ∈ wsX4_lodger := List.mem_of_getElem? (i := 3) rfl
theorem q_X4_lodger_4 : (Cond.fieldLink RX4 83 "UpWhenDies$Tower" "floor" "[I" : Cond) ∈ wsX4_lodger := List.mem_of_getElem? (i := 4) rfl
theorem q_X4_lodger_5 : (Cond.fieldLink RX4 86 "UpWhenDies$Tower" "load" "[I" : Cond) ∈ wsX4_lodger := List.mem_of_getElem? (i := 5) rfl
theorem i_X4_lodger_X3 : ∀ w ∈ wsX30, w ∈ wsX4_lodger := fun _ h => (List.mem_cons_of_mem _ (List.mem_append_right _ h))
theorem i_X4_lodger_X4 : ∀ w ∈ wsX40, w ∈ wsX4_lodger := fun _ h => (List.mem_cons_of_mem _ (List.mem_append_left _ (List.mem_append_right _ h)))
abbrev rm_X4_lodger : Room := { frames := 4, cells := 0, slots := 0, locals := 85 }
set_option maxHeartbeats 4000000 in
set_option maxRecDepth 100000 in
theorem c_X4_lodger (l : Launch) (D : va_G) (cI cJ : ClassId) (fu : Nat) (zv qv6 qv8 zn zr zk zl zo qn0 qn1 qn2 qn3 qn4 : Nat) (SV : S32) (SN : S32) (x1 : Int32) (x2 : Int32) (o : Int32 × S32) (hf : f_X4_lodger fu SV SN x1 x2 = some o) : MI l yX4_lodger wsX4_lodger rm_X4_lodger D vwCl (tyS cI cJ) [.ref zv, .int x1, .int x2] ((wV zv qv6 qv8 zn zr zk zl zo cI SV) ++ (wT zn qn0 qn1 qn2 qn3 qn4 cI SN)) ((wV zv qv6 qv8 zn zr zk zl zo cI (o.2)) ++ (wT zn qn0 qn1 qn2 qn3 qn4 cI SN)) (o.1) := by
  intro sz
  refine s_entry (own := RX4) (cc := cX4_lodger) (maxL := 3) (ret := (some .int)) (Qc := fun A => sZi D vwCl (tyS cI cJ) A ((wV zv qv6 qv8 zn zr zk zl zo cI (o.2)) ++ (wT zn qn0 qn1 qn2 qn3 qn4 cI SN)) (o.1)) rfl (by decide) rfl rfl (Nat.le_of_ble_eq_true rfl) ?_
  intro p e s m args below meth c A C0 hA hP hD hS ls hl
  obtain ⟨hx, hb, hr, hml, hown, hts, hlocks, hK⟩ := id C0
  have hl : lv_has ls 3 [(0, .ref zv), (1, .int x1), (2, .int x2)] := hl
  have hP : va_P D vwCl [(zv, .inr (3, [.ref zn, .ref zr, .ref zk, .int (SV 3 0), .ref zl, .ref zo, .ref qv6, .int (SV 7 0), .ref qv8])), (qv6, .inl (cI, 8, .inl (SV 6))), (qv8, .inl (cI, 7, .inl (SV 8))), (zn, .inr (2, [.ref qn0, .ref qn1, .ref qn2, .ref qn3, .ref qn4, .int (SN 5 0), .int (SN 6 0)])), (qn0, .inl (cI, 8, .inl (SN 0))), (qn1, .inl (cI, 8, .inl (SN 1))), (qn2, .inl (cI, 8, .inl (SN 2))), (qn3, .inl (cI, 8, .inl (SN 3))), (qn4, .inl (cI, 8, .inl (SN 4)))] s.heap := hP
  have hD : va_D A [(zv, .inr (3, [.ref zn, .ref zr, .ref zk, .int (SV 3 0), .ref zl, .ref zo, .ref qv6, .int (SV 7 0), .ref qv8])), (qv6, .inl (cI, 8, .inl (SV 6))), (qv8, .inl (cI, 7, .inl (SV 8))), (zn, .inr (2, [.ref qn0, .ref qn1, .ref qn2, .ref qn3, .ref qn4, .int (SN 5 0), .int (SN 6 0)])), (qn0, .inl (cI, 8, .inl (SN 0))), (qn1, .inl (cI, 8, .inl (SN 1))), (qn2, .inl (cI, 8, .inl (SN 2))), (qn3, .inl (cI, 8, .inl (SN 3))), (qn4, .inl (cI, 8, .inl (SN 4)))] := hD
  refine lv_aload_n hx hb dX4_lodger_0 rfl (lv_at hl 0 rfl) ?_
  refine va_get (D := D) (ci := 3) (v := .ref zn) (C := RX4) (T := TX4) (N := 9) hx hb hts i_X4_lodger_X4 hown hK hP 0 rfl rfl 0 (by decide) (hts _ q_X4_lodger_1) (fun _ h9 => h9) rfl dX4_lodger_1 ?_
  refine lv_iload_n hx hb dX4_lodger_4 rfl (lv_at hl 1 rfl) ?_
  obtain ⟨o_1, h_1, hf⟩ := bd_some hf
  refine s_callVI (wc := (wT zn qn0 qn1 qn2 qn3 qn4 cI SN)) (wr := [(zv, .inr (3, [.ref zn, .ref zr, .ref zk, .int (SV 3 0), .ref zl, .ref zo, .ref qv6, .int (SV 7 0), .ref qv8])), (qv6, .inl (cI, 8, .inl (SV 6))), (qv8, .inl (cI, 7, .inl (SV 8)))]) (wc' := (wT zn qn0 qn1 qn2 qn3 qn4 cI SN)) (w' := [(zv, .inr (3, [.ref zn, .ref zr, .ref zk, .int (SV 3 0), .ref zl, .ref zo, .ref qv6, .int (SV 7 0), .ref qv8])), (qv6, .inl (cI, 8, .inl (SV 6))), (qv8, .inl (cI, 7, .inl (SV 8))), (zn, .inr (2, [.ref qn0, .ref qn1, .ref qn2, .ref qn3, .ref qn4, .int (SN 5 0), .int (SN 6 0)])), (qn0, .inl (cI, 8, .inl (SN 0))), (qn1, .inl (cI, 8, .inl (SN 1))), (qn2, .inl (cI, 8, .inl (SN 2))), (qn3, .inl (cI, 8, .inl (SN 3))), (qn4, .inl (cI, 8, .inl (SN 4)))]) (isC := [3, 4, 5, 6, 7, 8]) (isR := [0, 1, 2]) (perm := [0, 1, 2, 3, 4, 5, 6, 7, 8]) (As := [.int x1]) (rest := []) (ci := 2) (q := (RX3, TX3, 7)) ⟨hx, hb, hml, hown, hts⟩ (c_X3_isAlive l D cI cJ fu zn qn0 qn1 qn2 qn3 qn4 SN x1 o_1 h_1) (cwV 1 hts gX4_lodger_X3_isAlive rfl rfl rfl (by decide +kernel) ⟨Nat.le_of_ble_eq_true rfl, Nat.le_of_ble_eq_true rfl⟩) hK hP hD hS hA ⟨rfl, rfl, by decide, by decide, by decide, by decide, rfl⟩ rfl rfl rfl rfl hl.1 rfl (Nat.le_of_ble_eq_true rfl) dX4_lodger_5 (fun H locs hP hD hS => ?_)
  refine lv_if_ne (tgt := 17) hx hb dX4_lodger_8 (by decide) (fun c_2 => ?_) (fun c_2 => ?_)
  · have hf := itF c_2 hf
    refine lv_iload_n hx hb dX4_lodger_17 rfl (lv_at hl 2 rfl) ?_
    by_cases c_3 : x2 = (0 : Int32)
    · have hf := itT c_3 hf
      refine lv_tableIn (tgt := 60) (off := 42) hx hb dX4_lodger_18 (by rw [c_3] <;> decide) (by rw [c_3] <;> decide) (by rw [c_3] <;> rfl) (by decide) ?_
      refine lv_aload_n hx hb dX4_lodger_60 rfl (lv_at hl 0 rfl) ?_
      refine va_get (D := D) (ci := 3) (v := .ref zn) (C := RX4) (T := TX4) (N := 9) hx hb hts i_X4_lodger_X4 hown hK hP 0 rfl rfl 0 (by decide) (hts _ q_X4_lodger_1) (fun _ h9 => h9) rfl dX4_lodger_61 ?_
      refine va_get (D := D) (ci := 2) (v := .ref qn0) (C := RX3) (T := TX3) (N := 7) hx hb hts i_X4_lodger_X3 hown hK hP 3 rfl rfl 0 (by decide) (hts _ q_X4_lodger_2) (fun _ h9 => h9) rfl dX4_lodger_64 ?_
      refine lv_iload_n hx hb dX4_lodger_67 rfl (lv_at hl 1 rfl) ?_
      obtain ⟨g_4, hf⟩ := gd_some hf
      refine va_iald hx hb hK hP 4 0 rfl rfl g_4 dX4_lodger_68 ?_
      obtain rfl := Option.some.inj hf
      exact s_iret (r := (SN 0 x1.toNatClampNeg)) hx hb hr hlocks hK hP hD hS dX4_lodger_69
    have hf := itF c_3 hf
    by_cases c_5 : x2 = (1 : Int32)
    · have hf := itT c_5 hf
      refine lv_tableIn (tgt := 70) (off := 52) hx hb dX4_lodger_18 (by rw [c_5] <;> decide) (by rw [c_5] <;> decide) (by rw [c_5] <;> rfl) (by decide) ?_
      refine lv_aload_n hx hb dX4_lodger_70 rfl (lv_at hl 0 rfl) ?_
      refine va_get (D := D) (ci := 3) (v := .ref zn) (C := RX4) (T := TX4) (N := 9) hx hb hts i_X4_lodger_X4 hown hK hP 0 rfl rfl 0 (by decide) (hts _ q_X4_lodger_1) (fun _ h9 => h9) rfl dX4_lodger_71 ?_
      refine va_get (D := D) (ci := 2) (v := .ref qn1) (C := RX3) (T := TX3) (N := 7) hx hb hts i_X4_lodger_X3 hown hK hP 3 rfl rfl 1 (by decide) (hts _ q_X4_lodger_3) (fun _ h9 => h9) rfl dX4_lodger_74 ?_
      refine lv_iload_n hx hb dX4_lodger_77 rfl (lv_at hl 1 rfl) ?_
      obtain ⟨g_6, hf⟩ := gd_some hf
      refine va_iald hx hb hK hP 5 0 rfl rfl g_6 dX4_lodger_78 ?_
      obtain rfl := Option.some.inj hf
      exact s_iret (r := (SN 1 x1.toNatClampNeg)) hx hb hr hlocks hK hP hD hS dX4_lodger_79
    have hf := itF c_5 hf
    by_cases c_7 : x2 = (2 : Int32)
    · have hf := itT c_7 hf
      refine lv_tableIn (tgt := 80) (off := 62) hx hb dX4_lodger_18 (by rw [c_7] <;> decide) (by rw [c_7] <;> decide) (by rw [c_7] <;> rfl) (by decide) ?_
      refine lv_aload_n hx hb dX4_lodger_80 rfl (lv_at hl 0 rfl) ?_
      refine va_get (D := D) (ci := 3) (v := .ref zn) (C := RX4) (T := TX4) (N := 9) hx hb hts i_X4_lodger_X4 hown hK hP 0 rfl rfl 0 (by decide) (hts _ q_X4_lodger_1) (fun _ h9 => h9) rfl dX4_lodger_81 ?_
      refine va_get (D := D) (ci := 2) (v := .ref qn2) (C := RX3) (T := TX3) (N := 7) hx hb hts i_X4_lodger_X3 hown hK hP 3 rfl rfl 2 (by decide) (hts _ q_X4_lodger_4) (fun _ h9 => h9) rfl dX4_lodger_84 ?_
      refine lv_iload_n hx hb dX4_lodger_87 rfl (lv_at hl 1 rfl) ?_
      obtain ⟨g_8, hf⟩ := gd_some hf
      refine va_iald hx hb hK hP 6 0 rfl rfl g_8 dX4_lodger_88 ?_
      obtain rfl := Option.some.inj hf
      exact s_iret (r := (SN 2 x1.toNatClampNeg)) hx hb hr hlocks hK hP hD hS dX4_lodger_89
    have hf := itF c_7 hf
    by_cases c_9 : x2 = (3 : Int32)
    · have hf := itT c_9 hf
      refine lv_tableIn (tgt := 90) (off := 72) hx hb dX4_lodger_18 (by rw [c_9] <;> decide) (by rw [c_9] <;> decide) (by rw [c_9] <;> rfl) (by decide) ?_
      refine lv_aload_n hx hb dX4_lodger_90 rfl (lv_at hl 0 rfl) ?_
      refine va_get (D := D) (ci := 3) (v := .ref zn) (C := RX4) (T := TX4) (N := 9) hx hb hts i_X4_lodger_X4 hown hK hP 0 rfl rfl 0 (by decide) (hts _ q_X4_lodger_1) (fun _ h9 => h9) rfl dX4_lodger_91 ?_
      refine va_get (D := D) (ci := 2) (v := .ref qn3) (C := RX3) (T := TX3) (N := 7) hx hb hts i_X4_lodger_X3 hown hK hP 3 rfl rfl 3 (by decide) (hts _ q_X4_lodger_5) (fun _ h9 => h9) rfl dX4_lodger_94 ?_
      refine lv_iload_n hx hb dX4_lodger_97 rfl (lv_at hl 1 rfl) ?_
      obtain ⟨g_10, hf⟩ := gd_some hf
      refine va_iald hx hb hK hP 7 0 rfl rfl g_10 dX4_lodger_98 ?_
      obtain rfl := Option.some.inj hf
      exact s_iret (r := (SN 3 x1.toNatClampNeg)) hx hb hr hlocks hK hP hD hS dX4_lodger_99
    have hf := itF c_9 hf
    by_cases c_11 : x2 = (4 : Int32)
    · have hf := itT c_11 hf
      refine lv_tableIn (tgt := 100) (off := 82) hx hb dX4_lodger_18 (by rw [c_11] <;> decide) (by rw [c_11] <;> decide) (by rw [c_11] <;> rfl) (by decide) ?_
      refine lv_aload_n hx hb dX4_lodger_100 rfl (lv_at hl 0 rfl) ?_
      refine va_get (D := D) (ci := 3) (v := .ref zn) (C := RX4) (T := TX4) (N := 9) hx hb hts i_X4_lodger_X4 hown hK hP 0 rfl rfl 0 (by decide) (hts _ q_X4_lodger_1) (fun _ h9 => h9) rfl dX4_lodger_101 ?_
      refine lv_iload_n hx hb dX4_lodger_104 rfl (lv_at hl 1 rfl) ?_
      refine lv_iconst (v := (0 : Int32)) hx hb dX4_lodger_105 (by decide) ?_
      obtain ⟨o_12, h_12, hf⟩ := bd_some hf
      refine s_callVI (wc := (wT zn qn0 qn1 qn2 qn3 qn4 cI SN)) (wr := [(zv, .inr (3, [.ref zn, .ref zr, .ref zk, .int (SV 3 0), .ref zl, .ref zo, .ref qv6, .int (SV 7 0), .ref qv8])), (qv6, .inl (cI, 8, .inl (SV 6))), (qv8, .inl (cI, 7, .inl (SV 8)))]) (wc' := (wT zn qn0 qn1 qn2 qn3 qn4 cI SN)) (w' := [(zv, .inr (3, [.ref zn, .ref zr, .ref zk, .int (SV 3 0), .ref zl, .ref zo, .ref qv6, .int (SV 7 0), .ref qv8])), (qv6, .inl (cI, 8, .inl (SV 6))), (qv8, .inl (cI, 7, .inl (SV 8))), (zn, .inr (2, [.ref qn0, .ref qn1, .ref qn2, .ref qn3, .ref qn4, .int (SN 5 0), .int (SN 6 0)])), (qn0, .inl (cI, 8, .inl (SN 0))), (qn1, .inl (cI, 8, .inl (SN 1))), (qn2, .inl (cI, 8, .inl (SN 2))), (qn3, .inl (cI, 8, .inl (SN 3))), (qn4, .inl (cI, 8, .inl (SN 4)))]) (isC := [3, 4, 5, 6, 7, 8]) (isR := [0, 1, 2]) (perm := [0, 1, 2, 3, 4, 5, 6, 7, 8]) (As := [.int x1, .int (0 : Int32)]) (rest := []) (ci := 2) (q := (RX3, TX3, 7)) ⟨hx, hb, hml, hown, hts⟩ (c_X3_chanceAfter l D cI cJ fu zn qn0 qn1 qn2 qn3 qn4 SN x1 (0 : Int32) o_12 h_12) (cwV 2 hts gX4_lodger_X3_chanceAfter rfl rfl rfl (by decide +kernel) ⟨Nat.le_of_ble_eq_true rfl, Nat.le_of_ble_eq_true rfl⟩) hK hP hD hS hA ⟨rfl, rfl, by decide, by decide, by decide, by decide, rfl⟩ rfl rfl rfl rfl hl.1 rfl (Nat.le_of_ble_eq_true rfl) dX4_lodger_106 (fun H locs hP hD hS => ?_)
      obtain rfl := Option.some.inj hf
      exact s_iret (r := o_12) hx hb hr hlocks hK hP hD hS dX4_lodger_109
    have hf := itF c_11 hf
    by_cases c_13 : x2 = (5 : Int32)
    · have hf := itT c_13 hf
      refine lv_tableIn (tgt := 110) (off := 92) hx hb dX4_lodger_18 (by rw [c_13] <;> decide) (by rw [c_13] <;> decide) (by rw [c_13] <;> rfl) (by decide) ?_
      refine lv_aload_n hx hb dX4_lodger_110 rfl (lv_at hl 0 rfl) ?_
      refine va_get (D := D) (ci := 3) (v := .ref zn) (C := RX4) (T := TX4) (N := 9) hx hb hts i_X4_lodger_X4 hown hK hP 0 rfl rfl 0 (by decide) (hts _ q_X4_lodger_1) (fun _ h9 => h9) rfl dX4_lodger_111 ?_
      refine lv_iload_n hx hb dX4_lodger_114 rfl (lv_at hl 1 rfl) ?_
      refine lv_iconst (v := (0 : Int32)) hx hb dX4_lodger_115 (by decide) ?_
      obtain ⟨o_14, h_14, hf⟩ := bd_some hf
      refine s_callVI (wc := (wT zn qn0 qn1 qn2 qn3 qn4 cI SN)) (wr := [(zv, .inr (3, [.ref zn, .ref zr, .ref zk, .int (SV 3 0), .ref zl, .ref zo, .ref qv6, .int (SV 7 0), .ref qv8])), (qv6, .inl (cI, 8, .inl (SV 6))), (qv8, .inl (cI, 7, .inl (SV 8)))]) (wc' := (wT zn qn0 qn1 qn2 qn3 qn4 cI SN)) (w' := [(zv, .inr (3, [.ref zn, .ref zr, .ref zk, .int (SV 3 0), .ref zl, .ref zo, .ref qv6, .int (SV 7 0), .ref qv8])), (qv6, .inl (cI, 8, .inl (SV 6))), (qv8, .inl (cI, 7, .inl (SV 8))), (zn, .inr (2, [.ref qn0, .ref qn1, .ref qn2, .ref qn3, .ref qn4, .int (SN 5 0), .int (SN 6 0)])), (qn0, .inl (cI, 8, .inl (SN 0))), (qn1, .inl (cI, 8, .inl (SN 1))), (qn2, .inl (cI, 8, .inl (SN 2))), (qn3, .inl (cI, 8, .inl (SN 3))), (qn4, .inl (cI, 8, .inl (SN 4)))]) (isC := [3, 4, 5, 6, 7, 8]) (isR := [0, 1, 2]) (perm := [0, 1, 2, 3, 4, 5, 6, 7, 8]) (As := [.int x1, .int (0 : Int32)]) (rest := []) (ci := 2) (q := (RX3, TX3, 7)) ⟨hx, hb, hml, hown, hts⟩ (c_X3_climbAfter l D cI cJ fu zn qn0 qn1 qn2 qn3 qn4 SN x1 (0 : Int32) o_14 h_14) (cwV 2 hts gX4_lodger_X3_climbAfter rfl rfl rfl (by decide +kernel) ⟨Nat.le_of_ble_eq_true rfl, Nat.le_of_ble_eq_true rfl⟩) hK hP hD hS hA ⟨rfl, rfl, by decide, by decide, by decide, by decide, rfl⟩ rfl rfl rfl rfl hl.1 rfl (Nat.le_of_ble_eq_true rfl) dX4_lodger_116 (fun H locs hP hD hS => ?_)
      obtain rfl := Option.some.inj hf
      exact s_iret (r := o_14) hx hb hr hlocks hK hP hD hS dX4_lodger_119
    have hf := itF c_13 hf
    by_cases c_15 : x2 = (6 : Int32)
    · have hf := itT c_15 hf
      refine lv_tableIn (tgt := 120) (off := 102) hx hb dX4_lodger_18 (by rw [c_15] <;> decide) (by rw [c_15] <;> decide) (by rw [c_15] <;> rfl) (by decide) ?_
      refine lv_aload_n hx hb dX4_lodger_120 rfl (lv_at hl 0 rfl) ?_
      refine va_get (D := D) (ci := 3) (v := .ref zn) (C := RX4) (T := TX4) (N := 9) hx hb hts i_X4_lodger_X4 hown hK hP 0 rfl rfl 0 (by decide) (hts _ q_X4_lodger_1) (fun _ h9 => h9) rfl dX4_lodger_121 ?_
      refine lv_iload_n hx hb dX4_lodger_124 rfl (lv_at hl 1 rfl) ?_
      obtain ⟨o_16, h_16, hf⟩ := bd_some hf
      refine s_callVI (wc := (wT zn qn0 qn1 qn2 qn3 qn4 cI SN)) (wr := [(zv, .inr (3, [.ref zn, .ref zr, .ref zk, .int (SV 3 0), .ref zl, .ref zo, .ref qv6, .int (SV 7 0), .ref qv8])), (qv6, .inl (cI, 8, .inl (SV 6))), (qv8, .inl (cI, 7, .inl (SV 8)))]) (wc' := (wT zn qn0 qn1 qn2 qn3 qn4 cI SN)) (w' := [(zv, .inr (3, [.ref zn, .ref zr, .ref zk, .int (SV 3 0), .ref zl, .ref zo, .ref qv6, .int (SV 7 0), .ref qv8])), (qv6, .inl (cI, 8, .inl (SV 6))), (qv8, .inl (cI, 7, .inl (SV 8))), (zn, .inr (2, [.ref qn0, .ref qn1, .ref qn2, .ref qn3, .ref qn4, .int (SN 5 0), .int (SN 6 0)])), (qn0, .inl (cI, 8, .inl (SN 0))), (qn1, .inl (cI, 8, .inl (SN 1))), (qn2, .inl (cI, 8, .inl (SN 2))), (qn3, .inl (cI, 8, .inl (SN 3))), (qn4, .inl (cI, 8, .inl (SN 4)))]) (isC := [3, 4, 5, 6, 7, 8]) (isR := [0, 1, 2]) (perm := [0, 1, 2, 3, 4, 5, 6, 7, 8]) (As := [.int x1]) (rest := []) (ci := 2) (q := (RX3, TX3, 7)) ⟨hx, hb, hml, hown, hts⟩ (c_X3_wishTold l D cI cJ fu zn qn0 qn1 qn2 qn3 qn4 SN x1 o_16 h_16) (cwV 1 hts gX4_lodger_X3_wishTold rfl rfl rfl (by decide +kernel) ⟨Nat.le_of_ble_eq_true rfl, Nat.le_of_ble_eq_true rfl⟩) hK hP hD hS hA ⟨rfl, rfl, by decide, by decide, by decide, by decide, rfl⟩ rfl rfl rfl rfl hl.1 rfl (Nat.le_of_ble_eq_true rfl) dX4_lodger_125 (fun H locs hP hD hS => ?_)
      obtain rfl := Option.some.inj hf
      exact s_iret (r := o_16) hx hb hr hlocks hK hP hD hS dX4_lodger_128
    have hf := itF c_15 hf
    refine lv_tableOut (tgt := 129) hx hb dX4_lodger_18 (by have n_3 := lv_neT c_3 (a := 0) (by decide); have n_5 := lv_neT c_5 (a := 1) (by decide); have n_7 := lv_neT c_7 (a := 2) (by decide); have n_9 := lv_neT c_9 (a := 3) (by decide); have n_11 := lv_neT c_11 (a := 4) (by decide); have n_13 := lv_neT c_13 (a := 5) (by decide); have n_15 := lv_neT c_15 (a := 6) (by decide); omega) (by decide) ?_
    refine lv_aload_n hx hb dX4_lodger_129 rfl (lv_at hl 0 rfl) ?_
    refine lv_bipush (v := (-2 : Int32)) hx hb dX4_lodger_130 (by decide) ?_
    obtain ⟨o_17, h_17, hf⟩ := bd_some hf
    refine s_callVI (wc := (wV zv qv6 qv8 zn zr zk zl zo cI SV)) (wr := [(zn, .inr (2, [.ref qn0, .ref qn1, .ref qn2, .ref qn3, .ref qn4, .int (SN 5 0), .int (SN 6 0)])), (qn0, .inl (cI, 8, .inl (SN 0))), (qn1, .inl (cI, 8, .inl (SN 1))), (qn2, .inl (cI, 8, .inl (SN 2))), (qn3, .inl (cI, 8, .inl (SN 3))), (qn4, .inl (cI, 8, .inl (SN 4)))]) (wc' := (wV zv qv6 qv8 zn zr zk zl zo cI (o_17.2))) (w' := [(zv, .inr (3, [.ref zn, .ref zr, .ref zk, .int ((o_17.2) 3 0), .ref zl, .ref zo, .ref qv6, .int ((o_17.2) 7 0), .ref qv8])), (qv6, .inl (cI, 8, .inl ((o_17.2) 6))), (qv8, .inl (cI, 7, .inl ((o_17.2) 8))), (zn, .inr (2, [.ref qn0, .ref qn1, .ref qn2, .ref qn3, .ref qn4, .int (SN 5 0), .int (SN 6 0)])), (qn0, .inl (cI, 8, .inl (SN 0))), (qn1, .inl (cI, 8, .inl (SN 1))), (qn2, .inl (cI, 8, .inl (SN 2))), (qn3, .inl (cI, 8, .inl (SN 3))), (qn4, .inl (cI, 8, .inl (SN 4)))]) (isC := [0, 1, 2]) (isR := [3, 4, 5, 6, 7, 8]) (perm := [6, 7, 8, 0, 1, 2, 3, 4, 5]) (As := [.int (-2 : Int32)]) (rest := []) (ci := 3) (q := (RX4, TX4, 9)) ⟨hx, hb, hml, hown, hts⟩ (c_X4_refuse l D cI cJ fu zv qv6 qv8 zn zr zk zl zo SV (-2 : Int32) o_17 h_17) (cwV 1 hts gX4_lodger_X4_refuse rfl rfl rfl (by decide +kernel) ⟨Nat.le_of_ble_eq_true rfl, Nat.le_of_ble_eq_true rfl⟩) hK hP hD hS hA ⟨rfl, rfl, by decide, by decide, by decide, by decide, rfl⟩ rfl rfl rfl rfl hl.1 rfl (Nat.le_of_ble_eq_true rfl) dX4_lodger_132 (fun H locs hP hD hS => ?_)
    obtain rfl := Option.some.inj hf
    exact s_iret (r := o_17.1) hx hb hr hlocks hK hP hD hS dX4_lodger_135
  · have hf := itT c_2 hf
    refine lv_aload_n hx hb dX4_lodger_11 rfl (lv_at hl 0 rfl) ?_
    refine lv_iconst (v := (-1 : Int32)) hx hb dX4_lodger_12 (by decide) ?_
    obtain ⟨o_18, h_18, hf⟩ := bd_some hf
    refine s_callVI (wc := (wV zv qv6 qv8 zn zr zk zl zo cI SV)) (wr := [(zn, .inr (2, [.ref qn0, .ref qn1, .ref qn2, .ref qn3, .ref qn4, .int (SN 5 0), .int (SN 6 0)])), (qn0, .inl (cI, 8, .inl (SN 0))), (qn1, .inl (cI, 8, .inl (SN 1))), (qn2, .inl (cI, 8, .inl (SN 2))), (qn3, .inl (cI, 8, .inl (SN 3))), (qn4, .inl (cI, 8, .inl (SN 4)))]) (wc' := (wV zv qv6 qv8 zn zr zk zl zo cI (o_18.2))) (w' := [(zv, .inr (3, [.ref zn, .ref zr, .ref zk, .int ((o_18.2) 3 0), .ref zl, .ref zo, .ref qv6, .int ((o_18.2) 7 0), .ref qv8])), (qv6, .inl (cI, 8, .inl ((o_18.2) 6))), (qv8, .inl (cI, 7, .inl ((o_18.2) 8))), (zn, .inr (2, [.ref qn0, .ref qn1, .ref qn2, .ref qn3, .ref qn4, .int (SN 5 0), .int (SN 6 0)])), (qn0, .inl (cI, 8, .inl (SN 0))), (qn1, .inl (cI, 8, .inl (SN 1))), (qn2, .inl (cI, 8, .inl (SN 2))), (qn3, .inl (cI, 8, .inl (SN 3))), (qn4, .inl (cI, 8, .inl (SN 4)))]) (isC := [0, 1, 2]) (isR := [3, 4, 5, 6, 7, 8]) (perm := [6, 7, 8, 0, 1, 2, 3, 4, 5]) (As := [.int (-1 : Int32)]) (rest := []) (ci := 3) (q := (RX4, TX4, 9)) ⟨hx, hb, hml, hown, hts⟩ (c_X4_refuse l D cI cJ fu zv qv6 qv8 zn zr zk zl zo SV (-1 : Int32) o_18 h_18) (cwV 1 hts gX4_lodger_X4_refuse rfl rfl rfl (by decide +kernel) ⟨Nat.le_of_ble_eq_true rfl, Nat.le_of_ble_eq_true rfl⟩) hK hP hD hS hA ⟨rfl, rfl, by decide, by decide, by decide, by decide, rfl⟩ rfl rfl rfl rfl hl.1 rfl (Nat.le_of_ble_eq_true rfl) dX4_lodger_13 (fun H locs hP hD hS => ?_)
    obtain rfl := Option.some.inj hf
    exact s_iret (r := o_18.1) hx hb hr hlocks hK hP hD hS dX4_lodger_16
abbrev rm_X4_isFloor : Room := { frames := 0, cells := 0, slots := 0, locals := 0 }
set_option maxHeartbeats 4000000 in
set_option maxRecDepth 100000 in
theorem c_X4_isFloor (l : Launch) (D : va_G) (cI cJ : ClassId) (fu : Nat) (x0 : Int32) (o : Int32) (hf : f_X4_isFloor fu x0 = some o) : MI l yX4_isFloor wsX4_isFloor rm_X4_isFloor D vwCl (tyS cI cJ) [.int x0] [] [] (o) := by
  intro sz
  refine s_entry (own := RX4) (cc := cX4_isFloor) (maxL := 1) (ret := (some .boolean)) (Qc := fun A => sZi D vwCl (tyS cI cJ) A [] (o)) rfl (by decide) rfl rfl (Nat.le_of_ble_eq_true rfl) ?_
  intro p e s m args below meth c A C0 hA hP hD hS ls hl
  obtain ⟨hx, hb, hr, hml, hown, hts, hlocks, hK⟩ := id C0
  have hl : lv_has ls 1 [(0, .int x0)] := hl
  have hP : va_P D vwCl [] s.heap := hP
  have hD : va_D A [] := hD
  refine lv_iload_n hx hb dX4_isFloor_0 rfl (lv_at hl 0 rfl) ?_
  refine lv_if_lt (tgt := 14) hx hb dX4_isFloor_1 (by decide) (fun c_1 => ?_) (fun c_1 => ?_)
  · have hf := itT c_1 hf
    refine lv_iconst (v := (0 : Int32)) hx hb dX4_isFloor_14 (by decide) ?_
    obtain rfl := Option.some.inj hf
    exact s_zret (r := (0 : Int32)) hx hb hr hlocks hK hP hD hS rfl dX4_isFloor_15
  · have hf := itF c_1 hf
    refine lv_iload_n hx hb dX4_isFloor_4 rfl (lv_at hl 0 rfl) ?_
    refine lv_bipush (v := (9 : Int32)) hx hb dX4_isFloor_5 (by decide) ?_
    refine lv_icmp_gt (tgt := 14) hx hb dX4_isFloor_7 (by decide) (fun c_2 => ?_) (fun c_2 => ?_)
    · have hf := itT c_2 hf
      refine lv_iconst (v := (0 : Int32)) hx hb dX4_isFloor_14 (by decide) ?_
      obtain rfl := Option.some.inj hf
      exact s_zret (r := (0 : Int32)) hx hb hr hlocks hK hP hD hS rfl dX4_isFloor_15
    · have hf := itF c_2 hf
      refine lv_iconst (v := (1 : Int32)) hx hb dX4_isFloor_10 (by decide) ?_
      refine lv_goto (tgt := 15) hx hb dX4_isFloor_11 (by decide) ?_
      obtain rfl := Option.some.inj hf
      exact s_zret (r := (1 : Int32)) hx hb hr hlocks hK hP hD hS rfl dX4_isFloor_15
theorem q_X4_wish_1 : (Cond.fieldLink RX4 10 "UpWhenDies" "now" "LUpWhenDies$Tower;" : Cond) ∈ wsX4_wish := List.mem_of_getElem? (i := 1) rfl
theorem q_X4_wish_2 : (Cond.fieldLink RX4 102 "UpWhenDies$Tower" "wished" "[I" : Cond) ∈ wsX4_wish := List.mem_of_getElem? (i := 2) rfl
theorem i_X4_wish_X3 : ∀ w ∈ wsX30, w ∈ wsX4_wish := fun _ h => (List.mem_cons_of_mem _ (List.mem_append_right _ h))
theorem i_X4_wish_X4 : ∀ w ∈ wsX40, w ∈ wsX4_wish := fun _ h => (List.mem_cons_of_mem _ (List.mem_append_left _ (List.mem_append_right _ h)))
abbrev rm_X4_wish : Room := { frames := 1, cells := 0, slots := 0, locals := 22 }
set_option maxHeartbeats 4000000 in
set_option maxRecDepth 100000 in
theorem t_X4_wish_35 {p : Program} {l : Launch} {e : Env} {s : State} {m : MethodId} {args : Array Value} {below : List Frame} {meth : Method} {c : Code} {D : va_G} {cI cJ : ClassId} {A : Nat → Prop} {fu : Nat} {zv qv6 qv8 zn zr zk zl zo qn0 qn1 qn2 qn3 qn4 : Nat} {o : Int32 × S32 × S32} (C0 : Cx RX4 wsX4_wish cX4_wish 4 (some .int) D vwCl (tyS cI cJ) p s m args meth c) (hA : ∀ q : Nat, s.heap.size ≤ q → A q) : ∀ (x1 : Int32) (x2 : Int32) (SV : S32) (SN : S32), f_X4_wish_35 fu   x1 x2 SV SN = some o → ∀ (H : Heap) (locs : List Loc), va_P D vwCl ((wV zv qv6 qv8 zn zr zk zl zo cI SV) ++ (wT zn qn0 qn1 qn2 qn3 qn4 cI SN)) H → va_D A ((wV zv qv6 qv8 zn zr zk zl zo cI SV) ++ (wT zn qn0 qn1 qn2 qn3 qn4 cI SN)) → va_S A s.heap H locs → ∀ (ls : Array Slot), lv_has ls 4 [(0, .ref zv), (1, .int x1), (2, .int x2)] → W p l e rm_X4_wish s m args below meth c H locs 0 0 (MQ below (sZi D vwCl (tyS cI cJ) A ((wV zv qv6 qv8 zn zr zk zl zo cI (o.2.1)) ++ (wT zn qn0 qn1 qn2 qn3 qn4 cI (o.2.2))) (o.1)) args s 0 0 A) (F0 m 35 ls []) := by
  obtain ⟨hx, hb, hr, hml, hown, hts, hlocks, hK⟩ := id C0
  intro x1 x2 SV SN hf H locs hP hD hS ls hl
  have hP : va_P D vwCl [(zv, .inr (3, [.ref zn, .ref zr, .ref zk, .int (SV 3 0), .ref zl, .ref zo, .ref qv6, .int (SV 7 0), .ref qv8])), (qv6, .inl (cI, 8, .inl (SV 6))), (qv8, .inl (cI, 7, .inl (SV 8))), (zn, .inr (2, [.ref qn0, .ref qn1, .ref qn2, .ref qn3, .ref qn4, .int (SN 5 0), .int (SN 6 0)])), (qn0, .inl (cI, 8, .inl (SN 0))), (qn1, .inl (cI, 8, .inl (SN 1))), (qn2, .inl (cI, 8, .inl (SN 2))), (qn3, .inl (cI, 8, .inl (SN 3))), (qn4, .inl (cI, 8, .inl (SN 4)))] H := hP
  have hD : va_D A [(zv, .inr (3, [.ref zn, .ref zr, .ref zk, .int (SV 3 0), .ref zl, .ref zo, .ref qv6, .int (SV 7 0), .ref qv8])), (qv6, .inl (cI, 8, .inl (SV 6))), (qv8, .inl (cI, 7, .inl (SV 8))), (zn, .inr (2, [.ref qn0, .ref qn1, .ref qn2, .ref qn3, .ref qn4, .int (SN 5 0), .int (SN 6 0)])), (qn0, .inl (cI, 8, .inl (SN 0))), (qn1, .inl (cI, 8, .inl (SN 1))), (qn2, .inl (cI, 8, .inl (SN 2))), (qn3, .inl (cI, 8, .inl (SN 3))), (qn4, .inl (cI, 8, .inl (SN 4)))] := hD
  refine lv_aload_n hx hb dX4_wish_35 rfl (lv_at hl 0 rfl) ?_
  refine va_get (D := D) (ci := 3) (v := .ref zn) (C := RX4) (T := TX4) (N := 9) hx hb hts i_X4_wish_X4 hown hK hP 0 rfl rfl 0 (by decide) (hts _ q_X4_wish_1) (fun _ h9 => h9) rfl dX4_wish_36 ?_
  refine lv_iload_n hx hb dX4_wish_39 rfl (lv_at hl 1 rfl) ?_
  obtain ⟨o_1, h_1, hf⟩ := bd_some hf
  refine s_callVI (wc := (wT zn qn0 qn1 qn2 qn3 qn4 cI SN)) (wr := [(zv, .inr (3, [.ref zn, .ref zr, .ref zk, .int (SV 3 0), .ref zl, .ref zo, .ref qv6, .int (SV 7 0), .ref qv8])), (qv6, .inl (cI, 8, .inl (SV 6))), (qv8, .inl (cI, 7, .inl (SV 8)))]) (wc' := (wT zn qn0 qn1 qn2 qn3 qn4 cI SN)) (w' := [(zv, .inr (3, [.ref zn, .ref zr, .ref zk, .int (SV 3 0), .ref zl, .ref zo, .ref qv6, .int (SV 7 0), .ref qv8])), (qv6, .inl (cI, 8, .inl (SV 6))), (qv8, .inl (cI, 7, .inl (SV 8))), (zn, .inr (2, [.ref qn0, .ref qn1, .ref qn2, .ref qn3, .ref qn4, .int (SN 5 0), .int (SN 6 0)])), (qn0, .inl (cI, 8, .inl (SN 0))), (qn1, .inl (cI, 8, .inl (SN 1))), (qn2, .inl (cI, 8, .inl (SN 2))), (qn3, .inl (cI, 8, .inl (SN 3))), (qn4, .inl (cI, 8, .inl (SN 4)))]) (isC := [3, 4, 5, 6, 7, 8]) (isR := [0, 1, 2]) (perm := [0, 1, 2, 3, 4, 5, 6, 7, 8]) (As := [.int x1]) (rest := []) (ci := 2) (q := (RX3, TX3, 7)) ⟨hx, hb, hml, hown, hts⟩ (c_X3_wishTold l D cI cJ fu zn qn0 qn1 qn2 qn3 qn4 SN x1 o_1 h_1) (cwV 1 hts gX4_wish_X3_wishTold rfl rfl rfl (by decide +kernel) ⟨Nat.le_of_ble_eq_true rfl, Nat.le_of_ble_eq_true rfl⟩) hK hP hD hS hA ⟨rfl, rfl, by decide, by decide, by decide, by decide, rfl⟩ rfl rfl rfl rfl hl.1 rfl (Nat.le_of_ble_eq_true rfl) dX4_wish_40 (fun H locs hP hD hS => ?_)
  refine lv_istore_n (lv' := [(3, .int o_1), (0, .ref zv), (1, .int x1), (2, .int x2)]) hx hb dX4_wish_43 rfl hl (by decide) rfl (fun ls hl => ?_)
  refine lv_aload_n hx hb dX4_wish_44 rfl (lv_at hl 1 rfl) ?_
  refine va_get (D := D) (ci := 3) (v := .ref zn) (C := RX4) (T := TX4) (N := 9) hx hb hts i_X4_wish_X4 hown hK hP 0 rfl rfl 0 (by decide) (hts _ q_X4_wish_1) (fun _ h9 => h9) rfl dX4_wish_45 ?_
  refine va_get (D := D) (ci := 2) (v := .ref qn4) (C := RX3) (T := TX3) (N := 7) hx hb hts i_X4_wish_X3 hown hK hP 3 rfl rfl 4 (by decide) (hts _ q_X4_wish_2) (fun _ h9 => h9) rfl dX4_wish_48 ?_
  refine lv_iload_n hx hb dX4_wish_51 rfl (lv_at hl 2 rfl) ?_
  refine lv_iload_n hx hb dX4_wish_52 rfl (lv_at hl 3 rfl) ?_
  obtain ⟨g_2, hf⟩ := gd_some hf
  refine va_iast hx hb hK hP hD hS 8 0 rfl rfl g_2 dX4_wish_53 (fun H locs hP hD hS => ?_)
  have hP : va_P D vwCl [(zv, .inr (3, [.ref zn, .ref zr, .ref zk, .int (SV 3 0), .ref zl, .ref zo, .ref qv6, .int (SV 7 0), .ref qv8])), (qv6, .inl (cI, 8, .inl (SV 6))), (qv8, .inl (cI, 7, .inl (SV 8))), (zn, .inr (2, [.ref qn0, .ref qn1, .ref qn2, .ref qn3, .ref qn4, .int (SN 5 0), .int (SN 6 0)])), (qn0, .inl (cI, 8, .inl (SN 0))), (qn1, .inl (cI, 8, .inl (SN 1))), (qn2, .inl (cI, 8, .inl (SN 2))), (qn3, .inl (cI, 8, .inl (SN 3))), (qn4, .inl (cI, 8, .inl (upd (SN 4) x1.toNatClampNeg x2)))] H := hP
  have hD : va_D A [(zv, .inr (3, [.ref zn, .ref zr, .ref zk, .int (SV 3 0), .ref zl, .ref zo, .ref qv6, .int (SV 7 0), .ref qv8])), (qv6, .inl (cI, 8, .inl (SV 6))), (qv8, .inl (cI, 7, .inl (SV 8))), (zn, .inr (2, [.ref qn0, .ref qn1, .ref qn2, .ref qn3, .ref qn4, .int (SN 5 0), .int (SN 6 0)])), (qn0, .inl (cI, 8, .inl (SN 0))), (qn1, .inl (cI, 8, .inl (SN 1))), (qn2, .inl (cI, 8, .inl (SN 2))), (qn3, .inl (cI, 8, .inl (SN 3))), (qn4, .inl (cI, 8, .inl (upd (SN 4) x1.toNatClampNeg x2)))] := hD
  refine lv_iload_n hx hb dX4_wish_54 rfl (lv_at hl 0 rfl) ?_
  obtain rfl := Option.some.inj hf
  exact s_iret (r := o_1) hx hb hr hlocks hK hP hD hS dX4_wish_55
set_option maxHeartbeats 4000000 in
set_option maxRecDepth 100000 in
theorem c_X4_wish (l : Launch) (D : va_G) (cI cJ : ClassId) (fu : Nat) (zv qv6 qv8 zn zr zk zl zo qn0 qn1 qn2 qn3 qn4 : Nat) (SV : S32) (SN : S32) (x1 : Int32) (x2 : Int32) (o : Int32 × S32 × S32) (hf : f_X4_wish fu SV SN x1 x2 = some o) : MI l yX4_wish wsX4_wish rm_X4_wish D vwCl (tyS cI cJ) [.ref zv, .int x1, .int x2] ((wV zv qv6 qv8 zn zr zk zl zo cI SV) ++ (wT zn qn0 qn1 qn2 qn3 qn4 cI SN)) ((wV zv qv6 qv8 zn zr zk zl zo cI (o.2.1)) ++ (wT zn qn0 qn1 qn2 qn3 qn4 cI (o.2.2))) (o.1) := by
  intro sz
  refine s_entry (own := RX4) (cc := cX4_wish) (maxL := 4) (ret := (some .int)) (Qc := fun A => sZi D vwCl (tyS cI cJ) A ((wV zv qv6 qv8 zn zr zk zl zo cI (o.2.1)) ++ (wT zn qn0 qn1 qn2 qn3 qn4 cI (o.2.2))) (o.1)) rfl (by decide) rfl rfl (Nat.le_of_ble_eq_true rfl) ?_
  intro p e s m args below meth c A C0 hA hP hD hS ls hl
  obtain ⟨hx, hb, hr, hml, hown, hts, hlocks, hK⟩ := id C0
  have hl : lv_has ls 4 [(0, .ref zv), (1, .int x1), (2, .int x2)] := hl
  have hP : va_P D vwCl [(zv, .inr (3, [.ref zn, .ref zr, .ref zk, .int (SV 3 0), .ref zl, .ref zo, .ref qv6, .int (SV 7 0), .ref qv8])), (qv6, .inl (cI, 8, .inl (SV 6))), (qv8, .inl (cI, 7, .inl (SV 8))), (zn, .inr (2, [.ref qn0, .ref qn1, .ref qn2, .ref qn3, .ref qn4, .int (SN 5 0), .int (SN 6 0)])), (qn0, .inl (cI, 8, .inl (SN 0))), (qn1, .inl (cI, 8, .inl (SN 1))), (qn2, .inl (cI, 8, .inl (SN 2))), (qn3, .inl (cI, 8, .inl (SN 3))), (qn4, .inl (cI, 8, .inl (SN 4)))] s.heap := hP
  have hD : va_D A [(zv, .inr (3, [.ref zn, .ref zr, .ref zk, .int (SV 3 0), .ref zl, .ref zo, .ref qv6, .int (SV 7 0), .ref qv8])), (qv6, .inl (cI, 8, .inl (SV 6))), (qv8, .inl (cI, 7, .inl (SV 8))), (zn, .inr (2, [.ref qn0, .ref qn1, .ref qn2, .ref qn3, .ref qn4, .int (SN 5 0), .int (SN 6 0)])), (qn0, .inl (cI, 8, .inl (SN 0))), (qn1, .inl (cI, 8, .inl (SN 1))), (qn2, .inl (cI, 8, .inl (SN 2))), (qn3, .inl (cI, 8, .inl (SN 3))), (qn4, .inl (cI, 8, .inl (SN 4)))] := hD
  refine lv_aload_n hx hb dX4_wish_0 rfl (lv_at hl 0 rfl) ?_
  refine va_get (D := D) (ci := 3) (v := .ref zn) (C := RX4) (T := TX4) (N := 9) hx hb hts i_X4_wish_X4 hown hK hP 0 rfl rfl 0 (by decide) (hts _ q_X4_wish_1) (fun _ h9 => h9) rfl dX4_wish_1 ?_
  refine lv_iload_n hx hb dX4_wish_4 rfl (lv_at hl 1 rfl) ?_
  obtain ⟨o_1, h_1, hf⟩ := bd_some hf
  refine s_callVI (wc := (wT zn qn0 qn1 qn2 qn3 qn4 cI SN)) (wr := [(zv, .inr (3, [.ref zn, .ref zr, .ref zk, .int (SV 3 0), .ref zl, .ref zo, .ref qv6, .int (SV 7 0), .ref qv8])), (qv6, .inl (cI, 8, .inl (SV 6))), (qv8, .inl (cI, 7, .inl (SV 8)))]) (wc' := (wT zn qn0 qn1 qn2 qn3 qn4 cI SN)) (w' := [(zv, .inr (3, [.ref zn, .ref zr, .ref zk, .int (SV 3 0), .ref zl, .ref zo, .ref qv6, .int (SV 7 0), .ref qv8])), (qv6, .inl (cI, 8, .inl (SV 6))), (qv8, .inl (cI, 7, .inl (SV 8))), (zn, .inr (2, [.ref qn0, .ref qn1, .ref qn2, .ref qn3, .ref qn4, .int (SN 5 0), .int (SN 6 0)])), (qn0, .inl (cI, 8, .inl (SN 0))), (qn1, .inl (cI, 8, .inl (SN 1))), (qn2, .inl (cI, 8, .inl (SN 2))), (qn3, .inl (cI, 8, .inl (SN 3))), (qn4, .inl (cI, 8, .inl (SN 4)))]) (isC := [3, 4, 5, 6, 7, 8]) (isR := [0, 1, 2]) (perm := [0, 1, 2, 3, 4, 5, 6, 7, 8]) (As := [.int x1]) (rest := []) (ci := 2) (q := (RX3, TX3, 7)) ⟨hx, hb, hml, hown, hts⟩ (c_X3_isAlive l D cI cJ fu zn qn0 qn1 qn2 qn3 qn4 SN x1 o_1 h_1) (cwV 1 hts gX4_wish_X3_isAlive rfl rfl rfl (by decide +kernel) ⟨Nat.le_of_ble_eq_true rfl, Nat.le_of_ble_eq_true rfl⟩) hK hP hD hS hA ⟨rfl, rfl, by decide, by decide, by decide, by decide, rfl⟩ rfl rfl rfl rfl hl.1 rfl (Nat.le_of_ble_eq_true rfl) dX4_wish_5 (fun H locs hP hD hS => ?_)
  refine lv_if_ne (tgt := 17) hx hb dX4_wish_8 (by decide) (fun c_2 => ?_) (fun c_2 => ?_)
  · have hf := itF c_2 hf
    refine lv_iload_n hx hb dX4_wish_17 rfl (lv_at hl 2 rfl) ?_
    refine lv_iconst (v := (-1 : Int32)) hx hb dX4_wish_18 (by decide) ?_
    refine lv_icmp_eq (tgt := 35) hx hb dX4_wish_19 (by decide) (fun c_3 => ?_) (fun c_3 => ?_)
    · have hf := itT c_3 hf
      exact t_X4_wish_35 (fu := fu) C0 hA  _ _ _ _ hf _ _ hP hD hS _ (lv_sub hl [0, 1, 2] rfl)
    · have hf := itF c_3 hf
      refine lv_iload_n hx hb dX4_wish_22 rfl (lv_at hl 2 rfl) ?_
      obtain ⟨o_4, h_4, hf⟩ := bd_some hf
      refine s_callSI (wc := []) (wr := [(zv, .inr (3, [.ref zn, .ref zr, .ref zk, .int (SV 3 0), .ref zl, .ref zo, .ref qv6, .int (SV 7 0), .ref qv8])), (qv6, .inl (cI, 8, .inl (SV 6))), (qv8, .inl (cI, 7, .inl (SV 8))), (zn, .inr (2, [.ref qn0, .ref qn1, .ref qn2, .ref qn3, .ref qn4, .int (SN 5 0), .int (SN 6 0)])), (qn0, .inl (cI, 8, .inl (SN 0))), (qn1, .inl (cI, 8, .inl (SN 1))), (qn2, .inl (cI, 8, .inl (SN 2))), (qn3, .inl (cI, 8, .inl (SN 3))), (qn4, .inl (cI, 8, .inl (SN 4)))]) (wc' := []) (w' := [(zv, .inr (3, [.ref zn, .ref zr, .ref zk, .int (SV 3 0), .ref zl, .ref zo, .ref qv6, .int (SV 7 0), .ref qv8])), (qv6, .inl (cI, 8, .inl (SV 6))), (qv8, .inl (cI, 7, .inl (SV 8))), (zn, .inr (2, [.ref qn0, .ref qn1, .ref qn2, .ref qn3, .ref qn4, .int (SN 5 0), .int (SN 6 0)])), (qn0, .inl (cI, 8, .inl (SN 0))), (qn1, .inl (cI, 8, .inl (SN 1))), (qn2, .inl (cI, 8, .inl (SN 2))), (qn3, .inl (cI, 8, .inl (SN 3))), (qn4, .inl (cI, 8, .inl (SN 4)))]) (isC := []) (isR := [0, 1, 2, 3, 4, 5, 6, 7, 8]) (perm := [0, 1, 2, 3, 4, 5, 6, 7, 8]) (As := [.int x2]) (rest := []) ⟨hx, hb, hml, hown, hts⟩ (c_X4_isFloor l D cI cJ fu x2 o_4 h_4) (va_cwS 1 hts gX4_wish_X4_isFloor rfl rfl rfl (by decide +kernel) ⟨Nat.le_of_ble_eq_true rfl, Nat.le_of_ble_eq_true rfl⟩) hK hP hD hS hA ⟨rfl, rfl, by decide, by decide, by decide, by decide, rfl⟩ rfl hl.1 rfl (Nat.le_of_ble_eq_true rfl) dX4_wish_23 (fun H locs hP hD hS => ?_)
      refine lv_if_ne (tgt := 35) hx hb dX4_wish_26 (by decide) (fun c_5 => ?_) (fun c_5 => ?_)
      · have hf := itF c_5 hf
        exact t_X4_wish_35 (fu := fu) C0 hA  _ _ _ _ hf _ _ hP hD hS _ (lv_sub hl [0, 1, 2] rfl)
      · have hf := itT c_5 hf
        refine lv_aload_n hx hb dX4_wish_29 rfl (lv_at hl 0 rfl) ?_
        refine lv_iconst (v := (-1 : Int32)) hx hb dX4_wish_30 (by decide) ?_
        obtain ⟨o_6, h_6, hf⟩ := bd_some hf
        refine s_callVI (wc := (wV zv qv6 qv8 zn zr zk zl zo cI SV)) (wr := [(zn, .inr (2, [.ref qn0, .ref qn1, .ref qn2, .ref qn3, .ref qn4, .int (SN 5 0), .int (SN 6 0)])), (qn0, .inl (cI, 8, .inl (SN 0))), (qn1, .inl (cI, 8, .inl (SN 1))), (qn2, .inl (cI, 8, .inl (SN 2))), (qn3, .inl (cI, 8, .inl (SN 3))), (qn4, .inl (cI, 8, .inl (SN 4)))]) (wc' := (wV zv qv6 qv8 zn zr zk zl zo cI (o_6.2))) (w' := [(zv, .inr (3, [.ref zn, .ref zr, .ref zk, .int ((o_6.2) 3 0), .ref zl, .ref zo, .ref qv6, .int ((o_6.2) 7 0), .ref qv8])), (qv6, .inl (cI, 8, .inl ((o_6.2) 6))), (qv8, .inl (cI, 7, .inl ((o_6.2) 8))), (zn, .inr (2, [.ref qn0, .ref qn1, .ref qn2, .ref qn3, .ref qn4, .int (SN 5 0), .int (SN 6 0)])), (qn0, .inl (cI, 8, .inl (SN 0))), (qn1, .inl (cI, 8, .inl (SN 1))), (qn2, .inl (cI, 8, .inl (SN 2))), (qn3, .inl (cI, 8, .inl (SN 3))), (qn4, .inl (cI, 8, .inl (SN 4)))]) (isC := [0, 1, 2]) (isR := [3, 4, 5, 6, 7, 8]) (perm := [6, 7, 8, 0, 1, 2, 3, 4, 5]) (As := [.int (-1 : Int32)]) (rest := []) (ci := 3) (q := (RX4, TX4, 9)) ⟨hx, hb, hml, hown, hts⟩ (c_X4_refuse l D cI cJ fu zv qv6 qv8 zn zr zk zl zo SV (-1 : Int32) o_6 h_6) (cwV 1 hts gX4_wish_X4_refuse rfl rfl rfl (by decide +kernel) ⟨Nat.le_of_ble_eq_true rfl, Nat.le_of_ble_eq_true rfl⟩) hK hP hD hS hA ⟨rfl, rfl, by decide, by decide, by decide, by decide, rfl⟩ rfl rfl rfl rfl hl.1 rfl (Nat.le_of_ble_eq_true rfl) dX4_wish_31 (fun H locs hP hD hS => ?_)
        obtain rfl := Option.some.inj hf
        exact s_iret (r := o_6.1) hx hb hr hlocks hK hP hD hS dX4_wish_34
  · have hf := itT c_2 hf
    refine lv_aload_n hx hb dX4_wish_11 rfl (lv_at hl 0 rfl) ?_
    refine lv_iconst (v := (-1 : Int32)) hx hb dX4_wish_12 (by decide) ?_
    obtain ⟨o_7, h_7, hf⟩ := bd_some hf
    refine s_callVI (wc := (wV zv qv6 qv8 zn zr zk zl zo cI SV)) (wr := [(zn, .inr (2, [.ref qn0, .ref qn1, .ref qn2, .ref qn3, .ref qn4, .int (SN 5 0), .int (SN 6 0)])), (qn0, .inl (cI, 8, .inl (SN 0))), (qn1, .inl (cI, 8, .inl (SN 1))), (qn2, .inl (cI, 8, .inl (SN 2))), (qn3, .inl (cI, 8, .inl (SN 3))), (qn4, .inl (cI, 8, .inl (SN 4)))]) (wc' := (wV zv qv6 qv8 zn zr zk zl zo cI (o_7.2))) (w' := [(zv, .inr (3, [.ref zn, .ref zr, .ref zk, .int ((o_7.2) 3 0), .ref zl, .ref zo, .ref qv6, .int ((o_7.2) 7 0), .ref qv8])), (qv6, .inl (cI, 8, .inl ((o_7.2) 6))), (qv8, .inl (cI, 7, .inl ((o_7.2) 8))), (zn, .inr (2, [.ref qn0, .ref qn1, .ref qn2, .ref qn3, .ref qn4, .int (SN 5 0), .int (SN 6 0)])), (qn0, .inl (cI, 8, .inl (SN 0))), (qn1, .inl (cI, 8, .inl (SN 1))), (qn2, .inl (cI, 8, .inl (SN 2))), (qn3, .inl (cI, 8, .inl (SN 3))), (qn4, .inl (cI, 8, .inl (SN 4)))]) (isC := [0, 1, 2]) (isR := [3, 4, 5, 6, 7, 8]) (perm := [6, 7, 8, 0, 1, 2, 3, 4, 5]) (As := [.int (-1 : Int32)]) (rest := []) (ci := 3) (q := (RX4, TX4, 9)) ⟨hx, hb, hml, hown, hts⟩ (c_X4_refuse l D cI cJ fu zv qv6 qv8 zn zr zk zl zo SV (-1 : Int32) o_7 h_7) (cwV 1 hts gX4_wish_X4_refuse rfl rfl rfl (by decide +kernel) ⟨Nat.le_of_ble_eq_true rfl, Nat.le_of_ble_eq_true rfl⟩) hK hP hD hS hA ⟨rfl, rfl, by decide, by decide, by decide, by decide, rfl⟩ rfl rfl rfl rfl hl.1 rfl (Nat.le_of_ble_eq_true rfl) dX4_wish_13 (fun H locs hP hD hS => ?_)
    obtain rfl := Option.some.inj hf
    exact s_iret (r := o_7.1) hx hb hr hlocks hK hP hD hS dX4_wish_16
theorem q_X4_year_1 : (Cond.fieldLink RX4 10 "UpWhenDies" "now" "LUpWhenDies$Tower;" : Cond) ∈ wsX4_year := List.mem_of_getElem? (i := 1) rfl
theorem q_X4_year_2 : (Cond.fieldLink RX4 108 "UpWhenDies$Tower" "yearNow" "I" : Cond) ∈ wsX4_year := List.mem_of_getElem? (i := 2) rfl
theorem i_X4_year_X3 : ∀ w ∈ wsX30, w ∈ wsX4_year := fun _ h => (List.mem_cons_of_mem _ (List.mem_append_right _ h))
theorem i_X4_year_X4 : ∀ w ∈ wsX40, w ∈ wsX4_year := fun _ h => (List.mem_cons_of_mem _ (List.mem_append_left _ (List.mem_append_right _ h)))
abbrev rm_X4_year : Room := { frames := 3, cells := 0, slots := 0, locals := 71 }
set_option maxHeartbeats 4000000 in
set_option maxRecDepth 100000 in
theorem c_X4_year (l : Launch) (D : va_G) (cI cJ : ClassId) (fu : Nat) (zv qv6 qv8 zn zr zk zl zo qn0 qn1 qn2 qn3 qn4 : Nat) (SV : S32) (SN : S32) (x1 : Int32) (o : Int32 × S32 × S32) (hf : f_X4_year fu SV SN x1 = some o) : MI l yX4_year wsX4_year rm_X4_year D vwCl (tyS cI cJ) [.ref zv, .int x1] ((wV zv qv6 qv8 zn zr zk zl zo cI SV) ++ (wT zn qn0 qn1 qn2 qn3 qn4 cI SN)) ((wV zv qv6 qv8 zn zr zk zl zo cI (o.2.1)) ++ (wT zn qn0 qn1 qn2 qn3 qn4 cI (o.2.2))) (o.1) := by
  intro sz
  refine s_entry (own := RX4) (cc := cX4_year) (maxL := 2) (ret := (some .int)) (Qc := fun A => sZi D vwCl (tyS cI cJ) A ((wV zv qv6 qv8 zn zr zk zl zo cI (o.2.1)) ++ (wT zn qn0 qn1 qn2 qn3 qn4 cI (o.2.2))) (o.1)) rfl (by decide) rfl rfl (Nat.le_of_ble_eq_true rfl) ?_
  intro p e s m args below meth c A C0 hA hP hD hS ls hl
  obtain ⟨hx, hb, hr, hml, hown, hts, hlocks, hK⟩ := id C0
  have hl : lv_has ls 2 [(0, .ref zv), (1, .int x1)] := hl
  have hP : va_P D vwCl [(zv, .inr (3, [.ref zn, .ref zr, .ref zk, .int (SV 3 0), .ref zl, .ref zo, .ref qv6, .int (SV 7 0), .ref qv8])), (qv6, .inl (cI, 8, .inl (SV 6))), (qv8, .inl (cI, 7, .inl (SV 8))), (zn, .inr (2, [.ref qn0, .ref qn1, .ref qn2, .ref qn3, .ref qn4, .int (SN 5 0), .int (SN 6 0)])), (qn0, .inl (cI, 8, .inl (SN 0))), (qn1, .inl (cI, 8, .inl (SN 1))), (qn2, .inl (cI, 8, .inl (SN 2))), (qn3, .inl (cI, 8, .inl (SN 3))), (qn4, .inl (cI, 8, .inl (SN 4)))] s.heap := hP
  have hD : va_D A [(zv, .inr (3, [.ref zn, .ref zr, .ref zk, .int (SV 3 0), .ref zl, .ref zo, .ref qv6, .int (SV 7 0), .ref qv8])), (qv6, .inl (cI, 8, .inl (SV 6))), (qv8, .inl (cI, 7, .inl (SV 8))), (zn, .inr (2, [.ref qn0, .ref qn1, .ref qn2, .ref qn3, .ref qn4, .int (SN 5 0), .int (SN 6 0)])), (qn0, .inl (cI, 8, .inl (SN 0))), (qn1, .inl (cI, 8, .inl (SN 1))), (qn2, .inl (cI, 8, .inl (SN 2))), (qn3, .inl (cI, 8, .inl (SN 3))), (qn4, .inl (cI, 8, .inl (SN 4)))] := hD
  refine lv_aload_n hx hb dX4_year_0 rfl (lv_at hl 0 rfl) ?_
  refine va_get (D := D) (ci := 3) (v := .ref zn) (C := RX4) (T := TX4) (N := 9) hx hb hts i_X4_year_X4 hown hK hP 0 rfl rfl 0 (by decide) (hts _ q_X4_year_1) (fun _ h9 => h9) rfl dX4_year_1 ?_
  refine lv_iload_n hx hb dX4_year_4 rfl (lv_at hl 1 rfl) ?_
  obtain ⟨o_1, h_1, hf⟩ := bd_some hf
  refine s_callVI (wc := (wT zn qn0 qn1 qn2 qn3 qn4 cI SN)) (wr := [(zv, .inr (3, [.ref zn, .ref zr, .ref zk, .int (SV 3 0), .ref zl, .ref zo, .ref qv6, .int (SV 7 0), .ref qv8])), (qv6, .inl (cI, 8, .inl (SV 6))), (qv8, .inl (cI, 7, .inl (SV 8)))]) (wc' := (wT zn qn0 qn1 qn2 qn3 qn4 cI SN)) (w' := [(zv, .inr (3, [.ref zn, .ref zr, .ref zk, .int (SV 3 0), .ref zl, .ref zo, .ref qv6, .int (SV 7 0), .ref qv8])), (qv6, .inl (cI, 8, .inl (SV 6))), (qv8, .inl (cI, 7, .inl (SV 8))), (zn, .inr (2, [.ref qn0, .ref qn1, .ref qn2, .ref qn3, .ref qn4, .int (SN 5 0), .int (SN 6 0)])), (qn0, .inl (cI, 8, .inl (SN 0))), (qn1, .inl (cI, 8, .inl (SN 1))), (qn2, .inl (cI, 8, .inl (SN 2))), (qn3, .inl (cI, 8, .inl (SN 3))), (qn4, .inl (cI, 8, .inl (SN 4)))]) (isC := [3, 4, 5, 6, 7, 8]) (isR := [0, 1, 2]) (perm := [0, 1, 2, 3, 4, 5, 6, 7, 8]) (As := [.int x1]) (rest := []) (ci := 2) (q := (RX3, TX3, 7)) ⟨hx, hb, hml, hown, hts⟩ (c_X3_areAlive l D cI cJ fu zn qn0 qn1 qn2 qn3 qn4 SN x1 o_1 h_1) (cwV 1 hts gX4_year_X3_areAlive rfl rfl rfl (by decide +kernel) ⟨Nat.le_of_ble_eq_true rfl, Nat.le_of_ble_eq_true rfl⟩) hK hP hD hS hA ⟨rfl, rfl, by decide, by decide, by decide, by decide, rfl⟩ rfl rfl rfl rfl hl.1 rfl (Nat.le_of_ble_eq_true rfl) dX4_year_5 (fun H locs hP hD hS => ?_)
  refine lv_if_ne (tgt := 17) hx hb dX4_year_8 (by decide) (fun c_2 => ?_) (fun c_2 => ?_)
  · have hf := itF c_2 hf
    refine lv_aload_n hx hb dX4_year_17 rfl (lv_at hl 0 rfl) ?_
    refine va_get (D := D) (ci := 3) (v := .ref zn) (C := RX4) (T := TX4) (N := 9) hx hb hts i_X4_year_X4 hown hK hP 0 rfl rfl 0 (by decide) (hts _ q_X4_year_1) (fun _ h9 => h9) rfl dX4_year_18 ?_
    refine va_get (D := D) (ci := 2) (v := .int (SN 6 0)) (C := RX3) (T := TX3) (N := 7) hx hb hts i_X4_year_X3 hown hK hP 3 rfl rfl 6 (by decide) (hts _ q_X4_year_2) (fun _ h9 => h9) rfl dX4_year_21 ?_
    refine lv_bipush (v := (99 : Int32)) hx hb dX4_year_24 (by decide) ?_
    refine lv_icmp_lt (tgt := 36) hx hb dX4_year_26 (by decide) (fun c_3 => ?_) (fun c_3 => ?_)
    · have hf := itT c_3 hf
      refine lv_aload_n hx hb dX4_year_36 rfl (lv_at hl 0 rfl) ?_
      refine va_get (D := D) (ci := 3) (v := .ref zn) (C := RX4) (T := TX4) (N := 9) hx hb hts i_X4_year_X4 hown hK hP 0 rfl rfl 0 (by decide) (hts _ q_X4_year_1) (fun _ h9 => h9) rfl dX4_year_37 ?_
      refine lv_iload_n hx hb dX4_year_40 rfl (lv_at hl 1 rfl) ?_
      obtain ⟨o_4, h_4, hf⟩ := bd_some hf
      refine s_callVI (wc := (wT zn qn0 qn1 qn2 qn3 qn4 cI SN)) (wr := [(zv, .inr (3, [.ref zn, .ref zr, .ref zk, .int (SV 3 0), .ref zl, .ref zo, .ref qv6, .int (SV 7 0), .ref qv8])), (qv6, .inl (cI, 8, .inl (SV 6))), (qv8, .inl (cI, 7, .inl (SV 8)))]) (wc' := (wT zn qn0 qn1 qn2 qn3 qn4 cI (o_4.2))) (w' := [(zv, .inr (3, [.ref zn, .ref zr, .ref zk, .int (SV 3 0), .ref zl, .ref zo, .ref qv6, .int (SV 7 0), .ref qv8])), (qv6, .inl (cI, 8, .inl (SV 6))), (qv8, .inl (cI, 7, .inl (SV 8))), (zn, .inr (2, [.ref qn0, .ref qn1, .ref qn2, .ref qn3, .ref qn4, .int ((o_4.2) 5 0), .int ((o_4.2) 6 0)])), (qn0, .inl (cI, 8, .inl ((o_4.2) 0))), (qn1, .inl (cI, 8, .inl ((o_4.2) 1))), (qn2, .inl (cI, 8, .inl ((o_4.2) 2))), (qn3, .inl (cI, 8, .inl ((o_4.2) 3))), (qn4, .inl (cI, 8, .inl ((o_4.2) 4)))]) (isC := [3, 4, 5, 6, 7, 8]) (isR := [0, 1, 2]) (perm := [0, 1, 2, 3, 4, 5, 6, 7, 8]) (As := [.int x1]) (rest := []) (ci := 2) (q := (RX3, TX3, 7)) ⟨hx, hb, hml, hown, hts⟩ (c_X3_passYear l D cI cJ fu zn qn0 qn1 qn2 qn3 qn4 SN x1 o_4 h_4) (cwV 1 hts gX4_year_X3_passYear rfl rfl rfl (by decide +kernel) ⟨Nat.le_of_ble_eq_true rfl, Nat.le_of_ble_eq_true rfl⟩) hK hP hD hS hA ⟨rfl, rfl, by decide, by decide, by decide, by decide, rfl⟩ rfl rfl rfl rfl hl.1 rfl (Nat.le_of_ble_eq_true rfl) dX4_year_41 (fun H locs hP hD hS => ?_)
      obtain rfl := Option.some.inj hf
      exact s_iret (r := o_4.1) hx hb hr hlocks hK hP hD hS dX4_year_44
    · have hf := itF c_3 hf
      refine lv_aload_n hx hb dX4_year_29 rfl (lv_at hl 0 rfl) ?_
      refine lv_bipush (v := (-6 : Int32)) hx hb dX4_year_30 (by decide) ?_
      obtain ⟨o_5, h_5, hf⟩ := bd_some hf
      refine s_callVI (wc := (wV zv qv6 qv8 zn zr zk zl zo cI SV)) (wr := [(zn, .inr (2, [.ref qn0, .ref qn1, .ref qn2, .ref qn3, .ref qn4, .int (SN 5 0), .int (SN 6 0)])), (qn0, .inl (cI, 8, .inl (SN 0))), (qn1, .inl (cI, 8, .inl (SN 1))), (qn2, .inl (cI, 8, .inl (SN 2))), (qn3, .inl (cI, 8, .inl (SN 3))), (qn4, .inl (cI, 8, .inl (SN 4)))]) (wc' := (wV zv qv6 qv8 zn zr zk zl zo cI (o_5.2))) (w' := [(zv, .inr (3, [.ref zn, .ref zr, .ref zk, .int ((o_5.2) 3 0), .ref zl, .ref zo, .ref qv6, .int ((o_5.2) 7 0), .ref qv8])), (qv6, .inl (cI, 8, .inl ((o_5.2) 6))), (qv8, .inl (cI, 7, .inl ((o_5.2) 8))), (zn, .inr (2, [.ref qn0, .ref qn1, .ref qn2, .ref qn3, .ref qn4, .int (SN 5 0), .int (SN 6 0)])), (qn0, .inl (cI, 8, .inl (SN 0))), (qn1, .inl (cI, 8, .inl (SN 1))), (qn2, .inl (cI, 8, .inl (SN 2))), (qn3, .inl (cI, 8, .inl (SN 3))), (qn4, .inl (cI, 8, .inl (SN 4)))]) (isC := [0, 1, 2]) (isR := [3, 4, 5, 6, 7, 8]) (perm := [6, 7, 8, 0, 1, 2, 3, 4, 5]) (As := [.int (-6 : Int32)]) (rest := []) (ci := 3) (q := (RX4, TX4, 9)) ⟨hx, hb, hml, hown, hts⟩ (c_X4_refuse l D cI cJ fu zv qv6 qv8 zn zr zk zl zo SV (-6 : Int32) o_5 h_5) (cwV 1 hts gX4_year_X4_refuse rfl rfl rfl (by decide +kernel) ⟨Nat.le_of_ble_eq_true rfl, Nat.le_of_ble_eq_true rfl⟩) hK hP hD hS hA ⟨rfl, rfl, by decide, by decide, by decide, by decide, rfl⟩ rfl rfl rfl rfl hl.1 rfl (Nat.le_of_ble_eq_true rfl) dX4_year_32 (fun H locs hP hD hS => ?_)
      obtain rfl := Option.some.inj hf
      exact s_iret (r := o_5.1) hx hb hr hlocks hK hP hD hS dX4_year_35
  · have hf := itT c_2 hf
    refine lv_aload_n hx hb dX4_year_11 rfl (lv_at hl 0 rfl) ?_
    refine lv_iconst (v := (-1 : Int32)) hx hb dX4_year_12 (by decide) ?_
    obtain ⟨o_6, h_6, hf⟩ := bd_some hf
    refine s_callVI (wc := (wV zv qv6 qv8 zn zr zk zl zo cI SV)) (wr := [(zn, .inr (2, [.ref qn0, .ref qn1, .ref qn2, .ref qn3, .ref qn4, .int (SN 5 0), .int (SN 6 0)])), (qn0, .inl (cI, 8, .inl (SN 0))), (qn1, .inl (cI, 8, .inl (SN 1))), (qn2, .inl (cI, 8, .inl (SN 2))), (qn3, .inl (cI, 8, .inl (SN 3))), (qn4, .inl (cI, 8, .inl (SN 4)))]) (wc' := (wV zv qv6 qv8 zn zr zk zl zo cI (o_6.2))) (w' := [(zv, .inr (3, [.ref zn, .ref zr, .ref zk, .int ((o_6.2) 3 0), .ref zl, .ref zo, .ref qv6, .int ((o_6.2) 7 0), .ref qv8])), (qv6, .inl (cI, 8, .inl ((o_6.2) 6))), (qv8, .inl (cI, 7, .inl ((o_6.2) 8))), (zn, .inr (2, [.ref qn0, .ref qn1, .ref qn2, .ref qn3, .ref qn4, .int (SN 5 0), .int (SN 6 0)])), (qn0, .inl (cI, 8, .inl (SN 0))), (qn1, .inl (cI, 8, .inl (SN 1))), (qn2, .inl (cI, 8, .inl (SN 2))), (qn3, .inl (cI, 8, .inl (SN 3))), (qn4, .inl (cI, 8, .inl (SN 4)))]) (isC := [0, 1, 2]) (isR := [3, 4, 5, 6, 7, 8]) (perm := [6, 7, 8, 0, 1, 2, 3, 4, 5]) (As := [.int (-1 : Int32)]) (rest := []) (ci := 3) (q := (RX4, TX4, 9)) ⟨hx, hb, hml, hown, hts⟩ (c_X4_refuse l D cI cJ fu zv qv6 qv8 zn zr zk zl zo SV (-1 : Int32) o_6 h_6) (cwV 1 hts gX4_year_X4_refuse rfl rfl rfl (by decide +kernel) ⟨Nat.le_of_ble_eq_true rfl, Nat.le_of_ble_eq_true rfl⟩) hK hP hD hS hA ⟨rfl, rfl, by decide, by decide, by decide, by decide, rfl⟩ rfl rfl rfl rfl hl.1 rfl (Nat.le_of_ble_eq_true rfl) dX4_year_13 (fun H locs hP hD hS => ?_)
    obtain rfl := Option.some.inj hf
    exact s_iret (r := o_6.1) hx hb hr hlocks hK hP hD hS dX4_year_16
theorem q_X4_on_1 : (Cond.fieldLink RX4 10 "UpWhenDies" "now" "LUpWhenDies$Tower;" : Cond) ∈ wsX4_on := List.mem_of_getElem? (i := 1) rfl
theorem i_X4_on_X4 : ∀ w ∈ wsX40, w ∈ wsX4_on := fun _ h => (List.mem_cons_of_mem _ (List.mem_append_left _ (List.mem_append_right _ h)))
abbrev rm_X4_on : Room := { frames := 2, cells := 0, slots := 0, locals := 43 }
set_option maxHeartbeats 4000000 in
set_option maxRecDepth 100000 in
theorem c_X4_on (l : Launch) (D : va_G) (cI cJ : ClassId) (fu : Nat) (zv qv6 qv8 zn zr zk zl zo qn0 qn1 qn2 qn3 qn4 : Nat) (SV : S32) (SN : S32) (x1 : Int32) (o : Int32 × S32) (hf : f_X4_on fu SV SN x1 = some o) : MI l yX4_on wsX4_on rm_X4_on D vwCl (tyS cI cJ) [.ref zv, .int x1] ((wV zv qv6 qv8 zn zr zk zl zo cI SV) ++ (wT zn qn0 qn1 qn2 qn3 qn4 cI SN)) ((wV zv qv6 qv8 zn zr zk zl zo cI (o.2)) ++ (wT zn qn0 qn1 qn2 qn3 qn4 cI SN)) (o.1) := by
  intro sz
  refine s_entry (own := RX4) (cc := cX4_on) (maxL := 3) (ret := (some .int)) (Qc := fun A => sZi D vwCl (tyS cI cJ) A ((wV zv qv6 qv8 zn zr zk zl zo cI (o.2)) ++ (wT zn qn0 qn1 qn2 qn3 qn4 cI SN)) (o.1)) rfl (by decide) rfl rfl (Nat.le_of_ble_eq_true rfl) ?_
  intro p e s m args below meth c A C0 hA hP hD hS ls hl
  obtain ⟨hx, hb, hr, hml, hown, hts, hlocks, hK⟩ := id C0
  have hl : lv_has ls 3 [(0, .ref zv), (1, .int x1)] := hl
  have hP : va_P D vwCl [(zv, .inr (3, [.ref zn, .ref zr, .ref zk, .int (SV 3 0), .ref zl, .ref zo, .ref qv6, .int (SV 7 0), .ref qv8])), (qv6, .inl (cI, 8, .inl (SV 6))), (qv8, .inl (cI, 7, .inl (SV 8))), (zn, .inr (2, [.ref qn0, .ref qn1, .ref qn2, .ref qn3, .ref qn4, .int (SN 5 0), .int (SN 6 0)])), (qn0, .inl (cI, 8, .inl (SN 0))), (qn1, .inl (cI, 8, .inl (SN 1))), (qn2, .inl (cI, 8, .inl (SN 2))), (qn3, .inl (cI, 8, .inl (SN 3))), (qn4, .inl (cI, 8, .inl (SN 4)))] s.heap := hP
  have hD : va_D A [(zv, .inr (3, [.ref zn, .ref zr, .ref zk, .int (SV 3 0), .ref zl, .ref zo, .ref qv6, .int (SV 7 0), .ref qv8])), (qv6, .inl (cI, 8, .inl (SV 6))), (qv8, .inl (cI, 7, .inl (SV 8))), (zn, .inr (2, [.ref qn0, .ref qn1, .ref qn2, .ref qn3, .ref qn4, .int (SN 5 0), .int (SN 6 0)])), (qn0, .inl (cI, 8, .inl (SN 0))), (qn1, .inl (cI, 8, .inl (SN 1))), (qn2, .inl (cI, 8, .inl (SN 2))), (qn3, .inl (cI, 8, .inl (SN 3))), (qn4, .inl (cI, 8, .inl (SN 4)))] := hD
  refine lv_iload_n hx hb dX4_on_0 rfl (lv_at hl 1 rfl) ?_
  obtain ⟨o_1, h_1, hf⟩ := bd_some hf
  refine s_callSI (wc := []) (wr := [(zv, .inr (3, [.ref zn, .ref zr, .ref zk, .int (SV 3 0), .ref zl, .ref zo, .ref qv6, .int (SV 7 0), .ref qv8])), (qv6, .inl (cI, 8, .inl (SV 6))), (qv8, .inl (cI, 7, .inl (SV 8))), (zn, .inr (2, [.ref qn0, .ref qn1, .ref qn2, .ref qn3, .ref qn4, .int (SN 5 0), .int (SN 6 0)])), (qn0, .inl (cI, 8, .inl (SN 0))), (qn1, .inl (cI, 8, .inl (SN 1))), (qn2, .inl (cI, 8, .inl (SN 2))), (qn3, .inl (cI, 8, .inl (SN 3))), (qn4, .inl (cI, 8, .inl (SN 4)))]) (wc' := []) (w' := [(zv, .inr (3, [.ref zn, .ref zr, .ref zk, .int (SV 3 0), .ref zl, .ref zo, .ref qv6, .int (SV 7 0), .ref qv8])), (qv6, .inl (cI, 8, .inl (SV 6))), (qv8, .inl (cI, 7, .inl (SV 8))), (zn, .inr (2, [.ref qn0, .ref qn1, .ref qn2, .ref qn3, .ref qn4, .int (SN 5 0), .int (SN 6 0)])), (qn0, .inl (cI, 8, .inl (SN 0))), (qn1, .inl (cI, 8, .inl (SN 1))), (qn2, .inl (cI, 8, .inl (SN 2))), (qn3, .inl (cI, 8, .inl (SN 3))), (qn4, .inl (cI, 8, .inl (SN 4)))]) (isC := []) (isR := [0, 1, 2, 3, 4, 5, 6, 7, 8]) (perm := [0, 1, 2, 3, 4, 5, 6, 7, 8]) (As := [.int x1]) (rest := []) ⟨hx, hb, hml, hown, hts⟩ (c_X4_isFloor l D cI cJ fu x1 o_1 h_1) (va_cwS 1 hts gX4_on_X4_isFloor rfl rfl rfl (by decide +kernel) ⟨Nat.le_of_ble_eq_true rfl, Nat.le_of_ble_eq_true rfl⟩) hK hP hD hS hA ⟨rfl, rfl, by decide, by decide, by decide, by decide, rfl⟩ rfl hl.1 rfl (Nat.le_of_ble_eq_true rfl) dX4_on_1 (fun H locs hP hD hS => ?_)
  refine lv_if_ne (tgt := 13) hx hb dX4_on_4 (by decide) (fun c_2 => ?_) (fun c_2 => ?_)
  · have hf := itF c_2 hf
    refine lv_aload_n hx hb dX4_on_13 rfl (lv_at hl 0 rfl) ?_
    refine va_get (D := D) (ci := 3) (v := .ref zn) (C := RX4) (T := TX4) (N := 9) hx hb hts i_X4_on_X4 hown hK hP 0 rfl rfl 0 (by decide) (hts _ q_X4_on_1) (fun _ h9 => h9) rfl dX4_on_14 ?_
    refine lv_iload_n hx hb dX4_on_17 rfl (lv_at hl 1 rfl) ?_
    obtain ⟨o_3, h_3, hf⟩ := bd_some hf
    refine s_callVI (wc := (wT zn qn0 qn1 qn2 qn3 qn4 cI SN)) (wr := [(zv, .inr (3, [.ref zn, .ref zr, .ref zk, .int (SV 3 0), .ref zl, .ref zo, .ref qv6, .int (SV 7 0), .ref qv8])), (qv6, .inl (cI, 8, .inl (SV 6))), (qv8, .inl (cI, 7, .inl (SV 8)))]) (wc' := (wT zn qn0 qn1 qn2 qn3 qn4 cI SN)) (w' := [(zv, .inr (3, [.ref zn, .ref zr, .ref zk, .int (SV 3 0), .ref zl, .ref zo, .ref qv6, .int (SV 7 0), .ref qv8])), (qv6, .inl (cI, 8, .inl (SV 6))), (qv8, .inl (cI, 7, .inl (SV 8))), (zn, .inr (2, [.ref qn0, .ref qn1, .ref qn2, .ref qn3, .ref qn4, .int (SN 5 0), .int (SN 6 0)])), (qn0, .inl (cI, 8, .inl (SN 0))), (qn1, .inl (cI, 8, .inl (SN 1))), (qn2, .inl (cI, 8, .inl (SN 2))), (qn3, .inl (cI, 8, .inl (SN 3))), (qn4, .inl (cI, 8, .inl (SN 4)))]) (isC := [3, 4, 5, 6, 7, 8]) (isR := [0, 1, 2]) (perm := [0, 1, 2, 3, 4, 5, 6, 7, 8]) (As := [.int x1]) (rest := []) (ci := 2) (q := (RX3, TX3, 7)) ⟨hx, hb, hml, hown, hts⟩ (c_X3_whoLivesOn l D cI cJ fu zn qn0 qn1 qn2 qn3 qn4 SN x1 o_3 h_3) (cwV 1 hts gX4_on_X3_whoLivesOn rfl rfl rfl (by decide +kernel) ⟨Nat.le_of_ble_eq_true rfl, Nat.le_of_ble_eq_true rfl⟩) hK hP hD hS hA ⟨rfl, rfl, by decide, by decide, by decide, by decide, rfl⟩ rfl rfl rfl rfl hl.1 rfl (Nat.le_of_ble_eq_true rfl) dX4_on_18 (fun H locs hP hD hS => ?_)
    refine lv_istore_n (lv' := [(2, .int o_3), (0, .ref zv), (1, .int x1)]) hx hb dX4_on_21 rfl hl (by decide) rfl (fun ls hl => ?_)
    refine lv_iload_n hx hb dX4_on_22 rfl (lv_at hl 0 rfl) ?_
    refine lv_if_ge (tgt := 31) hx hb dX4_on_23 (by decide) (fun c_4 => ?_) (fun c_4 => ?_)
    · have hf := itT c_4 hf
      refine lv_iload_n hx hb dX4_on_31 rfl (lv_at hl 0 rfl) ?_
      obtain rfl := Option.some.inj hf
      exact s_iret (r := o_3) hx hb hr hlocks hK hP hD hS dX4_on_32
    · have hf := itF c_4 hf
      refine lv_bipush (v := (-9 : Int32)) hx hb dX4_on_26 (by decide) ?_
      refine lv_goto (tgt := 32) hx hb dX4_on_28 (by decide) ?_
      obtain rfl := Option.some.inj hf
      exact s_iret (r := (-9 : Int32)) hx hb hr hlocks hK hP hD hS dX4_on_32
  · have hf := itT c_2 hf
    refine lv_aload_n hx hb dX4_on_7 rfl (lv_at hl 0 rfl) ?_
    refine lv_iconst (v := (-1 : Int32)) hx hb dX4_on_8 (by decide) ?_
    obtain ⟨o_5, h_5, hf⟩ := bd_some hf
    refine s_callVI (wc := (wV zv qv6 qv8 zn zr zk zl zo cI SV)) (wr := [(zn, .inr (2, [.ref qn0, .ref qn1, .ref qn2, .ref qn3, .ref qn4, .int (SN 5 0), .int (SN 6 0)])), (qn0, .inl (cI, 8, .inl (SN 0))), (qn1, .inl (cI, 8, .inl (SN 1))), (qn2, .inl (cI, 8, .inl (SN 2))), (qn3, .inl (cI, 8, .inl (SN 3))), (qn4, .inl (cI, 8, .inl (SN 4)))]) (wc' := (wV zv qv6 qv8 zn zr zk zl zo cI (o_5.2))) (w' := [(zv, .inr (3, [.ref zn, .ref zr, .ref zk, .int ((o_5.2) 3 0), .ref zl, .ref zo, .ref qv6, .int ((o_5.2) 7 0), .ref qv8])), (qv6, .inl (cI, 8, .inl ((o_5.2) 6))), (qv8, .inl (cI, 7, .inl ((o_5.2) 8))), (zn, .inr (2, [.ref qn0, .ref qn1, .ref qn2, .ref qn3, .ref qn4, .int (SN 5 0), .int (SN 6 0)])), (qn0, .inl (cI, 8, .inl (SN 0))), (qn1, .inl (cI, 8, .inl (SN 1))), (qn2, .inl (cI, 8, .inl (SN 2))), (qn3, .inl (cI, 8, .inl (SN 3))), (qn4, .inl (cI, 8, .inl (SN 4)))]) (isC := [0, 1, 2]) (isR := [3, 4, 5, 6, 7, 8]) (perm := [6, 7, 8, 0, 1, 2, 3, 4, 5]) (As := [.int (-1 : Int32)]) (rest := []) (ci := 3) (q := (RX4, TX4, 9)) ⟨hx, hb, hml, hown, hts⟩ (c_X4_refuse l D cI cJ fu zv qv6 qv8 zn zr zk zl zo SV (-1 : Int32) o_5 h_5) (cwV 1 hts gX4_on_X4_refuse rfl rfl rfl (by decide +kernel) ⟨Nat.le_of_ble_eq_true rfl, Nat.le_of_ble_eq_true rfl⟩) hK hP hD hS hA ⟨rfl, rfl, by decide, by decide, by decide, by decide, rfl⟩ rfl rfl rfl rfl hl.1 rfl (Nat.le_of_ble_eq_true rfl) dX4_on_9 (fun H locs hP hD hS => ?_)
    obtain rfl := Option.some.inj hf
    exact s_iret (r := o_5.1) hx hb hr hlocks hK hP hD hS dX4_on_12
theorem q_X4_refuseLong_1 : (Cond.constantLong RX4 195 (4000000000000000000) : Cond) ∈ wsX4_refuseLong := List.mem_of_getElem? (i := 1) rfl
abbrev rm_X4_refuseLong : Room := { frames := 1, cells := 0, slots := 0, locals := 22 }
set_option maxHeartbeats 4000000 in
set_option maxRecDepth 100000 in
theorem c_X4_refuseLong (l : Launch) (D : va_G) (cI cJ : ClassId) (fu : Nat) (zv qv6 qv8 zn zr zk zl zo : Nat) (SV : S32) (x1 : Int32) (o : Int64 × S32) (hf : f_X4_refuseLong fu SV x1 = some o) : ML l yX4_refuseLong wsX4_refuseLong rm_X4_refuseLong D vwCl (tyS cI cJ) [.ref zv, .int x1] (wV zv qv6 qv8 zn zr zk zl zo cI SV) (wV zv qv6 qv8 zn zr zk zl zo cI (o.2)) (o.1) := by
  intro sz
  refine s_entry (own := RX4) (cc := cX4_refuseLong) (maxL := 2) (ret := (some .long)) (Qc := fun A => sZl D vwCl (tyS cI cJ) A (wV zv qv6 qv8 zn zr zk zl zo cI (o.2)) (o.1)) rfl (by decide) rfl rfl (Nat.le_of_ble_eq_true rfl) ?_
  intro p e s m args below meth c A C0 hA hP hD hS ls hl
  obtain ⟨hx, hb, hr, hml, hown, hts, hlocks, hK⟩ := id C0
  have hl : lv_has ls 2 [(0, .ref zv), (1, .int x1)] := hl
  have hP : va_P D vwCl [(zv, .inr (3, [.ref zn, .ref zr, .ref zk, .int (SV 3 0), .ref zl, .ref zo, .ref qv6, .int (SV 7 0), .ref qv8])), (qv6, .inl (cI, 8, .inl (SV 6))), (qv8, .inl (cI, 7, .inl (SV 8)))] s.heap := hP
  have hD : va_D A [(zv, .inr (3, [.ref zn, .ref zr, .ref zk, .int (SV 3 0), .ref zl, .ref zo, .ref qv6, .int (SV 7 0), .ref qv8])), (qv6, .inl (cI, 8, .inl (SV 6))), (qv8, .inl (cI, 7, .inl (SV 8)))] := hD
  refine lv_ldc2 (v := (4000000000000000000 : Int64)) hx hb hown (hts _ q_X4_refuseLong_1) dX4_refuseLong_0 ?_
  refine lv_aload_n hx hb dX4_refuseLong_3 rfl (lv_at hl 0 rfl) ?_
  refine lv_iload_n hx hb dX4_refuseLong_4 rfl (lv_at hl 1 rfl) ?_
  obtain ⟨o_1, h_1, hf⟩ := bd_some hf
  refine s_callVI (wc := (wV zv qv6 qv8 zn zr zk zl zo cI SV)) (wr := []) (wc' := (wV zv qv6 qv8 zn zr zk zl zo cI (o_1.2))) (w' := [(zv, .inr (3, [.ref zn, .ref zr, .ref zk, .int ((o_1.2) 3 0), .ref zl, .ref zo, .ref qv6, .int ((o_1.2) 7 0), .ref qv8])), (qv6, .inl (cI, 8, .inl ((o_1.2) 6))), (qv8, .inl (cI, 7, .inl ((o_1.2) 8)))]) (isC := [0, 1, 2]) (isR := []) (perm := [0, 1, 2]) (As := [.int x1]) (rest := [.long (4000000000000000000 : Int64)]) (ci := 3) (q := (RX4, TX4, 9)) ⟨hx, hb, hml, hown, hts⟩ (c_X4_refuse l D cI cJ fu zv qv6 qv8 zn zr zk zl zo SV x1 o_1 h_1) (cwV 1 hts gX4_refuseLong_X4_refuse rfl rfl rfl (by decide +kernel) ⟨Nat.le_of_ble_eq_true rfl, Nat.le_of_ble_eq_true rfl⟩) hK hP hD hS hA ⟨rfl, rfl, by decide, by decide, by decide, by decide, rfl⟩ rfl rfl rfl rfl hl.1 rfl (Nat.le_of_ble_eq_true rfl) dX4_refuseLong_5 (fun H locs hP hD hS => ?_)
  refine lv_i2l (v := (o_1.1).toInt64) hx hb dX4_refuseLong_8 rfl ?_
  refine lv_lsub hx hb dX4_refuseLong_9 ?_
  obtain rfl := Option.some.inj hf
  exact s_lret (r := ((4000000000000000000 : Int64) - ((o_1.1).toInt64))) hx hb hr hlocks hK hP hD hS dX4_refuseLong_10
theorem q_X4_likely_1 : (Cond.fieldLink RX4 10 "UpWhenDies" "now" "LUpWhenDies$Tower;" : Cond) ∈ wsX4_likely := List.mem_of_getElem? (i := 1) rfl
theorem q_X4_likely_2 : (Cond.fieldLink RX4 32 "UpWhenDies" "odds" "LUpWhenDies$Odds;" : Cond) ∈ wsX4_likely := List.mem_of_getElem? (i := 2) rfl
theorem q_X4_likely_3 : (Cond.fieldLink RX4 126 "UpWhenDies$Odds" "above" "J" : Cond) ∈ wsX4_likely := List.mem_of_getElem? (i := 3) rfl
theorem q_X4_likely_4 : (Cond.fieldLink RX4 130 "UpWhenDies$Odds" "below" "J" : Cond) ∈ wsX4_likely := List.mem_of_getElem? (i := 4) rfl
theorem i_X4_likely_X1 : ∀ w ∈ wsX10, w ∈ wsX4_likely := fun _ h => (List.mem_cons_of_mem _ (List.mem_append_left _ (List.mem_append_right _ h)))
theorem i_X4_likely_X4 : ∀ w ∈ wsX40, w ∈ wsX4_likely := fun _ h => (List.mem_cons_of_mem _ (List.mem_append_left _ (List.mem_append_left _ (List.mem_append_right _ h))))
abbrev rm_X4_likely : Room := { frames := 6, cells := 0, slots := 0, locals := 137 }
set_option maxHeartbeats 4000000 in
set_option maxRecDepth 100000 in
theorem t_X4_likely_18 {p : Program} {l : Launch} {e : Env} {s : State} {m : MethodId} {args : Array Value} {below : List Frame} {meth : Method} {c : Code} {D : va_G} {cI cJ : ClassId} {A : Nat → Prop} {fu : Nat} {zv qv6 qv8 zn zr zk zl zo qn0 qn1 qn2 qn3 qn4 qo0 : Nat} {SN : S32} {o : Int64 × S32 × S64} (C0 : Cx RX4 wsX4_likely cX4_likely 5 (some .long) D vwCl (tyS cI cJ) p s m args meth c) (hA : ∀ q : Nat, s.heap.size ≤ q → A q) : ∀ (SV : S32) (SO : S64), f_X4_likely_18 fu  SN SV SO = some o → ∀ (H : Heap) (locs : List Loc), va_P D vwCl ((wV zv qv6 qv8 zn zr zk zl zo cI SV) ++ ((wT zn qn0 qn1 qn2 qn3 qn4 cI SN) ++ (wO zo qo0 cJ SO))) H → va_D A ((wV zv qv6 qv8 zn zr zk zl zo cI SV) ++ ((wT zn qn0 qn1 qn2 qn3 qn4 cI SN) ++ (wO zo qo0 cJ SO))) → va_S A s.heap H locs → ∀ (ls : Array Slot), lv_has ls 5 [(0, .ref zv)] → W p l e rm_X4_likely s m args below meth c H locs 0 0 (MQ below (sZl D vwCl (tyS cI cJ) A ((wV zv qv6 qv8 zn zr zk zl zo cI (o.2.1)) ++ ((wT zn qn0 qn1 qn2 qn3 qn4 cI SN) ++ (wO zo qo0 cJ (o.2.2)))) (o.1)) args s 0 0 A) (F0 m 18 ls []) := by
  obtain ⟨hx, hb, hr, hml, hown, hts, hlocks, hK⟩ := id C0
  intro SV SO hf H locs hP hD hS ls hl
  have hP : va_P D vwCl [(zv, .inr (3, [.ref zn, .ref zr, .ref zk, .int (SV 3 0), .ref zl, .ref zo, .ref qv6, .int (SV 7 0), .ref qv8])), (qv6, .inl (cI, 8, .inl (SV 6))), (qv8, .inl (cI, 7, .inl (SV 8))), (zn, .inr (2, [.ref qn0, .ref qn1, .ref qn2, .ref qn3, .ref qn4, .int (SN 5 0), .int (SN 6 0)])), (qn0, .inl (cI, 8, .inl (SN 0))), (qn1, .inl (cI, 8, .inl (SN 1))), (qn2, .inl (cI, 8, .inl (SN 2))), (qn3, .inl (cI, 8, .inl (SN 3))), (qn4, .inl (cI, 8, .inl (SN 4))), (zo, .inr (0, [.ref qo0, .long (SO 1 0), .long (SO 2 0)])), (qo0, .inl (cJ, 9, .inr (.inl (SO 0))))] H := hP
  have hD : va_D A [(zv, .inr (3, [.ref zn, .ref zr, .ref zk, .int (SV 3 0), .ref zl, .ref zo, .ref qv6, .int (SV 7 0), .ref qv8])), (qv6, .inl (cI, 8, .inl (SV 6))), (qv8, .inl (cI, 7, .inl (SV 8))), (zn, .inr (2, [.ref qn0, .ref qn1, .ref qn2, .ref qn3, .ref qn4, .int (SN 5 0), .int (SN 6 0)])), (qn0, .inl (cI, 8, .inl (SN 0))), (qn1, .inl (cI, 8, .inl (SN 1))), (qn2, .inl (cI, 8, .inl (SN 2))), (qn3, .inl (cI, 8, .inl (SN 3))), (qn4, .inl (cI, 8, .inl (SN 4))), (zo, .inr (0, [.ref qo0, .long (SO 1 0), .long (SO 2 0)])), (qo0, .inl (cJ, 9, .inr (.inl (SO 0))))] := hD
  refine lv_aload_n hx hb dX4_likely_18 rfl (lv_at hl 0 rfl) ?_
  refine lv_iconst (v := (-1 : Int32)) hx hb dX4_likely_19 (by decide) ?_
  obtain ⟨o_1, h_1, hf⟩ := bd_some hf
  refine s_callVL (wc := (wV zv qv6 qv8 zn zr zk zl zo cI SV)) (wr := [(zn, .inr (2, [.ref qn0, .ref qn1, .ref qn2, .ref qn3, .ref qn4, .int (SN 5 0), .int (SN 6 0)])), (qn0, .inl (cI, 8, .inl (SN 0))), (qn1, .inl (cI, 8, .inl (SN 1))), (qn2, .inl (cI, 8, .inl (SN 2))), (qn3, .inl (cI, 8, .inl (SN 3))), (qn4, .inl (cI, 8, .inl (SN 4))), (zo, .inr (0, [.ref qo0, .long (SO 1 0), .long (SO 2 0)])), (qo0, .inl (cJ, 9, .inr (.inl (SO 0))))]) (wc' := (wV zv qv6 qv8 zn zr zk zl zo cI (o_1.2))) (w' := [(zv, .inr (3, [.ref zn, .ref zr, .ref zk, .int ((o_1.2) 3 0), .ref zl, .ref zo, .ref qv6, .int ((o_1.2) 7 0), .ref qv8])), (qv6, .inl (cI, 8, .inl ((o_1.2) 6))), (qv8, .inl (cI, 7, .inl ((o_1.2) 8))), (zn, .inr (2, [.ref qn0, .ref qn1, .ref qn2, .ref qn3, .ref qn4, .int (SN 5 0), .int (SN 6 0)])), (qn0, .inl (cI, 8, .inl (SN 0))), (qn1, .inl (cI, 8, .inl (SN 1))), (qn2, .inl (cI, 8, .inl (SN 2))), (qn3, .inl (cI, 8, .inl (SN 3))), (qn4, .inl (cI, 8, .inl (SN 4))), (zo, .inr (0, [.ref qo0, .long (SO 1 0), .long (SO 2 0)])), (qo0, .inl (cJ, 9, .inr (.inl (SO 0))))]) (isC := [0, 1, 2]) (isR := [3, 4, 5, 6, 7, 8, 9, 10]) (perm := [8, 9, 10, 0, 1, 2, 3, 4, 5, 6, 7]) (As := [.int (-1 : Int32)]) (rest := []) (ci := 3) (q := (RX4, TX4, 9)) ⟨hx, hb, hml, hown, hts⟩ (c_X4_refuseLong l D cI cJ fu zv qv6 qv8 zn zr zk zl zo SV (-1 : Int32) o_1 h_1) (cwV 1 hts gX4_likely_X4_refuseLong rfl rfl rfl (by decide +kernel) ⟨Nat.le_of_ble_eq_true rfl, Nat.le_of_ble_eq_true rfl⟩) hK hP hD hS hA ⟨rfl, rfl, by decide, by decide, by decide, by decide, rfl⟩ rfl rfl rfl rfl hl.1 rfl (Nat.le_of_ble_eq_true rfl) dX4_likely_20 (fun H locs hP hD hS => ?_)
  obtain rfl := Option.some.inj hf
  exact s_lret (r := o_1.1) hx hb hr hlocks hK hP hD hS dX4_likely_23
set_option maxHeartbeats 4000000 in
set_option maxRecDepth 100000 in
theorem t_X4_likely_66 {p : Program} {l : Launch} {e : Env} {s : State} {m : MethodId} {args : Array Value} {below : List Frame} {meth : Method} {c : Code} {D : va_G} {cI cJ : ClassId} {A : Nat → Prop} {fu : Nat} {zv qv6 qv8 zn zr zk zl zo qn0 qn1 qn2 qn3 qn4 qo0 : Nat} {SN : S32} {o : Int64 × S32 × S64} (C0 : Cx RX4 wsX4_likely cX4_likely 5 (some .long) D vwCl (tyS cI cJ) p s m args meth c) (hA : ∀ q : Nat, s.heap.size ≤ q → A q) : ∀ (x1 : Int32) (x2 : Int32) (x3 : Int32) (x4 : Int32) (SV : S32) (SO : S64), f_X4_likely_66 fu  SN x1 x2 x3 x4 SV SO = some o → ∀ (H : Heap) (locs : List Loc), va_P D vwCl ((wV zv qv6 qv8 zn zr zk zl zo cI SV) ++ ((wT zn qn0 qn1 qn2 qn3 qn4 cI SN) ++ (wO zo qo0 cJ SO))) H → va_D A ((wV zv qv6 qv8 zn zr zk zl zo cI SV) ++ ((wT zn qn0 qn1 qn2 qn3 qn4 cI SN) ++ (wO zo qo0 cJ SO))) → va_S A s.heap H locs → ∀ (ls : Array Slot), lv_has ls 5 [(0, .ref zv), (1, .int x1), (2, .int x2), (3, .int x3), (4, .int x4)] → W p l e rm_X4_likely s m args below meth c H locs 0 0 (MQ below (sZl D vwCl (tyS cI cJ) A ((wV zv qv6 qv8 zn zr zk zl zo cI (o.2.1)) ++ ((wT zn qn0 qn1 qn2 qn3 qn4 cI SN) ++ (wO zo qo0 cJ (o.2.2)))) (o.1)) args s 0 0 A) (F0 m 66 ls []) := by
  obtain ⟨hx, hb, hr, hml, hown, hts, hlocks, hK⟩ := id C0
  intro x1 x2 x3 x4 SV SO hf H locs hP hD hS ls hl
  have hP : va_P D vwCl [(zv, .inr (3, [.ref zn, .ref zr, .ref zk, .int (SV 3 0), .ref zl, .ref zo, .ref qv6, .int (SV 7 0), .ref qv8])), (qv6, .inl (cI, 8, .inl (SV 6))), (qv8, .inl (cI, 7, .inl (SV 8))), (zn, .inr (2, [.ref qn0, .ref qn1, .ref qn2, .ref qn3, .ref qn4, .int (SN 5 0), .int (SN 6 0)])), (qn0, .inl (cI, 8, .inl (SN 0))), (qn1, .inl (cI, 8, .inl (SN 1))), (qn2, .inl (cI, 8, .inl (SN 2))), (qn3, .inl (cI, 8, .inl (SN 3))), (qn4, .inl (cI, 8, .inl (SN 4))), (zo, .inr (0, [.ref qo0, .long (SO 1 0), .long (SO 2 0)])), (qo0, .inl (cJ, 9, .inr (.inl (SO 0))))] H := hP
  have hD : va_D A [(zv, .inr (3, [.ref zn, .ref zr, .ref zk, .int (SV 3 0), .ref zl, .ref zo, .ref qv6, .int (SV 7 0), .ref qv8])), (qv6, .inl (cI, 8, .inl (SV 6))), (qv8, .inl (cI, 7, .inl (SV 8))), (zn, .inr (2, [.ref qn0, .ref qn1, .ref qn2, .ref qn3, .ref qn4, .int (SN 5 0), .int (SN 6 0)])), (qn0, .inl (cI, 8, .inl (SN 0))), (qn1, .inl (cI, 8, .inl (SN 1))), (qn2, .inl (cI, 8, .inl (SN 2))), (qn3, .inl (cI, 8, .inl (SN 3))), (qn4, .inl (cI, 8, .inl (SN 4))), (zo, .inr (0, [.ref qo0, .long (SO 1 0), .long (SO 2 0)])), (qo0, .inl (cJ, 9, .inr (.inl (SO 0))))] := hD
  refine lv_aload_n hx hb dX4_likely_66 rfl (lv_at hl 0 rfl) ?_
  refine va_get (D := D) (ci := 3) (v := .ref zo) (C := RX4) (T := TX4) (N := 9) hx hb hts i_X4_likely_X4 hown hK hP 0 rfl rfl 5 (by decide) (hts _ q_X4_likely_2) (fun _ h9 => h9) rfl dX4_likely_67 ?_
  refine lv_aload_n hx hb dX4_likely_70 rfl (lv_at hl 0 rfl) ?_
  refine va_get (D := D) (ci := 3) (v := .ref zn) (C := RX4) (T := TX4) (N := 9) hx hb hts i_X4_likely_X4 hown hK hP 0 rfl rfl 0 (by decide) (hts _ q_X4_likely_1) (fun _ h9 => h9) rfl dX4_likely_71 ?_
  refine lv_iload_n hx hb dX4_likely_74 rfl (lv_at hl 1 rfl) ?_
  refine lv_iload_n hx hb dX4_likely_75 rfl (lv_at hl 2 rfl) ?_
  refine lv_iload_n hx hb dX4_likely_76 rfl (lv_at hl 3 rfl) ?_
  obtain ⟨o_1, h_1, hf⟩ := bd_some hf
  refine s_callVV (wc := ((wO zo qo0 cJ SO) ++ (wT zn qn0 qn1 qn2 qn3 qn4 cI SN))) (wr := [(zv, .inr (3, [.ref zn, .ref zr, .ref zk, .int (SV 3 0), .ref zl, .ref zo, .ref qv6, .int (SV 7 0), .ref qv8])), (qv6, .inl (cI, 8, .inl (SV 6))), (qv8, .inl (cI, 7, .inl (SV 8)))]) (wc' := ((wO zo qo0 cJ (o_1)) ++ (wT zn qn0 qn1 qn2 qn3 qn4 cI SN))) (w' := [(zv, .inr (3, [.ref zn, .ref zr, .ref zk, .int (SV 3 0), .ref zl, .ref zo, .ref qv6, .int (SV 7 0), .ref qv8])), (qv6, .inl (cI, 8, .inl (SV 6))), (qv8, .inl (cI, 7, .inl (SV 8))), (zn, .inr (2, [.ref qn0, .ref qn1, .ref qn2, .ref qn3, .ref qn4, .int (SN 5 0), .int (SN 6 0)])), (qn0, .inl (cI, 8, .inl (SN 0))), (qn1, .inl (cI, 8, .inl (SN 1))), (qn2, .inl (cI, 8, .inl (SN 2))), (qn3, .inl (cI, 8, .inl (SN 3))), (qn4, .inl (cI, 8, .inl (SN 4))), (zo, .inr (0, [.ref qo0, .long ((o_1) 1 0), .long ((o_1) 2 0)])), (qo0, .inl (cJ, 9, .inr (.inl ((o_1) 0))))]) (isC := [9, 10, 3, 4, 5, 6, 7, 8]) (isR := [0, 1, 2]) (perm := [0, 1, 2, 5, 6, 7, 8, 9, 10, 3, 4]) (As := [.ref zn, .int x1, .int x2, .int x3]) (rest := []) (ci := 0) (q := (RX1, TX1, 3)) ⟨hx, hb, hml, hown, hts⟩ (c_X1_reckon l D cI cJ fu zo qo0 zn qn0 qn1 qn2 qn3 qn4 SO SN x1 x2 x3 o_1 h_1) (cwV 4 hts gX4_likely_X1_reckon rfl rfl rfl (by decide +kernel) ⟨Nat.le_of_ble_eq_true rfl, Nat.le_of_ble_eq_true rfl⟩) hK hP hD hS hA ⟨rfl, rfl, by decide, by decide, by decide, by decide, rfl⟩ rfl rfl rfl rfl hl.1 rfl (Nat.le_of_ble_eq_true rfl) dX4_likely_77 (fun H locs hP hD hS => ?_)
  refine lv_iload hx hb dX4_likely_80 (lv_at hl 4 rfl) ?_
  refine lv_if_ne (tgt := 95) hx hb dX4_likely_82 (by decide) (fun c_2 => ?_) (fun c_2 => ?_)
  · have hf := itF c_2 hf
    refine lv_aload_n hx hb dX4_likely_95 rfl (lv_at hl 0 rfl) ?_
    refine va_get (D := D) (ci := 3) (v := .ref zo) (C := RX4) (T := TX4) (N := 9) hx hb hts i_X4_likely_X4 hown hK hP 0 rfl rfl 5 (by decide) (hts _ q_X4_likely_2) (fun _ h9 => h9) rfl dX4_likely_96 ?_
    refine va_get (D := D) (ci := 0) (v := .long ((o_1) 2 0)) (C := RX1) (T := TX1) (N := 3) hx hb hts i_X4_likely_X1 hown hK hP 9 rfl rfl 2 (by decide) (hts _ q_X4_likely_4) (fun _ h9 => h9) rfl dX4_likely_99 ?_
    obtain rfl := Option.some.inj hf
    exact s_lret (r := ((o_1) 2 0)) hx hb hr hlocks hK hP hD hS dX4_likely_102
  · have hf := itT c_2 hf
    refine lv_aload_n hx hb dX4_likely_85 rfl (lv_at hl 0 rfl) ?_
    refine va_get (D := D) (ci := 3) (v := .ref zo) (C := RX4) (T := TX4) (N := 9) hx hb hts i_X4_likely_X4 hown hK hP 0 rfl rfl 5 (by decide) (hts _ q_X4_likely_2) (fun _ h9 => h9) rfl dX4_likely_86 ?_
    refine va_get (D := D) (ci := 0) (v := .long ((o_1) 1 0)) (C := RX1) (T := TX1) (N := 3) hx hb hts i_X4_likely_X1 hown hK hP 9 rfl rfl 1 (by decide) (hts _ q_X4_likely_3) (fun _ h9 => h9) rfl dX4_likely_89 ?_
    refine lv_goto (tgt := 102) hx hb dX4_likely_92 (by decide) ?_
    obtain rfl := Option.some.inj hf
    exact s_lret (r := ((o_1) 1 0)) hx hb hr hlocks hK hP hD hS dX4_likely_102
set_option maxHeartbeats 4000000 in
set_option maxRecDepth 100000 in
theorem c_X4_likely (l : Launch) (D : va_G) (cI cJ : ClassId) (fu : Nat) (zv qv6 qv8 zn zr zk zl zo qn0 qn1 qn2 qn3 qn4 qo0 : Nat) (SV : S32) (SN : S32) (SO : S64) (x1 : Int32) (x2 : Int32) (x3 : Int32) (x4 : Int32) (o : Int64 × S32 × S64) (hf : f_X4_likely fu SV SN SO x1 x2 x3 x4 = some o) : ML l yX4_likely wsX4_likely rm_X4_likely D vwCl (tyS cI cJ) [.ref zv, .int x1, .int x2, .int x3, .int x4] ((wV zv qv6 qv8 zn zr zk zl zo cI SV) ++ ((wT zn qn0 qn1 qn2 qn3 qn4 cI SN) ++ (wO zo qo0 cJ SO))) ((wV zv qv6 qv8 zn zr zk zl zo cI (o.2.1)) ++ ((wT zn qn0 qn1 qn2 qn3 qn4 cI SN) ++ (wO zo qo0 cJ (o.2.2)))) (o.1) := by
  intro sz
  refine s_entry (own := RX4) (cc := cX4_likely) (maxL := 5) (ret := (some .long)) (Qc := fun A => sZl D vwCl (tyS cI cJ) A ((wV zv qv6 qv8 zn zr zk zl zo cI (o.2.1)) ++ ((wT zn qn0 qn1 qn2 qn3 qn4 cI SN) ++ (wO zo qo0 cJ (o.2.2)))) (o.1)) rfl (by decide) rfl rfl (Nat.le_of_ble_eq_true rfl) ?_
  intro p e s m args below meth c A C0 hA hP hD hS ls hl
  obtain ⟨hx, hb, hr, hml, hown, hts, hlocks, hK⟩ := id C0
  have hl : lv_has ls 5 [(0, .ref zv), (1, .int x1), (2, .int x2), (3, .int x3), (4, .int x4)] := hl
  have hP : va_P D vwCl [(zv, .inr (3, [.ref zn, .ref zr, .ref zk, .int (SV 3 0), .ref zl, .ref zo, .ref qv6, .int (SV 7 0), .ref qv8])), (qv6, .inl (cI, 8, .inl (SV 6))), (qv8, .inl (cI, 7, .inl (SV 8))), (zn, .inr (2, [.ref qn0, .ref qn1, .ref qn2, .ref qn3, .ref qn4, .int (SN 5 0), .int (SN 6 0)])), (qn0, .inl (cI, 8, .inl (SN 0))), (qn1, .inl (cI, 8, .inl (SN 1))), (qn2, .inl (cI, 8, .inl (SN 2))), (qn3, .inl (cI, 8, .inl (SN 3))), (qn4, .inl (cI, 8, .inl (SN 4))), (zo, .inr (0, [.ref qo0, .long (SO 1 0), .long (SO 2 0)])), (qo0, .inl (cJ, 9, .inr (.inl (SO 0))))] s.heap := hP
  have hD : va_D A [(zv, .inr (3, [.ref zn, .ref zr, .ref zk, .int (SV 3 0), .ref zl, .ref zo, .ref qv6, .int (SV 7 0), .ref qv8])), (qv6, .inl (cI, 8, .inl (SV 6))), (qv8, .inl (cI, 7, .inl (SV 8))), (zn, .inr (2, [.ref qn0, .ref qn1, .ref qn2, .ref qn3, .ref qn4, .int (SN 5 0), .int (SN 6 0)])), (qn0, .inl (cI, 8, .inl (SN 0))), (qn1, .inl (cI, 8, .inl (SN 1))), (qn2, .inl (cI, 8, .inl (SN 2))), (qn3, .inl (cI, 8, .inl (SN 3))), (qn4, .inl (cI, 8, .inl (SN 4))), (zo, .inr (0, [.ref qo0, .long (SO 1 0), .long (SO 2 0)])), (qo0, .inl (cJ, 9, .inr (.inl (SO 0))))] := hD
  refine lv_aload_n hx hb dX4_likely_0 rfl (lv_at hl 0 rfl) ?_
  refine va_get (D := D) (ci := 3) (v := .ref zn) (C := RX4) (T := TX4) (N := 9) hx hb hts i_X4_likely_X4 hown hK hP 0 rfl rfl 0 (by decide) (hts _ q_X4_likely_1) (fun _ h9 => h9) rfl dX4_likely_1 ?_
  refine lv_iload_n hx hb dX4_likely_4 rfl (lv_at hl 1 rfl) ?_
  obtain ⟨o_1, h_1, hf⟩ := bd_some hf
  refine s_callVI (wc := (wT zn qn0 qn1 qn2 qn3 qn4 cI SN)) (wr := [(zv, .inr (3, [.ref zn, .ref zr, .ref zk, .int (SV 3 0), .ref zl, .ref zo, .ref qv6, .int (SV 7 0), .ref qv8])), (qv6, .inl (cI, 8, .inl (SV 6))), (qv8, .inl (cI, 7, .inl (SV 8))), (zo, .inr (0, [.ref qo0, .long (SO 1 0), .long (SO 2 0)])), (qo0, .inl (cJ, 9, .inr (.inl (SO 0))))]) (wc' := (wT zn qn0 qn1 qn2 qn3 qn4 cI SN)) (w' := [(zv, .inr (3, [.ref zn, .ref zr, .ref zk, .int (SV 3 0), .ref zl, .ref zo, .ref qv6, .int (SV 7 0), .ref qv8])), (qv6, .inl (cI, 8, .inl (SV 6))), (qv8, .inl (cI, 7, .inl (SV 8))), (zn, .inr (2, [.ref qn0, .ref qn1, .ref qn2, .ref qn3, .ref qn4, .int (SN 5 0), .int (SN 6 0)])), (qn0, .inl (cI, 8, .inl (SN 0))), (qn1, .inl (cI, 8, .inl (SN 1))), (qn2, .inl (cI, 8, .inl (SN 2))), (qn3, .inl (cI, 8, .inl (SN 3))), (qn4, .inl (cI, 8, .inl (SN 4))), (zo, .inr (0, [.ref qo0, .long (SO 1 0), .long (SO 2 0)])), (qo0, .inl (cJ, 9, .inr (.inl (SO 0))))]) (isC := [3, 4, 5, 6, 7, 8]) (isR := [0, 1, 2, 9, 10]) (perm := [0, 1, 2, 5, 6, 7, 8, 9, 10, 3, 4]) (As := [.int x1]) (rest := []) (ci := 2) (q := (RX3, TX3, 7)) ⟨hx, hb, hml, hown, hts⟩ (c_X3_isAlive l D cI cJ fu zn qn0 qn1 qn2 qn3 qn4 SN x1 o_1 h_1) (cwV 1 hts gX4_likely_X3_isAlive rfl rfl rfl (by decide +kernel) ⟨Nat.le_of_ble_eq_true rfl, Nat.le_of_ble_eq_true rfl⟩) hK hP hD hS hA ⟨rfl, rfl, by decide, by decide, by decide, by decide, rfl⟩ rfl rfl rfl rfl hl.1 rfl (Nat.le_of_ble_eq_true rfl) dX4_likely_5 (fun H locs hP hD hS => ?_)
  refine lv_if_eq (tgt := 18) hx hb dX4_likely_8 (by decide) (fun c_2 => ?_) (fun c_2 => ?_)
  · have hf := itT c_2 hf
    exact t_X4_likely_18 (fu := fu) C0 hA  _ _ hf _ _ hP hD hS _ (lv_sub hl [0] rfl)
  · have hf := itF c_2 hf
    refine lv_iload_n hx hb dX4_likely_11 rfl (lv_at hl 2 rfl) ?_
    obtain ⟨o_3, h_3, hf⟩ := bd_some hf
    refine s_callSI (wc := []) (wr := [(zv, .inr (3, [.ref zn, .ref zr, .ref zk, .int (SV 3 0), .ref zl, .ref zo, .ref qv6, .int (SV 7 0), .ref qv8])), (qv6, .inl (cI, 8, .inl (SV 6))), (qv8, .inl (cI, 7, .inl (SV 8))), (zn, .inr (2, [.ref qn0, .ref qn1, .ref qn2, .ref qn3, .ref qn4, .int (SN 5 0), .int (SN 6 0)])), (qn0, .inl (cI, 8, .inl (SN 0))), (qn1, .inl (cI, 8, .inl (SN 1))), (qn2, .inl (cI, 8, .inl (SN 2))), (qn3, .inl (cI, 8, .inl (SN 3))), (qn4, .inl (cI, 8, .inl (SN 4))), (zo, .inr (0, [.ref qo0, .long (SO 1 0), .long (SO 2 0)])), (qo0, .inl (cJ, 9, .inr (.inl (SO 0))))]) (wc' := []) (w' := [(zv, .inr (3, [.ref zn, .ref zr, .ref zk, .int (SV 3 0), .ref zl, .ref zo, .ref qv6, .int (SV 7 0), .ref qv8])), (qv6, .inl (cI, 8, .inl (SV 6))), (qv8, .inl (cI, 7, .inl (SV 8))), (zn, .inr (2, [.ref qn0, .ref qn1, .ref qn2, .ref qn3, .ref qn4, .int (SN 5 0), .int (SN 6 0)])), (qn0, .inl (cI, 8, .inl (SN 0))), (qn1, .inl (cI, 8, .inl (SN 1))), (qn2, .inl (cI, 8, .inl (SN 2))), (qn3, .inl (cI, 8, .inl (SN 3))), (qn4, .inl (cI, 8, .inl (SN 4))), (zo, .inr (0, [.ref qo0, .long (SO 1 0), .long (SO 2 0)])), (qo0, .inl (cJ, 9, .inr (.inl (SO 0))))]) (isC := []) (isR := [0, 1, 2, 3, 4, 5, 6, 7, 8, 9, 10]) (perm := [0, 1, 2, 3, 4, 5, 6, 7, 8, 9, 10]) (As := [.int x2]) (rest := []) ⟨hx, hb, hml, hown, hts⟩ (c_X4_isFloor l D cI cJ fu x2 o_3 h_3) (va_cwS 1 hts gX4_likely_X4_isFloor rfl rfl rfl (by decide +kernel) ⟨Nat.le_of_ble_eq_true rfl, Nat.le_of_ble_eq_true rfl⟩) hK hP hD hS hA ⟨rfl, rfl, by decide, by decide, by decide, by decide, rfl⟩ rfl hl.1 rfl (Nat.le_of_ble_eq_true rfl) dX4_likely_12 (fun H locs hP hD hS => ?_)
    refine lv_if_ne (tgt := 24) hx hb dX4_likely_15 (by decide) (fun c_4 => ?_) (fun c_4 => ?_)
    · have hf := itF c_4 hf
      refine lv_iload_n hx hb dX4_likely_24 rfl (lv_at hl 3 rfl) ?_
      refine lv_iconst (v := (1 : Int32)) hx hb dX4_likely_25 (by decide) ?_
      refine lv_icmp_ge (tgt := 36) hx hb dX4_likely_26 (by decide) (fun c_5 => ?_) (fun c_5 => ?_)
      · have hf := itT c_5 hf
        refine lv_iload_n hx hb dX4_likely_36 rfl (lv_at hl 3 rfl) ?_
        refine lv_iconst (v := (2 : Int32)) hx hb dX4_likely_37 (by decide) ?_
        refine lv_icmp_le (tgt := 48) hx hb dX4_likely_38 (by decide) (fun c_6 => ?_) (fun c_6 => ?_)
        · have hf := itT c_6 hf
          refine lv_iload hx hb dX4_likely_48 (lv_at hl 4 rfl) ?_
          refine lv_if_eq (tgt := 66) hx hb dX4_likely_50 (by decide) (fun c_7 => ?_) (fun c_7 => ?_)
          · have hf := itT c_7 hf
            exact t_X4_likely_66 (fu := fu) C0 hA  _ _ _ _ _ _ hf _ _ hP hD hS _ (lv_sub hl [0, 1, 2, 3, 4] rfl)
          · have hf := itF c_7 hf
            refine lv_iload hx hb dX4_likely_53 (lv_at hl 4 rfl) ?_
            refine lv_iconst (v := (1 : Int32)) hx hb dX4_likely_55 (by decide) ?_
            refine lv_icmp_eq (tgt := 66) hx hb dX4_likely_56 (by decide) (fun c_8 => ?_) (fun c_8 => ?_)
            · have hf := itT c_8 hf
              exact t_X4_likely_66 (fu := fu) C0 hA  _ _ _ _ _ _ hf _ _ hP hD hS _ (lv_sub hl [0, 1, 2, 3, 4] rfl)
            · have hf := itF c_8 hf
              refine lv_aload_n hx hb dX4_likely_59 rfl (lv_at hl 0 rfl) ?_
              refine lv_bipush (v := (-2 : Int32)) hx hb dX4_likely_60 (by decide) ?_
              obtain ⟨o_9, h_9, hf⟩ := bd_some hf
              refine s_callVL (wc := (wV zv qv6 qv8 zn zr zk zl zo cI SV)) (wr := [(zn, .inr (2, [.ref qn0, .ref qn1, .ref qn2, .ref qn3, .ref qn4, .int (SN 5 0), .int (SN 6 0)])), (qn0, .inl (cI, 8, .inl (SN 0))), (qn1, .inl (cI, 8, .inl (SN 1))), (qn2, .inl (cI, 8, .inl (SN 2))), (qn3, .inl (cI, 8, .inl (SN 3))), (qn4, .inl (cI, 8, .inl (SN 4))), (zo, .inr (0, [.ref qo0, .long (SO 1 0), .long (SO 2 0)])), (qo0, .inl (cJ, 9, .inr (.inl (SO 0))))]) (wc' := (wV zv qv6 qv8 zn zr zk zl zo cI (o_9.2))) (w' := [(zv, .inr (3, [.ref zn, .ref zr, .ref zk, .int ((o_9.2) 3 0), .ref zl, .ref zo, .ref qv6, .int ((o_9.2) 7 0), .ref qv8])), (qv6, .inl (cI, 8, .inl ((o_9.2) 6))), (qv8, .inl (cI, 7, .inl ((o_9.2) 8))), (zn, .inr (2, [.ref qn0, .ref qn1, .ref qn2, .ref qn3, .ref qn4, .int (SN 5 0), .int (SN 6 0)])), (qn0, .inl (cI, 8, .inl (SN 0))), (qn1, .inl (cI, 8, .inl (SN 1))), (qn2, .inl (cI, 8, .inl (SN 2))), (qn3, .inl (cI, 8, .inl (SN 3))), (qn4, .inl (cI, 8, .inl (SN 4))), (zo, .inr (0, [.ref qo0, .long (SO 1 0), .long (SO 2 0)])), (qo0, .inl (cJ, 9, .inr (.inl (SO 0))))]) (isC := [0, 1, 2]) (isR := [3, 4, 5, 6, 7, 8, 9, 10]) (perm := [8, 9, 10, 0, 1, 2, 3, 4, 5, 6, 7]) (As := [.int (-2 : Int32)]) (rest := []) (ci := 3) (q := (RX4, TX4, 9)) ⟨hx, hb, hml, hown, hts⟩ (c_X4_refuseLong l D cI cJ fu zv qv6 qv8 zn zr zk zl zo SV (-2 : Int32) o_9 h_9) (cwV 1 hts gX4_likely_X4_refuseLong rfl rfl rfl (by decide +kernel) ⟨Nat.le_of_ble_eq_true rfl, Nat.le_of_ble_eq_true rfl⟩) hK hP hD hS hA ⟨rfl, rfl, by decide, by decide, by decide, by decide, rfl⟩ rfl rfl rfl rfl hl.1 rfl (Nat.le_of_ble_eq_true rfl) dX4_likely_62 (fun H locs hP hD hS => ?_)
              obtain rfl := Option.some.inj hf
              exact s_lret (r := o_9.1) hx hb hr hlocks hK hP hD hS dX4_likely_65
        · have hf := itF c_6 hf
          refine lv_aload_n hx hb dX4_likely_41 rfl (lv_at hl 0 rfl) ?_
          refine lv_bipush (v := (-6 : Int32)) hx hb dX4_likely_42 (by decide) ?_
          obtain ⟨o_10, h_10, hf⟩ := bd_some hf
          refine s_callVL (wc := (wV zv qv6 qv8 zn zr zk zl zo cI SV)) (wr := [(zn, .inr (2, [.ref qn0, .ref qn1, .ref qn2, .ref qn3, .ref qn4, .int (SN 5 0), .int (SN 6 0)])), (qn0, .inl (cI, 8, .inl (SN 0))), (qn1, .inl (cI, 8, .inl (SN 1))), (qn2, .inl (cI, 8, .inl (SN 2))), (qn3, .inl (cI, 8, .inl (SN 3))), (qn4, .inl (cI, 8, .inl (SN 4))), (zo, .inr (0, [.ref qo0, .long (SO 1 0), .long (SO 2 0)])), (qo0, .inl (cJ, 9, .inr (.inl (SO 0))))]) (wc' := (wV zv qv6 qv8 zn zr zk zl zo cI (o_10.2))) (w' := [(zv, .inr (3, [.ref zn, .ref zr, .ref zk, .int ((o_10.2) 3 0), .ref zl, .ref zo, .ref qv6, .int ((o_10.2) 7 0), .ref qv8])), (qv6, .inl (cI, 8, .inl ((o_10.2) 6))), (qv8, .inl (cI, 7, .inl ((o_10.2) 8))), (zn, .inr (2, [.ref qn0, .ref qn1, .ref qn2, .ref qn3, .ref qn4, .int (SN 5 0), .int (SN 6 0)])), (qn0, .inl (cI, 8, .inl (SN 0))), (qn1, .inl (cI, 8, .inl (SN 1))), (qn2, .inl (cI, 8, .inl (SN 2))), (qn3, .inl (cI, 8, .inl (SN 3))), (qn4, .inl (cI, 8, .inl (SN 4))), (zo, .inr (0, [.ref qo0, .long (SO 1 0), .long (SO 2 0)])), (qo0, .inl (cJ, 9, .inr (.inl (SO 0))))]) (isC := [0, 1, 2]) (isR := [3, 4, 5, 6, 7, 8, 9, 10]) (perm := [8, 9, 10, 0, 1, 2, 3, 4, 5, 6, 7]) (As := [.int (-6 : Int32)]) (rest := []) (ci := 3) (q := (RX4, TX4, 9)) ⟨hx, hb, hml, hown, hts⟩ (c_X4_refuseLong l D cI cJ fu zv qv6 qv8 zn zr zk zl zo SV (-6 : Int32) o_10 h_10) (cwV 1 hts gX4_likely_X4_refuseLong rfl rfl rfl (by decide +kernel) ⟨Nat.le_of_ble_eq_true rfl, Nat.le_of_ble_eq_true rfl⟩) hK hP hD hS hA ⟨rfl, rfl, by decide, by decide, by decide, by decide, rfl⟩ rfl rfl rfl rfl hl.1 rfl (Nat.le_of_ble_eq_true rfl) dX4_likely_44 (fun H locs hP hD hS => ?_)
          obtain rfl := Option.some.inj hf
          exact s_lret (r := o_10.1) hx hb hr hlocks hK hP hD hS dX4_likely_47
      · have hf := itF c_5 hf
        refine lv_aload_n hx hb dX4_likely_29 rfl (lv_at hl 0 rfl) ?_
        refine lv_bipush (v := (-4 : Int32)) hx hb dX4_likely_30 (by decide) ?_
        obtain ⟨o_11, h_11, hf⟩ := bd_some hf
        refine s_callVL (wc := (wV zv qv6 qv8 zn zr zk zl zo cI SV)) (wr := [(zn, .inr (2, [.ref qn0, .ref qn1, .ref qn2, .ref qn3, .ref qn4, .int (SN 5 0), .int (SN 6 0)])), (qn0, .inl (cI, 8, .inl (SN 0))), (qn1, .inl (cI, 8, .inl (SN 1))), (qn2, .inl (cI, 8, .inl (SN 2))), (qn3, .inl (cI, 8, .inl (SN 3))), (qn4, .inl (cI, 8, .inl (SN 4))), (zo, .inr (0, [.ref qo0, .long (SO 1 0), .long (SO 2 0)])), (qo0, .inl (cJ, 9, .inr (.inl (SO 0))))]) (wc' := (wV zv qv6 qv8 zn zr zk zl zo cI (o_11.2))) (w' := [(zv, .inr (3, [.ref zn, .ref zr, .ref zk, .int ((o_11.2) 3 0), .ref zl, .ref zo, .ref qv6, .int ((o_11.2) 7 0), .ref qv8])), (qv6, .inl (cI, 8, .inl ((o_11.2) 6))), (qv8, .inl (cI, 7, .inl ((o_11.2) 8))), (zn, .inr (2, [.ref qn0, .ref qn1, .ref qn2, .ref qn3, .ref qn4, .int (SN 5 0), .int (SN 6 0)])), (qn0, .inl (cI, 8, .inl (SN 0))), (qn1, .inl (cI, 8, .inl (SN 1))), (qn2, .inl (cI, 8, .inl (SN 2))), (qn3, .inl (cI, 8, .inl (SN 3))), (qn4, .inl (cI, 8, .inl (SN 4))), (zo, .inr (0, [.ref qo0, .long (SO 1 0), .long (SO 2 0)])), (qo0, .inl (cJ, 9, .inr (.inl (SO 0))))]) (isC := [0, 1, 2]) (isR := [3, 4, 5, 6, 7, 8, 9, 10]) (perm := [8, 9, 10, 0, 1, 2, 3, 4, 5, 6, 7]) (As := [.int (-4 : Int32)]) (rest := []) (ci := 3) (q := (RX4, TX4, 9)) ⟨hx, hb, hml, hown, hts⟩ (c_X4_refuseLong l D cI cJ fu zv qv6 qv8 zn zr zk zl zo SV (-4 : Int32) o_11 h_11) (cwV 1 hts gX4_likely_X4_refuseLong rfl rfl rfl (by decide +kernel) ⟨Nat.le_of_ble_eq_true rfl, Nat.le_of_ble_eq_true rfl⟩) hK hP hD hS hA ⟨rfl, rfl, by decide, by decide, by decide, by decide, rfl⟩ rfl rfl rfl rfl hl.1 rfl (Nat.le_of_ble_eq_true rfl) dX4_likely_32 (fun H locs hP hD hS => ?_)
        obtain rfl := Option.some.inj hf
        exact s_lret (r := o_11.1) hx hb hr hlocks hK hP hD hS dX4_likely_35
    · have hf := itT c_4 hf
      exact t_X4_likely_18 (fu := fu) C0 hA  _ _ hf _ _ hP hD hS _ (lv_sub hl [0] rfl)
theorem q_X4_mean_1 : (Cond.fieldLink RX4 10 "UpWhenDies" "now" "LUpWhenDies$Tower;" : Cond) ∈ wsX4_mean := List.mem_of_getElem? (i := 1) rfl
theorem i_X4_mean_X4 : ∀ w ∈ wsX40, w ∈ wsX4_mean := fun _ h => (List.mem_cons_of_mem _ (List.mem_append_left _ (List.mem_append_right _ h)))
abbrev rm_X4_mean : Room := { frames := 4, cells := 0, slots := 0, locals := 85 }
set_option maxHeartbeats 4000000 in
set_option maxRecDepth 100000 in
theorem ts_X4_mean_4 {p : Program} {l : Launch} {e : Env} {s : State} {m : MethodId} {args : Array Value} {below : List Frame} {meth : Method} {c : Code} {D : va_G} {cI cJ : ClassId} {A : Nat → Prop} {fu : Nat} {zv qv6 qv8 zn zr zk zl zo qn0 qn1 qn2 qn3 qn4 : Nat} {SV : S32} {SN : S32} {o : Int32} (C0 : Cx RX4 wsX4_mean cX4_mean 3 (some .int) D vwCl (tyS cI cJ) p s m args meth c) (hA : ∀ q : Nat, s.heap.size ≤ q → A q) {k4 : Int32 → Int32 → Option (Int32)} (K4 : ∀ (x1 : Int32) (x2 : Int32), k4 x1 x2 = some o → ∀ (H : Heap) (locs : List Loc), va_P D vwCl ((wV zv qv6 qv8 zn zr zk zl zo cI SV) ++ (wT zn qn0 qn1 qn2 qn3 qn4 cI SN)) H → va_D A ((wV zv qv6 qv8 zn zr zk zl zo cI SV) ++ (wT zn qn0 qn1 qn2 qn3 qn4 cI SN)) → va_S A s.heap H locs → ∀ (ls : Array Slot), lv_has ls 3 [(0, .ref zv), (1, .int x1), (2, .int x2)] → W p l e rm_X4_mean s m args below meth c H locs 0 0 (MQ below (sZi D vwCl (tyS cI cJ) A ((wV zv qv6 qv8 zn zr zk zl zo cI SV) ++ (wT zn qn0 qn1 qn2 qn3 qn4 cI SN)) (o)) args s 0 0 A) (F0 m 4 ls [])) : ∀ (x1 : Int32) (x2 : Int32), s_X4_mean_4 fu  k4 SV SN x1 x2 = some o → ∀ (H : Heap) (locs : List Loc), va_P D vwCl ((wV zv qv6 qv8 zn zr zk zl zo cI SV) ++ (wT zn qn0 qn1 qn2 qn3 qn4 cI SN)) H → va_D A ((wV zv qv6 qv8 zn zr zk zl zo cI SV) ++ (wT zn qn0 qn1 qn2 qn3 qn4 cI SN)) → va_S A s.heap H locs → ∀ (ls : Array Slot), lv_has ls 3 [(0, .ref zv), (1, .int x1), (2, .int x2)] → W p l e rm_X4_mean s m args below meth c H locs 0 0 (MQ below (sZi D vwCl (tyS cI cJ) A ((wV zv qv6 qv8 zn zr zk zl zo cI SV) ++ (wT zn qn0 qn1 qn2 qn3 qn4 cI SN)) (o)) args s 0 0 A) (F0 m 4 ls []) := by
  obtain ⟨hx, hb, hr, hml, hown, hts, hlocks, hK⟩ := id C0
  intro x1 x2 hf H locs hP hD hS ls hl
  have hP : va_P D vwCl [(zv, .inr (3, [.ref zn, .ref zr, .ref zk, .int (SV 3 0), .ref zl, .ref zo, .ref qv6, .int (SV 7 0), .ref qv8])), (qv6, .inl (cI, 8, .inl (SV 6))), (qv8, .inl (cI, 7, .inl (SV 8))), (zn, .inr (2, [.ref qn0, .ref qn1, .ref qn2, .ref qn3, .ref qn4, .int (SN 5 0), .int (SN 6 0)])), (qn0, .inl (cI, 8, .inl (SN 0))), (qn1, .inl (cI, 8, .inl (SN 1))), (qn2, .inl (cI, 8, .inl (SN 2))), (qn3, .inl (cI, 8, .inl (SN 3))), (qn4, .inl (cI, 8, .inl (SN 4)))] H := hP
  have hD : va_D A [(zv, .inr (3, [.ref zn, .ref zr, .ref zk, .int (SV 3 0), .ref zl, .ref zo, .ref qv6, .int (SV 7 0), .ref qv8])), (qv6, .inl (cI, 8, .inl (SV 6))), (qv8, .inl (cI, 7, .inl (SV 8))), (zn, .inr (2, [.ref qn0, .ref qn1, .ref qn2, .ref qn3, .ref qn4, .int (SN 5 0), .int (SN 6 0)])), (qn0, .inl (cI, 8, .inl (SN 0))), (qn1, .inl (cI, 8, .inl (SN 1))), (qn2, .inl (cI, 8, .inl (SN 2))), (qn3, .inl (cI, 8, .inl (SN 3))), (qn4, .inl (cI, 8, .inl (SN 4)))] := hD
  refine lv_iload_n hx hb dX4_mean_4 rfl (lv_at hl 2 rfl) ?_
  refine lv_bipush (v := (8 : Int32)) hx hb dX4_mean_5 (by decide) ?_
  refine lv_icmp_ge (tgt := 39) hx hb dX4_mean_7 (by decide) (fun c_1 => ?_) (fun c_1 => ?_)
  · have hf := itT c_1 hf
    refine lv_iload_n hx hb dX4_mean_39 rfl (lv_at hl 1 rfl) ?_
    obtain rfl := Option.some.inj hf
    exact s_iret (r := x1) hx hb hr hlocks hK hP hD hS dX4_mean_40
  · have hf := itF c_1 hf
    refine lv_aload_n hx hb dX4_mean_10 rfl (lv_at hl 0 rfl) ?_
    refine va_get (D := D) (ci := 3) (v := .ref zn) (C := RX4) (T := TX4) (N := 9) hx hb hts i_X4_mean_X4 hown hK hP 0 rfl rfl 0 (by decide) (hts _ q_X4_mean_1) (fun _ h9 => h9) rfl dX4_mean_11 ?_
    refine lv_iload_n hx hb dX4_mean_14 rfl (lv_at hl 2 rfl) ?_
    obtain ⟨o_2, h_2, hf⟩ := bd_some hf
    refine s_callVI (wc := (wT zn qn0 qn1 qn2 qn3 qn4 cI SN)) (wr := [(zv, .inr (3, [.ref zn, .ref zr, .ref zk, .int (SV 3 0), .ref zl, .ref zo, .ref qv6, .int (SV 7 0), .ref qv8])), (qv6, .inl (cI, 8, .inl (SV 6))), (qv8, .inl (cI, 7, .inl (SV 8)))]) (wc' := (wT zn qn0 qn1 qn2 qn3 qn4 cI SN)) (w' := [(zv, .inr (3, [.ref zn, .ref zr, .ref zk, .int (SV 3 0), .ref zl, .ref zo, .ref qv6, .int (SV 7 0), .ref qv8])), (qv6, .inl (cI, 8, .inl (SV 6))), (qv8, .inl (cI, 7, .inl (SV 8))), (zn, .inr (2, [.ref qn0, .ref qn1, .ref qn2, .ref qn3, .ref qn4, .int (SN 5 0), .int (SN 6 0)])), (qn0, .inl (cI, 8, .inl (SN 0))), (qn1, .inl (cI, 8, .inl (SN 1))), (qn2, .inl (cI, 8, .inl (SN 2))), (qn3, .inl (cI, 8, .inl (SN 3))), (qn4, .inl (cI, 8, .inl (SN 4)))]) (isC := [3, 4, 5, 6, 7, 8]) (isR := [0, 1, 2]) (perm := [0, 1, 2, 3, 4, 5, 6, 7, 8]) (As := [.int x2]) (rest := []) (ci := 2) (q := (RX3, TX3, 7)) ⟨hx, hb, hml, hown, hts⟩ (c_X3_isAlive l D cI cJ fu zn qn0 qn1 qn2 qn3 qn4 SN x2 o_2 h_2) (cwV 1 hts gX4_mean_X3_isAlive rfl rfl rfl (by decide +kernel) ⟨Nat.le_of_ble_eq_true rfl, Nat.le_of_ble_eq_true rfl⟩) hK hP hD hS hA ⟨rfl, rfl, by decide, by decide, by decide, by decide, rfl⟩ rfl rfl rfl rfl hl.1 rfl (Nat.le_of_ble_eq_true rfl) dX4_mean_15 (fun H locs hP hD hS => ?_)
    refine lv_if_eq (tgt := 33) hx hb dX4_mean_18 (by decide) (fun c_3 => ?_) (fun c_3 => ?_)
    · have hf := itT c_3 hf
      refine lv_iinc (v := (x2 + (1 : Int32))) (lv' := [(2, .int (x2 + (1 : Int32))), (0, .ref zv), (1, .int x1)]) hx hb dX4_mean_33 hl (k := 2) rfl rfl (by decide) rfl (fun ls hl => ?_)
      refine lv_goto (tgt := 4) hx hb dX4_mean_36 (by decide) ?_
      exact K4 _ _ hf _ _ hP hD hS _ (lv_sub hl [1, 2, 0] rfl)
    · have hf := itF c_3 hf
      refine lv_iload_n hx hb dX4_mean_21 rfl (lv_at hl 1 rfl) ?_
      refine lv_aload_n hx hb dX4_mean_22 rfl (lv_at hl 0 rfl) ?_
      refine va_get (D := D) (ci := 3) (v := .ref zn) (C := RX4) (T := TX4) (N := 9) hx hb hts i_X4_mean_X4 hown hK hP 0 rfl rfl 0 (by decide) (hts _ q_X4_mean_1) (fun _ h9 => h9) rfl dX4_mean_23 ?_
      refine lv_iload_n hx hb dX4_mean_26 rfl (lv_at hl 2 rfl) ?_
      refine lv_iconst (v := (0 : Int32)) hx hb dX4_mean_27 (by decide) ?_
      obtain ⟨o_4, h_4, hf⟩ := bd_some hf
      refine s_callVI (wc := (wT zn qn0 qn1 qn2 qn3 qn4 cI SN)) (wr := [(zv, .inr (3, [.ref zn, .ref zr, .ref zk, .int (SV 3 0), .ref zl, .ref zo, .ref qv6, .int (SV 7 0), .ref qv8])), (qv6, .inl (cI, 8, .inl (SV 6))), (qv8, .inl (cI, 7, .inl (SV 8)))]) (wc' := (wT zn qn0 qn1 qn2 qn3 qn4 cI SN)) (w' := [(zv, .inr (3, [.ref zn, .ref zr, .ref zk, .int (SV 3 0), .ref zl, .ref zo, .ref qv6, .int (SV 7 0), .ref qv8])), (qv6, .inl (cI, 8, .inl (SV 6))), (qv8, .inl (cI, 7, .inl (SV 8))), (zn, .inr (2, [.ref qn0, .ref qn1, .ref qn2, .ref qn3, .ref qn4, .int (SN 5 0), .int (SN 6 0)])), (qn0, .inl (cI, 8, .inl (SN 0))), (qn1, .inl (cI, 8, .inl (SN 1))), (qn2, .inl (cI, 8, .inl (SN 2))), (qn3, .inl (cI, 8, .inl (SN 3))), (qn4, .inl (cI, 8, .inl (SN 4)))]) (isC := [3, 4, 5, 6, 7, 8]) (isR := [0, 1, 2]) (perm := [0, 1, 2, 3, 4, 5, 6, 7, 8]) (As := [.int x2, .int (0 : Int32)]) (rest := [.int x1]) (ci := 2) (q := (RX3, TX3, 7)) ⟨hx, hb, hml, hown, hts⟩ (c_X3_chanceAfter l D cI cJ fu zn qn0 qn1 qn2 qn3 qn4 SN x2 (0 : Int32) o_4 h_4) (cwV 2 hts gX4_mean_X3_chanceAfter rfl rfl rfl (by decide +kernel) ⟨Nat.le_of_ble_eq_true rfl, Nat.le_of_ble_eq_true rfl⟩) hK hP hD hS hA ⟨rfl, rfl, by decide, by decide, by decide, by decide, rfl⟩ rfl rfl rfl rfl hl.1 rfl (Nat.le_of_ble_eq_true rfl) dX4_mean_28 (fun H locs hP hD hS => ?_)
      refine lv_iadd hx hb dX4_mean_31 ?_
      refine lv_istore_n (lv' := [(1, .int (x1 + o_4)), (0, .ref zv), (2, .int x2)]) hx hb dX4_mean_32 rfl hl (by decide) rfl (fun ls hl => ?_)
      refine lv_iinc (v := (x2 + (1 : Int32))) (lv' := [(2, .int (x2 + (1 : Int32))), (1, .int (x1 + o_4)), (0, .ref zv)]) hx hb dX4_mean_33 hl (k := 2) rfl rfl (by decide) rfl (fun ls hl => ?_)
      refine lv_goto (tgt := 4) hx hb dX4_mean_36 (by decide) ?_
      exact K4 _ _ hf _ _ hP hD hS _ (lv_sub hl [2, 1, 0] rfl)
theorem t_X4_mean_4 {p : Program} {l : Launch} {e : Env} {s : State} {m : MethodId} {args : Array Value} {below : List Frame} {meth : Method} {c : Code} {D : va_G} {cI cJ : ClassId} {A : Nat → Prop} {fu : Nat} {zv qv6 qv8 zn zr zk zl zo qn0 qn1 qn2 qn3 qn4 : Nat} {SV : S32} {SN : S32} {o : Int32} (C0 : Cx RX4 wsX4_mean cX4_mean 3 (some .int) D vwCl (tyS cI cJ) p s m args meth c) (hA : ∀ q : Nat, s.heap.size ≤ q → A q) : ∀ (n : Nat) (x1 : Int32) (x2 : Int32), f_X4_mean_4 fu  SV SN n x1 x2 = some o → ∀ (H : Heap) (locs : List Loc), va_P D vwCl ((wV zv qv6 qv8 zn zr zk zl zo cI SV) ++ (wT zn qn0 qn1 qn2 qn3 qn4 cI SN)) H → va_D A ((wV zv qv6 qv8 zn zr zk zl zo cI SV) ++ (wT zn qn0 qn1 qn2 qn3 qn4 cI SN)) → va_S A s.heap H locs → ∀ (ls : Array Slot), lv_has ls 3 [(0, .ref zv), (1, .int x1), (2, .int x2)] → W p l e rm_X4_mean s m args below meth c H locs 0 0 (MQ below (sZi D vwCl (tyS cI cJ) A ((wV zv qv6 qv8 zn zr zk zl zo cI SV) ++ (wT zn qn0 qn1 qn2 qn3 qn4 cI SN)) (o)) args s 0 0 A) (F0 m 4 ls []) := by
  intro n
  induction n with
  | zero =>
    intro x1 x2 hf
    have hf : (none : Option (Int32)) = some o := hf
    cases hf
  | succ n ih => exact ts_X4_mean_4 (fu := fu) (k4 := f_X4_mean_4 fu  SV SN n) C0 hA  ih
set_option maxHeartbeats 4000000 in
set_option maxRecDepth 100000 in
theorem c_X4_mean (l : Launch) (D : va_G) (cI cJ : ClassId) (fu : Nat) (zv qv6 qv8 zn zr zk zl zo qn0 qn1 qn2 qn3 qn4 : Nat) (SV : S32) (SN : S32) (o : Int32) (hf : f_X4_mean fu SV SN = some o) : MI l yX4_mean wsX4_mean rm_X4_mean D vwCl (tyS cI cJ) [.ref zv] ((wV zv qv6 qv8 zn zr zk zl zo cI SV) ++ (wT zn qn0 qn1 qn2 qn3 qn4 cI SN)) ((wV zv qv6 qv8 zn zr zk zl zo cI SV) ++ (wT zn qn0 qn1 qn2 qn3 qn4 cI SN)) (o) := by
  intro sz
  refine s_entry (own := RX4) (cc := cX4_mean) (maxL := 3) (ret := (some .int)) (Qc := fun A => sZi D vwCl (tyS cI cJ) A ((wV zv qv6 qv8 zn zr zk zl zo cI SV) ++ (wT zn qn0 qn1 qn2 qn3 qn4 cI SN)) (o)) rfl (by decide) rfl rfl (Nat.le_of_ble_eq_true rfl) ?_
  intro p e s m args below meth c A C0 hA hP hD hS ls hl
  obtain ⟨hx, hb, hr, hml, hown, hts, hlocks, hK⟩ := id C0
  have hl : lv_has ls 3 [(0, .ref zv)] := hl
  have hP : va_P D vwCl [(zv, .inr (3, [.ref zn, .ref zr, .ref zk, .int (SV 3 0), .ref zl, .ref zo, .ref qv6, .int (SV 7 0), .ref qv8])), (qv6, .inl (cI, 8, .inl (SV 6))), (qv8, .inl (cI, 7, .inl (SV 8))), (zn, .inr (2, [.ref qn0, .ref qn1, .ref qn2, .ref qn3, .ref qn4, .int (SN 5 0), .int (SN 6 0)])), (qn0, .inl (cI, 8, .inl (SN 0))), (qn1, .inl (cI, 8, .inl (SN 1))), (qn2, .inl (cI, 8, .inl (SN 2))), (qn3, .inl (cI, 8, .inl (SN 3))), (qn4, .inl (cI, 8, .inl (SN 4)))] s.heap := hP
  have hD : va_D A [(zv, .inr (3, [.ref zn, .ref zr, .ref zk, .int (SV 3 0), .ref zl, .ref zo, .ref qv6, .int (SV 7 0), .ref qv8])), (qv6, .inl (cI, 8, .inl (SV 6))), (qv8, .inl (cI, 7, .inl (SV 8))), (zn, .inr (2, [.ref qn0, .ref qn1, .ref qn2, .ref qn3, .ref qn4, .int (SN 5 0), .int (SN 6 0)])), (qn0, .inl (cI, 8, .inl (SN 0))), (qn1, .inl (cI, 8, .inl (SN 1))), (qn2, .inl (cI, 8, .inl (SN 2))), (qn3, .inl (cI, 8, .inl (SN 3))), (qn4, .inl (cI, 8, .inl (SN 4)))] := hD
  refine lv_iconst (v := (0 : Int32)) hx hb dX4_mean_0 (by decide) ?_
  refine lv_istore_n (lv' := [(1, .int (0 : Int32)), (0, .ref zv)]) hx hb dX4_mean_1 rfl hl (by decide) rfl (fun ls hl => ?_)
  refine lv_iconst (v := (0 : Int32)) hx hb dX4_mean_2 (by decide) ?_
  refine lv_istore_n (lv' := [(2, .int (0 : Int32)), (1, .int (0 : Int32)), (0, .ref zv)]) hx hb dX4_mean_3 rfl hl (by decide) rfl (fun ls hl => ?_)
  exact t_X4_mean_4 (fu := fu) C0 hA  fu _ _ hf _ _ hP hD hS _ (lv_sub hl [2, 1, 0] rfl)
theorem q_X4_deaths_1 : (Cond.fieldLink RX4 10 "UpWhenDies" "now" "LUpWhenDies$Tower;" : Cond) ∈ wsX4_deaths := List.mem_of_getElem? (i := 1) rfl
theorem q_X4_deaths_2 : (Cond.fieldLink RX4 83 "UpWhenDies$Tower" "floor" "[I" : Cond) ∈ wsX4_deaths := List.mem_of_getElem? (i := 2) rfl
theorem i_X4_deaths_X3 : ∀ w ∈ wsX30, w ∈ wsX4_deaths := fun _ h => (List.mem_cons_of_mem _ (List.mem_append_right _ h))
theorem i_X4_deaths_X4 : ∀ w ∈ wsX40, w ∈ wsX4_deaths := fun _ h => (List.mem_cons_of_mem _ (List.mem_append_left _ (List.mem_append_right _ h)))
abbrev rm_X4_deaths : Room := { frames := 5, cells := 0, slots := 0, locals := 111 }
set_option maxHeartbeats 4000000 in
set_option maxRecDepth 100000 in
theorem t_X4_deaths_18 {p : Program} {l : Launch} {e : Env} {s : State} {m : MethodId} {args : Array Value} {below : List Frame} {meth : Method} {c : Code} {D : va_G} {cI cJ : ClassId} {A : Nat → Prop} {fu : Nat} {zv qv6 qv8 zn zr zk zl zo qn0 qn1 qn2 qn3 qn4 : Nat} {SN : S32} {o : Int32 × S32} (C0 : Cx RX4 wsX4_deaths cX4_deaths 5 (some .int) D vwCl (tyS cI cJ) p s m args meth c) (hA : ∀ q : Nat, s.heap.size ≤ q → A q) : ∀ (SV : S32), f_X4_deaths_18 fu  SN SV = some o → ∀ (H : Heap) (locs : List Loc), va_P D vwCl ((wV zv qv6 qv8 zn zr zk zl zo cI SV) ++ (wT zn qn0 qn1 qn2 qn3 qn4 cI SN)) H → va_D A ((wV zv qv6 qv8 zn zr zk zl zo cI SV) ++ (wT zn qn0 qn1 qn2 qn3 qn4 cI SN)) → va_S A s.heap H locs → ∀ (ls : Array Slot), lv_has ls 5 [(0, .ref zv)] → W p l e rm_X4_deaths s m args below meth c H locs 0 0 (MQ below (sZi D vwCl (tyS cI cJ) A ((wV zv qv6 qv8 zn zr zk zl zo cI (o.2)) ++ (wT zn qn0 qn1 qn2 qn3 qn4 cI SN)) (o.1)) args s 0 0 A) (F0 m 18 ls []) := by
  obtain ⟨hx, hb, hr, hml, hown, hts, hlocks, hK⟩ := id C0
  intro SV hf H locs hP hD hS ls hl
  have hP : va_P D vwCl [(zv, .inr (3, [.ref zn, .ref zr, .ref zk, .int (SV 3 0), .ref zl, .ref zo, .ref qv6, .int (SV 7 0), .ref qv8])), (qv6, .inl (cI, 8, .inl (SV 6))), (qv8, .inl (cI, 7, .inl (SV 8))), (zn, .inr (2, [.ref qn0, .ref qn1, .ref qn2, .ref qn3, .ref qn4, .int (SN 5 0), .int (SN 6 0)])), (qn0, .inl (cI, 8, .inl (SN 0))), (qn1, .inl (cI, 8, .inl (SN 1))), (qn2, .inl (cI, 8, .inl (SN 2))), (qn3, .inl (cI, 8, .inl (SN 3))), (qn4, .inl (cI, 8, .inl (SN 4)))] H := hP
  have hD : va_D A [(zv, .inr (3, [.ref zn, .ref zr, .ref zk, .int (SV 3 0), .ref zl, .ref zo, .ref qv6, .int (SV 7 0), .ref qv8])), (qv6, .inl (cI, 8, .inl (SV 6))), (qv8, .inl (cI, 7, .inl (SV 8))), (zn, .inr (2, [.ref qn0, .ref qn1, .ref qn2, .ref qn3, .ref qn4, .int (SN 5 0), .int (SN 6 0)])), (qn0, .inl (cI, 8, .inl (SN 0))), (qn1, .inl (cI, 8, .inl (SN 1))), (qn2, .inl (cI, 8, .inl (SN 2))), (qn3, .inl (cI, 8, .inl (SN 3))), (qn4, .inl (cI, 8, .inl (SN 4)))] := hD
  refine lv_aload_n hx hb dX4_deaths_18 rfl (lv_at hl 0 rfl) ?_
  refine lv_iconst (v := (-1 : Int32)) hx hb dX4_deaths_19 (by decide) ?_
  obtain ⟨o_1, h_1, hf⟩ := bd_some hf
  refine s_callVI (wc := (wV zv qv6 qv8 zn zr zk zl zo cI SV)) (wr := [(zn, .inr (2, [.ref qn0, .ref qn1, .ref qn2, .ref qn3, .ref qn4, .int (SN 5 0), .int (SN 6 0)])), (qn0, .inl (cI, 8, .inl (SN 0))), (qn1, .inl (cI, 8, .inl (SN 1))), (qn2, .inl (cI, 8, .inl (SN 2))), (qn3, .inl (cI, 8, .inl (SN 3))), (qn4, .inl (cI, 8, .inl (SN 4)))]) (wc' := (wV zv qv6 qv8 zn zr zk zl zo cI (o_1.2))) (w' := [(zv, .inr (3, [.ref zn, .ref zr, .ref zk, .int ((o_1.2) 3 0), .ref zl, .ref zo, .ref qv6, .int ((o_1.2) 7 0), .ref qv8])), (qv6, .inl (cI, 8, .inl ((o_1.2) 6))), (qv8, .inl (cI, 7, .inl ((o_1.2) 8))), (zn, .inr (2, [.ref qn0, .ref qn1, .ref qn2, .ref qn3, .ref qn4, .int (SN 5 0), .int (SN 6 0)])), (qn0, .inl (cI, 8, .inl (SN 0))), (qn1, .inl (cI, 8, .inl (SN 1))), (qn2, .inl (cI, 8, .inl (SN 2))), (qn3, .inl (cI, 8, .inl (SN 3))), (qn4, .inl (cI, 8, .inl (SN 4)))]) (isC := [0, 1, 2]) (isR := [3, 4, 5, 6, 7, 8]) (perm := [6, 7, 8, 0, 1, 2, 3, 4, 5]) (As := [.int (-1 : Int32)]) (rest := []) (ci := 3) (q := (RX4, TX4, 9)) ⟨hx, hb, hml, hown, hts⟩ (c_X4_refuse l D cI cJ fu zv qv6 qv8 zn zr zk zl zo SV (-1 : Int32) o_1 h_1) (cwV 1 hts gX4_deaths_X4_refuse rfl rfl rfl (by decide +kernel) ⟨Nat.le_of_ble_eq_true rfl, Nat.le_of_ble_eq_true rfl⟩) hK hP hD hS hA ⟨rfl, rfl, by decide, by decide, by decide, by decide, rfl⟩ rfl rfl rfl rfl hl.1 rfl (Nat.le_of_ble_eq_true rfl) dX4_deaths_20 (fun H locs hP hD hS => ?_)
  obtain rfl := Option.some.inj hf
  exact s_iret (r := o_1.1) hx hb hr hlocks hK hP hD hS dX4_deaths_23
set_option maxHeartbeats 4000000 in
set_option maxRecDepth 100000 in
theorem t_X4_deaths_40 {p : Program} {l : Launch} {e : Env} {s : State} {m : MethodId} {args : Array Value} {below : List Frame} {meth : Method} {c : Code} {D : va_G} {cI cJ : ClassId} {A : Nat → Prop} {fu : Nat} {zv qv6 qv8 zn zr zk zl zo qn0 qn1 qn2 qn3 qn4 : Nat} {SN : S32} {o : Int32 × S32} (C0 : Cx RX4 wsX4_deaths cX4_deaths 5 (some .int) D vwCl (tyS cI cJ) p s m args meth c) (hA : ∀ q : Nat, s.heap.size ≤ q → A q) : ∀ (x1 : Int32) (x2 : Int32) (x3 : Int32) (SV : S32), f_X4_deaths_40 fu  SN x1 x2 x3 SV = some o → ∀ (H : Heap) (locs : List Loc), va_P D vwCl ((wV zv qv6 qv8 zn zr zk zl zo cI SV) ++ (wT zn qn0 qn1 qn2 qn3 qn4 cI SN)) H → va_D A ((wV zv qv6 qv8 zn zr zk zl zo cI SV) ++ (wT zn qn0 qn1 qn2 qn3 qn4 cI SN)) → va_S A s.heap H locs → ∀ (ls : Array Slot), lv_has ls 5 [(0, .ref zv), (1, .int x1), (2, .int x2), (3, .int x3)] → W p l e rm_X4_deaths s m args below meth c H locs 0 0 (MQ below (sZi D vwCl (tyS cI cJ) A ((wV zv qv6 qv8 zn zr zk zl zo cI (o.2)) ++ (wT zn qn0 qn1 qn2 qn3 qn4 cI SN)) (o.1)) args s 0 0 A) (F0 m 40 ls []) := by
  obtain ⟨hx, hb, hr, hml, hown, hts, hlocks, hK⟩ := id C0
  intro x1 x2 x3 SV hf H locs hP hD hS ls hl
  have hP : va_P D vwCl [(zv, .inr (3, [.ref zn, .ref zr, .ref zk, .int (SV 3 0), .ref zl, .ref zo, .ref qv6, .int (SV 7 0), .ref qv8])), (qv6, .inl (cI, 8, .inl (SV 6))), (qv8, .inl (cI, 7, .inl (SV 8))), (zn, .inr (2, [.ref qn0, .ref qn1, .ref qn2, .ref qn3, .ref qn4, .int (SN 5 0), .int (SN 6 0)])), (qn0, .inl (cI, 8, .inl (SN 0))), (qn1, .inl (cI, 8, .inl (SN 1))), (qn2, .inl (cI, 8, .inl (SN 2))), (qn3, .inl (cI, 8, .inl (SN 3))), (qn4, .inl (cI, 8, .inl (SN 4)))] H := hP
  have hD : va_D A [(zv, .inr (3, [.ref zn, .ref zr, .ref zk, .int (SV 3 0), .ref zl, .ref zo, .ref qv6, .int (SV 7 0), .ref qv8])), (qv6, .inl (cI, 8, .inl (SV 6))), (qv8, .inl (cI, 7, .inl (SV 8))), (zn, .inr (2, [.ref qn0, .ref qn1, .ref qn2, .ref qn3, .ref qn4, .int (SN 5 0), .int (SN 6 0)])), (qn0, .inl (cI, 8, .inl (SN 0))), (qn1, .inl (cI, 8, .inl (SN 1))), (qn2, .inl (cI, 8, .inl (SN 2))), (qn3, .inl (cI, 8, .inl (SN 3))), (qn4, .inl (cI, 8, .inl (SN 4)))] := hD
  refine lv_iload_n hx hb dX4_deaths_40 rfl (lv_at hl 2 rfl) ?_
  refine lv_aload_n hx hb dX4_deaths_41 rfl (lv_at hl 0 rfl) ?_
  refine va_get (D := D) (ci := 3) (v := .ref zn) (C := RX4) (T := TX4) (N := 9) hx hb hts i_X4_deaths_X4 hown hK hP 0 rfl rfl 0 (by decide) (hts _ q_X4_deaths_1) (fun _ h9 => h9) rfl dX4_deaths_42 ?_
  refine va_get (D := D) (ci := 2) (v := .ref qn2) (C := RX3) (T := TX3) (N := 7) hx hb hts i_X4_deaths_X3 hown hK hP 3 rfl rfl 2 (by decide) (hts _ q_X4_deaths_2) (fun _ h9 => h9) rfl dX4_deaths_45 ?_
  refine lv_iload_n hx hb dX4_deaths_48 rfl (lv_at hl 1 rfl) ?_
  obtain ⟨g_1, hf⟩ := gd_some hf
  refine va_iald hx hb hK hP 6 0 rfl rfl g_1 dX4_deaths_49 ?_
  refine lv_isub hx hb dX4_deaths_50 ?_
  refine lv_istore (lv' := [(4, .int (x2 - (SN 2 x1.toNatClampNeg))), (0, .ref zv), (1, .int x1), (2, .int x2), (3, .int x3)]) hx hb dX4_deaths_51 hl (by decide) rfl (fun ls hl => ?_)
  refine lv_iload hx hb dX4_deaths_53 (lv_at hl 0 rfl) ?_
  refine lv_if_le (tgt := 69) hx hb dX4_deaths_55 (by decide) (fun c_2 => ?_) (fun c_2 => ?_)
  · have hf := itT c_2 hf
    refine lv_bipush (v := (-9 : Int32)) hx hb dX4_deaths_69 (by decide) ?_
    obtain rfl := Option.some.inj hf
    exact s_iret (r := (-9 : Int32)) hx hb hr hlocks hK hP hD hS dX4_deaths_71
  · have hf := itF c_2 hf
    refine lv_aload_n hx hb dX4_deaths_58 rfl (lv_at hl 1 rfl) ?_
    refine va_get (D := D) (ci := 3) (v := .ref zn) (C := RX4) (T := TX4) (N := 9) hx hb hts i_X4_deaths_X4 hown hK hP 0 rfl rfl 0 (by decide) (hts _ q_X4_deaths_1) (fun _ h9 => h9) rfl dX4_deaths_59 ?_
    refine lv_iload_n hx hb dX4_deaths_62 rfl (lv_at hl 2 rfl) ?_
    obtain ⟨o_3, h_3, hf⟩ := bd_some hf
    refine s_callVI (wc := (wT zn qn0 qn1 qn2 qn3 qn4 cI SN)) (wr := [(zv, .inr (3, [.ref zn, .ref zr, .ref zk, .int (SV 3 0), .ref zl, .ref zo, .ref qv6, .int (SV 7 0), .ref qv8])), (qv6, .inl (cI, 8, .inl (SV 6))), (qv8, .inl (cI, 7, .inl (SV 8)))]) (wc' := (wT zn qn0 qn1 qn2 qn3 qn4 cI SN)) (w' := [(zv, .inr (3, [.ref zn, .ref zr, .ref zk, .int (SV 3 0), .ref zl, .ref zo, .ref qv6, .int (SV 7 0), .ref qv8])), (qv6, .inl (cI, 8, .inl (SV 6))), (qv8, .inl (cI, 7, .inl (SV 8))), (zn, .inr (2, [.ref qn0, .ref qn1, .ref qn2, .ref qn3, .ref qn4, .int (SN 5 0), .int (SN 6 0)])), (qn0, .inl (cI, 8, .inl (SN 0))), (qn1, .inl (cI, 8, .inl (SN 1))), (qn2, .inl (cI, 8, .inl (SN 2))), (qn3, .inl (cI, 8, .inl (SN 3))), (qn4, .inl (cI, 8, .inl (SN 4)))]) (isC := [3, 4, 5, 6, 7, 8]) (isR := [0, 1, 2]) (perm := [0, 1, 2, 3, 4, 5, 6, 7, 8]) (As := [.int x1]) (rest := []) (ci := 2) (q := (RX3, TX3, 7)) ⟨hx, hb, hml, hown, hts⟩ (c_X3_staysDown l D cI cJ fu zn qn0 qn1 qn2 qn3 qn4 SN x1 o_3 h_3) (cwV 1 hts gX4_deaths_X3_staysDown rfl rfl rfl (by decide +kernel) ⟨Nat.le_of_ble_eq_true rfl, Nat.le_of_ble_eq_true rfl⟩) hK hP hD hS hA ⟨rfl, rfl, by decide, by decide, by decide, by decide, rfl⟩ rfl rfl rfl rfl hl.1 rfl (Nat.le_of_ble_eq_true rfl) dX4_deaths_63 (fun H locs hP hD hS => ?_)
    refine lv_if_eq (tgt := 72) hx hb dX4_deaths_66 (by decide) (fun c_4 => ?_) (fun c_4 => ?_)
    · have hf := itT c_4 hf
      refine lv_iload hx hb dX4_deaths_72 (lv_at hl 0 rfl) ?_
      refine lv_aload_n hx hb dX4_deaths_74 rfl (lv_at hl 1 rfl) ?_
      refine va_get (D := D) (ci := 3) (v := .ref zn) (C := RX4) (T := TX4) (N := 9) hx hb hts i_X4_deaths_X4 hown hK hP 0 rfl rfl 0 (by decide) (hts _ q_X4_deaths_1) (fun _ h9 => h9) rfl dX4_deaths_75 ?_
      refine lv_iload_n hx hb dX4_deaths_78 rfl (lv_at hl 2 rfl) ?_
      refine lv_aload_n hx hb dX4_deaths_79 rfl (lv_at hl 1 rfl) ?_
      refine va_get (D := D) (ci := 3) (v := .ref zn) (C := RX4) (T := TX4) (N := 9) hx hb hts i_X4_deaths_X4 hown hK hP 0 rfl rfl 0 (by decide) (hts _ q_X4_deaths_1) (fun _ h9 => h9) rfl dX4_deaths_80 ?_
      refine lv_aload_n hx hb dX4_deaths_83 rfl (lv_at hl 1 rfl) ?_
      refine va_get (D := D) (ci := 3) (v := .ref zn) (C := RX4) (T := TX4) (N := 9) hx hb hts i_X4_deaths_X4 hown hK hP 0 rfl rfl 0 (by decide) (hts _ q_X4_deaths_1) (fun _ h9 => h9) rfl dX4_deaths_84 ?_
      obtain ⟨o_5, h_5, hf⟩ := bd_some hf
      refine s_callVI (wc := (wT zn qn0 qn1 qn2 qn3 qn4 cI SN)) (wr := [(zv, .inr (3, [.ref zn, .ref zr, .ref zk, .int (SV 3 0), .ref zl, .ref zo, .ref qv6, .int (SV 7 0), .ref qv8])), (qv6, .inl (cI, 8, .inl (SV 6))), (qv8, .inl (cI, 7, .inl (SV 8)))]) (wc' := (wT zn qn0 qn1 qn2 qn3 qn4 cI SN)) (w' := [(zv, .inr (3, [.ref zn, .ref zr, .ref zk, .int (SV 3 0), .ref zl, .ref zo, .ref qv6, .int (SV 7 0), .ref qv8])), (qv6, .inl (cI, 8, .inl (SV 6))), (qv8, .inl (cI, 7, .inl (SV 8))), (zn, .inr (2, [.ref qn0, .ref qn1, .ref qn2, .ref qn3, .ref qn4, .int (SN 5 0), .int (SN 6 0)])), (qn0, .inl (cI, 8, .inl (SN 0))), (qn1, .inl (cI, 8, .inl (SN 1))), (qn2, .inl (cI, 8, .inl (SN 2))), (qn3, .inl (cI, 8, .inl (SN 3))), (qn4, .inl (cI, 8, .inl (SN 4)))]) (isC := [3, 4, 5, 6, 7, 8]) (isR := [0, 1, 2]) (perm := [0, 1, 2, 3, 4, 5, 6, 7, 8]) (As := []) (rest := [.ref zn, .int x1, .ref zn, .int (x2 - (SN 2 x1.toNatClampNeg))]) (ci := 2) (q := (RX3, TX3, 7)) ⟨hx, hb, hml, hown, hts⟩ (c_X3_living l D cI cJ fu zn qn0 qn1 qn2 qn3 qn4 SN o_5 h_5) (cwV 0 hts gX4_deaths_X3_living rfl rfl rfl (by decide +kernel) ⟨Nat.le_of_ble_eq_true rfl, Nat.le_of_ble_eq_true rfl⟩) hK hP hD hS hA ⟨rfl, rfl, by decide, by decide, by decide, by decide, rfl⟩ rfl rfl rfl rfl hl.1 rfl (Nat.le_of_ble_eq_true rfl) dX4_deaths_87 (fun H locs hP hD hS => ?_)
      obtain ⟨o_6, h_6, hf⟩ := bd_some hf
      refine s_callVI (wc := (wT zn qn0 qn1 qn2 qn3 qn4 cI SN)) (wr := [(zv, .inr (3, [.ref zn, .ref zr, .ref zk, .int (SV 3 0), .ref zl, .ref zo, .ref qv6, .int (SV 7 0), .ref qv8])), (qv6, .inl (cI, 8, .inl (SV 6))), (qv8, .inl (cI, 7, .inl (SV 8)))]) (wc' := (wT zn qn0 qn1 qn2 qn3 qn4 cI SN)) (w' := [(zv, .inr (3, [.ref zn, .ref zr, .ref zk, .int (SV 3 0), .ref zl, .ref zo, .ref qv6, .int (SV 7 0), .ref qv8])), (qv6, .inl (cI, 8, .inl (SV 6))), (qv8, .inl (cI, 7, .inl (SV 8))), (zn, .inr (2, [.ref qn0, .ref qn1, .ref qn2, .ref qn3, .ref qn4, .int (SN 5 0), .int (SN 6 0)])), (qn0, .inl (cI, 8, .inl (SN 0))), (qn1, .inl (cI, 8, .inl (SN 1))), (qn2, .inl (cI, 8, .inl (SN 2))), (qn3, .inl (cI, 8, .inl (SN 3))), (qn4, .inl (cI, 8, .inl (SN 4)))]) (isC := [3, 4, 5, 6, 7, 8]) (isR := [0, 1, 2]) (perm := [0, 1, 2, 3, 4, 5, 6, 7, 8]) (As := [.int o_5]) (rest := [.int x1, .ref zn, .int (x2 - (SN 2 x1.toNatClampNeg))]) (ci := 2) (q := (RX3, TX3, 7)) ⟨hx, hb, hml, hown, hts⟩ (c_X3_floorsOf l D cI cJ fu zn qn0 qn1 qn2 qn3 qn4 SN o_5 o_6 h_6) (cwV 1 hts gX4_deaths_X3_floorsOf rfl rfl rfl (by decide +kernel) ⟨Nat.le_of_ble_eq_true rfl, Nat.le_of_ble_eq_true rfl⟩) hK hP hD hS hA ⟨rfl, rfl, by decide, by decide, by decide, by decide, rfl⟩ rfl rfl rfl rfl hl.1 rfl (Nat.le_of_ble_eq_true rfl) dX4_deaths_90 (fun H locs hP hD hS => ?_)
      obtain ⟨o_7, h_7, hf⟩ := bd_some hf
      refine s_callVI (wc := (wT zn qn0 qn1 qn2 qn3 qn4 cI SN)) (wr := [(zv, .inr (3, [.ref zn, .ref zr, .ref zk, .int (SV 3 0), .ref zl, .ref zo, .ref qv6, .int (SV 7 0), .ref qv8])), (qv6, .inl (cI, 8, .inl (SV 6))), (qv8, .inl (cI, 7, .inl (SV 8)))]) (wc' := (wT zn qn0 qn1 qn2 qn3 qn4 cI SN)) (w' := [(zv, .inr (3, [.ref zn, .ref zr, .ref zk, .int (SV 3 0), .ref zl, .ref zo, .ref qv6, .int (SV 7 0), .ref qv8])), (qv6, .inl (cI, 8, .inl (SV 6))), (qv8, .inl (cI, 7, .inl (SV 8))), (zn, .inr (2, [.ref qn0, .ref qn1, .ref qn2, .ref qn3, .ref qn4, .int (SN 5 0), .int (SN 6 0)])), (qn0, .inl (cI, 8, .inl (SN 0))), (qn1, .inl (cI, 8, .inl (SN 1))), (qn2, .inl (cI, 8, .inl (SN 2))), (qn3, .inl (cI, 8, .inl (SN 3))), (qn4, .inl (cI, 8, .inl (SN 4)))]) (isC := [3, 4, 5, 6, 7, 8]) (isR := [0, 1, 2]) (perm := [0, 1, 2, 3, 4, 5, 6, 7, 8]) (As := [.int x1, .int o_6]) (rest := [.int (x2 - (SN 2 x1.toNatClampNeg))]) (ci := 2) (q := (RX3, TX3, 7)) ⟨hx, hb, hml, hown, hts⟩ (c_X3_floorsUp l D cI cJ fu zn qn0 qn1 qn2 qn3 qn4 SN x1 o_6 o_7 h_7) (cwV 2 hts gX4_deaths_X3_floorsUp rfl rfl rfl (by decide +kernel) ⟨Nat.le_of_ble_eq_true rfl, Nat.le_of_ble_eq_true rfl⟩) hK hP hD hS hA ⟨rfl, rfl, by decide, by decide, by decide, by decide, rfl⟩ rfl rfl rfl rfl hl.1 rfl (Nat.le_of_ble_eq_true rfl) dX4_deaths_93 (fun H locs hP hD hS => ?_)
      refine lv_icmp_le (tgt := 102) hx hb dX4_deaths_96 (by decide) (fun c_8 => ?_) (fun c_8 => ?_)
      · have hf := itT c_8 hf
        refine lv_iload_n hx hb dX4_deaths_102 rfl (lv_at hl 4 rfl) ?_
        refine lv_if_ne (tgt := 111) hx hb dX4_deaths_103 (by decide) (fun c_9 => ?_) (fun c_9 => ?_)
        · have hf := itF c_9 hf
          refine lv_aload_n hx hb dX4_deaths_111 rfl (lv_at hl 1 rfl) ?_
          refine va_get (D := D) (ci := 3) (v := .ref zn) (C := RX4) (T := TX4) (N := 9) hx hb hts i_X4_deaths_X4 hown hK hP 0 rfl rfl 0 (by decide) (hts _ q_X4_deaths_1) (fun _ h9 => h9) rfl dX4_deaths_112 ?_
          refine lv_iload_n hx hb dX4_deaths_115 rfl (lv_at hl 2 rfl) ?_
          refine lv_iload hx hb dX4_deaths_116 (lv_at hl 0 rfl) ?_
          obtain ⟨o_10, h_10, hf⟩ := bd_some hf
          refine s_callVI (wc := (wT zn qn0 qn1 qn2 qn3 qn4 cI SN)) (wr := [(zv, .inr (3, [.ref zn, .ref zr, .ref zk, .int (SV 3 0), .ref zl, .ref zo, .ref qv6, .int (SV 7 0), .ref qv8])), (qv6, .inl (cI, 8, .inl (SV 6))), (qv8, .inl (cI, 7, .inl (SV 8)))]) (wc' := (wT zn qn0 qn1 qn2 qn3 qn4 cI SN)) (w' := [(zv, .inr (3, [.ref zn, .ref zr, .ref zk, .int (SV 3 0), .ref zl, .ref zo, .ref qv6, .int (SV 7 0), .ref qv8])), (qv6, .inl (cI, 8, .inl (SV 6))), (qv8, .inl (cI, 7, .inl (SV 8))), (zn, .inr (2, [.ref qn0, .ref qn1, .ref qn2, .ref qn3, .ref qn4, .int (SN 5 0), .int (SN 6 0)])), (qn0, .inl (cI, 8, .inl (SN 0))), (qn1, .inl (cI, 8, .inl (SN 1))), (qn2, .inl (cI, 8, .inl (SN 2))), (qn3, .inl (cI, 8, .inl (SN 3))), (qn4, .inl (cI, 8, .inl (SN 4)))]) (isC := [3, 4, 5, 6, 7, 8]) (isR := [0, 1, 2]) (perm := [0, 1, 2, 3, 4, 5, 6, 7, 8]) (As := [.int x1, .int (x2 - (SN 2 x1.toNatClampNeg))]) (rest := []) (ci := 2) (q := (RX3, TX3, 7)) ⟨hx, hb, hml, hown, hts⟩ (c_X3_likeliestAbove l D cI cJ fu zn qn0 qn1 qn2 qn3 qn4 SN x1 (x2 - (SN 2 x1.toNatClampNeg)) o_10 h_10) (cwV 2 hts gX4_deaths_X3_likeliestAbove rfl rfl rfl (by decide +kernel) ⟨Nat.le_of_ble_eq_true rfl, Nat.le_of_ble_eq_true rfl⟩) hK hP hD hS hA ⟨rfl, rfl, by decide, by decide, by decide, by decide, rfl⟩ rfl rfl rfl rfl hl.1 rfl (Nat.le_of_ble_eq_true rfl) dX4_deaths_118 (fun H locs hP hD hS => ?_)
          obtain rfl := Option.some.inj hf
          exact s_iret (r := o_10) hx hb hr hlocks hK hP hD hS dX4_deaths_121
        · have hf := itT c_9 hf
          refine lv_iload hx hb dX4_deaths_106 (lv_at hl 0 rfl) ?_
          refine lv_goto (tgt := 121) hx hb dX4_deaths_108 (by decide) ?_
          obtain rfl := Option.some.inj hf
          exact s_iret (r := (x2 - (SN 2 x1.toNatClampNeg))) hx hb hr hlocks hK hP hD hS dX4_deaths_121
      · have hf := itF c_8 hf
        refine lv_bipush (v := (-9 : Int32)) hx hb dX4_deaths_99 (by decide) ?_
        obtain rfl := Option.some.inj hf
        exact s_iret (r := (-9 : Int32)) hx hb hr hlocks hK hP hD hS dX4_deaths_101
    · have hf := itF c_4 hf
      refine lv_bipush (v := (-9 : Int32)) hx hb dX4_deaths_69 (by decide) ?_
      obtain rfl := Option.some.inj hf
      exact s_iret (r := (-9 : Int32)) hx hb hr hlocks hK hP hD hS dX4_deaths_71
set_option maxHeartbeats 4000000 in
set_option maxRecDepth 100000 in
theorem c_X4_deaths (l : Launch) (D : va_G) (cI cJ : ClassId) (fu : Nat) (zv qv6 qv8 zn zr zk zl zo qn0 qn1 qn2 qn3 qn4 : Nat) (SV : S32) (SN : S32) (x1 : Int32) (x2 : Int32) (x3 : Int32) (o : Int32 × S32) (hf : f_X4_deaths fu SV SN x1 x2 x3 = some o) : MI l yX4_deaths wsX4_deaths rm_X4_deaths D vwCl (tyS cI cJ) [.ref zv, .int x1, .int x2, .int x3] ((wV zv qv6 qv8 zn zr zk zl zo cI SV) ++ (wT zn qn0 qn1 qn2 qn3 qn4 cI SN)) ((wV zv qv6 qv8 zn zr zk zl zo cI (o.2)) ++ (wT zn qn0 qn1 qn2 qn3 qn4 cI SN)) (o.1) := by
  intro sz
  refine s_entry (own := RX4) (cc := cX4_deaths) (maxL := 5) (ret := (some .int)) (Qc := fun A => sZi D vwCl (tyS cI cJ) A ((wV zv qv6 qv8 zn zr zk zl zo cI (o.2)) ++ (wT zn qn0 qn1 qn2 qn3 qn4 cI SN)) (o.1)) rfl (by decide) rfl rfl (Nat.le_of_ble_eq_true rfl) ?_
  intro p e s m args below meth c A C0 hA hP hD hS ls hl
  obtain ⟨hx, hb, hr, hml, hown, hts, hlocks, hK⟩ := id C0
  have hl : lv_has ls 5 [(0, .ref zv), (1, .int x1), (2, .int x2), (3, .int x3)] := hl
  have hP : va_P D vwCl [(zv, .inr (3, [.ref zn, .ref zr, .ref zk, .int (SV 3 0), .ref zl, .ref zo, .ref qv6, .int (SV 7 0), .ref qv8])), (qv6, .inl (cI, 8, .inl (SV 6))), (qv8, .inl (cI, 7, .inl (SV 8))), (zn, .inr (2, [.ref qn0, .ref qn1, .ref qn2, .ref qn3, .ref qn4, .int (SN 5 0), .int (SN 6 0)])), (qn0, .inl (cI, 8, .inl (SN 0))), (qn1, .inl (cI, 8, .inl (SN 1))), (qn2, .inl (cI, 8, .inl (SN 2))), (qn3, .inl (cI, 8, .inl (SN 3))), (qn4, .inl (cI, 8, .inl (SN 4)))] s.heap := hP
  have hD : va_D A [(zv, .inr (3, [.ref zn, .ref zr, .ref zk, .int (SV 3 0), .ref zl, .ref zo, .ref qv6, .int (SV 7 0), .ref qv8])), (qv6, .inl (cI, 8, .inl (SV 6))), (qv8, .inl (cI, 7, .inl (SV 8))), (zn, .inr (2, [.ref qn0, .ref qn1, .ref qn2, .ref qn3, .ref qn4, .int (SN 5 0), .int (SN 6 0)])), (qn0, .inl (cI, 8, .inl (SN 0))), (qn1, .inl (cI, 8, .inl (SN 1))), (qn2, .inl (cI, 8, .inl (SN 2))), (qn3, .inl (cI, 8, .inl (SN 3))), (qn4, .inl (cI, 8, .inl (SN 4)))] := hD
  refine lv_aload_n hx hb dX4_deaths_0 rfl (lv_at hl 0 rfl) ?_
  refine va_get (D := D) (ci := 3) (v := .ref zn) (C := RX4) (T := TX4) (N := 9) hx hb hts i_X4_deaths_X4 hown hK hP 0 rfl rfl 0 (by decide) (hts _ q_X4_deaths_1) (fun _ h9 => h9) rfl dX4_deaths_1 ?_
  refine lv_iload_n hx hb dX4_deaths_4 rfl (lv_at hl 1 rfl) ?_
  obtain ⟨o_1, h_1, hf⟩ := bd_some hf
  refine s_callVI (wc := (wT zn qn0 qn1 qn2 qn3 qn4 cI SN)) (wr := [(zv, .inr (3, [.ref zn, .ref zr, .ref zk, .int (SV 3 0), .ref zl, .ref zo, .ref qv6, .int (SV 7 0), .ref qv8])), (qv6, .inl (cI, 8, .inl (SV 6))), (qv8, .inl (cI, 7, .inl (SV 8)))]) (wc' := (wT zn qn0 qn1 qn2 qn3 qn4 cI SN)) (w' := [(zv, .inr (3, [.ref zn, .ref zr, .ref zk, .int (SV 3 0), .ref zl, .ref zo, .ref qv6, .int (SV 7 0), .ref qv8])), (qv6, .inl (cI, 8, .inl (SV 6))), (qv8, .inl (cI, 7, .inl (SV 8))), (zn, .inr (2, [.ref qn0, .ref qn1, .ref qn2, .ref qn3, .ref qn4, .int (SN 5 0), .int (SN 6 0)])), (qn0, .inl (cI, 8, .inl (SN 0))), (qn1, .inl (cI, 8, .inl (SN 1))), (qn2, .inl (cI, 8, .inl (SN 2))), (qn3, .inl (cI, 8, .inl (SN 3))), (qn4, .inl (cI, 8, .inl (SN 4)))]) (isC := [3, 4, 5, 6, 7, 8]) (isR := [0, 1, 2]) (perm := [0, 1, 2, 3, 4, 5, 6, 7, 8]) (As := [.int x1]) (rest := []) (ci := 2) (q := (RX3, TX3, 7)) ⟨hx, hb, hml, hown, hts⟩ (c_X3_isAlive l D cI cJ fu zn qn0 qn1 qn2 qn3 qn4 SN x1 o_1 h_1) (cwV 1 hts gX4_deaths_X3_isAlive rfl rfl rfl (by decide +kernel) ⟨Nat.le_of_ble_eq_true rfl, Nat.le_of_ble_eq_true rfl⟩) hK hP hD hS hA ⟨rfl, rfl, by decide, by decide, by decide, by decide, rfl⟩ rfl rfl rfl rfl hl.1 rfl (Nat.le_of_ble_eq_true rfl) dX4_deaths_5 (fun H locs hP hD hS => ?_)
  refine lv_if_eq (tgt := 18) hx hb dX4_deaths_8 (by decide) (fun c_2 => ?_) (fun c_2 => ?_)
  · have hf := itT c_2 hf
    exact t_X4_deaths_18 (fu := fu) C0 hA  _ hf _ _ hP hD hS _ (lv_sub hl [0] rfl)
  · have hf := itF c_2 hf
    refine lv_iload_n hx hb dX4_deaths_11 rfl (lv_at hl 2 rfl) ?_
    obtain ⟨o_3, h_3, hf⟩ := bd_some hf
    refine s_callSI (wc := []) (wr := [(zv, .inr (3, [.ref zn, .ref zr, .ref zk, .int (SV 3 0), .ref zl, .ref zo, .ref qv6, .int (SV 7 0), .ref qv8])), (qv6, .inl (cI, 8, .inl (SV 6))), (qv8, .inl (cI, 7, .inl (SV 8))), (zn, .inr (2, [.ref qn0, .ref qn1, .ref qn2, .ref qn3, .ref qn4, .int (SN 5 0), .int (SN 6 0)])), (qn0, .inl (cI, 8, .inl (SN 0))), (qn1, .inl (cI, 8, .inl (SN 1))), (qn2, .inl (cI, 8, .inl (SN 2))), (qn3, .inl (cI, 8, .inl (SN 3))), (qn4, .inl (cI, 8, .inl (SN 4)))]) (wc' := []) (w' := [(zv, .inr (3, [.ref zn, .ref zr, .ref zk, .int (SV 3 0), .ref zl, .ref zo, .ref qv6, .int (SV 7 0), .ref qv8])), (qv6, .inl (cI, 8, .inl (SV 6))), (qv8, .inl (cI, 7, .inl (SV 8))), (zn, .inr (2, [.ref qn0, .ref qn1, .ref qn2, .ref qn3, .ref qn4, .int (SN 5 0), .int (SN 6 0)])), (qn0, .inl (cI, 8, .inl (SN 0))), (qn1, .inl (cI, 8, .inl (SN 1))), (qn2, .inl (cI, 8, .inl (SN 2))), (qn3, .inl (cI, 8, .inl (SN 3))), (qn4, .inl (cI, 8, .inl (SN 4)))]) (isC := []) (isR := [0, 1, 2, 3, 4, 5, 6, 7, 8]) (perm := [0, 1, 2, 3, 4, 5, 6, 7, 8]) (As := [.int x2]) (rest := []) ⟨hx, hb, hml, hown, hts⟩ (c_X4_isFloor l D cI cJ fu x2 o_3 h_3) (va_cwS 1 hts gX4_deaths_X4_isFloor rfl rfl rfl (by decide +kernel) ⟨Nat.le_of_ble_eq_true rfl, Nat.le_of_ble_eq_true rfl⟩) hK hP hD hS hA ⟨rfl, rfl, by decide, by decide, by decide, by decide, rfl⟩ rfl hl.1 rfl (Nat.le_of_ble_eq_true rfl) dX4_deaths_12 (fun H locs hP hD hS => ?_)
    refine lv_if_ne (tgt := 24) hx hb dX4_deaths_15 (by decide) (fun c_4 => ?_) (fun c_4 => ?_)
    · have hf := itF c_4 hf
      refine lv_iload_n hx hb dX4_deaths_24 rfl (lv_at hl 3 rfl) ?_
      refine lv_if_eq (tgt := 40) hx hb dX4_deaths_25 (by decide) (fun c_5 => ?_) (fun c_5 => ?_)
      · have hf := itT c_5 hf
        exact t_X4_deaths_40 (fu := fu) C0 hA  _ _ _ _ hf _ _ hP hD hS _ (lv_sub hl [0, 1, 2, 3] rfl)
      · have hf := itF c_5 hf
        refine lv_iload_n hx hb dX4_deaths_28 rfl (lv_at hl 3 rfl) ?_
        refine lv_iconst (v := (1 : Int32)) hx hb dX4_deaths_29 (by decide) ?_
        refine lv_icmp_eq (tgt := 40) hx hb dX4_deaths_30 (by decide) (fun c_6 => ?_) (fun c_6 => ?_)
        · have hf := itT c_6 hf
          exact t_X4_deaths_40 (fu := fu) C0 hA  _ _ _ _ hf _ _ hP hD hS _ (lv_sub hl [0, 1, 2, 3] rfl)
        · have hf := itF c_6 hf
          refine lv_aload_n hx hb dX4_deaths_33 rfl (lv_at hl 0 rfl) ?_
          refine lv_bipush (v := (-2 : Int32)) hx hb dX4_deaths_34 (by decide) ?_
          obtain ⟨o_7, h_7, hf⟩ := bd_some hf
          refine s_callVI (wc := (wV zv qv6 qv8 zn zr zk zl zo cI SV)) (wr := [(zn, .inr (2, [.ref qn0, .ref qn1, .ref qn2, .ref qn3, .ref qn4, .int (SN 5 0), .int (SN 6 0)])), (qn0, .inl (cI, 8, .inl (SN 0))), (qn1, .inl (cI, 8, .inl (SN 1))), (qn2, .inl (cI, 8, .inl (SN 2))), (qn3, .inl (cI, 8, .inl (SN 3))), (qn4, .inl (cI, 8, .inl (SN 4)))]) (wc' := (wV zv qv6 qv8 zn zr zk zl zo cI (o_7.2))) (w' := [(zv, .inr (3, [.ref zn, .ref zr, .ref zk, .int ((o_7.2) 3 0), .ref zl, .ref zo, .ref qv6, .int ((o_7.2) 7 0), .ref qv8])), (qv6, .inl (cI, 8, .inl ((o_7.2) 6))), (qv8, .inl (cI, 7, .inl ((o_7.2) 8))), (zn, .inr (2, [.ref qn0, .ref qn1, .ref qn2, .ref qn3, .ref qn4, .int (SN 5 0), .int (SN 6 0)])), (qn0, .inl (cI, 8, .inl (SN 0))), (qn1, .inl (cI, 8, .inl (SN 1))), (qn2, .inl (cI, 8, .inl (SN 2))), (qn3, .inl (cI, 8, .inl (SN 3))), (qn4, .inl (cI, 8, .inl (SN 4)))]) (isC := [0, 1, 2]) (isR := [3, 4, 5, 6, 7, 8]) (perm := [6, 7, 8, 0, 1, 2, 3, 4, 5]) (As := [.int (-2 : Int32)]) (rest := []) (ci := 3) (q := (RX4, TX4, 9)) ⟨hx, hb, hml, hown, hts⟩ (c_X4_refuse l D cI cJ fu zv qv6 qv8 zn zr zk zl zo SV (-2 : Int32) o_7 h_7) (cwV 1 hts gX4_deaths_X4_refuse rfl rfl rfl (by decide +kernel) ⟨Nat.le_of_ble_eq_true rfl, Nat.le_of_ble_eq_true rfl⟩) hK hP hD hS hA ⟨rfl, rfl, by decide, by decide, by decide, by decide, rfl⟩ rfl rfl rfl rfl hl.1 rfl (Nat.le_of_ble_eq_true rfl) dX4_deaths_36 (fun H locs hP hD hS => ?_)
          obtain rfl := Option.some.inj hf
          exact s_iret (r := o_7.1) hx hb hr hlocks hK hP hD hS dX4_deaths_39
    · have hf := itT c_4 hf
      exact t_X4_deaths_18 (fu := fu) C0 hA  _ hf _ _ hP hD hS _ (lv_sub hl [0] rfl)
theorem q_X4_stuck_1 : (Cond.fieldLink RX4 10 "UpWhenDies" "now" "LUpWhenDies$Tower;" : Cond) ∈ wsX4_stuck := List.mem_of_getElem? (i := 1) rfl
theorem i_X4_stuck_X4 : ∀ w ∈ wsX40, w ∈ wsX4_stuck := fun _ h => (List.mem_cons_of_mem _ (List.mem_append_left _ (List.mem_append_right _ h)))
abbrev rm_X4_stuck : Room := { frames := 4, cells := 0, slots := 0, locals := 87 }
set_option maxHeartbeats 4000000 in
set_option maxRecDepth 100000 in
theorem ts_X4_stuck_4 {p : Program} {l : Launch} {e : Env} {s : State} {m : MethodId} {args : Array Value} {below : List Frame} {meth : Method} {c : Code} {D : va_G} {cI cJ : ClassId} {A : Nat → Prop} {fu : Nat} {zv qv6 qv8 zn zr zk zl zo qn0 qn1 qn2 qn3 qn4 : Nat} {SV : S32} {SN : S32} {o : Int32} (C0 : Cx RX4 wsX4_stuck cX4_stuck 3 (some .int) D vwCl (tyS cI cJ) p s m args meth c) (hA : ∀ q : Nat, s.heap.size ≤ q → A q) {k4 : Int32 → Int32 → Option (Int32)} (K4 : ∀ (x1 : Int32) (x2 : Int32), k4 x1 x2 = some o → ∀ (H : Heap) (locs : List Loc), va_P D vwCl ((wV zv qv6 qv8 zn zr zk zl zo cI SV) ++ (wT zn qn0 qn1 qn2 qn3 qn4 cI SN)) H → va_D A ((wV zv qv6 qv8 zn zr zk zl zo cI SV) ++ (wT zn qn0 qn1 qn2 qn3 qn4 cI SN)) → va_S A s.heap H locs → ∀ (ls : Array Slot), lv_has ls 3 [(0, .ref zv), (1, .int x1), (2, .int x2)] → W p l e rm_X4_stuck s m args below meth c H locs 0 0 (MQ below (sZi D vwCl (tyS cI cJ) A ((wV zv qv6 qv8 zn zr zk zl zo cI SV) ++ (wT zn qn0 qn1 qn2 qn3 qn4 cI SN)) (o)) args s 0 0 A) (F0 m 4 ls [])) : ∀ (x1 : Int32) (x2 : Int32), s_X4_stuck_4 fu  k4 SV SN x1 x2 = some o → ∀ (H : Heap) (locs : List Loc), va_P D vwCl ((wV zv qv6 qv8 zn zr zk zl zo cI SV) ++ (wT zn qn0 qn1 qn2 qn3 qn4 cI SN)) H → va_D A ((wV zv qv6 qv8 zn zr zk zl zo cI SV) ++ (wT zn qn0 qn1 qn2 qn3 qn4 cI SN)) → va_S A s.heap H locs → ∀ (ls : Array Slot), lv_has ls 3 [(0, .ref zv), (1, .int x1), (2, .int x2)] → W p l e rm_X4_stuck s m args below meth c H locs 0 0 (MQ below (sZi D vwCl (tyS cI cJ) A ((wV zv qv6 qv8 zn zr zk zl zo cI SV) ++ (wT zn qn0 qn1 qn2 qn3 qn4 cI SN)) (o)) args s 0 0 A) (F0 m 4 ls []) := by
  obtain ⟨hx, hb, hr, hml, hown, hts, hlocks, hK⟩ := id C0
  intro x1 x2 hf H locs hP hD hS ls hl
  have hP : va_P D vwCl [(zv, .inr (3, [.ref zn, .ref zr, .ref zk, .int (SV 3 0), .ref zl, .ref zo, .ref qv6, .int (SV 7 0), .ref qv8])), (qv6, .inl (cI, 8, .inl (SV 6))), (qv8, .inl (cI, 7, .inl (SV 8))), (zn, .inr (2, [.ref qn0, .ref qn1, .ref qn2, .ref qn3, .ref qn4, .int (SN 5 0), .int (SN 6 0)])), (qn0, .inl (cI, 8, .inl (SN 0))), (qn1, .inl (cI, 8, .inl (SN 1))), (qn2, .inl (cI, 8, .inl (SN 2))), (qn3, .inl (cI, 8, .inl (SN 3))), (qn4, .inl (cI, 8, .inl (SN 4)))] H := hP
  have hD : va_D A [(zv, .inr (3, [.ref zn, .ref zr, .ref zk, .int (SV 3 0), .ref zl, .ref zo, .ref qv6, .int (SV 7 0), .ref qv8])), (qv6, .inl (cI, 8, .inl (SV 6))), (qv8, .inl (cI, 7, .inl (SV 8))), (zn, .inr (2, [.ref qn0, .ref qn1, .ref qn2, .ref qn3, .ref qn4, .int (SN 5 0), .int (SN 6 0)])), (qn0, .inl (cI, 8, .inl (SN 0))), (qn1, .inl (cI, 8, .inl (SN 1))), (qn2, .inl (cI, 8, .inl (SN 2))), (qn3, .inl (cI, 8, .inl (SN 3))), (qn4, .inl (cI, 8, .inl (SN 4)))] := hD
  refine lv_iload_n hx hb dX4_stuck_4 rfl (lv_at hl 2 rfl) ?_
  refine lv_bipush (v := (8 : Int32)) hx hb dX4_stuck_5 (by decide) ?_
  refine lv_icmp_ge (tgt := 45) hx hb dX4_stuck_7 (by decide) (fun c_1 => ?_) (fun c_1 => ?_)
  · have hf := itT c_1 hf
    refine lv_iload_n hx hb dX4_stuck_45 rfl (lv_at hl 1 rfl) ?_
    obtain rfl := Option.some.inj hf
    exact s_iret (r := x1) hx hb hr hlocks hK hP hD hS dX4_stuck_46
  · have hf := itF c_1 hf
    refine lv_aload_n hx hb dX4_stuck_10 rfl (lv_at hl 0 rfl) ?_
    refine va_get (D := D) (ci := 3) (v := .ref zn) (C := RX4) (T := TX4) (N := 9) hx hb hts i_X4_stuck_X4 hown hK hP 0 rfl rfl 0 (by decide) (hts _ q_X4_stuck_1) (fun _ h9 => h9) rfl dX4_stuck_11 ?_
    refine lv_iload_n hx hb dX4_stuck_14 rfl (lv_at hl 2 rfl) ?_
    obtain ⟨o_2, h_2, hf⟩ := bd_some hf
    refine s_callVI (wc := (wT zn qn0 qn1 qn2 qn3 qn4 cI SN)) (wr := [(zv, .inr (3, [.ref zn, .ref zr, .ref zk, .int (SV 3 0), .ref zl, .ref zo, .ref qv6, .int (SV 7 0), .ref qv8])), (qv6, .inl (cI, 8, .inl (SV 6))), (qv8, .inl (cI, 7, .inl (SV 8)))]) (wc' := (wT zn qn0 qn1 qn2 qn3 qn4 cI SN)) (w' := [(zv, .inr (3, [.ref zn, .ref zr, .ref zk, .int (SV 3 0), .ref zl, .ref zo, .ref qv6, .int (SV 7 0), .ref qv8])), (qv6, .inl (cI, 8, .inl (SV 6))), (qv8, .inl (cI, 7, .inl (SV 8))), (zn, .inr (2, [.ref qn0, .ref qn1, .ref qn2, .ref qn3, .ref qn4, .int (SN 5 0), .int (SN 6 0)])), (qn0, .inl (cI, 8, .inl (SN 0))), (qn1, .inl (cI, 8, .inl (SN 1))), (qn2, .inl (cI, 8, .inl (SN 2))), (qn3, .inl (cI, 8, .inl (SN 3))), (qn4, .inl (cI, 8, .inl (SN 4)))]) (isC := [3, 4, 5, 6, 7, 8]) (isR := [0, 1, 2]) (perm := [0, 1, 2, 3, 4, 5, 6, 7, 8]) (As := [.int x2]) (rest := []) (ci := 2) (q := (RX3, TX3, 7)) ⟨hx, hb, hml, hown, hts⟩ (c_X3_isAlive l D cI cJ fu zn qn0 qn1 qn2 qn3 qn4 SN x2 o_2 h_2) (cwV 1 hts gX4_stuck_X3_isAlive rfl rfl rfl (by decide +kernel) ⟨Nat.le_of_ble_eq_true rfl, Nat.le_of_ble_eq_true rfl⟩) hK hP hD hS hA ⟨rfl, rfl, by decide, by decide, by decide, by decide, rfl⟩ rfl rfl rfl rfl hl.1 rfl (Nat.le_of_ble_eq_true rfl) dX4_stuck_15 (fun H locs hP hD hS => ?_)
    refine lv_if_eq (tgt := 39) hx hb dX4_stuck_18 (by decide) (fun c_3 => ?_) (fun c_3 => ?_)
    · have hf := itT c_3 hf
      refine lv_iinc (v := (x2 + (1 : Int32))) (lv' := [(2, .int (x2 + (1 : Int32))), (0, .ref zv), (1, .int x1)]) hx hb dX4_stuck_39 hl (k := 2) rfl rfl (by decide) rfl (fun ls hl => ?_)
      refine lv_goto (tgt := 4) hx hb dX4_stuck_42 (by decide) ?_
      exact K4 _ _ hf _ _ hP hD hS _ (lv_sub hl [1, 2, 0] rfl)
    · have hf := itF c_3 hf
      refine lv_aload_n hx hb dX4_stuck_21 rfl (lv_at hl 0 rfl) ?_
      refine va_get (D := D) (ci := 3) (v := .ref zn) (C := RX4) (T := TX4) (N := 9) hx hb hts i_X4_stuck_X4 hown hK hP 0 rfl rfl 0 (by decide) (hts _ q_X4_stuck_1) (fun _ h9 => h9) rfl dX4_stuck_22 ?_
      refine lv_iload_n hx hb dX4_stuck_25 rfl (lv_at hl 2 rfl) ?_
      refine lv_iconst (v := (0 : Int32)) hx hb dX4_stuck_26 (by decide) ?_
      obtain ⟨o_4, h_4, hf⟩ := bd_some hf
      refine s_callVI (wc := (wT zn qn0 qn1 qn2 qn3 qn4 cI SN)) (wr := [(zv, .inr (3, [.ref zn, .ref zr, .ref zk, .int (SV 3 0), .ref zl, .ref zo, .ref qv6, .int (SV 7 0), .ref qv8])), (qv6, .inl (cI, 8, .inl (SV 6))), (qv8, .inl (cI, 7, .inl (SV 8)))]) (wc' := (wT zn qn0 qn1 qn2 qn3 qn4 cI SN)) (w' := [(zv, .inr (3, [.ref zn, .ref zr, .ref zk, .int (SV 3 0), .ref zl, .ref zo, .ref qv6, .int (SV 7 0), .ref qv8])), (qv6, .inl (cI, 8, .inl (SV 6))), (qv8, .inl (cI, 7, .inl (SV 8))), (zn, .inr (2, [.ref qn0, .ref qn1, .ref qn2, .ref qn3, .ref qn4, .int (SN 5 0), .int (SN 6 0)])), (qn0, .inl (cI, 8, .inl (SN 0))), (qn1, .inl (cI, 8, .inl (SN 1))), (qn2, .inl (cI, 8, .inl (SN 2))), (qn3, .inl (cI, 8, .inl (SN 3))), (qn4, .inl (cI, 8, .inl (SN 4)))]) (isC := [3, 4, 5, 6, 7, 8]) (isR := [0, 1, 2]) (perm := [0, 1, 2, 3, 4, 5, 6, 7, 8]) (As := [.int x2, .int (0 : Int32)]) (rest := []) (ci := 2) (q := (RX3, TX3, 7)) ⟨hx, hb, hml, hown, hts⟩ (c_X3_isOutOfReach l D cI cJ fu zn qn0 qn1 qn2 qn3 qn4 SN x2 (0 : Int32) o_4 h_4) (cwV 2 hts gX4_stuck_X3_isOutOfReach rfl rfl rfl (by decide +kernel) ⟨Nat.le_of_ble_eq_true rfl, Nat.le_of_ble_eq_true rfl⟩) hK hP hD hS hA ⟨rfl, rfl, by decide, by decide, by decide, by decide, rfl⟩ rfl rfl rfl rfl hl.1 rfl (Nat.le_of_ble_eq_true rfl) dX4_stuck_27 (fun H locs hP hD hS => ?_)
      refine lv_if_eq (tgt := 39) hx hb dX4_stuck_30 (by decide) (fun c_5 => ?_) (fun c_5 => ?_)
      · have hf := itT c_5 hf
        refine lv_iinc (v := (x2 + (1 : Int32))) (lv' := [(2, .int (x2 + (1 : Int32))), (0, .ref zv), (1, .int x1)]) hx hb dX4_stuck_39 hl (k := 2) rfl rfl (by decide) rfl (fun ls hl => ?_)
        refine lv_goto (tgt := 4) hx hb dX4_stuck_42 (by decide) ?_
        exact K4 _ _ hf _ _ hP hD hS _ (lv_sub hl [1, 2, 0] rfl)
      · have hf := itF c_5 hf
        refine lv_iload_n hx hb dX4_stuck_33 rfl (lv_at hl 1 rfl) ?_
        refine lv_iconst (v := (1 : Int32)) hx hb dX4_stuck_34 (by decide) ?_
        refine lv_iload_n hx hb dX4_stuck_35 rfl (lv_at hl 2 rfl) ?_
        refine lv_ishl hx hb dX4_stuck_36 ?_
        refine lv_ior hx hb dX4_stuck_37 ?_
        refine lv_istore_n (lv' := [(1, .int (x1 ||| ((1 : Int32) <<< (x2 &&& 31)))), (0, .ref zv), (2, .int x2)]) hx hb dX4_stuck_38 rfl hl (by decide) rfl (fun ls hl => ?_)
        refine lv_iinc (v := (x2 + (1 : Int32))) (lv' := [(2, .int (x2 + (1 : Int32))), (1, .int (x1 ||| ((1 : Int32) <<< (x2 &&& 31)))), (0, .ref zv)]) hx hb dX4_stuck_39 hl (k := 2) rfl rfl (by decide) rfl (fun ls hl => ?_)
        refine lv_goto (tgt := 4) hx hb dX4_stuck_42 (by decide) ?_
        exact K4 _ _ hf _ _ hP hD hS _ (lv_sub hl [2, 1, 0] rfl)
theorem t_X4_stuck_4 {p : Program} {l : Launch} {e : Env} {s : State} {m : MethodId} {args : Array Value} {below : List Frame} {meth : Method} {c : Code} {D : va_G} {cI cJ : ClassId} {A : Nat → Prop} {fu : Nat} {zv qv6 qv8 zn zr zk zl zo qn0 qn1 qn2 qn3 qn4 : Nat} {SV : S32} {SN : S32} {o : Int32} (C0 : Cx RX4 wsX4_stuck cX4_stuck 3 (some .int) D vwCl (tyS cI cJ) p s m args meth c) (hA : ∀ q : Nat, s.heap.size ≤ q → A q) : ∀ (n : Nat) (x1 : Int32) (x2 : Int32), f_X4_stuck_4 fu  SV SN n x1 x2 = some o → ∀ (H : Heap) (locs : List Loc), va_P D vwCl ((wV zv qv6 qv8 zn zr zk zl zo cI SV) ++ (wT zn qn0 qn1 qn2 qn3 qn4 cI SN)) H → va_D A ((wV zv qv6 qv8 zn zr zk zl zo cI SV) ++ (wT zn qn0 qn1 qn2 qn3 qn4 cI SN)) → va_S A s.heap H locs → ∀ (ls : Array Slot), lv_has ls 3 [(0, .ref zv), (1, .int x1), (2, .int x2)] → W p l e rm_X4_stuck s m args below meth c H locs 0 0 (MQ below (sZi D vwCl (tyS cI cJ) A ((wV zv qv6 qv8 zn zr zk zl zo cI SV) ++ (wT zn qn0 qn1 qn2 qn3 qn4 cI SN)) (o)) args s 0 0 A) (F0 m 4 ls []) := by
  intro n
  induction n with
  | zero =>
    intro x1 x2 hf
    have hf : (none : Option (Int32)) = some o := hf
    cases hf
  | succ n ih => exact ts_X4_stuck_4 (fu := fu) (k4 := f_X4_stuck_4 fu  SV SN n) C0 hA  ih
set_option maxHeartbeats 4000000 in
set_option maxRecDepth 100000 in
theorem c_X4_stuck (l : Launch) (D : va_G) (cI cJ : ClassId) (fu : Nat) (zv qv6 qv8 zn zr zk zl zo qn0 qn1 qn2 qn3 qn4 : Nat) (SV : S32) (SN : S32) (o : Int32) (hf : f_X4_stuck fu SV SN = some o) : MI l yX4_stuck wsX4_stuck rm_X4_stuck D vwCl (tyS cI cJ) [.ref zv] ((wV zv qv6 qv8 zn zr zk zl zo cI SV) ++ (wT zn qn0 qn1 qn2 qn3 qn4 cI SN)) ((wV zv qv6 qv8 zn zr zk zl zo cI SV) ++ (wT zn qn0 qn1 qn2 qn3 qn4 cI SN)) (o) := by
  intro sz
  refine s_entry (own := RX4) (cc := cX4_stuck) (maxL := 3) (ret := (some .int)) (Qc := fun A => sZi D vwCl (tyS cI cJ) A ((wV zv qv6 qv8 zn zr zk zl zo cI SV) ++ (wT zn qn0 qn1 qn2 qn3 qn4 cI SN)) (o)) rfl (by decide) rfl rfl (Nat.le_of_ble_eq_true rfl) ?_
  intro p e s m args below meth c A C0 hA hP hD hS ls hl
  obtain ⟨hx, hb, hr, hml, hown, hts, hlocks, hK⟩ := id C0
  have hl : lv_has ls 3 [(0, .ref zv)] := hl
  have hP : va_P D vwCl [(zv, .inr (3, [.ref zn, .ref zr, .ref zk, .int (SV 3 0), .ref zl, .ref zo, .ref qv6, .int (SV 7 0), .ref qv8])), (qv6, .inl (cI, 8, .inl (SV 6))), (qv8, .inl (cI, 7, .inl (SV 8))), (zn, .inr (2, [.ref qn0, .ref qn1, .ref qn2, .ref qn3, .ref qn4, .int (SN 5 0), .int (SN 6 0)])), (qn0, .inl (cI, 8, .inl (SN 0))), (qn1, .inl (cI, 8, .inl (SN 1))), (qn2, .inl (cI, 8, .inl (SN 2))), (qn3, .inl (cI, 8, .inl (SN 3))), (qn4, .inl (cI, 8, .inl (SN 4)))] s.heap := hP
  have hD : va_D A [(zv, .inr (3, [.ref zn, .ref zr, .ref zk, .int (SV 3 0), .ref zl, .ref zo, .ref qv6, .int (SV 7 0), .ref qv8])), (qv6, .inl (cI, 8, .inl (SV 6))), (qv8, .inl (cI, 7, .inl (SV 8))), (zn, .inr (2, [.ref qn0, .ref qn1, .ref qn2, .ref qn3, .ref qn4, .int (SN 5 0), .int (SN 6 0)])), (qn0, .inl (cI, 8, .inl (SN 0))), (qn1, .inl (cI, 8, .inl (SN 1))), (qn2, .inl (cI, 8, .inl (SN 2))), (qn3, .inl (cI, 8, .inl (SN 3))), (qn4, .inl (cI, 8, .inl (SN 4)))] := hD
  refine lv_iconst (v := (0 : Int32)) hx hb dX4_stuck_0 (by decide) ?_
  refine lv_istore_n (lv' := [(1, .int (0 : Int32)), (0, .ref zv)]) hx hb dX4_stuck_1 rfl hl (by decide) rfl (fun ls hl => ?_)
  refine lv_iconst (v := (0 : Int32)) hx hb dX4_stuck_2 (by decide) ?_
  refine lv_istore_n (lv' := [(2, .int (0 : Int32)), (1, .int (0 : Int32)), (0, .ref zv)]) hx hb dX4_stuck_3 rfl hl (by decide) rfl (fun ls hl => ?_)
  exact t_X4_stuck_4 (fu := fu) C0 hA  fu _ _ hf _ _ hP hD hS _ (lv_sub hl [2, 1, 0] rfl)
theorem q_X4_safe_1 : (Cond.fieldLink RX4 10 "UpWhenDies" "now" "LUpWhenDies$Tower;" : Cond) ∈ wsX4_safe := List.mem_of_getElem? (i := 1) rfl
theorem i_X4_safe_X4 : ∀ w ∈ wsX40, w ∈ wsX4_safe := fun _ h => (List.mem_cons_of_mem _ (List.mem_append_left _ (List.mem_append_right _ h)))
abbrev rm_X4_safe : Room := { frames := 4, cells := 0, slots := 0, locals := 87 }
set_option maxHeartbeats 4000000 in
set_option maxRecDepth 100000 in
theorem ts_X4_safe_22 {p : Program} {l : Launch} {e : Env} {s : State} {m : MethodId} {args : Array Value} {below : List Frame} {meth : Method} {c : Code} {D : va_G} {cI cJ : ClassId} {A : Nat → Prop} {fu : Nat} {zv qv6 qv8 zn zr zk zl zo qn0 qn1 qn2 qn3 qn4 : Nat} {SN : S32} {o : Int32 × S32} (C0 : Cx RX4 wsX4_safe cX4_safe 4 (some .int) D vwCl (tyS cI cJ) p s m args meth c) (hA : ∀ q : Nat, s.heap.size ≤ q → A q) {k22 : Int32 → Int32 → Int32 → S32 → Option (Int32 × S32)} (K22 : ∀ (x1 : Int32) (x2 : Int32) (x3 : Int32) (SV : S32), k22 x1 x2 x3 SV = some o → ∀ (H : Heap) (locs : List Loc), va_P D vwCl ((wV zv qv6 qv8 zn zr zk zl zo cI SV) ++ (wT zn qn0 qn1 qn2 qn3 qn4 cI SN)) H → va_D A ((wV zv qv6 qv8 zn zr zk zl zo cI SV) ++ (wT zn qn0 qn1 qn2 qn3 qn4 cI SN)) → va_S A s.heap H locs → ∀ (ls : Array Slot), lv_has ls 4 [(0, .ref zv), (1, .int x1), (2, .int x2), (3, .int x3)] → W p l e rm_X4_safe s m args below meth c H locs 0 0 (MQ below (sZi D vwCl (tyS cI cJ) A ((wV zv qv6 qv8 zn zr zk zl zo cI (o.2)) ++ (wT zn qn0 qn1 qn2 qn3 qn4 cI SN)) (o.1)) args s 0 0 A) (F0 m 22 ls [])) : ∀ (x1 : Int32) (x2 : Int32) (x3 : Int32) (SV : S32), s_X4_safe_22 fu  k22 SN x1 x2 x3 SV = some o → ∀ (H : Heap) (locs : List Loc), va_P D vwCl ((wV zv qv6 qv8 zn zr zk zl zo cI SV) ++ (wT zn qn0 qn1 qn2 qn3 qn4 cI SN)) H → va_D A ((wV zv qv6 qv8 zn zr zk zl zo cI SV) ++ (wT zn qn0 qn1 qn2 qn3 qn4 cI SN)) → va_S A s.heap H locs → ∀ (ls : Array Slot), lv_has ls 4 [(0, .ref zv), (1, .int x1), (2, .int x2), (3, .int x3)] → W p l e rm_X4_safe s m args below meth c H locs 0 0 (MQ below (sZi D vwCl (tyS cI cJ) A ((wV zv qv6 qv8 zn zr zk zl zo cI (o.2)) ++ (wT zn qn0 qn1 qn2 qn3 qn4 cI SN)) (o.1)) args s 0 0 A) (F0 m 22 ls []) := by
  obtain ⟨hx, hb, hr, hml, hown, hts, hlocks, hK⟩ := id C0
  intro x1 x2 x3 SV hf H locs hP hD hS ls hl
  have hP : va_P D vwCl [(zv, .inr (3, [.ref zn, .ref zr, .ref zk, .int (SV 3 0), .ref zl, .ref zo, .ref qv6, .int (SV 7 0), .ref qv8])), (qv6, .inl (cI, 8, .inl (SV 6))), (qv8, .inl (cI, 7, .inl (SV 8))), (zn, .inr (2, [.ref qn0, .ref qn1, .ref qn2, .ref qn3, .ref qn4, .int (SN 5 0), .int (SN 6 0)])), (qn0, .inl (cI, 8, .inl (SN 0))), (qn1, .inl (cI, 8, .inl (SN 1))), (qn2, .inl (cI, 8, .inl (SN 2))), (qn3, .inl (cI, 8, .inl (SN 3))), (qn4, .inl (cI, 8, .inl (SN 4)))] H := hP
  have hD : va_D A [(zv, .inr (3, [.ref zn, .ref zr, .ref zk, .int (SV 3 0), .ref zl, .ref zo, .ref qv6, .int (SV 7 0), .ref qv8])), (qv6, .inl (cI, 8, .inl (SV 6))), (qv8, .inl (cI, 7, .inl (SV 8))), (zn, .inr (2, [.ref qn0, .ref qn1, .ref qn2, .ref qn3, .ref qn4, .int (SN 5 0), .int (SN 6 0)])), (qn0, .inl (cI, 8, .inl (SN 0))), (qn1, .inl (cI, 8, .inl (SN 1))), (qn2, .inl (cI, 8, .inl (SN 2))), (qn3, .inl (cI, 8, .inl (SN 3))), (qn4, .inl (cI, 8, .inl (SN 4)))] := hD
  refine lv_iload_n hx hb dX4_safe_22 rfl (lv_at hl 3 rfl) ?_
  refine lv_bipush (v := (99 : Int32)) hx hb dX4_safe_23 (by decide) ?_
  refine lv_icmp_gt (tgt := 51) hx hb dX4_safe_25 (by decide) (fun c_1 => ?_) (fun c_1 => ?_)
  · have hf := itT c_1 hf
    refine lv_iload_n hx hb dX4_safe_51 rfl (lv_at hl 2 rfl) ?_
    obtain rfl := Option.some.inj hf
    exact s_iret (r := x2) hx hb hr hlocks hK hP hD hS dX4_safe_52
  · have hf := itF c_1 hf
    refine lv_aload_n hx hb dX4_safe_28 rfl (lv_at hl 0 rfl) ?_
    refine va_get (D := D) (ci := 3) (v := .ref zn) (C := RX4) (T := TX4) (N := 9) hx hb hts i_X4_safe_X4 hown hK hP 0 rfl rfl 0 (by decide) (hts _ q_X4_safe_1) (fun _ h9 => h9) rfl dX4_safe_29 ?_
    refine lv_iload_n hx hb dX4_safe_32 rfl (lv_at hl 1 rfl) ?_
    refine lv_iload_n hx hb dX4_safe_33 rfl (lv_at hl 3 rfl) ?_
    obtain ⟨o_2, h_2, hf⟩ := bd_some hf
    refine s_callVI (wc := (wT zn qn0 qn1 qn2 qn3 qn4 cI SN)) (wr := [(zv, .inr (3, [.ref zn, .ref zr, .ref zk, .int (SV 3 0), .ref zl, .ref zo, .ref qv6, .int (SV 7 0), .ref qv8])), (qv6, .inl (cI, 8, .inl (SV 6))), (qv8, .inl (cI, 7, .inl (SV 8)))]) (wc' := (wT zn qn0 qn1 qn2 qn3 qn4 cI SN)) (w' := [(zv, .inr (3, [.ref zn, .ref zr, .ref zk, .int (SV 3 0), .ref zl, .ref zo, .ref qv6, .int (SV 7 0), .ref qv8])), (qv6, .inl (cI, 8, .inl (SV 6))), (qv8, .inl (cI, 7, .inl (SV 8))), (zn, .inr (2, [.ref qn0, .ref qn1, .ref qn2, .ref qn3, .ref qn4, .int (SN 5 0), .int (SN 6 0)])), (qn0, .inl (cI, 8, .inl (SN 0))), (qn1, .inl (cI, 8, .inl (SN 1))), (qn2, .inl (cI, 8, .inl (SN 2))), (qn3, .inl (cI, 8, .inl (SN 3))), (qn4, .inl (cI, 8, .inl (SN 4)))]) (isC := [3, 4, 5, 6, 7, 8]) (isR := [0, 1, 2]) (perm := [0, 1, 2, 3, 4, 5, 6, 7, 8]) (As := [.int x1, .int x3]) (rest := []) (ci := 2) (q := (RX3, TX3, 7)) ⟨hx, hb, hml, hown, hts⟩ (c_X3_isOutOfReach l D cI cJ fu zn qn0 qn1 qn2 qn3 qn4 SN x1 x3 o_2 h_2) (cwV 2 hts gX4_safe_X3_isOutOfReach rfl rfl rfl (by decide +kernel) ⟨Nat.le_of_ble_eq_true rfl, Nat.le_of_ble_eq_true rfl⟩) hK hP hD hS hA ⟨rfl, rfl, by decide, by decide, by decide, by decide, rfl⟩ rfl rfl rfl rfl hl.1 rfl (Nat.le_of_ble_eq_true rfl) dX4_safe_34 (fun H locs hP hD hS => ?_)
    refine lv_if_eq (tgt := 43) hx hb dX4_safe_37 (by decide) (fun c_3 => ?_) (fun c_3 => ?_)
    · have hf := itT c_3 hf
      refine lv_iload_n hx hb dX4_safe_43 rfl (lv_at hl 3 rfl) ?_
      refine lv_istore_n (lv' := [(2, .int x3), (0, .ref zv), (1, .int x1), (3, .int x3)]) hx hb dX4_safe_44 rfl hl (by decide) rfl (fun ls hl => ?_)
      refine lv_iinc (v := (x3 + (1 : Int32))) (lv' := [(3, .int (x3 + (1 : Int32))), (2, .int x3), (0, .ref zv), (1, .int x1)]) hx hb dX4_safe_45 hl (k := 3) rfl rfl (by decide) rfl (fun ls hl => ?_)
      refine lv_goto (tgt := 22) hx hb dX4_safe_48 (by decide) ?_
      exact K22 _ _ _ _ hf _ _ hP hD hS _ (lv_sub hl [2, 3, 1, 0] rfl)
    · have hf := itF c_3 hf
      refine lv_goto (tgt := 51) hx hb dX4_safe_40 (by decide) ?_
      refine lv_iload_n hx hb dX4_safe_51 rfl (lv_at hl 2 rfl) ?_
      obtain rfl := Option.some.inj hf
      exact s_iret (r := x2) hx hb hr hlocks hK hP hD hS dX4_safe_52
theorem t_X4_safe_22 {p : Program} {l : Launch} {e : Env} {s : State} {m : MethodId} {args : Array Value} {below : List Frame} {meth : Method} {c : Code} {D : va_G} {cI cJ : ClassId} {A : Nat → Prop} {fu : Nat} {zv qv6 qv8 zn zr zk zl zo qn0 qn1 qn2 qn3 qn4 : Nat} {SN : S32} {o : Int32 × S32} (C0 : Cx RX4 wsX4_safe cX4_safe 4 (some .int) D vwCl (tyS cI cJ) p s m args meth c) (hA : ∀ q : Nat, s.heap.size ≤ q → A q) : ∀ (n : Nat) (x1 : Int32) (x2 : Int32) (x3 : Int32) (SV : S32), f_X4_safe_22 fu  SN n x1 x2 x3 SV = some o → ∀ (H : Heap) (locs : List Loc), va_P D vwCl ((wV zv qv6 qv8 zn zr zk zl zo cI SV) ++ (wT zn qn0 qn1 qn2 qn3 qn4 cI SN)) H → va_D A ((wV zv qv6 qv8 zn zr zk zl zo cI SV) ++ (wT zn qn0 qn1 qn2 qn3 qn4 cI SN)) → va_S A s.heap H locs → ∀ (ls : Array Slot), lv_has ls 4 [(0, .ref zv), (1, .int x1), (2, .int x2), (3, .int x3)] → W p l e rm_X4_safe s m args below meth c H locs 0 0 (MQ below (sZi D vwCl (tyS cI cJ) A ((wV zv qv6 qv8 zn zr zk zl zo cI (o.2)) ++ (wT zn qn0 qn1 qn2 qn3 qn4 cI SN)) (o.1)) args s 0 0 A) (F0 m 22 ls []) := by
  intro n
  induction n with
  | zero =>
    intro x1 x2 x3 SV hf
    have hf : (none : Option (Int32 × S32)) = some o := hf
    cases hf
  | succ n ih => exact ts_X4_safe_22 (fu := fu) (k22 := f_X4_safe_22 fu  SN n) C0 hA  ih
set_option maxHeartbeats 4000000 in
set_option maxRecDepth 100000 in
theorem c_X4_safe (l : Launch) (D : va_G) (cI cJ : ClassId) (fu : Nat) (zv qv6 qv8 zn zr zk zl zo qn0 qn1 qn2 qn3 qn4 : Nat) (SV : S32) (SN : S32) (x1 : Int32) (o : Int32 × S32) (hf : f_X4_safe fu SV SN x1 = some o) : MI l yX4_safe wsX4_safe rm_X4_safe D vwCl (tyS cI cJ) [.ref zv, .int x1] ((wV zv qv6 qv8 zn zr zk zl zo cI SV) ++ (wT zn qn0 qn1 qn2 qn3 qn4 cI SN)) ((wV zv qv6 qv8 zn zr zk zl zo cI (o.2)) ++ (wT zn qn0 qn1 qn2 qn3 qn4 cI SN)) (o.1) := by
  intro sz
  refine s_entry (own := RX4) (cc := cX4_safe) (maxL := 4) (ret := (some .int)) (Qc := fun A => sZi D vwCl (tyS cI cJ) A ((wV zv qv6 qv8 zn zr zk zl zo cI (o.2)) ++ (wT zn qn0 qn1 qn2 qn3 qn4 cI SN)) (o.1)) rfl (by decide) rfl rfl (Nat.le_of_ble_eq_true rfl) ?_
  intro p e s m args below meth c A C0 hA hP hD hS ls hl
  obtain ⟨hx, hb, hr, hml, hown, hts, hlocks, hK⟩ := id C0
  have hl : lv_has ls 4 [(0, .ref zv), (1, .int x1)] := hl
  have hP : va_P D vwCl [(zv, .inr (3, [.ref zn, .ref zr, .ref zk, .int (SV 3 0), .ref zl, .ref zo, .ref qv6, .int (SV 7 0), .ref qv8])), (qv6, .inl (cI, 8, .inl (SV 6))), (qv8, .inl (cI, 7, .inl (SV 8))), (zn, .inr (2, [.ref qn0, .ref qn1, .ref qn2, .ref qn3, .ref qn4, .int (SN 5 0), .int (SN 6 0)])), (qn0, .inl (cI, 8, .inl (SN 0))), (qn1, .inl (cI, 8, .inl (SN 1))), (qn2, .inl (cI, 8, .inl (SN 2))), (qn3, .inl (cI, 8, .inl (SN 3))), (qn4, .inl (cI, 8, .inl (SN 4)))] s.heap := hP
  have hD : va_D A [(zv, .inr (3, [.ref zn, .ref zr, .ref zk, .int (SV 3 0), .ref zl, .ref zo, .ref qv6, .int (SV 7 0), .ref qv8])), (qv6, .inl (cI, 8, .inl (SV 6))), (qv8, .inl (cI, 7, .inl (SV 8))), (zn, .inr (2, [.ref qn0, .ref qn1, .ref qn2, .ref qn3, .ref qn4, .int (SN 5 0), .int (SN 6 0)])), (qn0, .inl (cI, 8, .inl (SN 0))), (qn1, .inl (cI, 8, .inl (SN 1))), (qn2, .inl (cI, 8, .inl (SN 2))), (qn3, .inl (cI, 8, .inl (SN 3))), (qn4, .inl (cI, 8, .inl (SN 4)))] := hD
  refine lv_aload_n hx hb dX4_safe_0 rfl (lv_at hl 0 rfl) ?_
  refine va_get (D := D) (ci := 3) (v := .ref zn) (C := RX4) (T := TX4) (N := 9) hx hb hts i_X4_safe_X4 hown hK hP 0 rfl rfl 0 (by decide) (hts _ q_X4_safe_1) (fun _ h9 => h9) rfl dX4_safe_1 ?_
  refine lv_iload_n hx hb dX4_safe_4 rfl (lv_at hl 1 rfl) ?_
  obtain ⟨o_1, h_1, hf⟩ := bd_some hf
  refine s_callVI (wc := (wT zn qn0 qn1 qn2 qn3 qn4 cI SN)) (wr := [(zv, .inr (3, [.ref zn, .ref zr, .ref zk, .int (SV 3 0), .ref zl, .ref zo, .ref qv6, .int (SV 7 0), .ref qv8])), (qv6, .inl (cI, 8, .inl (SV 6))), (qv8, .inl (cI, 7, .inl (SV 8)))]) (wc' := (wT zn qn0 qn1 qn2 qn3 qn4 cI SN)) (w' := [(zv, .inr (3, [.ref zn, .ref zr, .ref zk, .int (SV 3 0), .ref zl, .ref zo, .ref qv6, .int (SV 7 0), .ref qv8])), (qv6, .inl (cI, 8, .inl (SV 6))), (qv8, .inl (cI, 7, .inl (SV 8))), (zn, .inr (2, [.ref qn0, .ref qn1, .ref qn2, .ref qn3, .ref qn4, .int (SN 5 0), .int (SN 6 0)])), (qn0, .inl (cI, 8, .inl (SN 0))), (qn1, .inl (cI, 8, .inl (SN 1))), (qn2, .inl (cI, 8, .inl (SN 2))), (qn3, .inl (cI, 8, .inl (SN 3))), (qn4, .inl (cI, 8, .inl (SN 4)))]) (isC := [3, 4, 5, 6, 7, 8]) (isR := [0, 1, 2]) (perm := [0, 1, 2, 3, 4, 5, 6, 7, 8]) (As := [.int x1]) (rest := []) (ci := 2) (q := (RX3, TX3, 7)) ⟨hx, hb, hml, hown, hts⟩ (c_X3_isAlive l D cI cJ fu zn qn0 qn1 qn2 qn3 qn4 SN x1 o_1 h_1) (cwV 1 hts gX4_safe_X3_isAlive rfl rfl rfl (by decide +kernel) ⟨Nat.le_of_ble_eq_true rfl, Nat.le_of_ble_eq_true rfl⟩) hK hP hD hS hA ⟨rfl, rfl, by decide, by decide, by decide, by decide, rfl⟩ rfl rfl rfl rfl hl.1 rfl (Nat.le_of_ble_eq_true rfl) dX4_safe_5 (fun H locs hP hD hS => ?_)
  refine lv_if_ne (tgt := 17) hx hb dX4_safe_8 (by decide) (fun c_2 => ?_) (fun c_2 => ?_)
  · have hf := itF c_2 hf
    refine lv_bipush (v := (-9 : Int32)) hx hb dX4_safe_17 (by decide) ?_
    refine lv_istore_n (lv' := [(2, .int (-9 : Int32)), (0, .ref zv), (1, .int x1)]) hx hb dX4_safe_19 rfl hl (by decide) rfl (fun ls hl => ?_)
    refine lv_iconst (v := (0 : Int32)) hx hb dX4_safe_20 (by decide) ?_
    refine lv_istore_n (lv' := [(3, .int (0 : Int32)), (2, .int (-9 : Int32)), (0, .ref zv), (1, .int x1)]) hx hb dX4_safe_21 rfl hl (by decide) rfl (fun ls hl => ?_)
    exact t_X4_safe_22 (fu := fu) C0 hA  fu _ _ _ _ hf _ _ hP hD hS _ (lv_sub hl [2, 3, 1, 0] rfl)
  · have hf := itT c_2 hf
    refine lv_aload_n hx hb dX4_safe_11 rfl (lv_at hl 0 rfl) ?_
    refine lv_iconst (v := (-1 : Int32)) hx hb dX4_safe_12 (by decide) ?_
    obtain ⟨o_3, h_3, hf⟩ := bd_some hf
    refine s_callVI (wc := (wV zv qv6 qv8 zn zr zk zl zo cI SV)) (wr := [(zn, .inr (2, [.ref qn0, .ref qn1, .ref qn2, .ref qn3, .ref qn4, .int (SN 5 0), .int (SN 6 0)])), (qn0, .inl (cI, 8, .inl (SN 0))), (qn1, .inl (cI, 8, .inl (SN 1))), (qn2, .inl (cI, 8, .inl (SN 2))), (qn3, .inl (cI, 8, .inl (SN 3))), (qn4, .inl (cI, 8, .inl (SN 4)))]) (wc' := (wV zv qv6 qv8 zn zr zk zl zo cI (o_3.2))) (w' := [(zv, .inr (3, [.ref zn, .ref zr, .ref zk, .int ((o_3.2) 3 0), .ref zl, .ref zo, .ref qv6, .int ((o_3.2) 7 0), .ref qv8])), (qv6, .inl (cI, 8, .inl ((o_3.2) 6))), (qv8, .inl (cI, 7, .inl ((o_3.2) 8))), (zn, .inr (2, [.ref qn0, .ref qn1, .ref qn2, .ref qn3, .ref qn4, .int (SN 5 0), .int (SN 6 0)])), (qn0, .inl (cI, 8, .inl (SN 0))), (qn1, .inl (cI, 8, .inl (SN 1))), (qn2, .inl (cI, 8, .inl (SN 2))), (qn3, .inl (cI, 8, .inl (SN 3))), (qn4, .inl (cI, 8, .inl (SN 4)))]) (isC := [0, 1, 2]) (isR := [3, 4, 5, 6, 7, 8]) (perm := [6, 7, 8, 0, 1, 2, 3, 4, 5]) (As := [.int (-1 : Int32)]) (rest := []) (ci := 3) (q := (RX4, TX4, 9)) ⟨hx, hb, hml, hown, hts⟩ (c_X4_refuse l D cI cJ fu zv qv6 qv8 zn zr zk zl zo SV (-1 : Int32) o_3 h_3) (cwV 1 hts gX4_safe_X4_refuse rfl rfl rfl (by decide +kernel) ⟨Nat.le_of_ble_eq_true rfl, Nat.le_of_ble_eq_true rfl⟩) hK hP hD hS hA ⟨rfl, rfl, by decide, by decide, by decide, by decide, rfl⟩ rfl rfl rfl rfl hl.1 rfl (Nat.le_of_ble_eq_true rfl) dX4_safe_13 (fun H locs hP hD hS => ?_)
    obtain rfl := Option.some.inj hf
    exact s_iret (r := o_3.1) hx hb hr hlocks hK hP hD hS dX4_safe_16
theorem q_X4_carried_1 : (Cond.fieldLink RX4 10 "UpWhenDies" "now" "LUpWhenDies$Tower;" : Cond) ∈ wsX4_carried := List.mem_of_getElem? (i := 1) rfl
theorem i_X4_carried_X4 : ∀ w ∈ wsX40, w ∈ wsX4_carried := fun _ h => (List.mem_cons_of_mem _ (List.mem_append_left _ (List.mem_append_right _ h)))
abbrev rm_X4_carried : Room := { frames := 3, cells := 0, slots := 0, locals := 68 }
set_option maxHeartbeats 4000000 in
set_option maxRecDepth 100000 in
theorem c_X4_carried (l : Launch) (D : va_G) (cI cJ : ClassId) (fu : Nat) (zv qv6 qv8 zn zr zk zl zo qn0 qn1 qn2 qn3 qn4 : Nat) (SV : S32) (SN : S32) (x1 : Int32) (o : Int32 × S32) (hf : f_X4_carried fu SV SN x1 = some o) : MI l yX4_carried wsX4_carried rm_X4_carried D vwCl (tyS cI cJ) [.ref zv, .int x1] ((wV zv qv6 qv8 zn zr zk zl zo cI SV) ++ (wT zn qn0 qn1 qn2 qn3 qn4 cI SN)) ((wV zv qv6 qv8 zn zr zk zl zo cI (o.2)) ++ (wT zn qn0 qn1 qn2 qn3 qn4 cI SN)) (o.1) := by
  intro sz
  refine s_entry (own := RX4) (cc := cX4_carried) (maxL := 2) (ret := (some .int)) (Qc := fun A => sZi D vwCl (tyS cI cJ) A ((wV zv qv6 qv8 zn zr zk zl zo cI (o.2)) ++ (wT zn qn0 qn1 qn2 qn3 qn4 cI SN)) (o.1)) rfl (by decide) rfl rfl (Nat.le_of_ble_eq_true rfl) ?_
  intro p e s m args below meth c A C0 hA hP hD hS ls hl
  obtain ⟨hx, hb, hr, hml, hown, hts, hlocks, hK⟩ := id C0
  have hl : lv_has ls 2 [(0, .ref zv), (1, .int x1)] := hl
  have hP : va_P D vwCl [(zv, .inr (3, [.ref zn, .ref zr, .ref zk, .int (SV 3 0), .ref zl, .ref zo, .ref qv6, .int (SV 7 0), .ref qv8])), (qv6, .inl (cI, 8, .inl (SV 6))), (qv8, .inl (cI, 7, .inl (SV 8))), (zn, .inr (2, [.ref qn0, .ref qn1, .ref qn2, .ref qn3, .ref qn4, .int (SN 5 0), .int (SN 6 0)])), (qn0, .inl (cI, 8, .inl (SN 0))), (qn1, .inl (cI, 8, .inl (SN 1))), (qn2, .inl (cI, 8, .inl (SN 2))), (qn3, .inl (cI, 8, .inl (SN 3))), (qn4, .inl (cI, 8, .inl (SN 4)))] s.heap := hP
  have hD : va_D A [(zv, .inr (3, [.ref zn, .ref zr, .ref zk, .int (SV 3 0), .ref zl, .ref zo, .ref qv6, .int (SV 7 0), .ref qv8])), (qv6, .inl (cI, 8, .inl (SV 6))), (qv8, .inl (cI, 7, .inl (SV 8))), (zn, .inr (2, [.ref qn0, .ref qn1, .ref qn2, .ref qn3, .ref qn4, .int (SN 5 0), .int (SN 6 0)])), (qn0, .inl (cI, 8, .inl (SN 0))), (qn1, .inl (cI, 8, .inl (SN 1))), (qn2, .inl (cI, 8, .inl (SN 2))), (qn3, .inl (cI, 8, .inl (SN 3))), (qn4, .inl (cI, 8, .inl (SN 4)))] := hD
  refine lv_aload_n hx hb dX4_carried_0 rfl (lv_at hl 0 rfl) ?_
  refine va_get (D := D) (ci := 3) (v := .ref zn) (C := RX4) (T := TX4) (N := 9) hx hb hts i_X4_carried_X4 hown hK hP 0 rfl rfl 0 (by decide) (hts _ q_X4_carried_1) (fun _ h9 => h9) rfl dX4_carried_1 ?_
  refine lv_iload_n hx hb dX4_carried_4 rfl (lv_at hl 1 rfl) ?_
  obtain ⟨o_1, h_1, hf⟩ := bd_some hf
  refine s_callVI (wc := (wT zn qn0 qn1 qn2 qn3 qn4 cI SN)) (wr := [(zv, .inr (3, [.ref zn, .ref zr, .ref zk, .int (SV 3 0), .ref zl, .ref zo, .ref qv6, .int (SV 7 0), .ref qv8])), (qv6, .inl (cI, 8, .inl (SV 6))), (qv8, .inl (cI, 7, .inl (SV 8)))]) (wc' := (wT zn qn0 qn1 qn2 qn3 qn4 cI SN)) (w' := [(zv, .inr (3, [.ref zn, .ref zr, .ref zk, .int (SV 3 0), .ref zl, .ref zo, .ref qv6, .int (SV 7 0), .ref qv8])), (qv6, .inl (cI, 8, .inl (SV 6))), (qv8, .inl (cI, 7, .inl (SV 8))), (zn, .inr (2, [.ref qn0, .ref qn1, .ref qn2, .ref qn3, .ref qn4, .int (SN 5 0), .int (SN 6 0)])), (qn0, .inl (cI, 8, .inl (SN 0))), (qn1, .inl (cI, 8, .inl (SN 1))), (qn2, .inl (cI, 8, .inl (SN 2))), (qn3, .inl (cI, 8, .inl (SN 3))), (qn4, .inl (cI, 8, .inl (SN 4)))]) (isC := [3, 4, 5, 6, 7, 8]) (isR := [0, 1, 2]) (perm := [0, 1, 2, 3, 4, 5, 6, 7, 8]) (As := [.int x1]) (rest := []) (ci := 2) (q := (RX3, TX3, 7)) ⟨hx, hb, hml, hown, hts⟩ (c_X3_areAlive l D cI cJ fu zn qn0 qn1 qn2 qn3 qn4 SN x1 o_1 h_1) (cwV 1 hts gX4_carried_X3_areAlive rfl rfl rfl (by decide +kernel) ⟨Nat.le_of_ble_eq_true rfl, Nat.le_of_ble_eq_true rfl⟩) hK hP hD hS hA ⟨rfl, rfl, by decide, by decide, by decide, by decide, rfl⟩ rfl rfl rfl rfl hl.1 rfl (Nat.le_of_ble_eq_true rfl) dX4_carried_5 (fun H locs hP hD hS => ?_)
  refine lv_if_ne (tgt := 17) hx hb dX4_carried_8 (by decide) (fun c_2 => ?_) (fun c_2 => ?_)
  · have hf := itF c_2 hf
    refine lv_aload_n hx hb dX4_carried_17 rfl (lv_at hl 0 rfl) ?_
    refine va_get (D := D) (ci := 3) (v := .ref zn) (C := RX4) (T := TX4) (N := 9) hx hb hts i_X4_carried_X4 hown hK hP 0 rfl rfl 0 (by decide) (hts _ q_X4_carried_1) (fun _ h9 => h9) rfl dX4_carried_18 ?_
    refine lv_iload_n hx hb dX4_carried_21 rfl (lv_at hl 1 rfl) ?_
    obtain ⟨o_3, h_3, hf⟩ := bd_some hf
    refine s_callVI (wc := (wT zn qn0 qn1 qn2 qn3 qn4 cI SN)) (wr := [(zv, .inr (3, [.ref zn, .ref zr, .ref zk, .int (SV 3 0), .ref zl, .ref zo, .ref qv6, .int (SV 7 0), .ref qv8])), (qv6, .inl (cI, 8, .inl (SV 6))), (qv8, .inl (cI, 7, .inl (SV 8)))]) (wc' := (wT zn qn0 qn1 qn2 qn3 qn4 cI SN)) (w' := [(zv, .inr (3, [.ref zn, .ref zr, .ref zk, .int (SV 3 0), .ref zl, .ref zo, .ref qv6, .int (SV 7 0), .ref qv8])), (qv6, .inl (cI, 8, .inl (SV 6))), (qv8, .inl (cI, 7, .inl (SV 8))), (zn, .inr (2, [.ref qn0, .ref qn1, .ref qn2, .ref qn3, .ref qn4, .int (SN 5 0), .int (SN 6 0)])), (qn0, .inl (cI, 8, .inl (SN 0))), (qn1, .inl (cI, 8, .inl (SN 1))), (qn2, .inl (cI, 8, .inl (SN 2))), (qn3, .inl (cI, 8, .inl (SN 3))), (qn4, .inl (cI, 8, .inl (SN 4)))]) (isC := [3, 4, 5, 6, 7, 8]) (isR := [0, 1, 2]) (perm := [0, 1, 2, 3, 4, 5, 6, 7, 8]) (As := [.int x1]) (rest := []) (ci := 2) (q := (RX3, TX3, 7)) ⟨hx, hb, hml, hown, hts⟩ (c_X3_burden l D cI cJ fu zn qn0 qn1 qn2 qn3 qn4 SN x1 o_3 h_3) (cwV 1 hts gX4_carried_X3_burden rfl rfl rfl (by decide +kernel) ⟨Nat.le_of_ble_eq_true rfl, Nat.le_of_ble_eq_true rfl⟩) hK hP hD hS hA ⟨rfl, rfl, by decide, by decide, by decide, by decide, rfl⟩ rfl rfl rfl rfl hl.1 rfl (Nat.le_of_ble_eq_true rfl) dX4_carried_22 (fun H locs hP hD hS => ?_)
    obtain rfl := Option.some.inj hf
    exact s_iret (r := o_3) hx hb hr hlocks hK hP hD hS dX4_carried_25
  · have hf := itT c_2 hf
    refine lv_aload_n hx hb dX4_carried_11 rfl (lv_at hl 0 rfl) ?_
    refine lv_iconst (v := (-1 : Int32)) hx hb dX4_carried_12 (by decide) ?_
    obtain ⟨o_4, h_4, hf⟩ := bd_some hf
    refine s_callVI (wc := (wV zv qv6 qv8 zn zr zk zl zo cI SV)) (wr := [(zn, .inr (2, [.ref qn0, .ref qn1, .ref qn2, .ref qn3, .ref qn4, .int (SN 5 0), .int (SN 6 0)])), (qn0, .inl (cI, 8, .inl (SN 0))), (qn1, .inl (cI, 8, .inl (SN 1))), (qn2, .inl (cI, 8, .inl (SN 2))), (qn3, .inl (cI, 8, .inl (SN 3))), (qn4, .inl (cI, 8, .inl (SN 4)))]) (wc' := (wV zv qv6 qv8 zn zr zk zl zo cI (o_4.2))) (w' := [(zv, .inr (3, [.ref zn, .ref zr, .ref zk, .int ((o_4.2) 3 0), .ref zl, .ref zo, .ref qv6, .int ((o_4.2) 7 0), .ref qv8])), (qv6, .inl (cI, 8, .inl ((o_4.2) 6))), (qv8, .inl (cI, 7, .inl ((o_4.2) 8))), (zn, .inr (2, [.ref qn0, .ref qn1, .ref qn2, .ref qn3, .ref qn4, .int (SN 5 0), .int (SN 6 0)])), (qn0, .inl (cI, 8, .inl (SN 0))), (qn1, .inl (cI, 8, .inl (SN 1))), (qn2, .inl (cI, 8, .inl (SN 2))), (qn3, .inl (cI, 8, .inl (SN 3))), (qn4, .inl (cI, 8, .inl (SN 4)))]) (isC := [0, 1, 2]) (isR := [3, 4, 5, 6, 7, 8]) (perm := [6, 7, 8, 0, 1, 2, 3, 4, 5]) (As := [.int (-1 : Int32)]) (rest := []) (ci := 3) (q := (RX4, TX4, 9)) ⟨hx, hb, hml, hown, hts⟩ (c_X4_refuse l D cI cJ fu zv qv6 qv8 zn zr zk zl zo SV (-1 : Int32) o_4 h_4) (cwV 1 hts gX4_carried_X4_refuse rfl rfl rfl (by decide +kernel) ⟨Nat.le_of_ble_eq_true rfl, Nat.le_of_ble_eq_true rfl⟩) hK hP hD hS hA ⟨rfl, rfl, by decide, by decide, by decide, by decide, rfl⟩ rfl rfl rfl rfl hl.1 rfl (Nat.le_of_ble_eq_true rfl) dX4_carried_13 (fun H locs hP hD hS => ?_)
    obtain rfl := Option.some.inj hf
    exact s_iret (r := o_4.1) hx hb hr hlocks hK hP hD hS dX4_carried_16
theorem q_X4_leastCarried_1 : (Cond.fieldLink RX4 10 "UpWhenDies" "now" "LUpWhenDies$Tower;" : Cond) ∈ wsX4_leastCarried := List.mem_of_getElem? (i := 1) rfl
theorem i_X4_leastCarried_X4 : ∀ w ∈ wsX40, w ∈ wsX4_leastCarried := fun _ h => (List.mem_cons_of_mem _ (List.mem_append_left _ (List.mem_append_right _ h)))
abbrev rm_X4_leastCarried : Room := { frames := 3, cells := 0, slots := 0, locals := 68 }
set_option maxHeartbeats 4000000 in
set_option maxRecDepth 100000 in
theorem t_X4_leastCarried_51 {p : Program} {l : Launch} {e : Env} {s : State} {m : MethodId} {args : Array Value} {below : List Frame} {meth : Method} {c : Code} {D : va_G} {cI cJ : ClassId} {A : Nat → Prop} {fu : Nat} {zv qv6 qv8 zn zr zk zl zo qn0 qn1 qn2 qn3 qn4 : Nat} {SV : S32} {SN : S32} {o : Int32} (C0 : Cx RX4 wsX4_leastCarried cX4_leastCarried 5 (some .int) D vwCl (tyS cI cJ) p s m args meth c) (hA : ∀ q : Nat, s.heap.size ≤ q → A q) {k7 : Int32 → Int32 → Int32 → Option (Int32)} (K7 : ∀ (x1 : Int32) (x2 : Int32) (x3 : Int32), k7 x1 x2 x3 = some o → ∀ (H : Heap) (locs : List Loc), va_P D vwCl ((wV zv qv6 qv8 zn zr zk zl zo cI SV) ++ (wT zn qn0 qn1 qn2 qn3 qn4 cI SN)) H → va_D A ((wV zv qv6 qv8 zn zr zk zl zo cI SV) ++ (wT zn qn0 qn1 qn2 qn3 qn4 cI SN)) → va_S A s.heap H locs → ∀ (ls : Array Slot), lv_has ls 5 [(0, .ref zv), (1, .int x1), (2, .int x2), (3, .int x3)] → W p l e rm_X4_leastCarried s m args below meth c H locs 0 0 (MQ below (sZi D vwCl (tyS cI cJ) A ((wV zv qv6 qv8 zn zr zk zl zo cI SV) ++ (wT zn qn0 qn1 qn2 qn3 qn4 cI SN)) (o)) args s 0 0 A) (F0 m 7 ls [])) : ∀ (x3 : Int32) (x4 : Int32), f_X4_leastCarried_51 fu k7 SV SN x3 x4 = some o → ∀ (H : Heap) (locs : List Loc), va_P D vwCl ((wV zv qv6 qv8 zn zr zk zl zo cI SV) ++ (wT zn qn0 qn1 qn2 qn3 qn4 cI SN)) H → va_D A ((wV zv qv6 qv8 zn zr zk zl zo cI SV) ++ (wT zn qn0 qn1 qn2 qn3 qn4 cI SN)) → va_S A s.heap H locs → ∀ (ls : Array Slot), lv_has ls 5 [(0, .ref zv), (3, .int x3), (4, .int x4)] → W p l e rm_X4_leastCarried s m args below meth c H locs 0 0 (MQ below (sZi D vwCl (tyS cI cJ) A ((wV zv qv6 qv8 zn zr zk zl zo cI SV) ++ (wT zn qn0 qn1 qn2 qn3 qn4 cI SN)) (o)) args s 0 0 A) (F0 m 51 ls []) := by
  obtain ⟨hx, hb, hr, hml, hown, hts, hlocks, hK⟩ := id C0
  intro x3 x4 hf H locs hP hD hS ls hl
  have hP : va_P D vwCl [(zv, .inr (3, [.ref zn, .ref zr, .ref zk, .int (SV 3 0), .ref zl, .ref zo, .ref qv6, .int (SV 7 0), .ref qv8])), (qv6, .inl (cI, 8, .inl (SV 6))), (qv8, .inl (cI, 7, .inl (SV 8))), (zn, .inr (2, [.ref qn0, .ref qn1, .ref qn2, .ref qn3, .ref qn4, .int (SN 5 0), .int (SN 6 0)])), (qn0, .inl (cI, 8, .inl (SN 0))), (qn1, .inl (cI, 8, .inl (SN 1))), (qn2, .inl (cI, 8, .inl (SN 2))), (qn3, .inl (cI, 8, .inl (SN 3))), (qn4, .inl (cI, 8, .inl (SN 4)))] H := hP
  have hD : va_D A [(zv, .inr (3, [.ref zn, .ref zr, .ref zk, .int (SV 3 0), .ref zl, .ref zo, .ref qv6, .int (SV 7 0), .ref qv8])), (qv6, .inl (cI, 8, .inl (SV 6))), (qv8, .inl (cI, 7, .inl (SV 8))), (zn, .inr (2, [.ref qn0, .ref qn1, .ref qn2, .ref qn3, .ref qn4, .int (SN 5 0), .int (SN 6 0)])), (qn0, .inl (cI, 8, .inl (SN 0))), (qn1, .inl (cI, 8, .inl (SN 1))), (qn2, .inl (cI, 8, .inl (SN 2))), (qn3, .inl (cI, 8, .inl (SN 3))), (qn4, .inl (cI, 8, .inl (SN 4)))] := hD
  refine lv_iload_n hx hb dX4_leastCarried_51 rfl (lv_at hl 1 rfl) ?_
  refine lv_istore_n (lv' := [(1, .int x3), (0, .ref zv), (3, .int x3), (4, .int x4)]) hx hb dX4_leastCarried_52 rfl hl (by decide) rfl (fun ls hl => ?_)
  refine lv_iload hx hb dX4_leastCarried_53 (lv_at hl 3 rfl) ?_
  refine lv_istore_n (lv' := [(2, .int x4), (1, .int x3), (0, .ref zv), (3, .int x3), (4, .int x4)]) hx hb dX4_leastCarried_55 rfl hl (by decide) rfl (fun ls hl => ?_)
  refine lv_iinc (v := (x3 + (1 : Int32))) (lv' := [(3, .int (x3 + (1 : Int32))), (2, .int x4), (1, .int x3), (0, .ref zv), (4, .int x4)]) hx hb dX4_leastCarried_56 hl (k := 3) rfl rfl (by decide) rfl (fun ls hl => ?_)
  refine lv_goto (tgt := 7) hx hb dX4_leastCarried_59 (by decide) ?_
  exact K7 _ _ _ hf _ _ hP hD hS _ (lv_sub hl [3, 2, 1, 0] rfl)
set_option maxHeartbeats 4000000 in
set_option maxRecDepth 100000 in
theorem ts_X4_leastCarried_7 {p : Program} {l : Launch} {e : Env} {s : State} {m : MethodId} {args : Array Value} {below : List Frame} {meth : Method} {c : Code} {D : va_G} {cI cJ : ClassId} {A : Nat → Prop} {fu : Nat} {zv qv6 qv8 zn zr zk zl zo qn0 qn1 qn2 qn3 qn4 : Nat} {SV : S32} {SN : S32} {o : Int32} (C0 : Cx RX4 wsX4_leastCarried cX4_leastCarried 5 (some .int) D vwCl (tyS cI cJ) p s m args meth c) (hA : ∀ q : Nat, s.heap.size ≤ q → A q) {k7 : Int32 → Int32 → Int32 → Option (Int32)} (K7 : ∀ (x1 : Int32) (x2 : Int32) (x3 : Int32), k7 x1 x2 x3 = some o → ∀ (H : Heap) (locs : List Loc), va_P D vwCl ((wV zv qv6 qv8 zn zr zk zl zo cI SV) ++ (wT zn qn0 qn1 qn2 qn3 qn4 cI SN)) H → va_D A ((wV zv qv6 qv8 zn zr zk zl zo cI SV) ++ (wT zn qn0 qn1 qn2 qn3 qn4 cI SN)) → va_S A s.heap H locs → ∀ (ls : Array Slot), lv_has ls 5 [(0, .ref zv), (1, .int x1), (2, .int x2), (3, .int x3)] → W p l e rm_X4_leastCarried s m args below meth c H locs 0 0 (MQ below (sZi D vwCl (tyS cI cJ) A ((wV zv qv6 qv8 zn zr zk zl zo cI SV) ++ (wT zn qn0 qn1 qn2 qn3 qn4 cI SN)) (o)) args s 0 0 A) (F0 m 7 ls [])) : ∀ (x1 : Int32) (x2 : Int32) (x3 : Int32), s_X4_leastCarried_7 fu  k7 SV SN x1 x2 x3 = some o → ∀ (H : Heap) (locs : List Loc), va_P D vwCl ((wV zv qv6 qv8 zn zr zk zl zo cI SV) ++ (wT zn qn0 qn1 qn2 qn3 qn4 cI SN)) H → va_D A ((wV zv qv6 qv8 zn zr zk zl zo cI SV) ++ (wT zn qn0 qn1 qn2 qn3 qn4 cI SN)) → va_S A s.heap H locs → ∀ (ls : Array Slot), lv_has ls 5 [(0, .ref zv), (1, .int x1), (2, .int x2), (3, .int x3)] → W p l e rm_X4_leastCarried s m args below meth c H locs 0 0 (MQ below (sZi D vwCl (tyS cI cJ) A ((wV zv qv6 qv8 zn zr zk zl zo cI SV) ++ (wT zn qn0 qn1 qn2 qn3 qn4 cI SN)) (o)) args s 0 0 A) (F0 m 7 ls []) := by
  obtain ⟨hx, hb, hr, hml, hown, hts, hlocks, hK⟩ := id C0
  intro x1 x2 x3 hf H locs hP hD hS ls hl
  have hP : va_P D vwCl [(zv, .inr (3, [.ref zn, .ref zr, .ref zk, .int (SV 3 0), .ref zl, .ref zo, .ref qv6, .int (SV 7 0), .ref qv8])), (qv6, .inl (cI, 8, .inl (SV 6))), (qv8, .inl (cI, 7, .inl (SV 8))), (zn, .inr (2, [.ref qn0, .ref qn1, .ref qn2, .ref qn3, .ref qn4, .int (SN 5 0), .int (SN 6 0)])), (qn0, .inl (cI, 8, .inl (SN 0))), (qn1, .inl (cI, 8, .inl (SN 1))), (qn2, .inl (cI, 8, .inl (SN 2))), (qn3, .inl (cI, 8, .inl (SN 3))), (qn4, .inl (cI, 8, .inl (SN 4)))] H := hP
  have hD : va_D A [(zv, .inr (3, [.ref zn, .ref zr, .ref zk, .int (SV 3 0), .ref zl, .ref zo, .ref qv6, .int (SV 7 0), .ref qv8])), (qv6, .inl (cI, 8, .inl (SV 6))), (qv8, .inl (cI, 7, .inl (SV 8))), (zn, .inr (2, [.ref qn0, .ref qn1, .ref qn2, .ref qn3, .ref qn4, .int (SN 5 0), .int (SN 6 0)])), (qn0, .inl (cI, 8, .inl (SN 0))), (qn1, .inl (cI, 8, .inl (SN 1))), (qn2, .inl (cI, 8, .inl (SN 2))), (qn3, .inl (cI, 8, .inl (SN 3))), (qn4, .inl (cI, 8, .inl (SN 4)))] := hD
  refine lv_iload_n hx hb dX4_leastCarried_7 rfl (lv_at hl 3 rfl) ?_
  refine lv_bipush (v := (8 : Int32)) hx hb dX4_leastCarried_8 (by decide) ?_
  refine lv_icmp_ge (tgt := 62) hx hb dX4_leastCarried_10 (by decide) (fun c_1 => ?_) (fun c_1 => ?_)
  · have hf := itT c_1 hf
    refine lv_iload_n hx hb dX4_leastCarried_62 rfl (lv_at hl 1 rfl) ?_
    obtain rfl := Option.some.inj hf
    exact s_iret (r := x1) hx hb hr hlocks hK hP hD hS dX4_leastCarried_63
  · have hf := itF c_1 hf
    refine lv_aload_n hx hb dX4_leastCarried_13 rfl (lv_at hl 0 rfl) ?_
    refine va_get (D := D) (ci := 3) (v := .ref zn) (C := RX4) (T := TX4) (N := 9) hx hb hts i_X4_leastCarried_X4 hown hK hP 0 rfl rfl 0 (by decide) (hts _ q_X4_leastCarried_1) (fun _ h9 => h9) rfl dX4_leastCarried_14 ?_
    refine lv_iload_n hx hb dX4_leastCarried_17 rfl (lv_at hl 3 rfl) ?_
    obtain ⟨o_2, h_2, hf⟩ := bd_some hf
    refine s_callVI (wc := (wT zn qn0 qn1 qn2 qn3 qn4 cI SN)) (wr := [(zv, .inr (3, [.ref zn, .ref zr, .ref zk, .int (SV 3 0), .ref zl, .ref zo, .ref qv6, .int (SV 7 0), .ref qv8])), (qv6, .inl (cI, 8, .inl (SV 6))), (qv8, .inl (cI, 7, .inl (SV 8)))]) (wc' := (wT zn qn0 qn1 qn2 qn3 qn4 cI SN)) (w' := [(zv, .inr (3, [.ref zn, .ref zr, .ref zk, .int (SV 3 0), .ref zl, .ref zo, .ref qv6, .int (SV 7 0), .ref qv8])), (qv6, .inl (cI, 8, .inl (SV 6))), (qv8, .inl (cI, 7, .inl (SV 8))), (zn, .inr (2, [.ref qn0, .ref qn1, .ref qn2, .ref qn3, .ref qn4, .int (SN 5 0), .int (SN 6 0)])), (qn0, .inl (cI, 8, .inl (SN 0))), (qn1, .inl (cI, 8, .inl (SN 1))), (qn2, .inl (cI, 8, .inl (SN 2))), (qn3, .inl (cI, 8, .inl (SN 3))), (qn4, .inl (cI, 8, .inl (SN 4)))]) (isC := [3, 4, 5, 6, 7, 8]) (isR := [0, 1, 2]) (perm := [0, 1, 2, 3, 4, 5, 6, 7, 8]) (As := [.int x3]) (rest := []) (ci := 2) (q := (RX3, TX3, 7)) ⟨hx, hb, hml, hown, hts⟩ (c_X3_isAlive l D cI cJ fu zn qn0 qn1 qn2 qn3 qn4 SN x3 o_2 h_2) (cwV 1 hts gX4_leastCarried_X3_isAlive rfl rfl rfl (by decide +kernel) ⟨Nat.le_of_ble_eq_true rfl, Nat.le_of_ble_eq_true rfl⟩) hK hP hD hS hA ⟨rfl, rfl, by decide, by decide, by decide, by decide, rfl⟩ rfl rfl rfl rfl hl.1 rfl (Nat.le_of_ble_eq_true rfl) dX4_leastCarried_18 (fun H locs hP hD hS => ?_)
    refine lv_if_ne (tgt := 27) hx hb dX4_leastCarried_21 (by decide) (fun c_3 => ?_) (fun c_3 => ?_)
    · have hf := itF c_3 hf
      refine lv_aload_n hx hb dX4_leastCarried_27 rfl (lv_at hl 0 rfl) ?_
      refine va_get (D := D) (ci := 3) (v := .ref zn) (C := RX4) (T := TX4) (N := 9) hx hb hts i_X4_leastCarried_X4 hown hK hP 0 rfl rfl 0 (by decide) (hts _ q_X4_leastCarried_1) (fun _ h9 => h9) rfl dX4_leastCarried_28 ?_
      refine lv_iconst (v := (1 : Int32)) hx hb dX4_leastCarried_31 (by decide) ?_
      refine lv_iload_n hx hb dX4_leastCarried_32 rfl (lv_at hl 3 rfl) ?_
      refine lv_ishl hx hb dX4_leastCarried_33 ?_
      obtain ⟨o_4, h_4, hf⟩ := bd_some hf
      refine s_callVI (wc := (wT zn qn0 qn1 qn2 qn3 qn4 cI SN)) (wr := [(zv, .inr (3, [.ref zn, .ref zr, .ref zk, .int (SV 3 0), .ref zl, .ref zo, .ref qv6, .int (SV 7 0), .ref qv8])), (qv6, .inl (cI, 8, .inl (SV 6))), (qv8, .inl (cI, 7, .inl (SV 8)))]) (wc' := (wT zn qn0 qn1 qn2 qn3 qn4 cI SN)) (w' := [(zv, .inr (3, [.ref zn, .ref zr, .ref zk, .int (SV 3 0), .ref zl, .ref zo, .ref qv6, .int (SV 7 0), .ref qv8])), (qv6, .inl (cI, 8, .inl (SV 6))), (qv8, .inl (cI, 7, .inl (SV 8))), (zn, .inr (2, [.ref qn0, .ref qn1, .ref qn2, .ref qn3, .ref qn4, .int (SN 5 0), .int (SN 6 0)])), (qn0, .inl (cI, 8, .inl (SN 0))), (qn1, .inl (cI, 8, .inl (SN 1))), (qn2, .inl (cI, 8, .inl (SN 2))), (qn3, .inl (cI, 8, .inl (SN 3))), (qn4, .inl (cI, 8, .inl (SN 4)))]) (isC := [3, 4, 5, 6, 7, 8]) (isR := [0, 1, 2]) (perm := [0, 1, 2, 3, 4, 5, 6, 7, 8]) (As := [.int ((1 : Int32) <<< (x3 &&& 31))]) (rest := []) (ci := 2) (q := (RX3, TX3, 7)) ⟨hx, hb, hml, hown, hts⟩ (c_X3_burden l D cI cJ fu zn qn0 qn1 qn2 qn3 qn4 SN ((1 : Int32) <<< (x3 &&& 31)) o_4 h_4) (cwV 1 hts gX4_leastCarried_X3_burden rfl rfl rfl (by decide +kernel) ⟨Nat.le_of_ble_eq_true rfl, Nat.le_of_ble_eq_true rfl⟩) hK hP hD hS hA ⟨rfl, rfl, by decide, by decide, by decide, by decide, rfl⟩ rfl rfl rfl rfl hl.1 rfl (Nat.le_of_ble_eq_true rfl) dX4_leastCarried_34 (fun H locs hP hD hS => ?_)
      refine lv_istore (lv' := [(4, .int o_4), (0, .ref zv), (1, .int x1), (2, .int x2), (3, .int x3)]) hx hb dX4_leastCarried_37 hl (by decide) rfl (fun ls hl => ?_)
      refine lv_iload_n hx hb dX4_leastCarried_39 rfl (lv_at hl 2 rfl) ?_
      refine lv_bipush (v := (-9 : Int32)) hx hb dX4_leastCarried_40 (by decide) ?_
      refine lv_icmp_eq (tgt := 51) hx hb dX4_leastCarried_42 (by decide) (fun c_5 => ?_) (fun c_5 => ?_)
      · have hf := itT c_5 hf
        exact t_X4_leastCarried_51 (fu := fu) C0 hA K7 _ _ hf _ _ hP hD hS _ (lv_sub hl [1, 4, 0] rfl)
      · have hf := itF c_5 hf
        refine lv_iload hx hb dX4_leastCarried_45 (lv_at hl 0 rfl) ?_
        refine lv_iload_n hx hb dX4_leastCarried_47 rfl (lv_at hl 3 rfl) ?_
        refine lv_icmp_ge (tgt := 56) hx hb dX4_leastCarried_48 (by decide) (fun c_6 => ?_) (fun c_6 => ?_)
        · have hf := itT c_6 hf
          refine lv_iinc (v := (x3 + (1 : Int32))) (lv' := [(3, .int (x3 + (1 : Int32))), (4, .int o_4), (0, .ref zv), (1, .int x1), (2, .int x2)]) hx hb dX4_leastCarried_56 hl (k := 4) rfl rfl (by decide) rfl (fun ls hl => ?_)
          refine lv_goto (tgt := 7) hx hb dX4_leastCarried_59 (by decide) ?_
          exact K7 _ _ _ hf _ _ hP hD hS _ (lv_sub hl [2, 3, 4, 0] rfl)
        · have hf := itF c_6 hf
          exact t_X4_leastCarried_51 (fu := fu) C0 hA K7 _ _ hf _ _ hP hD hS _ (lv_sub hl [1, 4, 0] rfl)
    · have hf := itT c_3 hf
      refine lv_goto (tgt := 56) hx hb dX4_leastCarried_24 (by decide) ?_
      refine lv_iinc (v := (x3 + (1 : Int32))) (lv' := [(3, .int (x3 + (1 : Int32))), (0, .ref zv), (1, .int x1), (2, .int x2)]) hx hb dX4_leastCarried_56 hl (k := 3) rfl rfl (by decide) rfl (fun ls hl => ?_)
      refine lv_goto (tgt := 7) hx hb dX4_leastCarried_59 (by decide) ?_
      exact K7 _ _ _ hf _ _ hP hD hS _ (lv_sub hl [1, 2, 3, 0] rfl)
theorem t_X4_leastCarried_7 {p : Program} {l : Launch} {e : Env} {s : State} {m : MethodId} {args : Array Value} {below : List Frame} {meth : Method} {c : Code} {D : va_G} {cI cJ : ClassId} {A : Nat → Prop} {fu : Nat} {zv qv6 qv8 zn zr zk zl zo qn0 qn1 qn2 qn3 qn4 : Nat} {SV : S32} {SN : S32} {o : Int32} (C0 : Cx RX4 wsX4_leastCarried cX4_leastCarried 5 (some .int) D vwCl (tyS cI cJ) p s m args meth c) (hA : ∀ q : Nat, s.heap.size ≤ q → A q) : ∀ (n : Nat) (x1 : Int32) (x2 : Int32) (x3 : Int32), f_X4_leastCarried_7 fu  SV SN n x1 x2 x3 = some o → ∀ (H : Heap) (locs : List Loc), va_P D vwCl ((wV zv qv6 qv8 zn zr zk zl zo cI SV) ++ (wT zn qn0 qn1 qn2 qn3 qn4 cI SN)) H → va_D A ((wV zv qv6 qv8 zn zr zk zl zo cI SV) ++ (wT zn qn0 qn1 qn2 qn3 qn4 cI SN)) → va_S A s.heap H locs → ∀ (ls : Array Slot), lv_has ls 5 [(0, .ref zv), (1, .int x1), (2, .int x2), (3, .int x3)] → W p l e rm_X4_leastCarried s m args below meth c H locs 0 0 (MQ below (sZi D vwCl (tyS cI cJ) A ((wV zv qv6 qv8 zn zr zk zl zo cI SV) ++ (wT zn qn0 qn1 qn2 qn3 qn4 cI SN)) (o)) args s 0 0 A) (F0 m 7 ls []) := by
  intro n
  induction n with
  | zero =>
    intro x1 x2 x3 hf
    have hf : (none : Option (Int32)) = some o := hf
    cases hf
  | succ n ih => exact ts_X4_leastCarried_7 (fu := fu) (k7 := f_X4_leastCarried_7 fu  SV SN n) C0 hA  ih
set_option maxHeartbeats 4000000 in
set_option maxRecDepth 100000 in
theorem c_X4_leastCarried (l : Launch) (D : va_G) (cI cJ : ClassId) (fu : Nat) (zv qv6 qv8 zn zr zk zl zo qn0 qn1 qn2 qn3 qn4 : Nat) (SV : S32) (SN : S32) (o : Int32) (hf : f_X4_leastCarried fu SV SN = some o) : MI l yX4_leastCarried wsX4_leastCarried rm_X4_leastCarried D vwCl (tyS cI cJ) [.ref zv] ((wV zv qv6 qv8 zn zr zk zl zo cI SV) ++ (wT zn qn0 qn1 qn2 qn3 qn4 cI SN)) ((wV zv qv6 qv8 zn zr zk zl zo cI SV) ++ (wT zn qn0 qn1 qn2 qn3 qn4 cI SN)) (o) := by
  intro sz
  refine s_entry (own := RX4) (cc := cX4_leastCarried) (maxL := 5) (ret := (some .int)) (Qc := fun A => sZi D vwCl (tyS cI cJ) A ((wV zv qv6 qv8 zn zr zk zl zo cI SV) ++ (wT zn qn0 qn1 qn2 qn3 qn4 cI SN)) (o)) rfl (by decide) rfl rfl (Nat.le_of_ble_eq_true rfl) ?_
  intro p e s m args below meth c A C0 hA hP hD hS ls hl
  obtain ⟨hx, hb, hr, hml, hown, hts, hlocks, hK⟩ := id C0
  have hl : lv_has ls 5 [(0, .ref zv)] := hl
  have hP : va_P D vwCl [(zv, .inr (3, [.ref zn, .ref zr, .ref zk, .int (SV 3 0), .ref zl, .ref zo, .ref qv6, .int (SV 7 0), .ref qv8])), (qv6, .inl (cI, 8, .inl (SV 6))), (qv8, .inl (cI, 7, .inl (SV 8))), (zn, .inr (2, [.ref qn0, .ref qn1, .ref qn2, .ref qn3, .ref qn4, .int (SN 5 0), .int (SN 6 0)])), (qn0, .inl (cI, 8, .inl (SN 0))), (qn1, .inl (cI, 8, .inl (SN 1))), (qn2, .inl (cI, 8, .inl (SN 2))), (qn3, .inl (cI, 8, .inl (SN 3))), (qn4, .inl (cI, 8, .inl (SN 4)))] s.heap := hP
  have hD : va_D A [(zv, .inr (3, [.ref zn, .ref zr, .ref zk, .int (SV 3 0), .ref zl, .ref zo, .ref qv6, .int (SV 7 0), .ref qv8])), (qv6, .inl (cI, 8, .inl (SV 6))), (qv8, .inl (cI, 7, .inl (SV 8))), (zn, .inr (2, [.ref qn0, .ref qn1, .ref qn2, .ref qn3, .ref qn4, .int (SN 5 0), .int (SN 6 0)])), (qn0, .inl (cI, 8, .inl (SN 0))), (qn1, .inl (cI, 8, .inl (SN 1))), (qn2, .inl (cI, 8, .inl (SN 2))), (qn3, .inl (cI, 8, .inl (SN 3))), (qn4, .inl (cI, 8, .inl (SN 4)))] := hD
  refine lv_bipush (v := (-9 : Int32)) hx hb dX4_leastCarried_0 (by decide) ?_
  refine lv_istore_n (lv' := [(1, .int (-9 : Int32)), (0, .ref zv)]) hx hb dX4_leastCarried_2 rfl hl (by decide) rfl (fun ls hl => ?_)
  refine lv_iconst (v := (0 : Int32)) hx hb dX4_leastCarried_3 (by decide) ?_
  refine lv_istore_n (lv' := [(2, .int (0 : Int32)), (1, .int (-9 : Int32)), (0, .ref zv)]) hx hb dX4_leastCarried_4 rfl hl (by decide) rfl (fun ls hl => ?_)
  refine lv_iconst (v := (0 : Int32)) hx hb dX4_leastCarried_5 (by decide) ?_
  refine lv_istore_n (lv' := [(3, .int (0 : Int32)), (2, .int (0 : Int32)), (1, .int (-9 : Int32)), (0, .ref zv)]) hx hb dX4_leastCarried_6 rfl hl (by decide) rfl (fun ls hl => ?_)
  exact t_X4_leastCarried_7 (fu := fu) C0 hA  fu _ _ _ hf _ _ hP hD hS _ (lv_sub hl [3, 2, 1, 0] rfl)
theorem q_X4_rings_1 : (Cond.fieldLink RX4 10 "UpWhenDies" "now" "LUpWhenDies$Tower;" : Cond) ∈ wsX4_rings := List.mem_of_getElem? (i := 1) rfl
theorem i_X4_rings_X4 : ∀ w ∈ wsX40, w ∈ wsX4_rings := fun _ h => (List.mem_cons_of_mem _ (List.mem_append_left _ (List.mem_append_right _ h)))
abbrev rm_X4_rings : Room := { frames := 4, cells := 0, slots := 0, locals := 88 }
set_option maxHeartbeats 4000000 in
set_option maxRecDepth 100000 in
theorem c_X4_rings (l : Launch) (D : va_G) (cI cJ : ClassId) (fu : Nat) (zv qv6 qv8 zn zr zk zl zo qn0 qn1 qn2 qn3 qn4 : Nat) (SV : S32) (SN : S32) (o : Int32) (hf : f_X4_rings fu SV SN = some o) : MI l yX4_rings wsX4_rings rm_X4_rings D vwCl (tyS cI cJ) [.ref zv] ((wV zv qv6 qv8 zn zr zk zl zo cI SV) ++ (wT zn qn0 qn1 qn2 qn3 qn4 cI SN)) ((wV zv qv6 qv8 zn zr zk zl zo cI SV) ++ (wT zn qn0 qn1 qn2 qn3 qn4 cI SN)) (o) := by
  intro sz
  refine s_entry (own := RX4) (cc := cX4_rings) (maxL := 1) (ret := (some .int)) (Qc := fun A => sZi D vwCl (tyS cI cJ) A ((wV zv qv6 qv8 zn zr zk zl zo cI SV) ++ (wT zn qn0 qn1 qn2 qn3 qn4 cI SN)) (o)) rfl (by decide) rfl rfl (Nat.le_of_ble_eq_true rfl) ?_
  intro p e s m args below meth c A C0 hA hP hD hS ls hl
  obtain ⟨hx, hb, hr, hml, hown, hts, hlocks, hK⟩ := id C0
  have hl : lv_has ls 1 [(0, .ref zv)] := hl
  have hP : va_P D vwCl [(zv, .inr (3, [.ref zn, .ref zr, .ref zk, .int (SV 3 0), .ref zl, .ref zo, .ref qv6, .int (SV 7 0), .ref qv8])), (qv6, .inl (cI, 8, .inl (SV 6))), (qv8, .inl (cI, 7, .inl (SV 8))), (zn, .inr (2, [.ref qn0, .ref qn1, .ref qn2, .ref qn3, .ref qn4, .int (SN 5 0), .int (SN 6 0)])), (qn0, .inl (cI, 8, .inl (SN 0))), (qn1, .inl (cI, 8, .inl (SN 1))), (qn2, .inl (cI, 8, .inl (SN 2))), (qn3, .inl (cI, 8, .inl (SN 3))), (qn4, .inl (cI, 8, .inl (SN 4)))] s.heap := hP
  have hD : va_D A [(zv, .inr (3, [.ref zn, .ref zr, .ref zk, .int (SV 3 0), .ref zl, .ref zo, .ref qv6, .int (SV 7 0), .ref qv8])), (qv6, .inl (cI, 8, .inl (SV 6))), (qv8, .inl (cI, 7, .inl (SV 8))), (zn, .inr (2, [.ref qn0, .ref qn1, .ref qn2, .ref qn3, .ref qn4, .int (SN 5 0), .int (SN 6 0)])), (qn0, .inl (cI, 8, .inl (SN 0))), (qn1, .inl (cI, 8, .inl (SN 1))), (qn2, .inl (cI, 8, .inl (SN 2))), (qn3, .inl (cI, 8, .inl (SN 3))), (qn4, .inl (cI, 8, .inl (SN 4)))] := hD
  refine lv_aload_n hx hb dX4_rings_0 rfl (lv_at hl 0 rfl) ?_
  refine va_get (D := D) (ci := 3) (v := .ref zn) (C := RX4) (T := TX4) (N := 9) hx hb hts i_X4_rings_X4 hown hK hP 0 rfl rfl 0 (by decide) (hts _ q_X4_rings_1) (fun _ h9 => h9) rfl dX4_rings_1 ?_
  obtain ⟨o_1, h_1, hf⟩ := bd_some hf
  refine s_callVI (wc := (wT zn qn0 qn1 qn2 qn3 qn4 cI SN)) (wr := [(zv, .inr (3, [.ref zn, .ref zr, .ref zk, .int (SV 3 0), .ref zl, .ref zo, .ref qv6, .int (SV 7 0), .ref qv8])), (qv6, .inl (cI, 8, .inl (SV 6))), (qv8, .inl (cI, 7, .inl (SV 8)))]) (wc' := (wT zn qn0 qn1 qn2 qn3 qn4 cI SN)) (w' := [(zv, .inr (3, [.ref zn, .ref zr, .ref zk, .int (SV 3 0), .ref zl, .ref zo, .ref qv6, .int (SV 7 0), .ref qv8])), (qv6, .inl (cI, 8, .inl (SV 6))), (qv8, .inl (cI, 7, .inl (SV 8))), (zn, .inr (2, [.ref qn0, .ref qn1, .ref qn2, .ref qn3, .ref qn4, .int (SN 5 0), .int (SN 6 0)])), (qn0, .inl (cI, 8, .inl (SN 0))), (qn1, .inl (cI, 8, .inl (SN 1))), (qn2, .inl (cI, 8, .inl (SN 2))), (qn3, .inl (cI, 8, .inl (SN 3))), (qn4, .inl (cI, 8, .inl (SN 4)))]) (isC := [3, 4, 5, 6, 7, 8]) (isR := [0, 1, 2]) (perm := [0, 1, 2, 3, 4, 5, 6, 7, 8]) (As := []) (rest := []) (ci := 2) (q := (RX3, TX3, 7)) ⟨hx, hb, hml, hown, hts⟩ (c_X3_inRings l D cI cJ fu zn qn0 qn1 qn2 qn3 qn4 SN o_1 h_1) (cwV 0 hts gX4_rings_X3_inRings rfl rfl rfl (by decide +kernel) ⟨Nat.le_of_ble_eq_true rfl, Nat.le_of_ble_eq_true rfl⟩) hK hP hD hS hA ⟨rfl, rfl, by decide, by decide, by decide, by decide, rfl⟩ rfl rfl rfl rfl hl.1 rfl (Nat.le_of_ble_eq_true rfl) dX4_rings_4 (fun H locs hP hD hS => ?_)
  obtain rfl := Option.some.inj hf
  exact s_iret (r := o_1) hx hb hr hlocks hK hP hD hS dX4_rings_7
theorem q_X4_changing_1 : (Cond.fieldLink RX4 10 "UpWhenDies" "now" "LUpWhenDies$Tower;" : Cond) ∈ wsX4_changing := List.mem_of_getElem? (i := 1) rfl
theorem i_X4_changing_X4 : ∀ w ∈ wsX40, w ∈ wsX4_changing := fun _ h => (List.mem_cons_of_mem _ (List.mem_append_left _ (List.mem_append_right _ h)))
abbrev rm_X4_changing : Room := { frames := 5, cells := 0, slots := 0, locals := 111 }
set_option maxHeartbeats 4000000 in
set_option maxRecDepth 100000 in
theorem c_X4_changing (l : Launch) (D : va_G) (cI cJ : ClassId) (fu : Nat) (zv qv6 qv8 zn zr zk zl zo qn0 qn1 qn2 qn3 qn4 : Nat) (SV : S32) (SN : S32) (o : Int32 × S32) (hf : f_X4_changing fu SV SN = some o) : MI l yX4_changing wsX4_changing rm_X4_changing D vwCl (tyS cI cJ) [.ref zv] ((wV zv qv6 qv8 zn zr zk zl zo cI SV) ++ (wT zn qn0 qn1 qn2 qn3 qn4 cI SN)) ((wV zv qv6 qv8 zn zr zk zl zo cI SV) ++ (wT zn qn0 qn1 qn2 qn3 qn4 cI (o.2))) (o.1) := by
  intro sz
  refine s_entry (own := RX4) (cc := cX4_changing) (maxL := 1) (ret := (some .int)) (Qc := fun A => sZi D vwCl (tyS cI cJ) A ((wV zv qv6 qv8 zn zr zk zl zo cI SV) ++ (wT zn qn0 qn1 qn2 qn3 qn4 cI (o.2))) (o.1)) rfl (by decide) rfl rfl (Nat.le_of_ble_eq_true rfl) ?_
  intro p e s m args below meth c A C0 hA hP hD hS ls hl
  obtain ⟨hx, hb, hr, hml, hown, hts, hlocks, hK⟩ := id C0
  have hl : lv_has ls 1 [(0, .ref zv)] := hl
  have hP : va_P D vwCl [(zv, .inr (3, [.ref zn, .ref zr, .ref zk, .int (SV 3 0), .ref zl, .ref zo, .ref qv6, .int (SV 7 0), .ref qv8])), (qv6, .inl (cI, 8, .inl (SV 6))), (qv8, .inl (cI, 7, .inl (SV 8))), (zn, .inr (2, [.ref qn0, .ref qn1, .ref qn2, .ref qn3, .ref qn4, .int (SN 5 0), .int (SN 6 0)])), (qn0, .inl (cI, 8, .inl (SN 0))), (qn1, .inl (cI, 8, .inl (SN 1))), (qn2, .inl (cI, 8, .inl (SN 2))), (qn3, .inl (cI, 8, .inl (SN 3))), (qn4, .inl (cI, 8, .inl (SN 4)))] s.heap := hP
  have hD : va_D A [(zv, .inr (3, [.ref zn, .ref zr, .ref zk, .int (SV 3 0), .ref zl, .ref zo, .ref qv6, .int (SV 7 0), .ref qv8])), (qv6, .inl (cI, 8, .inl (SV 6))), (qv8, .inl (cI, 7, .inl (SV 8))), (zn, .inr (2, [.ref qn0, .ref qn1, .ref qn2, .ref qn3, .ref qn4, .int (SN 5 0), .int (SN 6 0)])), (qn0, .inl (cI, 8, .inl (SN 0))), (qn1, .inl (cI, 8, .inl (SN 1))), (qn2, .inl (cI, 8, .inl (SN 2))), (qn3, .inl (cI, 8, .inl (SN 3))), (qn4, .inl (cI, 8, .inl (SN 4)))] := hD
  refine lv_aload_n hx hb dX4_changing_0 rfl (lv_at hl 0 rfl) ?_
  refine va_get (D := D) (ci := 3) (v := .ref zn) (C := RX4) (T := TX4) (N := 9) hx hb hts i_X4_changing_X4 hown hK hP 0 rfl rfl 0 (by decide) (hts _ q_X4_changing_1) (fun _ h9 => h9) rfl dX4_changing_1 ?_
  obtain ⟨o_1, h_1, hf⟩ := bd_some hf
  refine s_callVI (wc := (wT zn qn0 qn1 qn2 qn3 qn4 cI SN)) (wr := [(zv, .inr (3, [.ref zn, .ref zr, .ref zk, .int (SV 3 0), .ref zl, .ref zo, .ref qv6, .int (SV 7 0), .ref qv8])), (qv6, .inl (cI, 8, .inl (SV 6))), (qv8, .inl (cI, 7, .inl (SV 8)))]) (wc' := (wT zn qn0 qn1 qn2 qn3 qn4 cI (o_1.2))) (w' := [(zv, .inr (3, [.ref zn, .ref zr, .ref zk, .int (SV 3 0), .ref zl, .ref zo, .ref qv6, .int (SV 7 0), .ref qv8])), (qv6, .inl (cI, 8, .inl (SV 6))), (qv8, .inl (cI, 7, .inl (SV 8))), (zn, .inr (2, [.ref qn0, .ref qn1, .ref qn2, .ref qn3, .ref qn4, .int ((o_1.2) 5 0), .int ((o_1.2) 6 0)])), (qn0, .inl (cI, 8, .inl ((o_1.2) 0))), (qn1, .inl (cI, 8, .inl ((o_1.2) 1))), (qn2, .inl (cI, 8, .inl ((o_1.2) 2))), (qn3, .inl (cI, 8, .inl ((o_1.2) 3))), (qn4, .inl (cI, 8, .inl ((o_1.2) 4)))]) (isC := [3, 4, 5, 6, 7, 8]) (isR := [0, 1, 2]) (perm := [0, 1, 2, 3, 4, 5, 6, 7, 8]) (As := []) (rest := []) (ci := 2) (q := (RX3, TX3, 7)) ⟨hx, hb, hml, hown, hts⟩ (c_X3_changeRings l D cI cJ fu zn qn0 qn1 qn2 qn3 qn4 SN o_1 h_1) (cwV 0 hts gX4_changing_X3_changeRings rfl rfl rfl (by decide +kernel) ⟨Nat.le_of_ble_eq_true rfl, Nat.le_of_ble_eq_true rfl⟩) hK hP hD hS hA ⟨rfl, rfl, by decide, by decide, by decide, by decide, rfl⟩ rfl rfl rfl rfl hl.1 rfl (Nat.le_of_ble_eq_true rfl) dX4_changing_4 (fun H locs hP hD hS => ?_)
  obtain rfl := Option.some.inj hf
  exact s_iret (r := o_1.1) hx hb hr hlocks hK hP hD hS dX4_changing_7
theorem q_X4_free_1 : (Cond.fieldLink RX4 10 "UpWhenDies" "now" "LUpWhenDies$Tower;" : Cond) ∈ wsX4_free := List.mem_of_getElem? (i := 1) rfl
theorem i_X4_free_X4 : ∀ w ∈ wsX40, w ∈ wsX4_free := fun _ h => (List.mem_cons_of_mem _ (List.mem_append_left _ (List.mem_append_right _ h)))
abbrev rm_X4_free : Room := { frames := 2, cells := 0, slots := 0, locals := 44 }
set_option maxHeartbeats 4000000 in
set_option maxRecDepth 100000 in
theorem c_X4_free (l : Launch) (D : va_G) (cI cJ : ClassId) (fu : Nat) (zv qv6 qv8 zn zr zk zl zo qn0 qn1 qn2 qn3 qn4 : Nat) (SV : S32) (SN : S32) (o : Int32) (hf : f_X4_free fu SV SN = some o) : MI l yX4_free wsX4_free rm_X4_free D vwCl (tyS cI cJ) [.ref zv] ((wV zv qv6 qv8 zn zr zk zl zo cI SV) ++ (wT zn qn0 qn1 qn2 qn3 qn4 cI SN)) ((wV zv qv6 qv8 zn zr zk zl zo cI SV) ++ (wT zn qn0 qn1 qn2 qn3 qn4 cI SN)) (o) := by
  intro sz
  refine s_entry (own := RX4) (cc := cX4_free) (maxL := 1) (ret := (some .int)) (Qc := fun A => sZi D vwCl (tyS cI cJ) A ((wV zv qv6 qv8 zn zr zk zl zo cI SV) ++ (wT zn qn0 qn1 qn2 qn3 qn4 cI SN)) (o)) rfl (by decide) rfl rfl (Nat.le_of_ble_eq_true rfl) ?_
  intro p e s m args below meth c A C0 hA hP hD hS ls hl
  obtain ⟨hx, hb, hr, hml, hown, hts, hlocks, hK⟩ := id C0
  have hl : lv_has ls 1 [(0, .ref zv)] := hl
  have hP : va_P D vwCl [(zv, .inr (3, [.ref zn, .ref zr, .ref zk, .int (SV 3 0), .ref zl, .ref zo, .ref qv6, .int (SV 7 0), .ref qv8])), (qv6, .inl (cI, 8, .inl (SV 6))), (qv8, .inl (cI, 7, .inl (SV 8))), (zn, .inr (2, [.ref qn0, .ref qn1, .ref qn2, .ref qn3, .ref qn4, .int (SN 5 0), .int (SN 6 0)])), (qn0, .inl (cI, 8, .inl (SN 0))), (qn1, .inl (cI, 8, .inl (SN 1))), (qn2, .inl (cI, 8, .inl (SN 2))), (qn3, .inl (cI, 8, .inl (SN 3))), (qn4, .inl (cI, 8, .inl (SN 4)))] s.heap := hP
  have hD : va_D A [(zv, .inr (3, [.ref zn, .ref zr, .ref zk, .int (SV 3 0), .ref zl, .ref zo, .ref qv6, .int (SV 7 0), .ref qv8])), (qv6, .inl (cI, 8, .inl (SV 6))), (qv8, .inl (cI, 7, .inl (SV 8))), (zn, .inr (2, [.ref qn0, .ref qn1, .ref qn2, .ref qn3, .ref qn4, .int (SN 5 0), .int (SN 6 0)])), (qn0, .inl (cI, 8, .inl (SN 0))), (qn1, .inl (cI, 8, .inl (SN 1))), (qn2, .inl (cI, 8, .inl (SN 2))), (qn3, .inl (cI, 8, .inl (SN 3))), (qn4, .inl (cI, 8, .inl (SN 4)))] := hD
  refine lv_sipush (v := (1023 : Int32)) hx hb dX4_free_0 (by decide) ?_
  refine lv_aload_n hx hb dX4_free_3 rfl (lv_at hl 0 rfl) ?_
  refine va_get (D := D) (ci := 3) (v := .ref zn) (C := RX4) (T := TX4) (N := 9) hx hb hts i_X4_free_X4 hown hK hP 0 rfl rfl 0 (by decide) (hts _ q_X4_free_1) (fun _ h9 => h9) rfl dX4_free_4 ?_
  refine lv_aload_n hx hb dX4_free_7 rfl (lv_at hl 0 rfl) ?_
  refine va_get (D := D) (ci := 3) (v := .ref zn) (C := RX4) (T := TX4) (N := 9) hx hb hts i_X4_free_X4 hown hK hP 0 rfl rfl 0 (by decide) (hts _ q_X4_free_1) (fun _ h9 => h9) rfl dX4_free_8 ?_
  obtain ⟨o_1, h_1, hf⟩ := bd_some hf
  refine s_callVI (wc := (wT zn qn0 qn1 qn2 qn3 qn4 cI SN)) (wr := [(zv, .inr (3, [.ref zn, .ref zr, .ref zk, .int (SV 3 0), .ref zl, .ref zo, .ref qv6, .int (SV 7 0), .ref qv8])), (qv6, .inl (cI, 8, .inl (SV 6))), (qv8, .inl (cI, 7, .inl (SV 8)))]) (wc' := (wT zn qn0 qn1 qn2 qn3 qn4 cI SN)) (w' := [(zv, .inr (3, [.ref zn, .ref zr, .ref zk, .int (SV 3 0), .ref zl, .ref zo, .ref qv6, .int (SV 7 0), .ref qv8])), (qv6, .inl (cI, 8, .inl (SV 6))), (qv8, .inl (cI, 7, .inl (SV 8))), (zn, .inr (2, [.ref qn0, .ref qn1, .ref qn2, .ref qn3, .ref qn4, .int (SN 5 0), .int (SN 6 0)])), (qn0, .inl (cI, 8, .inl (SN 0))), (qn1, .inl (cI, 8, .inl (SN 1))), (qn2, .inl (cI, 8, .inl (SN 2))), (qn3, .inl (cI, 8, .inl (SN 3))), (qn4, .inl (cI, 8, .inl (SN 4)))]) (isC := [3, 4, 5, 6, 7, 8]) (isR := [0, 1, 2]) (perm := [0, 1, 2, 3, 4, 5, 6, 7, 8]) (As := []) (rest := [.ref zn, .int (1023 : Int32)]) (ci := 2) (q := (RX3, TX3, 7)) ⟨hx, hb, hml, hown, hts⟩ (c_X3_living l D cI cJ fu zn qn0 qn1 qn2 qn3 qn4 SN o_1 h_1) (cwV 0 hts gX4_free_X3_living rfl rfl rfl (by decide +kernel) ⟨Nat.le_of_ble_eq_true rfl, Nat.le_of_ble_eq_true rfl⟩) hK hP hD hS hA ⟨rfl, rfl, by decide, by decide, by decide, by decide, rfl⟩ rfl rfl rfl rfl hl.1 rfl (Nat.le_of_ble_eq_true rfl) dX4_free_11 (fun H locs hP hD hS => ?_)
  obtain ⟨o_2, h_2, hf⟩ := bd_some hf
  refine s_callVI (wc := (wT zn qn0 qn1 qn2 qn3 qn4 cI SN)) (wr := [(zv, .inr (3, [.ref zn, .ref zr, .ref zk, .int (SV 3 0), .ref zl, .ref zo, .ref qv6, .int (SV 7 0), .ref qv8])), (qv6, .inl (cI, 8, .inl (SV 6))), (qv8, .inl (cI, 7, .inl (SV 8)))]) (wc' := (wT zn qn0 qn1 qn2 qn3 qn4 cI SN)) (w' := [(zv, .inr (3, [.ref zn, .ref zr, .ref zk, .int (SV 3 0), .ref zl, .ref zo, .ref qv6, .int (SV 7 0), .ref qv8])), (qv6, .inl (cI, 8, .inl (SV 6))), (qv8, .inl (cI, 7, .inl (SV 8))), (zn, .inr (2, [.ref qn0, .ref qn1, .ref qn2, .ref qn3, .ref qn4, .int (SN 5 0), .int (SN 6 0)])), (qn0, .inl (cI, 8, .inl (SN 0))), (qn1, .inl (cI, 8, .inl (SN 1))), (qn2, .inl (cI, 8, .inl (SN 2))), (qn3, .inl (cI, 8, .inl (SN 3))), (qn4, .inl (cI, 8, .inl (SN 4)))]) (isC := [3, 4, 5, 6, 7, 8]) (isR := [0, 1, 2]) (perm := [0, 1, 2, 3, 4, 5, 6, 7, 8]) (As := [.int o_1]) (rest := [.int (1023 : Int32)]) (ci := 2) (q := (RX3, TX3, 7)) ⟨hx, hb, hml, hown, hts⟩ (c_X3_floorsOf l D cI cJ fu zn qn0 qn1 qn2 qn3 qn4 SN o_1 o_2 h_2) (cwV 1 hts gX4_free_X3_floorsOf rfl rfl rfl (by decide +kernel) ⟨Nat.le_of_ble_eq_true rfl, Nat.le_of_ble_eq_true rfl⟩) hK hP hD hS hA ⟨rfl, rfl, by decide, by decide, by decide, by decide, rfl⟩ rfl rfl rfl rfl hl.1 rfl (Nat.le_of_ble_eq_true rfl) dX4_free_14 (fun H locs hP hD hS => ?_)
  refine lv_iconst (v := (-1 : Int32)) hx hb dX4_free_17 (by decide) ?_
  refine lv_ixor hx hb dX4_free_18 ?_
  refine lv_iand hx hb dX4_free_19 ?_
  obtain rfl := Option.some.inj hf
  exact s_iret (r := ((1023 : Int32) &&& (o_2 ^^^ (-1 : Int32)))) hx hb hr hlocks hK hP hD hS dX4_free_20
theorem q_X4_ages_1 : (Cond.fieldLink RX4 10 "UpWhenDies" "now" "LUpWhenDies$Tower;" : Cond) ∈ wsX4_ages := List.mem_of_getElem? (i := 1) rfl
theorem i_X4_ages_X4 : ∀ w ∈ wsX40, w ∈ wsX4_ages := fun _ h => (List.mem_cons_of_mem _ (List.mem_append_left _ (List.mem_append_right _ h)))
abbrev rm_X4_ages : Room := { frames := 3, cells := 0, slots := 0, locals := 65 }
set_option maxHeartbeats 4000000 in
set_option maxRecDepth 100000 in
theorem t_X4_ages_16 {p : Program} {l : Launch} {e : Env} {s : State} {m : MethodId} {args : Array Value} {below : List Frame} {meth : Method} {c : Code} {D : va_G} {cI cJ : ClassId} {A : Nat → Prop} {fu : Nat} {zv qv6 qv8 zn zr zk zl zo qn0 qn1 qn2 qn3 qn4 : Nat} {SN : S32} {o : Int32 × S32} (C0 : Cx RX4 wsX4_ages cX4_ages 6 (some .int) D vwCl (tyS cI cJ) p s m args meth c) (hA : ∀ q : Nat, s.heap.size ≤ q → A q) : ∀ (SV : S32), f_X4_ages_16 fu  SN SV = some o → ∀ (H : Heap) (locs : List Loc), va_P D vwCl ((wV zv qv6 qv8 zn zr zk zl zo cI SV) ++ (wT zn qn0 qn1 qn2 qn3 qn4 cI SN)) H → va_D A ((wV zv qv6 qv8 zn zr zk zl zo cI SV) ++ (wT zn qn0 qn1 qn2 qn3 qn4 cI SN)) → va_S A s.heap H locs → ∀ (ls : Array Slot), lv_has ls 6 [(0, .ref zv)] → W p l e rm_X4_ages s m args below meth c H locs 0 0 (MQ below (sZi D vwCl (tyS cI cJ) A ((wV zv qv6 qv8 zn zr zk zl zo cI (o.2)) ++ (wT zn qn0 qn1 qn2 qn3 qn4 cI SN)) (o.1)) args s 0 0 A) (F0 m 16 ls []) := by
  obtain ⟨hx, hb, hr, hml, hown, hts, hlocks, hK⟩ := id C0
  intro SV hf H locs hP hD hS ls hl
  have hP : va_P D vwCl [(zv, .inr (3, [.ref zn, .ref zr, .ref zk, .int (SV 3 0), .ref zl, .ref zo, .ref qv6, .int (SV 7 0), .ref qv8])), (qv6, .inl (cI, 8, .inl (SV 6))), (qv8, .inl (cI, 7, .inl (SV 8))), (zn, .inr (2, [.ref qn0, .ref qn1, .ref qn2, .ref qn3, .ref qn4, .int (SN 5 0), .int (SN 6 0)])), (qn0, .inl (cI, 8, .inl (SN 0))), (qn1, .inl (cI, 8, .inl (SN 1))), (qn2, .inl (cI, 8, .inl (SN 2))), (qn3, .inl (cI, 8, .inl (SN 3))), (qn4, .inl (cI, 8, .inl (SN 4)))] H := hP
  have hD : va_D A [(zv, .inr (3, [.ref zn, .ref zr, .ref zk, .int (SV 3 0), .ref zl, .ref zo, .ref qv6, .int (SV 7 0), .ref qv8])), (qv6, .inl (cI, 8, .inl (SV 6))), (qv8, .inl (cI, 7, .inl (SV 8))), (zn, .inr (2, [.ref qn0, .ref qn1, .ref qn2, .ref qn3, .ref qn4, .int (SN 5 0), .int (SN 6 0)])), (qn0, .inl (cI, 8, .inl (SN 0))), (qn1, .inl (cI, 8, .inl (SN 1))), (qn2, .inl (cI, 8, .inl (SN 2))), (qn3, .inl (cI, 8, .inl (SN 3))), (qn4, .inl (cI, 8, .inl (SN 4)))] := hD
  refine lv_aload_n hx hb dX4_ages_16 rfl (lv_at hl 0 rfl) ?_
  refine lv_bipush (v := (-2 : Int32)) hx hb dX4_ages_17 (by decide) ?_
  obtain ⟨o_1, h_1, hf⟩ := bd_some hf
  refine s_callVI (wc := (wV zv qv6 qv8 zn zr zk zl zo cI SV)) (wr := [(zn, .inr (2, [.ref qn0, .ref qn1, .ref qn2, .ref qn3, .ref qn4, .int (SN 5 0), .int (SN 6 0)])), (qn0, .inl (cI, 8, .inl (SN 0))), (qn1, .inl (cI, 8, .inl (SN 1))), (qn2, .inl (cI, 8, .inl (SN 2))), (qn3, .inl (cI, 8, .inl (SN 3))), (qn4, .inl (cI, 8, .inl (SN 4)))]) (wc' := (wV zv qv6 qv8 zn zr zk zl zo cI (o_1.2))) (w' := [(zv, .inr (3, [.ref zn, .ref zr, .ref zk, .int ((o_1.2) 3 0), .ref zl, .ref zo, .ref qv6, .int ((o_1.2) 7 0), .ref qv8])), (qv6, .inl (cI, 8, .inl ((o_1.2) 6))), (qv8, .inl (cI, 7, .inl ((o_1.2) 8))), (zn, .inr (2, [.ref qn0, .ref qn1, .ref qn2, .ref qn3, .ref qn4, .int (SN 5 0), .int (SN 6 0)])), (qn0, .inl (cI, 8, .inl (SN 0))), (qn1, .inl (cI, 8, .inl (SN 1))), (qn2, .inl (cI, 8, .inl (SN 2))), (qn3, .inl (cI, 8, .inl (SN 3))), (qn4, .inl (cI, 8, .inl (SN 4)))]) (isC := [0, 1, 2]) (isR := [3, 4, 5, 6, 7, 8]) (perm := [6, 7, 8, 0, 1, 2, 3, 4, 5]) (As := [.int (-2 : Int32)]) (rest := []) (ci := 3) (q := (RX4, TX4, 9)) ⟨hx, hb, hml, hown, hts⟩ (c_X4_refuse l D cI cJ fu zv qv6 qv8 zn zr zk zl zo SV (-2 : Int32) o_1 h_1) (cwV 1 hts gX4_ages_X4_refuse rfl rfl rfl (by decide +kernel) ⟨Nat.le_of_ble_eq_true rfl, Nat.le_of_ble_eq_true rfl⟩) hK hP hD hS hA ⟨rfl, rfl, by decide, by decide, by decide, by decide, rfl⟩ rfl rfl rfl rfl hl.1 rfl (Nat.le_of_ble_eq_true rfl) dX4_ages_19 (fun H locs hP hD hS => ?_)
  obtain rfl := Option.some.inj hf
  exact s_iret (r := o_1.1) hx hb hr hlocks hK hP hD hS dX4_ages_22
set_option maxHeartbeats 4000000 in
set_option maxRecDepth 100000 in
theorem t_X4_ages_72 {p : Program} {l : Launch} {e : Env} {s : State} {m : MethodId} {args : Array Value} {below : List Frame} {meth : Method} {c : Code} {D : va_G} {cI cJ : ClassId} {A : Nat → Prop} {fu : Nat} {zv qv6 qv8 zn zr zk zl zo qn0 qn1 qn2 qn3 qn4 : Nat} {SN : S32} {o : Int32 × S32} (C0 : Cx RX4 wsX4_ages cX4_ages 6 (some .int) D vwCl (tyS cI cJ) p s m args meth c) (hA : ∀ q : Nat, s.heap.size ≤ q → A q) : ∀ (x2 : Int32) (x3 : Int32) (x4 : Int32) (SV : S32), f_X4_ages_72 fu  SN x2 x3 x4 SV = some o → ∀ (H : Heap) (locs : List Loc), va_P D vwCl ((wV zv qv6 qv8 zn zr zk zl zo cI SV) ++ (wT zn qn0 qn1 qn2 qn3 qn4 cI SN)) H → va_D A ((wV zv qv6 qv8 zn zr zk zl zo cI SV) ++ (wT zn qn0 qn1 qn2 qn3 qn4 cI SN)) → va_S A s.heap H locs → ∀ (ls : Array Slot), lv_has ls 6 [(2, .int x2), (3, .int x3), (4, .int x4)] → W p l e rm_X4_ages s m args below meth c H locs 0 0 (MQ below (sZi D vwCl (tyS cI cJ) A ((wV zv qv6 qv8 zn zr zk zl zo cI (o.2)) ++ (wT zn qn0 qn1 qn2 qn3 qn4 cI SN)) (o.1)) args s 0 0 A) (F0 m 72 ls []) := by
  obtain ⟨hx, hb, hr, hml, hown, hts, hlocks, hK⟩ := id C0
  intro x2 x3 x4 SV hf H locs hP hD hS ls hl
  have hP : va_P D vwCl [(zv, .inr (3, [.ref zn, .ref zr, .ref zk, .int (SV 3 0), .ref zl, .ref zo, .ref qv6, .int (SV 7 0), .ref qv8])), (qv6, .inl (cI, 8, .inl (SV 6))), (qv8, .inl (cI, 7, .inl (SV 8))), (zn, .inr (2, [.ref qn0, .ref qn1, .ref qn2, .ref qn3, .ref qn4, .int (SN 5 0), .int (SN 6 0)])), (qn0, .inl (cI, 8, .inl (SN 0))), (qn1, .inl (cI, 8, .inl (SN 1))), (qn2, .inl (cI, 8, .inl (SN 2))), (qn3, .inl (cI, 8, .inl (SN 3))), (qn4, .inl (cI, 8, .inl (SN 4)))] H := hP
  have hD : va_D A [(zv, .inr (3, [.ref zn, .ref zr, .ref zk, .int (SV 3 0), .ref zl, .ref zo, .ref qv6, .int (SV 7 0), .ref qv8])), (qv6, .inl (cI, 8, .inl (SV 6))), (qv8, .inl (cI, 7, .inl (SV 8))), (zn, .inr (2, [.ref qn0, .ref qn1, .ref qn2, .ref qn3, .ref qn4, .int (SN 5 0), .int (SN 6 0)])), (qn0, .inl (cI, 8, .inl (SN 0))), (qn1, .inl (cI, 8, .inl (SN 1))), (qn2, .inl (cI, 8, .inl (SN 2))), (qn3, .inl (cI, 8, .inl (SN 3))), (qn4, .inl (cI, 8, .inl (SN 4)))] := hD
  refine lv_iload_n hx hb dX4_ages_72 rfl (lv_at hl 0 rfl) ?_
  refine lv_if_ne (tgt := 80) hx hb dX4_ages_73 (by decide) (fun c_1 => ?_) (fun c_1 => ?_)
  · have hf := itF c_1 hf
    refine lv_iload hx hb dX4_ages_80 (lv_at hl 2 rfl) ?_
    obtain rfl := Option.some.inj hf
    exact s_iret (r := x4) hx hb hr hlocks hK hP hD hS dX4_ages_82
  · have hf := itT c_1 hf
    refine lv_iload_n hx hb dX4_ages_76 rfl (lv_at hl 1 rfl) ?_
    refine lv_goto (tgt := 82) hx hb dX4_ages_77 (by decide) ?_
    obtain rfl := Option.some.inj hf
    exact s_iret (r := x3) hx hb hr hlocks hK hP hD hS dX4_ages_82
set_option maxHeartbeats 4000000 in
set_option maxRecDepth 100000 in
theorem ts_X4_ages_32 {p : Program} {l : Launch} {e : Env} {s : State} {m : MethodId} {args : Array Value} {below : List Frame} {meth : Method} {c : Code} {D : va_G} {cI cJ : ClassId} {A : Nat → Prop} {fu : Nat} {zv qv6 qv8 zn zr zk zl zo qn0 qn1 qn2 qn3 qn4 : Nat} {SN : S32} {o : Int32 × S32} (C0 : Cx RX4 wsX4_ages cX4_ages 6 (some .int) D vwCl (tyS cI cJ) p s m args meth c) (hA : ∀ q : Nat, s.heap.size ≤ q → A q) {k32 : Int32 → Int32 → Int32 → Int32 → Int32 → S32 → Option (Int32 × S32)} (K32 : ∀ (x1 : Int32) (x2 : Int32) (x3 : Int32) (x4 : Int32) (x5 : Int32) (SV : S32), k32 x1 x2 x3 x4 x5 SV = some o → ∀ (H : Heap) (locs : List Loc), va_P D vwCl ((wV zv qv6 qv8 zn zr zk zl zo cI SV) ++ (wT zn qn0 qn1 qn2 qn3 qn4 cI SN)) H → va_D A ((wV zv qv6 qv8 zn zr zk zl zo cI SV) ++ (wT zn qn0 qn1 qn2 qn3 qn4 cI SN)) → va_S A s.heap H locs → ∀ (ls : Array Slot), lv_has ls 6 [(0, .ref zv), (1, .int x1), (2, .int x2), (3, .int x3), (4, .int x4), (5, .int x5)] → W p l e rm_X4_ages s m args below meth c H locs 0 0 (MQ below (sZi D vwCl (tyS cI cJ) A ((wV zv qv6 qv8 zn zr zk zl zo cI (o.2)) ++ (wT zn qn0 qn1 qn2 qn3 qn4 cI SN)) (o.1)) args s 0 0 A) (F0 m 32 ls [])) : ∀ (x1 : Int32) (x2 : Int32) (x3 : Int32) (x4 : Int32) (x5 : Int32) (SV : S32), s_X4_ages_32 fu  k32 SN x1 x2 x3 x4 x5 SV = some o → ∀ (H : Heap) (locs : List Loc), va_P D vwCl ((wV zv qv6 qv8 zn zr zk zl zo cI SV) ++ (wT zn qn0 qn1 qn2 qn3 qn4 cI SN)) H → va_D A ((wV zv qv6 qv8 zn zr zk zl zo cI SV) ++ (wT zn qn0 qn1 qn2 qn3 qn4 cI SN)) → va_S A s.heap H locs → ∀ (ls : Array Slot), lv_has ls 6 [(0, .ref zv), (1, .int x1), (2, .int x2), (3, .int x3), (4, .int x4), (5, .int x5)] → W p l e rm_X4_ages s m args below meth c H locs 0 0 (MQ below (sZi D vwCl (tyS cI cJ) A ((wV zv qv6 qv8 zn zr zk zl zo cI (o.2)) ++ (wT zn qn0 qn1 qn2 qn3 qn4 cI SN)) (o.1)) args s 0 0 A) (F0 m 32 ls []) := by
  obtain ⟨hx, hb, hr, hml, hown, hts, hlocks, hK⟩ := id C0
  intro x1 x2 x3 x4 x5 SV hf H locs hP hD hS ls hl
  have hP : va_P D vwCl [(zv, .inr (3, [.ref zn, .ref zr, .ref zk, .int (SV 3 0), .ref zl, .ref zo, .ref qv6, .int (SV 7 0), .ref qv8])), (qv6, .inl (cI, 8, .inl (SV 6))), (qv8, .inl (cI, 7, .inl (SV 8))), (zn, .inr (2, [.ref qn0, .ref qn1, .ref qn2, .ref qn3, .ref qn4, .int (SN 5 0), .int (SN 6 0)])), (qn0, .inl (cI, 8, .inl (SN 0))), (qn1, .inl (cI, 8, .inl (SN 1))), (qn2, .inl (cI, 8, .inl (SN 2))), (qn3, .inl (cI, 8, .inl (SN 3))), (qn4, .inl (cI, 8, .inl (SN 4)))] H := hP
  have hD : va_D A [(zv, .inr (3, [.ref zn, .ref zr, .ref zk, .int (SV 3 0), .ref zl, .ref zo, .ref qv6, .int (SV 7 0), .ref qv8])), (qv6, .inl (cI, 8, .inl (SV 6))), (qv8, .inl (cI, 7, .inl (SV 8))), (zn, .inr (2, [.ref qn0, .ref qn1, .ref qn2, .ref qn3, .ref qn4, .int (SN 5 0), .int (SN 6 0)])), (qn0, .inl (cI, 8, .inl (SN 0))), (qn1, .inl (cI, 8, .inl (SN 1))), (qn2, .inl (cI, 8, .inl (SN 2))), (qn3, .inl (cI, 8, .inl (SN 3))), (qn4, .inl (cI, 8, .inl (SN 4)))] := hD
  refine lv_iload hx hb dX4_ages_32 (lv_at hl 5 rfl) ?_
  refine lv_bipush (v := (99 : Int32)) hx hb dX4_ages_34 (by decide) ?_
  refine lv_icmp_gt (tgt := 72) hx hb dX4_ages_36 (by decide) (fun c_1 => ?_) (fun c_1 => ?_)
  · have hf := itT c_1 hf
    exact t_X4_ages_72 (fu := fu) C0 hA  _ _ _ _ hf _ _ hP hD hS _ (lv_sub hl [2, 3, 4] rfl)
  · have hf := itF c_1 hf
    refine lv_aload_n hx hb dX4_ages_39 rfl (lv_at hl 0 rfl) ?_
    refine va_get (D := D) (ci := 3) (v := .ref zn) (C := RX4) (T := TX4) (N := 9) hx hb hts i_X4_ages_X4 hown hK hP 0 rfl rfl 0 (by decide) (hts _ q_X4_ages_1) (fun _ h9 => h9) rfl dX4_ages_40 ?_
    refine lv_iload_n hx hb dX4_ages_43 rfl (lv_at hl 1 rfl) ?_
    refine lv_iload hx hb dX4_ages_44 (lv_at hl 5 rfl) ?_
    obtain ⟨o_2, h_2, hf⟩ := bd_some hf
    refine s_callVI (wc := (wT zn qn0 qn1 qn2 qn3 qn4 cI SN)) (wr := [(zv, .inr (3, [.ref zn, .ref zr, .ref zk, .int (SV 3 0), .ref zl, .ref zo, .ref qv6, .int (SV 7 0), .ref qv8])), (qv6, .inl (cI, 8, .inl (SV 6))), (qv8, .inl (cI, 7, .inl (SV 8)))]) (wc' := (wT zn qn0 qn1 qn2 qn3 qn4 cI SN)) (w' := [(zv, .inr (3, [.ref zn, .ref zr, .ref zk, .int (SV 3 0), .ref zl, .ref zo, .ref qv6, .int (SV 7 0), .ref qv8])), (qv6, .inl (cI, 8, .inl (SV 6))), (qv8, .inl (cI, 7, .inl (SV 8))), (zn, .inr (2, [.ref qn0, .ref qn1, .ref qn2, .ref qn3, .ref qn4, .int (SN 5 0), .int (SN 6 0)])), (qn0, .inl (cI, 8, .inl (SN 0))), (qn1, .inl (cI, 8, .inl (SN 1))), (qn2, .inl (cI, 8, .inl (SN 2))), (qn3, .inl (cI, 8, .inl (SN 3))), (qn4, .inl (cI, 8, .inl (SN 4)))]) (isC := [3, 4, 5, 6, 7, 8]) (isR := [0, 1, 2]) (perm := [0, 1, 2, 3, 4, 5, 6, 7, 8]) (As := [.int x1, .int x5]) (rest := []) (ci := 2) (q := (RX3, TX3, 7)) ⟨hx, hb, hml, hown, hts⟩ (c_X3_couldComeIn l D cI cJ fu zn qn0 qn1 qn2 qn3 qn4 SN x1 x5 o_2 h_2) (cwV 2 hts gX4_ages_X3_couldComeIn rfl rfl rfl (by decide +kernel) ⟨Nat.le_of_ble_eq_true rfl, Nat.le_of_ble_eq_true rfl⟩) hK hP hD hS hA ⟨rfl, rfl, by decide, by decide, by decide, by decide, rfl⟩ rfl rfl rfl rfl hl.1 rfl (Nat.le_of_ble_eq_true rfl) dX4_ages_46 (fun H locs hP hD hS => ?_)
    refine lv_if_ne (tgt := 55) hx hb dX4_ages_49 (by decide) (fun c_3 => ?_) (fun c_3 => ?_)
    · have hf := itF c_3 hf
      refine lv_iload_n hx hb dX4_ages_55 rfl (lv_at hl 3 rfl) ?_
      refine lv_if_ne (tgt := 63) hx hb dX4_ages_56 (by decide) (fun c_4 => ?_) (fun c_4 => ?_)
      · have hf := itF c_4 hf
        refine lv_iinc (v := (x3 + (1 : Int32))) (lv' := [(3, .int (x3 + (1 : Int32))), (0, .ref zv), (1, .int x1), (2, .int x2), (4, .int x4), (5, .int x5)]) hx hb dX4_ages_63 hl (k := 3) rfl rfl (by decide) rfl (fun ls hl => ?_)
        refine lv_iinc (v := (x5 + (1 : Int32))) (lv' := [(5, .int (x5 + (1 : Int32))), (3, .int (x3 + (1 : Int32))), (0, .ref zv), (1, .int x1), (2, .int x2), (4, .int x4)]) hx hb dX4_ages_66 hl (k := 5) rfl rfl (by decide) rfl (fun ls hl => ?_)
        refine lv_goto (tgt := 32) hx hb dX4_ages_69 (by decide) ?_
        exact K32 _ _ _ _ _ _ hf _ _ hP hD hS _ (lv_sub hl [2, 3, 4, 1, 5, 0] rfl)
      · have hf := itT c_4 hf
        refine lv_iload hx hb dX4_ages_59 (lv_at hl 5 rfl) ?_
        refine lv_istore (lv' := [(4, .int x5), (0, .ref zv), (1, .int x1), (2, .int x2), (3, .int x3), (5, .int x5)]) hx hb dX4_ages_61 hl (by decide) rfl (fun ls hl => ?_)
        refine lv_iinc (v := (x3 + (1 : Int32))) (lv' := [(3, .int (x3 + (1 : Int32))), (4, .int x5), (0, .ref zv), (1, .int x1), (2, .int x2), (5, .int x5)]) hx hb dX4_ages_63 hl (k := 4) rfl rfl (by decide) rfl (fun ls hl => ?_)
        refine lv_iinc (v := (x5 + (1 : Int32))) (lv' := [(5, .int (x5 + (1 : Int32))), (3, .int (x3 + (1 : Int32))), (4, .int x5), (0, .ref zv), (1, .int x1), (2, .int x2)]) hx hb dX4_ages_66 hl (k := 5) rfl rfl (by decide) rfl (fun ls hl => ?_)
        refine lv_goto (tgt := 32) hx hb dX4_ages_69 (by decide) ?_
        exact K32 _ _ _ _ _ _ hf _ _ hP hD hS _ (lv_sub hl [3, 4, 5, 1, 2, 0] rfl)
    · have hf := itT c_3 hf
      refine lv_goto (tgt := 66) hx hb dX4_ages_52 (by decide) ?_
      refine lv_iinc (v := (x5 + (1 : Int32))) (lv' := [(5, .int (x5 + (1 : Int32))), (0, .ref zv), (1, .int x1), (2, .int x2), (3, .int x3), (4, .int x4)]) hx hb dX4_ages_66 hl (k := 5) rfl rfl (by decide) rfl (fun ls hl => ?_)
      refine lv_goto (tgt := 32) hx hb dX4_ages_69 (by decide) ?_
      exact K32 _ _ _ _ _ _ hf _ _ hP hD hS _ (lv_sub hl [1, 2, 3, 4, 5, 0] rfl)
theorem t_X4_ages_32 {p : Program} {l : Launch} {e : Env} {s : State} {m : MethodId} {args : Array Value} {below : List Frame} {meth : Method} {c : Code} {D : va_G} {cI cJ : ClassId} {A : Nat → Prop} {fu : Nat} {zv qv6 qv8 zn zr zk zl zo qn0 qn1 qn2 qn3 qn4 : Nat} {SN : S32} {o : Int32 × S32} (C0 : Cx RX4 wsX4_ages cX4_ages 6 (some .int) D vwCl (tyS cI cJ) p s m args meth c) (hA : ∀ q : Nat, s.heap.size ≤ q → A q) : ∀ (n : Nat) (x1 : Int32) (x2 : Int32) (x3 : Int32) (x4 : Int32) (x5 : Int32) (SV : S32), f_X4_ages_32 fu  SN n x1 x2 x3 x4 x5 SV = some o → ∀ (H : Heap) (locs : List Loc), va_P D vwCl ((wV zv qv6 qv8 zn zr zk zl zo cI SV) ++ (wT zn qn0 qn1 qn2 qn3 qn4 cI SN)) H → va_D A ((wV zv qv6 qv8 zn zr zk zl zo cI SV) ++ (wT zn qn0 qn1 qn2 qn3 qn4 cI SN)) → va_S A s.heap H locs → ∀ (ls : Array Slot), lv_has ls 6 [(0, .ref zv), (1, .int x1), (2, .int x2), (3, .int x3), (4, .int x4), (5, .int x5)] → W p l e rm_X4_ages s m args below meth c H locs 0 0 (MQ below (sZi D vwCl (tyS cI cJ) A ((wV zv qv6 qv8 zn zr zk zl zo cI (o.2)) ++ (wT zn qn0 qn1 qn2 qn3 qn4 cI SN)) (o.1)) args s 0 0 A) (F0 m 32 ls []) := by
  intro n
  induction n with
  | zero =>
    intro x1 x2 x3 x4 x5 SV hf
    have hf : (none : Option (Int32 × S32)) = some o := hf
    cases hf
  | succ n ih => exact ts_X4_ages_32 (fu := fu) (k32 := f_X4_ages_32 fu  SN n) C0 hA  ih
set_option maxHeartbeats 4000000 in
set_option maxRecDepth 100000 in
theorem t_X4_ages_23 {p : Program} {l : Launch} {e : Env} {s : State} {m : MethodId} {args : Array Value} {below : List Frame} {meth : Method} {c : Code} {D : va_G} {cI cJ : ClassId} {A : Nat → Prop} {fu : Nat} {zv qv6 qv8 zn zr zk zl zo qn0 qn1 qn2 qn3 qn4 : Nat} {SN : S32} {o : Int32 × S32} (C0 : Cx RX4 wsX4_ages cX4_ages 6 (some .int) D vwCl (tyS cI cJ) p s m args meth c) (hA : ∀ q : Nat, s.heap.size ≤ q → A q) : ∀ (x1 : Int32) (x2 : Int32) (SV : S32), f_X4_ages_23 fu  SN x1 x2 SV = some o → ∀ (H : Heap) (locs : List Loc), va_P D vwCl ((wV zv qv6 qv8 zn zr zk zl zo cI SV) ++ (wT zn qn0 qn1 qn2 qn3 qn4 cI SN)) H → va_D A ((wV zv qv6 qv8 zn zr zk zl zo cI SV) ++ (wT zn qn0 qn1 qn2 qn3 qn4 cI SN)) → va_S A s.heap H locs → ∀ (ls : Array Slot), lv_has ls 6 [(0, .ref zv), (1, .int x1), (2, .int x2)] → W p l e rm_X4_ages s m args below meth c H locs 0 0 (MQ below (sZi D vwCl (tyS cI cJ) A ((wV zv qv6 qv8 zn zr zk zl zo cI (o.2)) ++ (wT zn qn0 qn1 qn2 qn3 qn4 cI SN)) (o.1)) args s 0 0 A) (F0 m 23 ls []) := by
  obtain ⟨hx, hb, hr, hml, hown, hts, hlocks, hK⟩ := id C0
  intro x1 x2 SV hf H locs hP hD hS ls hl
  have hP : va_P D vwCl [(zv, .inr (3, [.ref zn, .ref zr, .ref zk, .int (SV 3 0), .ref zl, .ref zo, .ref qv6, .int (SV 7 0), .ref qv8])), (qv6, .inl (cI, 8, .inl (SV 6))), (qv8, .inl (cI, 7, .inl (SV 8))), (zn, .inr (2, [.ref qn0, .ref qn1, .ref qn2, .ref qn3, .ref qn4, .int (SN 5 0), .int (SN 6 0)])), (qn0, .inl (cI, 8, .inl (SN 0))), (qn1, .inl (cI, 8, .inl (SN 1))), (qn2, .inl (cI, 8, .inl (SN 2))), (qn3, .inl (cI, 8, .inl (SN 3))), (qn4, .inl (cI, 8, .inl (SN 4)))] H := hP
  have hD : va_D A [(zv, .inr (3, [.ref zn, .ref zr, .ref zk, .int (SV 3 0), .ref zl, .ref zo, .ref qv6, .int (SV 7 0), .ref qv8])), (qv6, .inl (cI, 8, .inl (SV 6))), (qv8, .inl (cI, 7, .inl (SV 8))), (zn, .inr (2, [.ref qn0, .ref qn1, .ref qn2, .ref qn3, .ref qn4, .int (SN 5 0), .int (SN 6 0)])), (qn0, .inl (cI, 8, .inl (SN 0))), (qn1, .inl (cI, 8, .inl (SN 1))), (qn2, .inl (cI, 8, .inl (SN 2))), (qn3, .inl (cI, 8, .inl (SN 3))), (qn4, .inl (cI, 8, .inl (SN 4)))] := hD
  refine lv_iconst (v := (0 : Int32)) hx hb dX4_ages_23 (by decide) ?_
  refine lv_istore_n (lv' := [(3, .int (0 : Int32)), (0, .ref zv), (1, .int x1), (2, .int x2)]) hx hb dX4_ages_24 rfl hl (by decide) rfl (fun ls hl => ?_)
  refine lv_bipush (v := (-9 : Int32)) hx hb dX4_ages_25 (by decide) ?_
  refine lv_istore (lv' := [(4, .int (-9 : Int32)), (3, .int (0 : Int32)), (0, .ref zv), (1, .int x1), (2, .int x2)]) hx hb dX4_ages_27 hl (by decide) rfl (fun ls hl => ?_)
  refine lv_iconst (v := (0 : Int32)) hx hb dX4_ages_29 (by decide) ?_
  refine lv_istore (lv' := [(5, .int (0 : Int32)), (4, .int (-9 : Int32)), (3, .int (0 : Int32)), (0, .ref zv), (1, .int x1), (2, .int x2)]) hx hb dX4_ages_30 hl (by decide) rfl (fun ls hl => ?_)
  exact t_X4_ages_32 (fu := fu) C0 hA  fu _ _ _ _ _ _ hf _ _ hP hD hS _ (lv_sub hl [3, 4, 5, 2, 1, 0] rfl)
set_option maxHeartbeats 4000000 in
set_option maxRecDepth 100000 in
theorem c_X4_ages (l : Launch) (D : va_G) (cI cJ : ClassId) (fu : Nat) (zv qv6 qv8 zn zr zk zl zo qn0 qn1 qn2 qn3 qn4 : Nat) (SV : S32) (SN : S32) (x1 : Int32) (x2 : Int32) (o : Int32 × S32) (hf : f_X4_ages fu SV SN x1 x2 = some o) : MI l yX4_ages wsX4_ages rm_X4_ages D vwCl (tyS cI cJ) [.ref zv, .int x1, .int x2] ((wV zv qv6 qv8 zn zr zk zl zo cI SV) ++ (wT zn qn0 qn1 qn2 qn3 qn4 cI SN)) ((wV zv qv6 qv8 zn zr zk zl zo cI (o.2)) ++ (wT zn qn0 qn1 qn2 qn3 qn4 cI SN)) (o.1) := by
  intro sz
  refine s_entry (own := RX4) (cc := cX4_ages) (maxL := 6) (ret := (some .int)) (Qc := fun A => sZi D vwCl (tyS cI cJ) A ((wV zv qv6 qv8 zn zr zk zl zo cI (o.2)) ++ (wT zn qn0 qn1 qn2 qn3 qn4 cI SN)) (o.1)) rfl (by decide) rfl rfl (Nat.le_of_ble_eq_true rfl) ?_
  intro p e s m args below meth c A C0 hA hP hD hS ls hl
  obtain ⟨hx, hb, hr, hml, hown, hts, hlocks, hK⟩ := id C0
  have hl : lv_has ls 6 [(0, .ref zv), (1, .int x1), (2, .int x2)] := hl
  have hP : va_P D vwCl [(zv, .inr (3, [.ref zn, .ref zr, .ref zk, .int (SV 3 0), .ref zl, .ref zo, .ref qv6, .int (SV 7 0), .ref qv8])), (qv6, .inl (cI, 8, .inl (SV 6))), (qv8, .inl (cI, 7, .inl (SV 8))), (zn, .inr (2, [.ref qn0, .ref qn1, .ref qn2, .ref qn3, .ref qn4, .int (SN 5 0), .int (SN 6 0)])), (qn0, .inl (cI, 8, .inl (SN 0))), (qn1, .inl (cI, 8, .inl (SN 1))), (qn2, .inl (cI, 8, .inl (SN 2))), (qn3, .inl (cI, 8, .inl (SN 3))), (qn4, .inl (cI, 8, .inl (SN 4)))] s.heap := hP
  have hD : va_D A [(zv, .inr (3, [.ref zn, .ref zr, .ref zk, .int (SV 3 0), .ref zl, .ref zo, .ref qv6, .int (SV 7 0), .ref qv8])), (qv6, .inl (cI, 8, .inl (SV 6))), (qv8, .inl (cI, 7, .inl (SV 8))), (zn, .inr (2, [.ref qn0, .ref qn1, .ref qn2, .ref qn3, .ref qn4, .int (SN 5 0), .int (SN 6 0)])), (qn0, .inl (cI, 8, .inl (SN 0))), (qn1, .inl (cI, 8, .inl (SN 1))), (qn2, .inl (cI, 8, .inl (SN 2))), (qn3, .inl (cI, 8, .inl (SN 3))), (qn4, .inl (cI, 8, .inl (SN 4)))] := hD
  refine lv_iload_n hx hb dX4_ages_0 rfl (lv_at hl 1 rfl) ?_
  obtain ⟨o_1, h_1, hf⟩ := bd_some hf
  refine s_callSI (wc := []) (wr := [(zv, .inr (3, [.ref zn, .ref zr, .ref zk, .int (SV 3 0), .ref zl, .ref zo, .ref qv6, .int (SV 7 0), .ref qv8])), (qv6, .inl (cI, 8, .inl (SV 6))), (qv8, .inl (cI, 7, .inl (SV 8))), (zn, .inr (2, [.ref qn0, .ref qn1, .ref qn2, .ref qn3, .ref qn4, .int (SN 5 0), .int (SN 6 0)])), (qn0, .inl (cI, 8, .inl (SN 0))), (qn1, .inl (cI, 8, .inl (SN 1))), (qn2, .inl (cI, 8, .inl (SN 2))), (qn3, .inl (cI, 8, .inl (SN 3))), (qn4, .inl (cI, 8, .inl (SN 4)))]) (wc' := []) (w' := [(zv, .inr (3, [.ref zn, .ref zr, .ref zk, .int (SV 3 0), .ref zl, .ref zo, .ref qv6, .int (SV 7 0), .ref qv8])), (qv6, .inl (cI, 8, .inl (SV 6))), (qv8, .inl (cI, 7, .inl (SV 8))), (zn, .inr (2, [.ref qn0, .ref qn1, .ref qn2, .ref qn3, .ref qn4, .int (SN 5 0), .int (SN 6 0)])), (qn0, .inl (cI, 8, .inl (SN 0))), (qn1, .inl (cI, 8, .inl (SN 1))), (qn2, .inl (cI, 8, .inl (SN 2))), (qn3, .inl (cI, 8, .inl (SN 3))), (qn4, .inl (cI, 8, .inl (SN 4)))]) (isC := []) (isR := [0, 1, 2, 3, 4, 5, 6, 7, 8]) (perm := [0, 1, 2, 3, 4, 5, 6, 7, 8]) (As := [.int x1]) (rest := []) ⟨hx, hb, hml, hown, hts⟩ (c_X4_isKind l D cI cJ fu x1 o_1 h_1) (va_cwS 1 hts gX4_ages_X4_isKind rfl rfl rfl (by decide +kernel) ⟨Nat.le_of_ble_eq_true rfl, Nat.le_of_ble_eq_true rfl⟩) hK hP hD hS hA ⟨rfl, rfl, by decide, by decide, by decide, by decide, rfl⟩ rfl hl.1 rfl (Nat.le_of_ble_eq_true rfl) dX4_ages_1 (fun H locs hP hD hS => ?_)
  refine lv_if_eq (tgt := 16) hx hb dX4_ages_4 (by decide) (fun c_2 => ?_) (fun c_2 => ?_)
  · have hf := itT c_2 hf
    exact t_X4_ages_16 (fu := fu) C0 hA  _ hf _ _ hP hD hS _ (lv_sub hl [0] rfl)
  · have hf := itF c_2 hf
    refine lv_iload_n hx hb dX4_ages_7 rfl (lv_at hl 2 rfl) ?_
    refine lv_if_eq (tgt := 23) hx hb dX4_ages_8 (by decide) (fun c_3 => ?_) (fun c_3 => ?_)
    · have hf := itT c_3 hf
      exact t_X4_ages_23 (fu := fu) C0 hA  _ _ _ hf _ _ hP hD hS _ (lv_sub hl [0, 1, 2] rfl)
    · have hf := itF c_3 hf
      refine lv_iload_n hx hb dX4_ages_11 rfl (lv_at hl 2 rfl) ?_
      refine lv_iconst (v := (1 : Int32)) hx hb dX4_ages_12 (by decide) ?_
      refine lv_icmp_eq (tgt := 23) hx hb dX4_ages_13 (by decide) (fun c_4 => ?_) (fun c_4 => ?_)
      · have hf := itT c_4 hf
        exact t_X4_ages_23 (fu := fu) C0 hA  _ _ _ hf _ _ hP hD hS _ (lv_sub hl [0, 1, 2] rfl)
      · have hf := itF c_4 hf
        exact t_X4_ages_16 (fu := fu) C0 hA  _ hf _ _ hP hD hS _ (lv_sub hl [0] rfl)
theorem q_X4_row_1 : (Cond.fieldLink RX4 160 "UpWhenDies" "toldSize" "I" : Cond) ∈ wsX4_row := List.mem_of_getElem? (i := 1) rfl
theorem q_X4_row_2 : (Cond.fieldLink RX4 36 "UpWhenDies" "told" "[I" : Cond) ∈ wsX4_row := List.mem_of_getElem? (i := 2) rfl
theorem i_X4_row_X4 : ∀ w ∈ wsX40, w ∈ wsX4_row := fun _ h => (List.mem_cons_of_mem _ (List.mem_append_right _ h))
abbrev rm_X4_row : Room := { frames := 1, cells := 0, slots := 0, locals := 22 }
set_option maxHeartbeats 4000000 in
set_option maxRecDepth 100000 in
theorem t_X4_row_26 {p : Program} {l : Launch} {e : Env} {s : State} {m : MethodId} {args : Array Value} {below : List Frame} {meth : Method} {c : Code} {D : va_G} {cI cJ : ClassId} {A : Nat → Prop} {fu : Nat} {zv qv6 qv8 zn zr zk zl zo : Nat} {o : Int32 × S32} (C0 : Cx RX4 wsX4_row cX4_row 2 (some .int) D vwCl (tyS cI cJ) p s m args meth c) (hA : ∀ q : Nat, s.heap.size ≤ q → A q) : ∀ (SV : S32), f_X4_row_26 fu   SV = some o → ∀ (H : Heap) (locs : List Loc), va_P D vwCl (wV zv qv6 qv8 zn zr zk zl zo cI SV) H → va_D A (wV zv qv6 qv8 zn zr zk zl zo cI SV) → va_S A s.heap H locs → ∀ (ls : Array Slot), lv_has ls 2 [(0, .ref zv)] → W p l e rm_X4_row s m args below meth c H locs 0 0 (MQ below (sZi D vwCl (tyS cI cJ) A (wV zv qv6 qv8 zn zr zk zl zo cI (o.2)) (o.1)) args s 0 0 A) (F0 m 26 ls []) := by
  obtain ⟨hx, hb, hr, hml, hown, hts, hlocks, hK⟩ := id C0
  intro SV hf H locs hP hD hS ls hl
  have hP : va_P D vwCl [(zv, .inr (3, [.ref zn, .ref zr, .ref zk, .int (SV 3 0), .ref zl, .ref zo, .ref qv6, .int (SV 7 0), .ref qv8])), (qv6, .inl (cI, 8, .inl (SV 6))), (qv8, .inl (cI, 7, .inl (SV 8)))] H := hP
  have hD : va_D A [(zv, .inr (3, [.ref zn, .ref zr, .ref zk, .int (SV 3 0), .ref zl, .ref zo, .ref qv6, .int (SV 7 0), .ref qv8])), (qv6, .inl (cI, 8, .inl (SV 6))), (qv8, .inl (cI, 7, .inl (SV 8)))] := hD
  refine lv_aload_n hx hb dX4_row_26 rfl (lv_at hl 0 rfl) ?_
  refine lv_bipush (v := (-6 : Int32)) hx hb dX4_row_27 (by decide) ?_
  obtain ⟨o_1, h_1, hf⟩ := bd_some hf
  refine s_callVI (wc := (wV zv qv6 qv8 zn zr zk zl zo cI SV)) (wr := []) (wc' := (wV zv qv6 qv8 zn zr zk zl zo cI (o_1.2))) (w' := [(zv, .inr (3, [.ref zn, .ref zr, .ref zk, .int ((o_1.2) 3 0), .ref zl, .ref zo, .ref qv6, .int ((o_1.2) 7 0), .ref qv8])), (qv6, .inl (cI, 8, .inl ((o_1.2) 6))), (qv8, .inl (cI, 7, .inl ((o_1.2) 8)))]) (isC := [0, 1, 2]) (isR := []) (perm := [0, 1, 2]) (As := [.int (-6 : Int32)]) (rest := []) (ci := 3) (q := (RX4, TX4, 9)) ⟨hx, hb, hml, hown, hts⟩ (c_X4_refuse l D cI cJ fu zv qv6 qv8 zn zr zk zl zo SV (-6 : Int32) o_1 h_1) (cwV 1 hts gX4_row_X4_refuse rfl rfl rfl (by decide +kernel) ⟨Nat.le_of_ble_eq_true rfl, Nat.le_of_ble_eq_true rfl⟩) hK hP hD hS hA ⟨rfl, rfl, by decide, by decide, by decide, by decide, rfl⟩ rfl rfl rfl rfl hl.1 rfl (Nat.le_of_ble_eq_true rfl) dX4_row_29 (fun H locs hP hD hS => ?_)
  obtain rfl := Option.some.inj hf
  exact s_iret (r := o_1.1) hx hb hr hlocks hK hP hD hS dX4_row_32
set_option maxHeartbeats 4000000 in
set_option maxRecDepth 100000 in
theorem c_X4_row (l : Launch) (D : va_G) (cI cJ : ClassId) (fu : Nat) (zv qv6 qv8 zn zr zk zl zo : Nat) (SV : S32) (x1 : Int32) (o : Int32 × S32) (hf : f_X4_row fu SV x1 = some o) : MI l yX4_row wsX4_row rm_X4_row D vwCl (tyS cI cJ) [.ref zv, .int x1] (wV zv qv6 qv8 zn zr zk zl zo cI SV) (wV zv qv6 qv8 zn zr zk zl zo cI (o.2)) (o.1) := by
  intro sz
  refine s_entry (own := RX4) (cc := cX4_row) (maxL := 2) (ret := (some .int)) (Qc := fun A => sZi D vwCl (tyS cI cJ) A (wV zv qv6 qv8 zn zr zk zl zo cI (o.2)) (o.1)) rfl (by decide) rfl rfl (Nat.le_of_ble_eq_true rfl) ?_
  intro p e s m args below meth c A C0 hA hP hD hS ls hl
  obtain ⟨hx, hb, hr, hml, hown, hts, hlocks, hK⟩ := id C0
  have hl : lv_has ls 2 [(0, .ref zv), (1, .int x1)] := hl
  have hP : va_P D vwCl [(zv, .inr (3, [.ref zn, .ref zr, .ref zk, .int (SV 3 0), .ref zl, .ref zo, .ref qv6, .int (SV 7 0), .ref qv8])), (qv6, .inl (cI, 8, .inl (SV 6))), (qv8, .inl (cI, 7, .inl (SV 8)))] s.heap := hP
  have hD : va_D A [(zv, .inr (3, [.ref zn, .ref zr, .ref zk, .int (SV 3 0), .ref zl, .ref zo, .ref qv6, .int (SV 7 0), .ref qv8])), (qv6, .inl (cI, 8, .inl (SV 6))), (qv8, .inl (cI, 7, .inl (SV 8)))] := hD
  refine lv_iload_n hx hb dX4_row_0 rfl (lv_at hl 1 rfl) ?_
  refine lv_if_ge (tgt := 11) hx hb dX4_row_1 (by decide) (fun c_1 => ?_) (fun c_1 => ?_)
  · have hf := itT c_1 hf
    refine lv_iload_n hx hb dX4_row_11 rfl (lv_at hl 1 rfl) ?_
    refine lv_bipush (v := (10 : Int32)) hx hb dX4_row_12 (by decide) ?_
    refine lv_icmp_gt (tgt := 26) hx hb dX4_row_14 (by decide) (fun c_2 => ?_) (fun c_2 => ?_)
    · have hf := itT c_2 hf
      exact t_X4_row_26 (fu := fu) C0 hA  _ hf _ _ hP hD hS _ (lv_sub hl [0] rfl)
    · have hf := itF c_2 hf
      refine lv_aload_n hx hb dX4_row_17 rfl (lv_at hl 0 rfl) ?_
      refine va_get (D := D) (ci := 3) (v := .int (SV 7 0)) (C := RX4) (T := TX4) (N := 9) hx hb hts i_X4_row_X4 hown hK hP 0 rfl rfl 7 (by decide) (hts _ q_X4_row_1) (fun _ h9 => h9) rfl dX4_row_18 ?_
      refine lv_bipush (v := (8 : Int32)) hx hb dX4_row_21 (by decide) ?_
      refine lv_icmp_lt (tgt := 33) hx hb dX4_row_23 (by decide) (fun c_3 => ?_) (fun c_3 => ?_)
      · have hf := itT c_3 hf
        refine lv_aload_n hx hb dX4_row_33 rfl (lv_at hl 0 rfl) ?_
        refine va_get (D := D) (ci := 3) (v := .ref qv6) (C := RX4) (T := TX4) (N := 9) hx hb hts i_X4_row_X4 hown hK hP 0 rfl rfl 6 (by decide) (hts _ q_X4_row_2) (fun _ h9 => h9) rfl dX4_row_34 ?_
        refine lv_aload_n hx hb dX4_row_37 rfl (lv_at hl 0 rfl) ?_
        refine va_get (D := D) (ci := 3) (v := .int (SV 7 0)) (C := RX4) (T := TX4) (N := 9) hx hb hts i_X4_row_X4 hown hK hP 0 rfl rfl 7 (by decide) (hts _ q_X4_row_1) (fun _ h9 => h9) rfl dX4_row_38 ?_
        refine lv_iload_n hx hb dX4_row_41 rfl (lv_at hl 1 rfl) ?_
        obtain ⟨g_4, hf⟩ := gd_some hf
        refine va_iast hx hb hK hP hD hS 1 0 rfl rfl g_4 dX4_row_42 (fun H locs hP hD hS => ?_)
        have hP : va_P D vwCl [(zv, .inr (3, [.ref zn, .ref zr, .ref zk, .int (SV 3 0), .ref zl, .ref zo, .ref qv6, .int (SV 7 0), .ref qv8])), (qv6, .inl (cI, 8, .inl (upd (SV 6) (SV 7 0).toNatClampNeg x1))), (qv8, .inl (cI, 7, .inl (SV 8)))] H := hP
        have hD : va_D A [(zv, .inr (3, [.ref zn, .ref zr, .ref zk, .int (SV 3 0), .ref zl, .ref zo, .ref qv6, .int (SV 7 0), .ref qv8])), (qv6, .inl (cI, 8, .inl (upd (SV 6) (SV 7 0).toNatClampNeg x1))), (qv8, .inl (cI, 7, .inl (SV 8)))] := hD
        refine lv_aload_n hx hb dX4_row_43 rfl (lv_at hl 0 rfl) ?_
        refine lv_dup hx hb dX4_row_44 rfl ?_
        refine va_get (D := D) (ci := 3) (v := .int (SV 7 0)) (C := RX4) (T := TX4) (N := 9) hx hb hts i_X4_row_X4 hown hK hP 0 rfl rfl 7 (by decide) (hts _ q_X4_row_1) (fun _ h9 => h9) rfl dX4_row_45 ?_
        refine lv_iconst (v := (1 : Int32)) hx hb dX4_row_48 (by decide) ?_
        refine lv_iadd hx hb dX4_row_49 ?_
        refine va_put (D := D) (ci := 3) (v := .int ((SV 7 0) + (1 : Int32))) (ty := .int) (C := RX4) (T := TX4) (N := 9) hx hb hts i_X4_row_X4 tyX4 tyX4_ok nmX4 hown hK hP hD hS 0 rfl rfl 7 (by decide) (hts _ q_X4_row_1) (fun _ h9 => h9) rfl (by decide +kernel) rfl rfl (Nat.le_of_ble_eq_true rfl) dX4_row_50 (fun H locs hP hD hS => ?_)
        have hP : va_P D vwCl [(zv, .inr (3, [.ref zn, .ref zr, .ref zk, .int (SV 3 0), .ref zl, .ref zo, .ref qv6, .int ((SV 7 0) + (1 : Int32)), .ref qv8])), (qv6, .inl (cI, 8, .inl (upd (SV 6) (SV 7 0).toNatClampNeg x1))), (qv8, .inl (cI, 7, .inl (SV 8)))] H := hP
        have hD : va_D A [(zv, .inr (3, [.ref zn, .ref zr, .ref zk, .int (SV 3 0), .ref zl, .ref zo, .ref qv6, .int ((SV 7 0) + (1 : Int32)), .ref qv8])), (qv6, .inl (cI, 8, .inl (upd (SV 6) (SV 7 0).toNatClampNeg x1))), (qv8, .inl (cI, 7, .inl (SV 8)))] := hD
        refine lv_aload_n hx hb dX4_row_53 rfl (lv_at hl 0 rfl) ?_
        refine va_get (D := D) (ci := 3) (v := .int ((SV 7 0) + (1 : Int32))) (C := RX4) (T := TX4) (N := 9) hx hb hts i_X4_row_X4 hown hK hP 0 rfl rfl 7 (by decide) (hts _ q_X4_row_1) (fun _ h9 => h9) rfl dX4_row_54 ?_
        obtain rfl := Option.some.inj hf
        exact s_iret (r := ((SV 7 0) + (1 : Int32))) hx hb hr hlocks hK hP hD hS dX4_row_57
      · have hf := itF c_3 hf
        exact t_X4_row_26 (fu := fu) C0 hA  _ hf _ _ hP hD hS _ (lv_sub hl [0] rfl)
  · have hf := itF c_1 hf
    refine lv_aload_n hx hb dX4_row_4 rfl (lv_at hl 0 rfl) ?_
    refine lv_bipush (v := (-4 : Int32)) hx hb dX4_row_5 (by decide) ?_
    obtain ⟨o_5, h_5, hf⟩ := bd_some hf
    refine s_callVI (wc := (wV zv qv6 qv8 zn zr zk zl zo cI SV)) (wr := []) (wc' := (wV zv qv6 qv8 zn zr zk zl zo cI (o_5.2))) (w' := [(zv, .inr (3, [.ref zn, .ref zr, .ref zk, .int ((o_5.2) 3 0), .ref zl, .ref zo, .ref qv6, .int ((o_5.2) 7 0), .ref qv8])), (qv6, .inl (cI, 8, .inl ((o_5.2) 6))), (qv8, .inl (cI, 7, .inl ((o_5.2) 8)))]) (isC := [0, 1, 2]) (isR := []) (perm := [0, 1, 2]) (As := [.int (-4 : Int32)]) (rest := []) (ci := 3) (q := (RX4, TX4, 9)) ⟨hx, hb, hml, hown, hts⟩ (c_X4_refuse l D cI cJ fu zv qv6 qv8 zn zr zk zl zo SV (-4 : Int32) o_5 h_5) (cwV 1 hts gX4_row_X4_refuse rfl rfl rfl (by decide +kernel) ⟨Nat.le_of_ble_eq_true rfl, Nat.le_of_ble_eq_true rfl⟩) hK hP hD hS hA ⟨rfl, rfl, by decide, by decide, by decide, by decide, rfl⟩ rfl rfl rfl rfl hl.1 rfl (Nat.le_of_ble_eq_true rfl) dX4_row_7 (fun H locs hP hD hS => ?_)
    obtain rfl := Option.some.inj hf
    exact s_iret (r := o_5.1) hx hb hr hlocks hK hP hD hS dX4_row_10
theorem q_X4_fitsTheRow_1 : (Cond.fieldLink RX4 10 "UpWhenDies" "now" "LUpWhenDies$Tower;" : Cond) ∈ wsX4_fitsTheRow := List.mem_of_getElem? (i := 1) rfl
theorem q_X4_fitsTheRow_2 : (Cond.fieldLink RX4 160 "UpWhenDies" "toldSize" "I" : Cond) ∈ wsX4_fitsTheRow := List.mem_of_getElem? (i := 2) rfl
theorem q_X4_fitsTheRow_3 : (Cond.fieldLink RX4 83 "UpWhenDies$Tower" "floor" "[I" : Cond) ∈ wsX4_fitsTheRow := List.mem_of_getElem? (i := 3) rfl
theorem q_X4_fitsTheRow_4 : (Cond.fieldLink RX4 36 "UpWhenDies" "told" "[I" : Cond) ∈ wsX4_fitsTheRow := List.mem_of_getElem? (i := 4) rfl
theorem i_X4_fitsTheRow_X3 : ∀ w ∈ wsX30, w ∈ wsX4_fitsTheRow := fun _ h => (List.mem_cons_of_mem _ (List.mem_append_right _ h))
theorem i_X4_fitsTheRow_X4 : ∀ w ∈ wsX40, w ∈ wsX4_fitsTheRow := fun _ h => (List.mem_cons_of_mem _ (List.mem_append_left _ (List.mem_append_right _ h)))
abbrev rm_X4_fitsTheRow : Room := { frames := 2, cells := 0, slots := 0, locals := 44 }
set_option maxHeartbeats 4000000 in
set_option maxRecDepth 100000 in
theorem t_X4_fitsTheRow_78 {p : Program} {l : Launch} {e : Env} {s : State} {m : MethodId} {args : Array Value} {below : List Frame} {meth : Method} {c : Code} {D : va_G} {cI cJ : ClassId} {A : Nat → Prop} {fu : Nat} {zv qv6 qv8 zn zr zk zl zo qn0 qn1 qn2 qn3 qn4 : Nat} {SV : S32} {SN : S32} {o : Int32} (C0 : Cx RX4 wsX4_fitsTheRow cX4_fitsTheRow 6 (some .boolean) D vwCl (tyS cI cJ) p s m args meth c) (hA : ∀ q : Nat, s.heap.size ≤ q → A q) {k14 : Int32 → Int32 → Int32 → Int32 → Option (Int32)} (K14 : ∀ (x1 : Int32) (x2 : Int32) (x3 : Int32) (x4 : Int32), k14 x1 x2 x3 x4 = some o → ∀ (H : Heap) (locs : List Loc), va_P D vwCl ((wV zv qv6 qv8 zn zr zk zl zo cI SV) ++ (wT zn qn0 qn1 qn2 qn3 qn4 cI SN)) H → va_D A ((wV zv qv6 qv8 zn zr zk zl zo cI SV) ++ (wT zn qn0 qn1 qn2 qn3 qn4 cI SN)) → va_S A s.heap H locs → ∀ (ls : Array Slot), lv_has ls 6 [(0, .ref zv), (1, .int x1), (2, .int x2), (3, .int x3), (4, .int x4)] → W p l e rm_X4_fitsTheRow s m args below meth c H locs 0 0 (MQ below (sZi D vwCl (tyS cI cJ) A ((wV zv qv6 qv8 zn zr zk zl zo cI SV) ++ (wT zn qn0 qn1 qn2 qn3 qn4 cI SN)) (o)) args s 0 0 A) (F0 m 14 ls [])) : ∀ (x1 : Int32) (x2 : Int32) (x3 : Int32) (x4 : Int32) (y0 : Int32), f_X4_fitsTheRow_78 fu k14 SV SN x1 x2 x3 x4 y0 = some o → ∀ (H : Heap) (locs : List Loc), va_P D vwCl ((wV zv qv6 qv8 zn zr zk zl zo cI SV) ++ (wT zn qn0 qn1 qn2 qn3 qn4 cI SN)) H → va_D A ((wV zv qv6 qv8 zn zr zk zl zo cI SV) ++ (wT zn qn0 qn1 qn2 qn3 qn4 cI SN)) → va_S A s.heap H locs → ∀ (ls : Array Slot), lv_has ls 6 [(0, .ref zv), (1, .int x1), (2, .int x2), (3, .int x3), (4, .int x4)] → W p l e rm_X4_fitsTheRow s m args below meth c H locs 0 0 (MQ below (sZi D vwCl (tyS cI cJ) A ((wV zv qv6 qv8 zn zr zk zl zo cI SV) ++ (wT zn qn0 qn1 qn2 qn3 qn4 cI SN)) (o)) args s 0 0 A) (F0 m 78 ls [.int y0]) := by
  obtain ⟨hx, hb, hr, hml, hown, hts, hlocks, hK⟩ := id C0
  intro x1 x2 x3 x4 y0 hf H locs hP hD hS ls hl
  have hP : va_P D vwCl [(zv, .inr (3, [.ref zn, .ref zr, .ref zk, .int (SV 3 0), .ref zl, .ref zo, .ref qv6, .int (SV 7 0), .ref qv8])), (qv6, .inl (cI, 8, .inl (SV 6))), (qv8, .inl (cI, 7, .inl (SV 8))), (zn, .inr (2, [.ref qn0, .ref qn1, .ref qn2, .ref qn3, .ref qn4, .int (SN 5 0), .int (SN 6 0)])), (qn0, .inl (cI, 8, .inl (SN 0))), (qn1, .inl (cI, 8, .inl (SN 1))), (qn2, .inl (cI, 8, .inl (SN 2))), (qn3, .inl (cI, 8, .inl (SN 3))), (qn4, .inl (cI, 8, .inl (SN 4)))] H := hP
  have hD : va_D A [(zv, .inr (3, [.ref zn, .ref zr, .ref zk, .int (SV 3 0), .ref zl, .ref zo, .ref qv6, .int (SV 7 0), .ref qv8])), (qv6, .inl (cI, 8, .inl (SV 6))), (qv8, .inl (cI, 7, .inl (SV 8))), (zn, .inr (2, [.ref qn0, .ref qn1, .ref qn2, .ref qn3, .ref qn4, .int (SN 5 0), .int (SN 6 0)])), (qn0, .inl (cI, 8, .inl (SN 0))), (qn1, .inl (cI, 8, .inl (SN 1))), (qn2, .inl (cI, 8, .inl (SN 2))), (qn3, .inl (cI, 8, .inl (SN 3))), (qn4, .inl (cI, 8, .inl (SN 4)))] := hD
  refine lv_istore (lv' := [(5, .int y0), (0, .ref zv), (1, .int x1), (2, .int x2), (3, .int x3), (4, .int x4)]) hx hb dX4_fitsTheRow_78 hl (by decide) rfl (fun ls hl => ?_)
  refine lv_aload_n hx hb dX4_fitsTheRow_80 rfl (lv_at hl 1 rfl) ?_
  refine va_get (D := D) (ci := 3) (v := .ref qv6) (C := RX4) (T := TX4) (N := 9) hx hb hts i_X4_fitsTheRow_X4 hown hK hP 0 rfl rfl 6 (by decide) (hts _ q_X4_fitsTheRow_4) (fun _ h9 => h9) rfl dX4_fitsTheRow_81 ?_
  refine lv_iload_n hx hb dX4_fitsTheRow_84 rfl (lv_at hl 4 rfl) ?_
  obtain ⟨g_1, hf⟩ := gd_some hf
  refine va_iald hx hb hK hP 1 0 rfl rfl g_1 dX4_fitsTheRow_85 ?_
  refine lv_bipush (v := (10 : Int32)) hx hb dX4_fitsTheRow_86 (by decide) ?_
  refine lv_icmp_eq (tgt := 104) hx hb dX4_fitsTheRow_88 (by decide) (fun c_2 => ?_) (fun c_2 => ?_)
  · have hf := itT c_2 hf
    refine lv_iinc (v := (x3 + (1 : Int32))) (lv' := [(3, .int (x3 + (1 : Int32))), (5, .int y0), (0, .ref zv), (1, .int x1), (2, .int x2), (4, .int x4)]) hx hb dX4_fitsTheRow_104 hl (k := 4) rfl rfl (by decide) rfl (fun ls hl => ?_)
    refine lv_iinc (v := (x4 + (1 : Int32))) (lv' := [(4, .int (x4 + (1 : Int32))), (3, .int (x3 + (1 : Int32))), (5, .int y0), (0, .ref zv), (1, .int x1), (2, .int x2)]) hx hb dX4_fitsTheRow_107 hl (k := 5) rfl rfl (by decide) rfl (fun ls hl => ?_)
    refine lv_goto (tgt := 14) hx hb dX4_fitsTheRow_110 (by decide) ?_
    exact K14 _ _ _ _ hf _ _ hP hD hS _ (lv_sub hl [3, 4, 5, 1, 0] rfl)
  · have hf := itF c_2 hf
    refine lv_aload_n hx hb dX4_fitsTheRow_91 rfl (lv_at hl 1 rfl) ?_
    refine va_get (D := D) (ci := 3) (v := .ref qv6) (C := RX4) (T := TX4) (N := 9) hx hb hts i_X4_fitsTheRow_X4 hown hK hP 0 rfl rfl 6 (by decide) (hts _ q_X4_fitsTheRow_4) (fun _ h9 => h9) rfl dX4_fitsTheRow_92 ?_
    refine lv_iload_n hx hb dX4_fitsTheRow_95 rfl (lv_at hl 4 rfl) ?_
    obtain ⟨g_3, hf⟩ := gd_some hf
    refine va_iald hx hb hK hP 1 0 rfl rfl g_3 dX4_fitsTheRow_96 ?_
    refine lv_iload hx hb dX4_fitsTheRow_97 (lv_at hl 0 rfl) ?_
    refine lv_icmp_eq (tgt := 104) hx hb dX4_fitsTheRow_99 (by decide) (fun c_4 => ?_) (fun c_4 => ?_)
    · have hf := itT c_4 hf
      refine lv_iinc (v := (x3 + (1 : Int32))) (lv' := [(3, .int (x3 + (1 : Int32))), (5, .int y0), (0, .ref zv), (1, .int x1), (2, .int x2), (4, .int x4)]) hx hb dX4_fitsTheRow_104 hl (k := 4) rfl rfl (by decide) rfl (fun ls hl => ?_)
      refine lv_iinc (v := (x4 + (1 : Int32))) (lv' := [(4, .int (x4 + (1 : Int32))), (3, .int (x3 + (1 : Int32))), (5, .int y0), (0, .ref zv), (1, .int x1), (2, .int x2)]) hx hb dX4_fitsTheRow_107 hl (k := 5) rfl rfl (by decide) rfl (fun ls hl => ?_)
      refine lv_goto (tgt := 14) hx hb dX4_fitsTheRow_110 (by decide) ?_
      exact K14 _ _ _ _ hf _ _ hP hD hS _ (lv_sub hl [3, 4, 5, 1, 0] rfl)
    · have hf := itF c_4 hf
      refine lv_iconst (v := (0 : Int32)) hx hb dX4_fitsTheRow_102 (by decide) ?_
      obtain rfl := Option.some.inj hf
      exact s_zret (r := (0 : Int32)) hx hb hr hlocks hK hP hD hS rfl dX4_fitsTheRow_103
set_option maxHeartbeats 4000000 in
set_option maxRecDepth 100000 in
theorem ts_X4_fitsTheRow_14 {p : Program} {l : Launch} {e : Env} {s : State} {m : MethodId} {args : Array Value} {below : List Frame} {meth : Method} {c : Code} {D : va_G} {cI cJ : ClassId} {A : Nat → Prop} {fu : Nat} {zv qv6 qv8 zn zr zk zl zo qn0 qn1 qn2 qn3 qn4 : Nat} {SV : S32} {SN : S32} {o : Int32} (C0 : Cx RX4 wsX4_fitsTheRow cX4_fitsTheRow 6 (some .boolean) D vwCl (tyS cI cJ) p s m args meth c) (hA : ∀ q : Nat, s.heap.size ≤ q → A q) {k14 : Int32 → Int32 → Int32 → Int32 → Option (Int32)} (K14 : ∀ (x1 : Int32) (x2 : Int32) (x3 : Int32) (x4 : Int32), k14 x1 x2 x3 x4 = some o → ∀ (H : Heap) (locs : List Loc), va_P D vwCl ((wV zv qv6 qv8 zn zr zk zl zo cI SV) ++ (wT zn qn0 qn1 qn2 qn3 qn4 cI SN)) H → va_D A ((wV zv qv6 qv8 zn zr zk zl zo cI SV) ++ (wT zn qn0 qn1 qn2 qn3 qn4 cI SN)) → va_S A s.heap H locs → ∀ (ls : Array Slot), lv_has ls 6 [(0, .ref zv), (1, .int x1), (2, .int x2), (3, .int x3), (4, .int x4)] → W p l e rm_X4_fitsTheRow s m args below meth c H locs 0 0 (MQ below (sZi D vwCl (tyS cI cJ) A ((wV zv qv6 qv8 zn zr zk zl zo cI SV) ++ (wT zn qn0 qn1 qn2 qn3 qn4 cI SN)) (o)) args s 0 0 A) (F0 m 14 ls [])) : ∀ (x1 : Int32) (x2 : Int32) (x3 : Int32) (x4 : Int32), s_X4_fitsTheRow_14 fu  k14 SV SN x1 x2 x3 x4 = some o → ∀ (H : Heap) (locs : List Loc), va_P D vwCl ((wV zv qv6 qv8 zn zr zk zl zo cI SV) ++ (wT zn qn0 qn1 qn2 qn3 qn4 cI SN)) H → va_D A ((wV zv qv6 qv8 zn zr zk zl zo cI SV) ++ (wT zn qn0 qn1 qn2 qn3 qn4 cI SN)) → va_S A s.heap H locs → ∀ (ls : Array Slot), lv_has ls 6 [(0, .ref zv), (1, .int x1), (2, .int x2), (3, .int x3), (4, .int x4)] → W p l e rm_X4_fitsTheRow s m args below meth c H locs 0 0 (MQ below (sZi D vwCl (tyS cI cJ) A ((wV zv qv6 qv8 zn zr zk zl zo cI SV) ++ (wT zn qn0 qn1 qn2 qn3 qn4 cI SN)) (o)) args s 0 0 A) (F0 m 14 ls []) := by
  obtain ⟨hx, hb, hr, hml, hown, hts, hlocks, hK⟩ := id C0
  intro x1 x2 x3 x4 hf H locs hP hD hS ls hl
  have hP : va_P D vwCl [(zv, .inr (3, [.ref zn, .ref zr, .ref zk, .int (SV 3 0), .ref zl, .ref zo, .ref qv6, .int (SV 7 0), .ref qv8])), (qv6, .inl (cI, 8, .inl (SV 6))), (qv8, .inl (cI, 7, .inl (SV 8))), (zn, .inr (2, [.ref qn0, .ref qn1, .ref qn2, .ref qn3, .ref qn4, .int (SN 5 0), .int (SN 6 0)])), (qn0, .inl (cI, 8, .inl (SN 0))), (qn1, .inl (cI, 8, .inl (SN 1))), (qn2, .inl (cI, 8, .inl (SN 2))), (qn3, .inl (cI, 8, .inl (SN 3))), (qn4, .inl (cI, 8, .inl (SN 4)))] H := hP
  have hD : va_D A [(zv, .inr (3, [.ref zn, .ref zr, .ref zk, .int (SV 3 0), .ref zl, .ref zo, .ref qv6, .int (SV 7 0), .ref qv8])), (qv6, .inl (cI, 8, .inl (SV 6))), (qv8, .inl (cI, 7, .inl (SV 8))), (zn, .inr (2, [.ref qn0, .ref qn1, .ref qn2, .ref qn3, .ref qn4, .int (SN 5 0), .int (SN 6 0)])), (qn0, .inl (cI, 8, .inl (SN 0))), (qn1, .inl (cI, 8, .inl (SN 1))), (qn2, .inl (cI, 8, .inl (SN 2))), (qn3, .inl (cI, 8, .inl (SN 3))), (qn4, .inl (cI, 8, .inl (SN 4)))] := hD
  refine lv_iload hx hb dX4_fitsTheRow_14 (lv_at hl 4 rfl) ?_
  refine lv_bipush (v := (8 : Int32)) hx hb dX4_fitsTheRow_16 (by decide) ?_
  refine lv_icmp_ge (tgt := 113) hx hb dX4_fitsTheRow_18 (by decide) (fun c_1 => ?_) (fun c_1 => ?_)
  · have hf := itT c_1 hf
    refine lv_iconst (v := (1 : Int32)) hx hb dX4_fitsTheRow_113 (by decide) ?_
    obtain rfl := Option.some.inj hf
    exact s_zret (r := (1 : Int32)) hx hb hr hlocks hK hP hD hS rfl dX4_fitsTheRow_114
  · have hf := itF c_1 hf
    refine lv_iload_n hx hb dX4_fitsTheRow_21 rfl (lv_at hl 3 rfl) ?_
    refine lv_aload_n hx hb dX4_fitsTheRow_22 rfl (lv_at hl 0 rfl) ?_
    refine va_get (D := D) (ci := 3) (v := .int (SV 7 0)) (C := RX4) (T := TX4) (N := 9) hx hb hts i_X4_fitsTheRow_X4 hown hK hP 0 rfl rfl 7 (by decide) (hts _ q_X4_fitsTheRow_2) (fun _ h9 => h9) rfl dX4_fitsTheRow_23 ?_
    refine lv_icmp_ge (tgt := 113) hx hb dX4_fitsTheRow_26 (by decide) (fun c_2 => ?_) (fun c_2 => ?_)
    · have hf := itT c_2 hf
      refine lv_iconst (v := (1 : Int32)) hx hb dX4_fitsTheRow_113 (by decide) ?_
      obtain rfl := Option.some.inj hf
      exact s_zret (r := (1 : Int32)) hx hb hr hlocks hK hP hD hS rfl dX4_fitsTheRow_114
    · have hf := itF c_2 hf
      refine lv_aload_n hx hb dX4_fitsTheRow_29 rfl (lv_at hl 0 rfl) ?_
      refine va_get (D := D) (ci := 3) (v := .ref zn) (C := RX4) (T := TX4) (N := 9) hx hb hts i_X4_fitsTheRow_X4 hown hK hP 0 rfl rfl 0 (by decide) (hts _ q_X4_fitsTheRow_1) (fun _ h9 => h9) rfl dX4_fitsTheRow_30 ?_
      refine lv_iload hx hb dX4_fitsTheRow_33 (lv_at hl 4 rfl) ?_
      obtain ⟨o_3, h_3, hf⟩ := bd_some hf
      refine s_callVI (wc := (wT zn qn0 qn1 qn2 qn3 qn4 cI SN)) (wr := [(zv, .inr (3, [.ref zn, .ref zr, .ref zk, .int (SV 3 0), .ref zl, .ref zo, .ref qv6, .int (SV 7 0), .ref qv8])), (qv6, .inl (cI, 8, .inl (SV 6))), (qv8, .inl (cI, 7, .inl (SV 8)))]) (wc' := (wT zn qn0 qn1 qn2 qn3 qn4 cI SN)) (w' := [(zv, .inr (3, [.ref zn, .ref zr, .ref zk, .int (SV 3 0), .ref zl, .ref zo, .ref qv6, .int (SV 7 0), .ref qv8])), (qv6, .inl (cI, 8, .inl (SV 6))), (qv8, .inl (cI, 7, .inl (SV 8))), (zn, .inr (2, [.ref qn0, .ref qn1, .ref qn2, .ref qn3, .ref qn4, .int (SN 5 0), .int (SN 6 0)])), (qn0, .inl (cI, 8, .inl (SN 0))), (qn1, .inl (cI, 8, .inl (SN 1))), (qn2, .inl (cI, 8, .inl (SN 2))), (qn3, .inl (cI, 8, .inl (SN 3))), (qn4, .inl (cI, 8, .inl (SN 4)))]) (isC := [3, 4, 5, 6, 7, 8]) (isR := [0, 1, 2]) (perm := [0, 1, 2, 3, 4, 5, 6, 7, 8]) (As := [.int x4]) (rest := []) (ci := 2) (q := (RX3, TX3, 7)) ⟨hx, hb, hml, hown, hts⟩ (c_X3_isAlive l D cI cJ fu zn qn0 qn1 qn2 qn3 qn4 SN x4 o_3 h_3) (cwV 1 hts gX4_fitsTheRow_X3_isAlive rfl rfl rfl (by decide +kernel) ⟨Nat.le_of_ble_eq_true rfl, Nat.le_of_ble_eq_true rfl⟩) hK hP hD hS hA ⟨rfl, rfl, by decide, by decide, by decide, by decide, rfl⟩ rfl rfl rfl rfl hl.1 rfl (Nat.le_of_ble_eq_true rfl) dX4_fitsTheRow_35 (fun H locs hP hD hS => ?_)
      refine lv_if_ne (tgt := 44) hx hb dX4_fitsTheRow_38 (by decide) (fun c_4 => ?_) (fun c_4 => ?_)
      · have hf := itF c_4 hf
        refine lv_iload_n hx hb dX4_fitsTheRow_44 rfl (lv_at hl 1 rfl) ?_
        refine lv_iload hx hb dX4_fitsTheRow_45 (lv_at hl 4 rfl) ?_
        obtain ⟨o_5, h_5, hf⟩ := bd_some hf
        refine s_callSI (wc := []) (wr := [(zv, .inr (3, [.ref zn, .ref zr, .ref zk, .int (SV 3 0), .ref zl, .ref zo, .ref qv6, .int (SV 7 0), .ref qv8])), (qv6, .inl (cI, 8, .inl (SV 6))), (qv8, .inl (cI, 7, .inl (SV 8))), (zn, .inr (2, [.ref qn0, .ref qn1, .ref qn2, .ref qn3, .ref qn4, .int (SN 5 0), .int (SN 6 0)])), (qn0, .inl (cI, 8, .inl (SN 0))), (qn1, .inl (cI, 8, .inl (SN 1))), (qn2, .inl (cI, 8, .inl (SN 2))), (qn3, .inl (cI, 8, .inl (SN 3))), (qn4, .inl (cI, 8, .inl (SN 4)))]) (wc' := []) (w' := [(zv, .inr (3, [.ref zn, .ref zr, .ref zk, .int (SV 3 0), .ref zl, .ref zo, .ref qv6, .int (SV 7 0), .ref qv8])), (qv6, .inl (cI, 8, .inl (SV 6))), (qv8, .inl (cI, 7, .inl (SV 8))), (zn, .inr (2, [.ref qn0, .ref qn1, .ref qn2, .ref qn3, .ref qn4, .int (SN 5 0), .int (SN 6 0)])), (qn0, .inl (cI, 8, .inl (SN 0))), (qn1, .inl (cI, 8, .inl (SN 1))), (qn2, .inl (cI, 8, .inl (SN 2))), (qn3, .inl (cI, 8, .inl (SN 3))), (qn4, .inl (cI, 8, .inl (SN 4)))]) (isC := []) (isR := [0, 1, 2, 3, 4, 5, 6, 7, 8]) (perm := [0, 1, 2, 3, 4, 5, 6, 7, 8]) (As := [.int x1, .int x4]) (rest := []) ⟨hx, hb, hml, hown, hts⟩ (c_X3_holds l D cI cJ fu x1 x4 o_5 h_5) (va_cwS 2 hts gX4_fitsTheRow_X3_holds rfl rfl rfl (by decide +kernel) ⟨Nat.le_of_ble_eq_true rfl, Nat.le_of_ble_eq_true rfl⟩) hK hP hD hS hA ⟨rfl, rfl, by decide, by decide, by decide, by decide, rfl⟩ rfl hl.1 rfl (Nat.le_of_ble_eq_true rfl) dX4_fitsTheRow_47 (fun H locs hP hD hS => ?_)
        refine lv_if_eq (tgt := 57) hx hb dX4_fitsTheRow_50 (by decide) (fun c_6 => ?_) (fun c_6 => ?_)
        · have hf := itT c_6 hf
          refine lv_aload_n hx hb dX4_fitsTheRow_57 rfl (lv_at hl 0 rfl) ?_
          refine va_get (D := D) (ci := 3) (v := .ref zn) (C := RX4) (T := TX4) (N := 9) hx hb hts i_X4_fitsTheRow_X4 hown hK hP 0 rfl rfl 0 (by decide) (hts _ q_X4_fitsTheRow_1) (fun _ h9 => h9) rfl dX4_fitsTheRow_58 ?_
          refine va_get (D := D) (ci := 2) (v := .ref qn2) (C := RX3) (T := TX3) (N := 7) hx hb hts i_X4_fitsTheRow_X3 hown hK hP 3 rfl rfl 2 (by decide) (hts _ q_X4_fitsTheRow_3) (fun _ h9 => h9) rfl dX4_fitsTheRow_61 ?_
          refine lv_iload hx hb dX4_fitsTheRow_64 (lv_at hl 4 rfl) ?_
          obtain ⟨g_7, hf⟩ := gd_some hf
          refine va_iald hx hb hK hP 6 0 rfl rfl g_7 dX4_fitsTheRow_66 ?_
          refine lv_aload_n hx hb dX4_fitsTheRow_67 rfl (lv_at hl 0 rfl) ?_
          refine va_get (D := D) (ci := 3) (v := .ref zn) (C := RX4) (T := TX4) (N := 9) hx hb hts i_X4_fitsTheRow_X4 hown hK hP 0 rfl rfl 0 (by decide) (hts _ q_X4_fitsTheRow_1) (fun _ h9 => h9) rfl dX4_fitsTheRow_68 ?_
          refine lv_iload hx hb dX4_fitsTheRow_71 (lv_at hl 4 rfl) ?_
          refine lv_iload_n hx hb dX4_fitsTheRow_73 rfl (lv_at hl 2 rfl) ?_
          obtain ⟨o_8, h_8, hf⟩ := bd_some hf
          refine s_callVI (wc := (wT zn qn0 qn1 qn2 qn3 qn4 cI SN)) (wr := [(zv, .inr (3, [.ref zn, .ref zr, .ref zk, .int (SV 3 0), .ref zl, .ref zo, .ref qv6, .int (SV 7 0), .ref qv8])), (qv6, .inl (cI, 8, .inl (SV 6))), (qv8, .inl (cI, 7, .inl (SV 8)))]) (wc' := (wT zn qn0 qn1 qn2 qn3 qn4 cI SN)) (w' := [(zv, .inr (3, [.ref zn, .ref zr, .ref zk, .int (SV 3 0), .ref zl, .ref zo, .ref qv6, .int (SV 7 0), .ref qv8])), (qv6, .inl (cI, 8, .inl (SV 6))), (qv8, .inl (cI, 7, .inl (SV 8))), (zn, .inr (2, [.ref qn0, .ref qn1, .ref qn2, .ref qn3, .ref qn4, .int (SN 5 0), .int (SN 6 0)])), (qn0, .inl (cI, 8, .inl (SN 0))), (qn1, .inl (cI, 8, .inl (SN 1))), (qn2, .inl (cI, 8, .inl (SN 2))), (qn3, .inl (cI, 8, .inl (SN 3))), (qn4, .inl (cI, 8, .inl (SN 4)))]) (isC := [3, 4, 5, 6, 7, 8]) (isR := [0, 1, 2]) (perm := [0, 1, 2, 3, 4, 5, 6, 7, 8]) (As := [.int x4, .int x2]) (rest := [.int (SN 2 x4.toNatClampNeg)]) (ci := 2) (q := (RX3, TX3, 7)) ⟨hx, hb, hml, hown, hts⟩ (c_X3_floorsUp l D cI cJ fu zn qn0 qn1 qn2 qn3 qn4 SN x4 x2 o_8 h_8) (cwV 2 hts gX4_fitsTheRow_X3_floorsUp rfl rfl rfl (by decide +kernel) ⟨Nat.le_of_ble_eq_true rfl, Nat.le_of_ble_eq_true rfl⟩) hK hP hD hS hA ⟨rfl, rfl, by decide, by decide, by decide, by decide, rfl⟩ rfl rfl rfl rfl hl.1 rfl (Nat.le_of_ble_eq_true rfl) dX4_fitsTheRow_74 (fun H locs hP hD hS => ?_)
          refine lv_iadd hx hb dX4_fitsTheRow_77 ?_
          exact t_X4_fitsTheRow_78 (fu := fu) C0 hA K14 _ _ _ _ _ hf _ _ hP hD hS _ (lv_sub hl [0, 1, 2, 3, 4] rfl)
        · have hf := itF c_6 hf
          refine lv_iconst (v := (-1 : Int32)) hx hb dX4_fitsTheRow_53 (by decide) ?_
          refine lv_goto (tgt := 78) hx hb dX4_fitsTheRow_54 (by decide) ?_
          exact t_X4_fitsTheRow_78 (fu := fu) C0 hA K14 _ _ _ _ _ hf _ _ hP hD hS _ (lv_sub hl [0, 1, 2, 3, 4] rfl)
      · have hf := itT c_4 hf
        refine lv_goto (tgt := 107) hx hb dX4_fitsTheRow_41 (by decide) ?_
        refine lv_iinc (v := (x4 + (1 : Int32))) (lv' := [(4, .int (x4 + (1 : Int32))), (0, .ref zv), (1, .int x1), (2, .int x2), (3, .int x3)]) hx hb dX4_fitsTheRow_107 hl (k := 4) rfl rfl (by decide) rfl (fun ls hl => ?_)
        refine lv_goto (tgt := 14) hx hb dX4_fitsTheRow_110 (by decide) ?_
        exact K14 _ _ _ _ hf _ _ hP hD hS _ (lv_sub hl [1, 2, 3, 4, 0] rfl)
theorem t_X4_fitsTheRow_14 {p : Program} {l : Launch} {e : Env} {s : State} {m : MethodId} {args : Array Value} {below : List Frame} {meth : Method} {c : Code} {D : va_G} {cI cJ : ClassId} {A : Nat → Prop} {fu : Nat} {zv qv6 qv8 zn zr zk zl zo qn0 qn1 qn2 qn3 qn4 : Nat} {SV : S32} {SN : S32} {o : Int32} (C0 : Cx RX4 wsX4_fitsTheRow cX4_fitsTheRow 6 (some .boolean) D vwCl (tyS cI cJ) p s m args meth c) (hA : ∀ q : Nat, s.heap.size ≤ q → A q) : ∀ (n : Nat) (x1 : Int32) (x2 : Int32) (x3 : Int32) (x4 : Int32), f_X4_fitsTheRow_14 fu  SV SN n x1 x2 x3 x4 = some o → ∀ (H : Heap) (locs : List Loc), va_P D vwCl ((wV zv qv6 qv8 zn zr zk zl zo cI SV) ++ (wT zn qn0 qn1 qn2 qn3 qn4 cI SN)) H → va_D A ((wV zv qv6 qv8 zn zr zk zl zo cI SV) ++ (wT zn qn0 qn1 qn2 qn3 qn4 cI SN)) → va_S A s.heap H locs → ∀ (ls : Array Slot), lv_has ls 6 [(0, .ref zv), (1, .int x1), (2, .int x2), (3, .int x3), (4, .int x4)] → W p l e rm_X4_fitsTheRow s m args below meth c H locs 0 0 (MQ below (sZi D vwCl (tyS cI cJ) A ((wV zv qv6 qv8 zn zr zk zl zo cI SV) ++ (wT zn qn0 qn1 qn2 qn3 qn4 cI SN)) (o)) args s 0 0 A) (F0 m 14 ls []) := by
  intro n
  induction n with
  | zero =>
    intro x1 x2 x3 x4 hf
    have hf : (none : Option (Int32)) = some o := hf
    cases hf
  | succ n ih => exact ts_X4_fitsTheRow_14 (fu := fu) (k14 := f_X4_fitsTheRow_14 fu  SV SN n) C0 hA  ih
set_option maxHeartbeats 4000000 in
set_option maxRecDepth 100000 in
theorem c_X4_fitsTheRow (l : Launch) (D : va_G) (cI cJ : ClassId) (fu : Nat) (zv qv6 qv8 zn zr zk zl zo qn0 qn1 qn2 qn3 qn4 : Nat) (SV : S32) (SN : S32) (x1 : Int32) (o : Int32) (hf : f_X4_fitsTheRow fu SV SN x1 = some o) : MI l yX4_fitsTheRow wsX4_fitsTheRow rm_X4_fitsTheRow D vwCl (tyS cI cJ) [.ref zv, .int x1] ((wV zv qv6 qv8 zn zr zk zl zo cI SV) ++ (wT zn qn0 qn1 qn2 qn3 qn4 cI SN)) ((wV zv qv6 qv8 zn zr zk zl zo cI SV) ++ (wT zn qn0 qn1 qn2 qn3 qn4 cI SN)) (o) := by
  intro sz
  refine s_entry (own := RX4) (cc := cX4_fitsTheRow) (maxL := 6) (ret := (some .boolean)) (Qc := fun A => sZi D vwCl (tyS cI cJ) A ((wV zv qv6 qv8 zn zr zk zl zo cI SV) ++ (wT zn qn0 qn1 qn2 qn3 qn4 cI SN)) (o)) rfl (by decide) rfl rfl (Nat.le_of_ble_eq_true rfl) ?_
  intro p e s m args below meth c A C0 hA hP hD hS ls hl
  obtain ⟨hx, hb, hr, hml, hown, hts, hlocks, hK⟩ := id C0
  have hl : lv_has ls 6 [(0, .ref zv), (1, .int x1)] := hl
  have hP : va_P D vwCl [(zv, .inr (3, [.ref zn, .ref zr, .ref zk, .int (SV 3 0), .ref zl, .ref zo, .ref qv6, .int (SV 7 0), .ref qv8])), (qv6, .inl (cI, 8, .inl (SV 6))), (qv8, .inl (cI, 7, .inl (SV 8))), (zn, .inr (2, [.ref qn0, .ref qn1, .ref qn2, .ref qn3, .ref qn4, .int (SN 5 0), .int (SN 6 0)])), (qn0, .inl (cI, 8, .inl (SN 0))), (qn1, .inl (cI, 8, .inl (SN 1))), (qn2, .inl (cI, 8, .inl (SN 2))), (qn3, .inl (cI, 8, .inl (SN 3))), (qn4, .inl (cI, 8, .inl (SN 4)))] s.heap := hP
  have hD : va_D A [(zv, .inr (3, [.ref zn, .ref zr, .ref zk, .int (SV 3 0), .ref zl, .ref zo, .ref qv6, .int (SV 7 0), .ref qv8])), (qv6, .inl (cI, 8, .inl (SV 6))), (qv8, .inl (cI, 7, .inl (SV 8))), (zn, .inr (2, [.ref qn0, .ref qn1, .ref qn2, .ref qn3, .ref qn4, .int (SN 5 0), .int (SN 6 0)])), (qn0, .inl (cI, 8, .inl (SN 0))), (qn1, .inl (cI, 8, .inl (SN 1))), (qn2, .inl (cI, 8, .inl (SN 2))), (qn3, .inl (cI, 8, .inl (SN 3))), (qn4, .inl (cI, 8, .inl (SN 4)))] := hD
  refine lv_aload_n hx hb dX4_fitsTheRow_0 rfl (lv_at hl 0 rfl) ?_
  refine va_get (D := D) (ci := 3) (v := .ref zn) (C := RX4) (T := TX4) (N := 9) hx hb hts i_X4_fitsTheRow_X4 hown hK hP 0 rfl rfl 0 (by decide) (hts _ q_X4_fitsTheRow_1) (fun _ h9 => h9) rfl dX4_fitsTheRow_1 ?_
  refine lv_iload_n hx hb dX4_fitsTheRow_4 rfl (lv_at hl 1 rfl) ?_
  obtain ⟨o_1, h_1, hf⟩ := bd_some hf
  refine s_callVI (wc := (wT zn qn0 qn1 qn2 qn3 qn4 cI SN)) (wr := [(zv, .inr (3, [.ref zn, .ref zr, .ref zk, .int (SV 3 0), .ref zl, .ref zo, .ref qv6, .int (SV 7 0), .ref qv8])), (qv6, .inl (cI, 8, .inl (SV 6))), (qv8, .inl (cI, 7, .inl (SV 8)))]) (wc' := (wT zn qn0 qn1 qn2 qn3 qn4 cI SN)) (w' := [(zv, .inr (3, [.ref zn, .ref zr, .ref zk, .int (SV 3 0), .ref zl, .ref zo, .ref qv6, .int (SV 7 0), .ref qv8])), (qv6, .inl (cI, 8, .inl (SV 6))), (qv8, .inl (cI, 7, .inl (SV 8))), (zn, .inr (2, [.ref qn0, .ref qn1, .ref qn2, .ref qn3, .ref qn4, .int (SN 5 0), .int (SN 6 0)])), (qn0, .inl (cI, 8, .inl (SN 0))), (qn1, .inl (cI, 8, .inl (SN 1))), (qn2, .inl (cI, 8, .inl (SN 2))), (qn3, .inl (cI, 8, .inl (SN 3))), (qn4, .inl (cI, 8, .inl (SN 4)))]) (isC := [3, 4, 5, 6, 7, 8]) (isR := [0, 1, 2]) (perm := [0, 1, 2, 3, 4, 5, 6, 7, 8]) (As := [.int x1]) (rest := []) (ci := 2) (q := (RX3, TX3, 7)) ⟨hx, hb, hml, hown, hts⟩ (c_X3_floorsOf l D cI cJ fu zn qn0 qn1 qn2 qn3 qn4 SN x1 o_1 h_1) (cwV 1 hts gX4_fitsTheRow_X3_floorsOf rfl rfl rfl (by decide +kernel) ⟨Nat.le_of_ble_eq_true rfl, Nat.le_of_ble_eq_true rfl⟩) hK hP hD hS hA ⟨rfl, rfl, by decide, by decide, by decide, by decide, rfl⟩ rfl rfl rfl rfl hl.1 rfl (Nat.le_of_ble_eq_true rfl) dX4_fitsTheRow_5 (fun H locs hP hD hS => ?_)
  refine lv_istore_n (lv' := [(2, .int o_1), (0, .ref zv), (1, .int x1)]) hx hb dX4_fitsTheRow_8 rfl hl (by decide) rfl (fun ls hl => ?_)
  refine lv_iconst (v := (0 : Int32)) hx hb dX4_fitsTheRow_9 (by decide) ?_
  refine lv_istore_n (lv' := [(3, .int (0 : Int32)), (2, .int o_1), (0, .ref zv), (1, .int x1)]) hx hb dX4_fitsTheRow_10 rfl hl (by decide) rfl (fun ls hl => ?_)
  refine lv_iconst (v := (0 : Int32)) hx hb dX4_fitsTheRow_11 (by decide) ?_
  refine lv_istore (lv' := [(4, .int (0 : Int32)), (3, .int (0 : Int32)), (2, .int o_1), (0, .ref zv), (1, .int x1)]) hx hb dX4_fitsTheRow_12 hl (by decide) rfl (fun ls hl => ?_)
  exact t_X4_fitsTheRow_14 (fu := fu) C0 hA  fu _ _ _ _ hf _ _ hP hD hS _ (lv_sub hl [3, 4, 2, 1, 0] rfl)
theorem q_X4_fitting_1 : (Cond.fieldLink RX4 160 "UpWhenDies" "toldSize" "I" : Cond) ∈ wsX4_fitting := List.mem_of_getElem? (i := 1) rfl
theorem q_X4_fitting_2 : (Cond.fieldLink RX4 10 "UpWhenDies" "now" "LUpWhenDies$Tower;" : Cond) ∈ wsX4_fitting := List.mem_of_getElem? (i := 2) rfl
theorem i_X4_fitting_X4 : ∀ w ∈ wsX40, w ∈ wsX4_fitting := fun _ h => (List.mem_cons_of_mem _ (List.mem_append_left _ (List.mem_append_right _ h)))
abbrev rm_X4_fitting : Room := { frames := 3, cells := 0, slots := 0, locals := 69 }
set_option maxHeartbeats 4000000 in
set_option maxRecDepth 100000 in
theorem t_X4_fitting_96 {p : Program} {l : Launch} {e : Env} {s : State} {m : MethodId} {args : Array Value} {below : List Frame} {meth : Method} {c : Code} {D : va_G} {cI cJ : ClassId} {A : Nat → Prop} {fu : Nat} {zv qv6 qv8 zn zr zk zl zo qn0 qn1 qn2 qn3 qn4 : Nat} {SN : S32} {o : Int32 × S32} (C0 : Cx RX4 wsX4_fitting cX4_fitting 5 (some .int) D vwCl (tyS cI cJ) p s m args meth c) (hA : ∀ q : Nat, s.heap.size ≤ q → A q) : ∀ (x1 : Int32) (x2 : Int32) (x3 : Int32) (SV : S32), f_X4_fitting_96 fu  SN x1 x2 x3 SV = some o → ∀ (H : Heap) (locs : List Loc), va_P D vwCl ((wV zv qv6 qv8 zn zr zk zl zo cI SV) ++ (wT zn qn0 qn1 qn2 qn3 qn4 cI SN)) H → va_D A ((wV zv qv6 qv8 zn zr zk zl zo cI SV) ++ (wT zn qn0 qn1 qn2 qn3 qn4 cI SN)) → va_S A s.heap H locs → ∀ (ls : Array Slot), lv_has ls 5 [(1, .int x1), (2, .int x2), (3, .int x3)] → W p l e rm_X4_fitting s m args below meth c H locs 0 0 (MQ below (sZi D vwCl (tyS cI cJ) A ((wV zv qv6 qv8 zn zr zk zl zo cI (o.2)) ++ (wT zn qn0 qn1 qn2 qn3 qn4 cI SN)) (o.1)) args s 0 0 A) (F0 m 96 ls []) := by
  obtain ⟨hx, hb, hr, hml, hown, hts, hlocks, hK⟩ := id C0
  intro x1 x2 x3 SV hf H locs hP hD hS ls hl
  have hP : va_P D vwCl [(zv, .inr (3, [.ref zn, .ref zr, .ref zk, .int (SV 3 0), .ref zl, .ref zo, .ref qv6, .int (SV 7 0), .ref qv8])), (qv6, .inl (cI, 8, .inl (SV 6))), (qv8, .inl (cI, 7, .inl (SV 8))), (zn, .inr (2, [.ref qn0, .ref qn1, .ref qn2, .ref qn3, .ref qn4, .int (SN 5 0), .int (SN 6 0)])), (qn0, .inl (cI, 8, .inl (SN 0))), (qn1, .inl (cI, 8, .inl (SN 1))), (qn2, .inl (cI, 8, .inl (SN 2))), (qn3, .inl (cI, 8, .inl (SN 3))), (qn4, .inl (cI, 8, .inl (SN 4)))] H := hP
  have hD : va_D A [(zv, .inr (3, [.ref zn, .ref zr, .ref zk, .int (SV 3 0), .ref zl, .ref zo, .ref qv6, .int (SV 7 0), .ref qv8])), (qv6, .inl (cI, 8, .inl (SV 6))), (qv8, .inl (cI, 7, .inl (SV 8))), (zn, .inr (2, [.ref qn0, .ref qn1, .ref qn2, .ref qn3, .ref qn4, .int (SN 5 0), .int (SN 6 0)])), (qn0, .inl (cI, 8, .inl (SN 0))), (qn1, .inl (cI, 8, .inl (SN 1))), (qn2, .inl (cI, 8, .inl (SN 2))), (qn3, .inl (cI, 8, .inl (SN 3))), (qn4, .inl (cI, 8, .inl (SN 4)))] := hD
  refine lv_iload_n hx hb dX4_fitting_96 rfl (lv_at hl 0 rfl) ?_
  refine lv_if_ne (tgt := 104) hx hb dX4_fitting_97 (by decide) (fun c_1 => ?_) (fun c_1 => ?_)
  · have hf := itF c_1 hf
    refine lv_iload_n hx hb dX4_fitting_104 rfl (lv_at hl 2 rfl) ?_
    obtain rfl := Option.some.inj hf
    exact s_iret (r := x3) hx hb hr hlocks hK hP hD hS dX4_fitting_105
  · have hf := itT c_1 hf
    refine lv_iload_n hx hb dX4_fitting_100 rfl (lv_at hl 1 rfl) ?_
    refine lv_goto (tgt := 105) hx hb dX4_fitting_101 (by decide) ?_
    obtain rfl := Option.some.inj hf
    exact s_iret (r := x2) hx hb hr hlocks hK hP hD hS dX4_fitting_105
set_option maxHeartbeats 4000000 in
set_option maxRecDepth 100000 in
theorem ts_X4_fitting_48 {p : Program} {l : Launch} {e : Env} {s : State} {m : MethodId} {args : Array Value} {below : List Frame} {meth : Method} {c : Code} {D : va_G} {cI cJ : ClassId} {A : Nat → Prop} {fu : Nat} {zv qv6 qv8 zn zr zk zl zo qn0 qn1 qn2 qn3 qn4 : Nat} {SN : S32} {o : Int32 × S32} (C0 : Cx RX4 wsX4_fitting cX4_fitting 5 (some .int) D vwCl (tyS cI cJ) p s m args meth c) (hA : ∀ q : Nat, s.heap.size ≤ q → A q) {k48 : Int32 → Int32 → Int32 → Int32 → S32 → Option (Int32 × S32)} (K48 : ∀ (x1 : Int32) (x2 : Int32) (x3 : Int32) (x4 : Int32) (SV : S32), k48 x1 x2 x3 x4 SV = some o → ∀ (H : Heap) (locs : List Loc), va_P D vwCl ((wV zv qv6 qv8 zn zr zk zl zo cI SV) ++ (wT zn qn0 qn1 qn2 qn3 qn4 cI SN)) H → va_D A ((wV zv qv6 qv8 zn zr zk zl zo cI SV) ++ (wT zn qn0 qn1 qn2 qn3 qn4 cI SN)) → va_S A s.heap H locs → ∀ (ls : Array Slot), lv_has ls 5 [(0, .ref zv), (1, .int x1), (2, .int x2), (3, .int x3), (4, .int x4)] → W p l e rm_X4_fitting s m args below meth c H locs 0 0 (MQ below (sZi D vwCl (tyS cI cJ) A ((wV zv qv6 qv8 zn zr zk zl zo cI (o.2)) ++ (wT zn qn0 qn1 qn2 qn3 qn4 cI SN)) (o.1)) args s 0 0 A) (F0 m 48 ls [])) : ∀ (x1 : Int32) (x2 : Int32) (x3 : Int32) (x4 : Int32) (SV : S32), s_X4_fitting_48 fu  k48 SN x1 x2 x3 x4 SV = some o → ∀ (H : Heap) (locs : List Loc), va_P D vwCl ((wV zv qv6 qv8 zn zr zk zl zo cI SV) ++ (wT zn qn0 qn1 qn2 qn3 qn4 cI SN)) H → va_D A ((wV zv qv6 qv8 zn zr zk zl zo cI SV) ++ (wT zn qn0 qn1 qn2 qn3 qn4 cI SN)) → va_S A s.heap H locs → ∀ (ls : Array Slot), lv_has ls 5 [(0, .ref zv), (1, .int x1), (2, .int x2), (3, .int x3), (4, .int x4)] → W p l e rm_X4_fitting s m args below meth c H locs 0 0 (MQ below (sZi D vwCl (tyS cI cJ) A ((wV zv qv6 qv8 zn zr zk zl zo cI (o.2)) ++ (wT zn qn0 qn1 qn2 qn3 qn4 cI SN)) (o.1)) args s 0 0 A) (F0 m 48 ls []) := by
  obtain ⟨hx, hb, hr, hml, hown, hts, hlocks, hK⟩ := id C0
  intro x1 x2 x3 x4 SV hf H locs hP hD hS ls hl
  have hP : va_P D vwCl [(zv, .inr (3, [.ref zn, .ref zr, .ref zk, .int (SV 3 0), .ref zl, .ref zo, .ref qv6, .int (SV 7 0), .ref qv8])), (qv6, .inl (cI, 8, .inl (SV 6))), (qv8, .inl (cI, 7, .inl (SV 8))), (zn, .inr (2, [.ref qn0, .ref qn1, .ref qn2, .ref qn3, .ref qn4, .int (SN 5 0), .int (SN 6 0)])), (qn0, .inl (cI, 8, .inl (SN 0))), (qn1, .inl (cI, 8, .inl (SN 1))), (qn2, .inl (cI, 8, .inl (SN 2))), (qn3, .inl (cI, 8, .inl (SN 3))), (qn4, .inl (cI, 8, .inl (SN 4)))] H := hP
  have hD : va_D A [(zv, .inr (3, [.ref zn, .ref zr, .ref zk, .int (SV 3 0), .ref zl, .ref zo, .ref qv6, .int (SV 7 0), .ref qv8])), (qv6, .inl (cI, 8, .inl (SV 6))), (qv8, .inl (cI, 7, .inl (SV 8))), (zn, .inr (2, [.ref qn0, .ref qn1, .ref qn2, .ref qn3, .ref qn4, .int (SN 5 0), .int (SN 6 0)])), (qn0, .inl (cI, 8, .inl (SN 0))), (qn1, .inl (cI, 8, .inl (SN 1))), (qn2, .inl (cI, 8, .inl (SN 2))), (qn3, .inl (cI, 8, .inl (SN 3))), (qn4, .inl (cI, 8, .inl (SN 4)))] := hD
  refine lv_iload hx hb dX4_fitting_48 (lv_at hl 4 rfl) ?_
  refine lv_sipush (v := (256 : Int32)) hx hb dX4_fitting_50 (by decide) ?_
  refine lv_icmp_ge (tgt := 96) hx hb dX4_fitting_53 (by decide) (fun c_1 => ?_) (fun c_1 => ?_)
  · have hf := itT c_1 hf
    exact t_X4_fitting_96 (fu := fu) C0 hA  _ _ _ _ hf _ _ hP hD hS _ (lv_sub hl [1, 2, 3] rfl)
  · have hf := itF c_1 hf
    refine lv_aload_n hx hb dX4_fitting_56 rfl (lv_at hl 0 rfl) ?_
    refine va_get (D := D) (ci := 3) (v := .ref zn) (C := RX4) (T := TX4) (N := 9) hx hb hts i_X4_fitting_X4 hown hK hP 0 rfl rfl 0 (by decide) (hts _ q_X4_fitting_2) (fun _ h9 => h9) rfl dX4_fitting_57 ?_
    refine lv_iload hx hb dX4_fitting_60 (lv_at hl 4 rfl) ?_
    obtain ⟨o_2, h_2, hf⟩ := bd_some hf
    refine s_callVI (wc := (wT zn qn0 qn1 qn2 qn3 qn4 cI SN)) (wr := [(zv, .inr (3, [.ref zn, .ref zr, .ref zk, .int (SV 3 0), .ref zl, .ref zo, .ref qv6, .int (SV 7 0), .ref qv8])), (qv6, .inl (cI, 8, .inl (SV 6))), (qv8, .inl (cI, 7, .inl (SV 8)))]) (wc' := (wT zn qn0 qn1 qn2 qn3 qn4 cI SN)) (w' := [(zv, .inr (3, [.ref zn, .ref zr, .ref zk, .int (SV 3 0), .ref zl, .ref zo, .ref qv6, .int (SV 7 0), .ref qv8])), (qv6, .inl (cI, 8, .inl (SV 6))), (qv8, .inl (cI, 7, .inl (SV 8))), (zn, .inr (2, [.ref qn0, .ref qn1, .ref qn2, .ref qn3, .ref qn4, .int (SN 5 0), .int (SN 6 0)])), (qn0, .inl (cI, 8, .inl (SN 0))), (qn1, .inl (cI, 8, .inl (SN 1))), (qn2, .inl (cI, 8, .inl (SN 2))), (qn3, .inl (cI, 8, .inl (SN 3))), (qn4, .inl (cI, 8, .inl (SN 4)))]) (isC := [3, 4, 5, 6, 7, 8]) (isR := [0, 1, 2]) (perm := [0, 1, 2, 3, 4, 5, 6, 7, 8]) (As := [.int x4]) (rest := []) (ci := 2) (q := (RX3, TX3, 7)) ⟨hx, hb, hml, hown, hts⟩ (c_X3_areAlive l D cI cJ fu zn qn0 qn1 qn2 qn3 qn4 SN x4 o_2 h_2) (cwV 1 hts gX4_fitting_X3_areAlive rfl rfl rfl (by decide +kernel) ⟨Nat.le_of_ble_eq_true rfl, Nat.le_of_ble_eq_true rfl⟩) hK hP hD hS hA ⟨rfl, rfl, by decide, by decide, by decide, by decide, rfl⟩ rfl rfl rfl rfl hl.1 rfl (Nat.le_of_ble_eq_true rfl) dX4_fitting_62 (fun H locs hP hD hS => ?_)
    refine lv_if_eq (tgt := 90) hx hb dX4_fitting_65 (by decide) (fun c_3 => ?_) (fun c_3 => ?_)
    · have hf := itT c_3 hf
      refine lv_iinc (v := (x4 + (1 : Int32))) (lv' := [(4, .int (x4 + (1 : Int32))), (0, .ref zv), (1, .int x1), (2, .int x2), (3, .int x3)]) hx hb dX4_fitting_90 hl (k := 4) rfl rfl (by decide) rfl (fun ls hl => ?_)
      refine lv_goto (tgt := 48) hx hb dX4_fitting_93 (by decide) ?_
      exact K48 _ _ _ _ _ hf _ _ hP hD hS _ (lv_sub hl [1, 2, 3, 4, 0] rfl)
    · have hf := itF c_3 hf
      refine lv_aload_n hx hb dX4_fitting_68 rfl (lv_at hl 0 rfl) ?_
      refine lv_iload hx hb dX4_fitting_69 (lv_at hl 4 rfl) ?_
      obtain ⟨o_4, h_4, hf⟩ := bd_some hf
      refine s_callVI (wc := ((wV zv qv6 qv8 zn zr zk zl zo cI SV) ++ (wT zn qn0 qn1 qn2 qn3 qn4 cI SN))) (wr := []) (wc' := ((wV zv qv6 qv8 zn zr zk zl zo cI SV) ++ (wT zn qn0 qn1 qn2 qn3 qn4 cI SN))) (w' := [(zv, .inr (3, [.ref zn, .ref zr, .ref zk, .int (SV 3 0), .ref zl, .ref zo, .ref qv6, .int (SV 7 0), .ref qv8])), (qv6, .inl (cI, 8, .inl (SV 6))), (qv8, .inl (cI, 7, .inl (SV 8))), (zn, .inr (2, [.ref qn0, .ref qn1, .ref qn2, .ref qn3, .ref qn4, .int (SN 5 0), .int (SN 6 0)])), (qn0, .inl (cI, 8, .inl (SN 0))), (qn1, .inl (cI, 8, .inl (SN 1))), (qn2, .inl (cI, 8, .inl (SN 2))), (qn3, .inl (cI, 8, .inl (SN 3))), (qn4, .inl (cI, 8, .inl (SN 4)))]) (isC := [0, 1, 2, 3, 4, 5, 6, 7, 8]) (isR := []) (perm := [0, 1, 2, 3, 4, 5, 6, 7, 8]) (As := [.int x4]) (rest := []) (ci := 3) (q := (RX4, TX4, 9)) ⟨hx, hb, hml, hown, hts⟩ (c_X4_fitsTheRow l D cI cJ fu zv qv6 qv8 zn zr zk zl zo qn0 qn1 qn2 qn3 qn4 SV SN x4 o_4 h_4) (cwV 1 hts gX4_fitting_X4_fitsTheRow rfl rfl rfl (by decide +kernel) ⟨Nat.le_of_ble_eq_true rfl, Nat.le_of_ble_eq_true rfl⟩) hK hP hD hS hA ⟨rfl, rfl, by decide, by decide, by decide, by decide, rfl⟩ rfl rfl rfl rfl hl.1 rfl (Nat.le_of_ble_eq_true rfl) dX4_fitting_71 (fun H locs hP hD hS => ?_)
      refine lv_if_ne (tgt := 80) hx hb dX4_fitting_74 (by decide) (fun c_5 => ?_) (fun c_5 => ?_)
      · have hf := itF c_5 hf
        refine lv_iload_n hx hb dX4_fitting_80 rfl (lv_at hl 2 rfl) ?_
        refine lv_if_ne (tgt := 87) hx hb dX4_fitting_81 (by decide) (fun c_6 => ?_) (fun c_6 => ?_)
        · have hf := itF c_6 hf
          refine lv_iinc (v := (x2 + (1 : Int32))) (lv' := [(2, .int (x2 + (1 : Int32))), (0, .ref zv), (1, .int x1), (3, .int x3), (4, .int x4)]) hx hb dX4_fitting_87 hl (k := 2) rfl rfl (by decide) rfl (fun ls hl => ?_)
          refine lv_iinc (v := (x4 + (1 : Int32))) (lv' := [(4, .int (x4 + (1 : Int32))), (2, .int (x2 + (1 : Int32))), (0, .ref zv), (1, .int x1), (3, .int x3)]) hx hb dX4_fitting_90 hl (k := 4) rfl rfl (by decide) rfl (fun ls hl => ?_)
          refine lv_goto (tgt := 48) hx hb dX4_fitting_93 (by decide) ?_
          exact K48 _ _ _ _ _ hf _ _ hP hD hS _ (lv_sub hl [2, 3, 1, 4, 0] rfl)
        · have hf := itT c_6 hf
          refine lv_iload hx hb dX4_fitting_84 (lv_at hl 4 rfl) ?_
          refine lv_istore_n (lv' := [(3, .int x4), (0, .ref zv), (1, .int x1), (2, .int x2), (4, .int x4)]) hx hb dX4_fitting_86 rfl hl (by decide) rfl (fun ls hl => ?_)
          refine lv_iinc (v := (x2 + (1 : Int32))) (lv' := [(2, .int (x2 + (1 : Int32))), (3, .int x4), (0, .ref zv), (1, .int x1), (4, .int x4)]) hx hb dX4_fitting_87 hl (k := 3) rfl rfl (by decide) rfl (fun ls hl => ?_)
          refine lv_iinc (v := (x4 + (1 : Int32))) (lv' := [(4, .int (x4 + (1 : Int32))), (2, .int (x2 + (1 : Int32))), (3, .int x4), (0, .ref zv), (1, .int x1)]) hx hb dX4_fitting_90 hl (k := 4) rfl rfl (by decide) rfl (fun ls hl => ?_)
          refine lv_goto (tgt := 48) hx hb dX4_fitting_93 (by decide) ?_
          exact K48 _ _ _ _ _ hf _ _ hP hD hS _ (lv_sub hl [3, 4, 1, 2, 0] rfl)
      · have hf := itT c_5 hf
        refine lv_goto (tgt := 90) hx hb dX4_fitting_77 (by decide) ?_
        refine lv_iinc (v := (x4 + (1 : Int32))) (lv' := [(4, .int (x4 + (1 : Int32))), (0, .ref zv), (1, .int x1), (2, .int x2), (3, .int x3)]) hx hb dX4_fitting_90 hl (k := 4) rfl rfl (by decide) rfl (fun ls hl => ?_)
        refine lv_goto (tgt := 48) hx hb dX4_fitting_93 (by decide) ?_
        exact K48 _ _ _ _ _ hf _ _ hP hD hS _ (lv_sub hl [1, 2, 3, 4, 0] rfl)
theorem t_X4_fitting_48 {p : Program} {l : Launch} {e : Env} {s : State} {m : MethodId} {args : Array Value} {below : List Frame} {meth : Method} {c : Code} {D : va_G} {cI cJ : ClassId} {A : Nat → Prop} {fu : Nat} {zv qv6 qv8 zn zr zk zl zo qn0 qn1 qn2 qn3 qn4 : Nat} {SN : S32} {o : Int32 × S32} (C0 : Cx RX4 wsX4_fitting cX4_fitting 5 (some .int) D vwCl (tyS cI cJ) p s m args meth c) (hA : ∀ q : Nat, s.heap.size ≤ q → A q) : ∀ (n : Nat) (x1 : Int32) (x2 : Int32) (x3 : Int32) (x4 : Int32) (SV : S32), f_X4_fitting_48 fu  SN n x1 x2 x3 x4 SV = some o → ∀ (H : Heap) (locs : List Loc), va_P D vwCl ((wV zv qv6 qv8 zn zr zk zl zo cI SV) ++ (wT zn qn0 qn1 qn2 qn3 qn4 cI SN)) H → va_D A ((wV zv qv6 qv8 zn zr zk zl zo cI SV) ++ (wT zn qn0 qn1 qn2 qn3 qn4 cI SN)) → va_S A s.heap H locs → ∀ (ls : Array Slot), lv_has ls 5 [(0, .ref zv), (1, .int x1), (2, .int x2), (3, .int x3), (4, .int x4)] → W p l e rm_X4_fitting s m args below meth c H locs 0 0 (MQ below (sZi D vwCl (tyS cI cJ) A ((wV zv qv6 qv8 zn zr zk zl zo cI (o.2)) ++ (wT zn qn0 qn1 qn2 qn3 qn4 cI SN)) (o.1)) args s 0 0 A) (F0 m 48 ls []) := by
  intro n
  induction n with
  | zero =>
    intro x1 x2 x3 x4 SV hf
    have hf : (none : Option (Int32 × S32)) = some o := hf
    cases hf
  | succ n ih => exact ts_X4_fitting_48 (fu := fu) (k48 := f_X4_fitting_48 fu  SN n) C0 hA  ih
set_option maxHeartbeats 4000000 in
set_option maxRecDepth 100000 in
theorem t_X4_fitting_16 {p : Program} {l : Launch} {e : Env} {s : State} {m : MethodId} {args : Array Value} {below : List Frame} {meth : Method} {c : Code} {D : va_G} {cI cJ : ClassId} {A : Nat → Prop} {fu : Nat} {zv qv6 qv8 zn zr zk zl zo qn0 qn1 qn2 qn3 qn4 : Nat} {SN : S32} {o : Int32 × S32} (C0 : Cx RX4 wsX4_fitting cX4_fitting 5 (some .int) D vwCl (tyS cI cJ) p s m args meth c) (hA : ∀ q : Nat, s.heap.size ≤ q → A q) : ∀ (x1 : Int32) (SV : S32), f_X4_fitting_16 fu  SN x1 SV = some o → ∀ (H : Heap) (locs : List Loc), va_P D vwCl ((wV zv qv6 qv8 zn zr zk zl zo cI SV) ++ (wT zn qn0 qn1 qn2 qn3 qn4 cI SN)) H → va_D A ((wV zv qv6 qv8 zn zr zk zl zo cI SV) ++ (wT zn qn0 qn1 qn2 qn3 qn4 cI SN)) → va_S A s.heap H locs → ∀ (ls : Array Slot), lv_has ls 5 [(0, .ref zv), (1, .int x1)] → W p l e rm_X4_fitting s m args below meth c H locs 0 0 (MQ below (sZi D vwCl (tyS cI cJ) A ((wV zv qv6 qv8 zn zr zk zl zo cI (o.2)) ++ (wT zn qn0 qn1 qn2 qn3 qn4 cI SN)) (o.1)) args s 0 0 A) (F0 m 16 ls []) := by
  obtain ⟨hx, hb, hr, hml, hown, hts, hlocks, hK⟩ := id C0
  intro x1 SV hf H locs hP hD hS ls hl
  have hP : va_P D vwCl [(zv, .inr (3, [.ref zn, .ref zr, .ref zk, .int (SV 3 0), .ref zl, .ref zo, .ref qv6, .int (SV 7 0), .ref qv8])), (qv6, .inl (cI, 8, .inl (SV 6))), (qv8, .inl (cI, 7, .inl (SV 8))), (zn, .inr (2, [.ref qn0, .ref qn1, .ref qn2, .ref qn3, .ref qn4, .int (SN 5 0), .int (SN 6 0)])), (qn0, .inl (cI, 8, .inl (SN 0))), (qn1, .inl (cI, 8, .inl (SN 1))), (qn2, .inl (cI, 8, .inl (SN 2))), (qn3, .inl (cI, 8, .inl (SN 3))), (qn4, .inl (cI, 8, .inl (SN 4)))] H := hP
  have hD : va_D A [(zv, .inr (3, [.ref zn, .ref zr, .ref zk, .int (SV 3 0), .ref zl, .ref zo, .ref qv6, .int (SV 7 0), .ref qv8])), (qv6, .inl (cI, 8, .inl (SV 6))), (qv8, .inl (cI, 7, .inl (SV 8))), (zn, .inr (2, [.ref qn0, .ref qn1, .ref qn2, .ref qn3, .ref qn4, .int (SN 5 0), .int (SN 6 0)])), (qn0, .inl (cI, 8, .inl (SN 0))), (qn1, .inl (cI, 8, .inl (SN 1))), (qn2, .inl (cI, 8, .inl (SN 2))), (qn3, .inl (cI, 8, .inl (SN 3))), (qn4, .inl (cI, 8, .inl (SN 4)))] := hD
  refine lv_aload_n hx hb dX4_fitting_16 rfl (lv_at hl 0 rfl) ?_
  refine va_get (D := D) (ci := 3) (v := .int (SV 7 0)) (C := RX4) (T := TX4) (N := 9) hx hb hts i_X4_fitting_X4 hown hK hP 0 rfl rfl 7 (by decide) (hts _ q_X4_fitting_1) (fun _ h9 => h9) rfl dX4_fitting_17 ?_
  refine lv_aload_n hx hb dX4_fitting_20 rfl (lv_at hl 0 rfl) ?_
  refine va_get (D := D) (ci := 3) (v := .ref zn) (C := RX4) (T := TX4) (N := 9) hx hb hts i_X4_fitting_X4 hown hK hP 0 rfl rfl 0 (by decide) (hts _ q_X4_fitting_2) (fun _ h9 => h9) rfl dX4_fitting_21 ?_
  obtain ⟨o_1, h_1, hf⟩ := bd_some hf
  refine s_callVI (wc := (wT zn qn0 qn1 qn2 qn3 qn4 cI SN)) (wr := [(zv, .inr (3, [.ref zn, .ref zr, .ref zk, .int (SV 3 0), .ref zl, .ref zo, .ref qv6, .int (SV 7 0), .ref qv8])), (qv6, .inl (cI, 8, .inl (SV 6))), (qv8, .inl (cI, 7, .inl (SV 8)))]) (wc' := (wT zn qn0 qn1 qn2 qn3 qn4 cI SN)) (w' := [(zv, .inr (3, [.ref zn, .ref zr, .ref zk, .int (SV 3 0), .ref zl, .ref zo, .ref qv6, .int (SV 7 0), .ref qv8])), (qv6, .inl (cI, 8, .inl (SV 6))), (qv8, .inl (cI, 7, .inl (SV 8))), (zn, .inr (2, [.ref qn0, .ref qn1, .ref qn2, .ref qn3, .ref qn4, .int (SN 5 0), .int (SN 6 0)])), (qn0, .inl (cI, 8, .inl (SN 0))), (qn1, .inl (cI, 8, .inl (SN 1))), (qn2, .inl (cI, 8, .inl (SN 2))), (qn3, .inl (cI, 8, .inl (SN 3))), (qn4, .inl (cI, 8, .inl (SN 4)))]) (isC := [3, 4, 5, 6, 7, 8]) (isR := [0, 1, 2]) (perm := [0, 1, 2, 3, 4, 5, 6, 7, 8]) (As := []) (rest := [.int (SV 7 0)]) (ci := 2) (q := (RX3, TX3, 7)) ⟨hx, hb, hml, hown, hts⟩ (c_X3_living l D cI cJ fu zn qn0 qn1 qn2 qn3 qn4 SN o_1 h_1) (cwV 0 hts gX4_fitting_X3_living rfl rfl rfl (by decide +kernel) ⟨Nat.le_of_ble_eq_true rfl, Nat.le_of_ble_eq_true rfl⟩) hK hP hD hS hA ⟨rfl, rfl, by decide, by decide, by decide, by decide, rfl⟩ rfl rfl rfl rfl hl.1 rfl (Nat.le_of_ble_eq_true rfl) dX4_fitting_24 (fun H locs hP hD hS => ?_)
  obtain ⟨o_2, h_2, hf⟩ := bd_some hf
  refine s_callSI (wc := []) (wr := [(zv, .inr (3, [.ref zn, .ref zr, .ref zk, .int (SV 3 0), .ref zl, .ref zo, .ref qv6, .int (SV 7 0), .ref qv8])), (qv6, .inl (cI, 8, .inl (SV 6))), (qv8, .inl (cI, 7, .inl (SV 8))), (zn, .inr (2, [.ref qn0, .ref qn1, .ref qn2, .ref qn3, .ref qn4, .int (SN 5 0), .int (SN 6 0)])), (qn0, .inl (cI, 8, .inl (SN 0))), (qn1, .inl (cI, 8, .inl (SN 1))), (qn2, .inl (cI, 8, .inl (SN 2))), (qn3, .inl (cI, 8, .inl (SN 3))), (qn4, .inl (cI, 8, .inl (SN 4)))]) (wc' := []) (w' := [(zv, .inr (3, [.ref zn, .ref zr, .ref zk, .int (SV 3 0), .ref zl, .ref zo, .ref qv6, .int (SV 7 0), .ref qv8])), (qv6, .inl (cI, 8, .inl (SV 6))), (qv8, .inl (cI, 7, .inl (SV 8))), (zn, .inr (2, [.ref qn0, .ref qn1, .ref qn2, .ref qn3, .ref qn4, .int (SN 5 0), .int (SN 6 0)])), (qn0, .inl (cI, 8, .inl (SN 0))), (qn1, .inl (cI, 8, .inl (SN 1))), (qn2, .inl (cI, 8, .inl (SN 2))), (qn3, .inl (cI, 8, .inl (SN 3))), (qn4, .inl (cI, 8, .inl (SN 4)))]) (isC := []) (isR := [0, 1, 2, 3, 4, 5, 6, 7, 8]) (perm := [0, 1, 2, 3, 4, 5, 6, 7, 8]) (As := [.int o_1]) (rest := [.int (SV 7 0)]) ⟨hx, hb, hml, hown, hts⟩ (c_J6_bitCount_0f7a4 l D cI cJ fu o_1 o_2 h_2) (va_cwS 1 hts gX4_fitting_J6_bitCount_0f7a4 rfl rfl rfl (by decide +kernel) ⟨Nat.le_of_ble_eq_true rfl, Nat.le_of_ble_eq_true rfl⟩) hK hP hD hS hA ⟨rfl, rfl, by decide, by decide, by decide, by decide, rfl⟩ rfl hl.1 rfl (Nat.le_of_ble_eq_true rfl) dX4_fitting_27 (fun H locs hP hD hS => ?_)
  refine lv_icmp_eq (tgt := 40) hx hb dX4_fitting_30 (by decide) (fun c_3 => ?_) (fun c_3 => ?_)
  · have hf := itT c_3 hf
    refine lv_iconst (v := (0 : Int32)) hx hb dX4_fitting_40 (by decide) ?_
    refine lv_istore_n (lv' := [(2, .int (0 : Int32)), (0, .ref zv), (1, .int x1)]) hx hb dX4_fitting_41 rfl hl (by decide) rfl (fun ls hl => ?_)
    refine lv_bipush (v := (-9 : Int32)) hx hb dX4_fitting_42 (by decide) ?_
    refine lv_istore_n (lv' := [(3, .int (-9 : Int32)), (2, .int (0 : Int32)), (0, .ref zv), (1, .int x1)]) hx hb dX4_fitting_44 rfl hl (by decide) rfl (fun ls hl => ?_)
    refine lv_iconst (v := (0 : Int32)) hx hb dX4_fitting_45 (by decide) ?_
    refine lv_istore (lv' := [(4, .int (0 : Int32)), (3, .int (-9 : Int32)), (2, .int (0 : Int32)), (0, .ref zv), (1, .int x1)]) hx hb dX4_fitting_46 hl (by decide) rfl (fun ls hl => ?_)
    exact t_X4_fitting_48 (fu := fu) C0 hA  fu _ _ _ _ _ hf _ _ hP hD hS _ (lv_sub hl [3, 4, 2, 1, 0] rfl)
  · have hf := itF c_3 hf
    refine lv_aload_n hx hb dX4_fitting_33 rfl (lv_at hl 0 rfl) ?_
    refine lv_bipush (v := (-3 : Int32)) hx hb dX4_fitting_34 (by decide) ?_
    obtain ⟨o_4, h_4, hf⟩ := bd_some hf
    refine s_callVI (wc := (wV zv qv6 qv8 zn zr zk zl zo cI SV)) (wr := [(zn, .inr (2, [.ref qn0, .ref qn1, .ref qn2, .ref qn3, .ref qn4, .int (SN 5 0), .int (SN 6 0)])), (qn0, .inl (cI, 8, .inl (SN 0))), (qn1, .inl (cI, 8, .inl (SN 1))), (qn2, .inl (cI, 8, .inl (SN 2))), (qn3, .inl (cI, 8, .inl (SN 3))), (qn4, .inl (cI, 8, .inl (SN 4)))]) (wc' := (wV zv qv6 qv8 zn zr zk zl zo cI (o_4.2))) (w' := [(zv, .inr (3, [.ref zn, .ref zr, .ref zk, .int ((o_4.2) 3 0), .ref zl, .ref zo, .ref qv6, .int ((o_4.2) 7 0), .ref qv8])), (qv6, .inl (cI, 8, .inl ((o_4.2) 6))), (qv8, .inl (cI, 7, .inl ((o_4.2) 8))), (zn, .inr (2, [.ref qn0, .ref qn1, .ref qn2, .ref qn3, .ref qn4, .int (SN 5 0), .int (SN 6 0)])), (qn0, .inl (cI, 8, .inl (SN 0))), (qn1, .inl (cI, 8, .inl (SN 1))), (qn2, .inl (cI, 8, .inl (SN 2))), (qn3, .inl (cI, 8, .inl (SN 3))), (qn4, .inl (cI, 8, .inl (SN 4)))]) (isC := [0, 1, 2]) (isR := [3, 4, 5, 6, 7, 8]) (perm := [6, 7, 8, 0, 1, 2, 3, 4, 5]) (As := [.int (-3 : Int32)]) (rest := []) (ci := 3) (q := (RX4, TX4, 9)) ⟨hx, hb, hml, hown, hts⟩ (c_X4_refuse l D cI cJ fu zv qv6 qv8 zn zr zk zl zo SV (-3 : Int32) o_4 h_4) (cwV 1 hts gX4_fitting_X4_refuse rfl rfl rfl (by decide +kernel) ⟨Nat.le_of_ble_eq_true rfl, Nat.le_of_ble_eq_true rfl⟩) hK hP hD hS hA ⟨rfl, rfl, by decide, by decide, by decide, by decide, rfl⟩ rfl rfl rfl rfl hl.1 rfl (Nat.le_of_ble_eq_true rfl) dX4_fitting_36 (fun H locs hP hD hS => ?_)
    obtain rfl := Option.some.inj hf
    exact s_iret (r := o_4.1) hx hb hr hlocks hK hP hD hS dX4_fitting_39
set_option maxHeartbeats 4000000 in
set_option maxRecDepth 100000 in
theorem c_X4_fitting (l : Launch) (D : va_G) (cI cJ : ClassId) (fu : Nat) (zv qv6 qv8 zn zr zk zl zo qn0 qn1 qn2 qn3 qn4 : Nat) (SV : S32) (SN : S32) (x1 : Int32) (o : Int32 × S32) (hf : f_X4_fitting fu SV SN x1 = some o) : MI l yX4_fitting wsX4_fitting rm_X4_fitting D vwCl (tyS cI cJ) [.ref zv, .int x1] ((wV zv qv6 qv8 zn zr zk zl zo cI SV) ++ (wT zn qn0 qn1 qn2 qn3 qn4 cI SN)) ((wV zv qv6 qv8 zn zr zk zl zo cI (o.2)) ++ (wT zn qn0 qn1 qn2 qn3 qn4 cI SN)) (o.1) := by
  intro sz
  refine s_entry (own := RX4) (cc := cX4_fitting) (maxL := 5) (ret := (some .int)) (Qc := fun A => sZi D vwCl (tyS cI cJ) A ((wV zv qv6 qv8 zn zr zk zl zo cI (o.2)) ++ (wT zn qn0 qn1 qn2 qn3 qn4 cI SN)) (o.1)) rfl (by decide) rfl rfl (Nat.le_of_ble_eq_true rfl) ?_
  intro p e s m args below meth c A C0 hA hP hD hS ls hl
  obtain ⟨hx, hb, hr, hml, hown, hts, hlocks, hK⟩ := id C0
  have hl : lv_has ls 5 [(0, .ref zv), (1, .int x1)] := hl
  have hP : va_P D vwCl [(zv, .inr (3, [.ref zn, .ref zr, .ref zk, .int (SV 3 0), .ref zl, .ref zo, .ref qv6, .int (SV 7 0), .ref qv8])), (qv6, .inl (cI, 8, .inl (SV 6))), (qv8, .inl (cI, 7, .inl (SV 8))), (zn, .inr (2, [.ref qn0, .ref qn1, .ref qn2, .ref qn3, .ref qn4, .int (SN 5 0), .int (SN 6 0)])), (qn0, .inl (cI, 8, .inl (SN 0))), (qn1, .inl (cI, 8, .inl (SN 1))), (qn2, .inl (cI, 8, .inl (SN 2))), (qn3, .inl (cI, 8, .inl (SN 3))), (qn4, .inl (cI, 8, .inl (SN 4)))] s.heap := hP
  have hD : va_D A [(zv, .inr (3, [.ref zn, .ref zr, .ref zk, .int (SV 3 0), .ref zl, .ref zo, .ref qv6, .int (SV 7 0), .ref qv8])), (qv6, .inl (cI, 8, .inl (SV 6))), (qv8, .inl (cI, 7, .inl (SV 8))), (zn, .inr (2, [.ref qn0, .ref qn1, .ref qn2, .ref qn3, .ref qn4, .int (SN 5 0), .int (SN 6 0)])), (qn0, .inl (cI, 8, .inl (SN 0))), (qn1, .inl (cI, 8, .inl (SN 1))), (qn2, .inl (cI, 8, .inl (SN 2))), (qn3, .inl (cI, 8, .inl (SN 3))), (qn4, .inl (cI, 8, .inl (SN 4)))] := hD
  refine lv_iload_n hx hb dX4_fitting_0 rfl (lv_at hl 1 rfl) ?_
  refine lv_if_eq (tgt := 16) hx hb dX4_fitting_1 (by decide) (fun c_1 => ?_) (fun c_1 => ?_)
  · have hf := itT c_1 hf
    exact t_X4_fitting_16 (fu := fu) C0 hA  _ _ hf _ _ hP hD hS _ (lv_sub hl [0, 1] rfl)
  · have hf := itF c_1 hf
    refine lv_iload_n hx hb dX4_fitting_4 rfl (lv_at hl 1 rfl) ?_
    refine lv_iconst (v := (1 : Int32)) hx hb dX4_fitting_5 (by decide) ?_
    refine lv_icmp_eq (tgt := 16) hx hb dX4_fitting_6 (by decide) (fun c_2 => ?_) (fun c_2 => ?_)
    · have hf := itT c_2 hf
      exact t_X4_fitting_16 (fu := fu) C0 hA  _ _ hf _ _ hP hD hS _ (lv_sub hl [0, 1] rfl)
    · have hf := itF c_2 hf
      refine lv_aload_n hx hb dX4_fitting_9 rfl (lv_at hl 0 rfl) ?_
      refine lv_bipush (v := (-2 : Int32)) hx hb dX4_fitting_10 (by decide) ?_
      obtain ⟨o_3, h_3, hf⟩ := bd_some hf
      refine s_callVI (wc := (wV zv qv6 qv8 zn zr zk zl zo cI SV)) (wr := [(zn, .inr (2, [.ref qn0, .ref qn1, .ref qn2, .ref qn3, .ref qn4, .int (SN 5 0), .int (SN 6 0)])), (qn0, .inl (cI, 8, .inl (SN 0))), (qn1, .inl (cI, 8, .inl (SN 1))), (qn2, .inl (cI, 8, .inl (SN 2))), (qn3, .inl (cI, 8, .inl (SN 3))), (qn4, .inl (cI, 8, .inl (SN 4)))]) (wc' := (wV zv qv6 qv8 zn zr zk zl zo cI (o_3.2))) (w' := [(zv, .inr (3, [.ref zn, .ref zr, .ref zk, .int ((o_3.2) 3 0), .ref zl, .ref zo, .ref qv6, .int ((o_3.2) 7 0), .ref qv8])), (qv6, .inl (cI, 8, .inl ((o_3.2) 6))), (qv8, .inl (cI, 7, .inl ((o_3.2) 8))), (zn, .inr (2, [.ref qn0, .ref qn1, .ref qn2, .ref qn3, .ref qn4, .int (SN 5 0), .int (SN 6 0)])), (qn0, .inl (cI, 8, .inl (SN 0))), (qn1, .inl (cI, 8, .inl (SN 1))), (qn2, .inl (cI, 8, .inl (SN 2))), (qn3, .inl (cI, 8, .inl (SN 3))), (qn4, .inl (cI, 8, .inl (SN 4)))]) (isC := [0, 1, 2]) (isR := [3, 4, 5, 6, 7, 8]) (perm := [6, 7, 8, 0, 1, 2, 3, 4, 5]) (As := [.int (-2 : Int32)]) (rest := []) (ci := 3) (q := (RX4, TX4, 9)) ⟨hx, hb, hml, hown, hts⟩ (c_X4_refuse l D cI cJ fu zv qv6 qv8 zn zr zk zl zo SV (-2 : Int32) o_3 h_3) (cwV 1 hts gX4_fitting_X4_refuse rfl rfl rfl (by decide +kernel) ⟨Nat.le_of_ble_eq_true rfl, Nat.le_of_ble_eq_true rfl⟩) hK hP hD hS hA ⟨rfl, rfl, by decide, by decide, by decide, by decide, rfl⟩ rfl rfl rfl rfl hl.1 rfl (Nat.le_of_ble_eq_true rfl) dX4_fitting_12 (fun H locs hP hD hS => ?_)
      obtain rfl := Option.some.inj hf
      exact s_iret (r := o_3.1) hx hb hr hlocks hK hP hD hS dX4_fitting_15
theorem q_X4_firstNotSo_1 : (Cond.fieldLink RX4 10 "UpWhenDies" "now" "LUpWhenDies$Tower;" : Cond) ∈ wsX4_firstNotSo := List.mem_of_getElem? (i := 1) rfl
theorem q_X4_firstNotSo_2 : (Cond.fieldLink RX4 160 "UpWhenDies" "toldSize" "I" : Cond) ∈ wsX4_firstNotSo := List.mem_of_getElem? (i := 2) rfl
theorem q_X4_firstNotSo_3 : (Cond.fieldLink RX4 36 "UpWhenDies" "told" "[I" : Cond) ∈ wsX4_firstNotSo := List.mem_of_getElem? (i := 3) rfl
theorem q_X4_firstNotSo_4 : (Cond.fieldLink RX4 83 "UpWhenDies$Tower" "floor" "[I" : Cond) ∈ wsX4_firstNotSo := List.mem_of_getElem? (i := 4) rfl
theorem i_X4_firstNotSo_X3 : ∀ w ∈ wsX30, w ∈ wsX4_firstNotSo := fun _ h => (List.mem_cons_of_mem _ (List.mem_append_right _ h))
theorem i_X4_firstNotSo_X4 : ∀ w ∈ wsX40, w ∈ wsX4_firstNotSo := fun _ h => (List.mem_cons_of_mem _ (List.mem_append_left _ (List.mem_append_right _ h)))
abbrev rm_X4_firstNotSo : Room := { frames := 1, cells := 0, slots := 0, locals := 21 }
set_option maxHeartbeats 4000000 in
set_option maxRecDepth 100000 in
theorem t_X4_firstNotSo_61 {p : Program} {l : Launch} {e : Env} {s : State} {m : MethodId} {args : Array Value} {below : List Frame} {meth : Method} {c : Code} {D : va_G} {cI cJ : ClassId} {A : Nat → Prop} {fu : Nat} {zv qv6 qv8 zn zr zk zl zo qn0 qn1 qn2 qn3 qn4 : Nat} {SV : S32} {SN : S32} {o : Int32} (C0 : Cx RX4 wsX4_firstNotSo cX4_firstNotSo 3 (some .int) D vwCl (tyS cI cJ) p s m args meth c) (hA : ∀ q : Nat, s.heap.size ≤ q → A q) : ∀ (x1 : Int32), f_X4_firstNotSo_61 fu  SV SN x1 = some o → ∀ (H : Heap) (locs : List Loc), va_P D vwCl ((wV zv qv6 qv8 zn zr zk zl zo cI SV) ++ (wT zn qn0 qn1 qn2 qn3 qn4 cI SN)) H → va_D A ((wV zv qv6 qv8 zn zr zk zl zo cI SV) ++ (wT zn qn0 qn1 qn2 qn3 qn4 cI SN)) → va_S A s.heap H locs → ∀ (ls : Array Slot), lv_has ls 3 [(0, .ref zv), (1, .int x1)] → W p l e rm_X4_firstNotSo s m args below meth c H locs 0 0 (MQ below (sZi D vwCl (tyS cI cJ) A ((wV zv qv6 qv8 zn zr zk zl zo cI SV) ++ (wT zn qn0 qn1 qn2 qn3 qn4 cI SN)) (o)) args s 0 0 A) (F0 m 61 ls []) := by
  obtain ⟨hx, hb, hr, hml, hown, hts, hlocks, hK⟩ := id C0
  intro x1 hf H locs hP hD hS ls hl
  have hP : va_P D vwCl [(zv, .inr (3, [.ref zn, .ref zr, .ref zk, .int (SV 3 0), .ref zl, .ref zo, .ref qv6, .int (SV 7 0), .ref qv8])), (qv6, .inl (cI, 8, .inl (SV 6))), (qv8, .inl (cI, 7, .inl (SV 8))), (zn, .inr (2, [.ref qn0, .ref qn1, .ref qn2, .ref qn3, .ref qn4, .int (SN 5 0), .int (SN 6 0)])), (qn0, .inl (cI, 8, .inl (SN 0))), (qn1, .inl (cI, 8, .inl (SN 1))), (qn2, .inl (cI, 8, .inl (SN 2))), (qn3, .inl (cI, 8, .inl (SN 3))), (qn4, .inl (cI, 8, .inl (SN 4)))] H := hP
  have hD : va_D A [(zv, .inr (3, [.ref zn, .ref zr, .ref zk, .int (SV 3 0), .ref zl, .ref zo, .ref qv6, .int (SV 7 0), .ref qv8])), (qv6, .inl (cI, 8, .inl (SV 6))), (qv8, .inl (cI, 7, .inl (SV 8))), (zn, .inr (2, [.ref qn0, .ref qn1, .ref qn2, .ref qn3, .ref qn4, .int (SN 5 0), .int (SN 6 0)])), (qn0, .inl (cI, 8, .inl (SN 0))), (qn1, .inl (cI, 8, .inl (SN 1))), (qn2, .inl (cI, 8, .inl (SN 2))), (qn3, .inl (cI, 8, .inl (SN 3))), (qn4, .inl (cI, 8, .inl (SN 4)))] := hD
  refine lv_iload_n hx hb dX4_firstNotSo_61 rfl (lv_at hl 1 rfl) ?_
  refine lv_aload_n hx hb dX4_firstNotSo_62 rfl (lv_at hl 0 rfl) ?_
  refine va_get (D := D) (ci := 3) (v := .int (SV 7 0)) (C := RX4) (T := TX4) (N := 9) hx hb hts i_X4_firstNotSo_X4 hown hK hP 0 rfl rfl 7 (by decide) (hts _ q_X4_firstNotSo_2) (fun _ h9 => h9) rfl dX4_firstNotSo_63 ?_
  refine lv_icmp_ge (tgt := 73) hx hb dX4_firstNotSo_66 (by decide) (fun c_1 => ?_) (fun c_1 => ?_)
  · have hf := itT c_1 hf
    refine lv_bipush (v := (-9 : Int32)) hx hb dX4_firstNotSo_73 (by decide) ?_
    obtain rfl := Option.some.inj hf
    exact s_iret (r := (-9 : Int32)) hx hb hr hlocks hK hP hD hS dX4_firstNotSo_75
  · have hf := itF c_1 hf
    refine lv_iload_n hx hb dX4_firstNotSo_69 rfl (lv_at hl 1 rfl) ?_
    refine lv_goto (tgt := 75) hx hb dX4_firstNotSo_70 (by decide) ?_
    obtain rfl := Option.some.inj hf
    exact s_iret (r := x1) hx hb hr hlocks hK hP hD hS dX4_firstNotSo_75
set_option maxHeartbeats 4000000 in
set_option maxRecDepth 100000 in
theorem ts_X4_firstNotSo_4 {p : Program} {l : Launch} {e : Env} {s : State} {m : MethodId} {args : Array Value} {below : List Frame} {meth : Method} {c : Code} {D : va_G} {cI cJ : ClassId} {A : Nat → Prop} {fu : Nat} {zv qv6 qv8 zn zr zk zl zo qn0 qn1 qn2 qn3 qn4 : Nat} {SV : S32} {SN : S32} {o : Int32} (C0 : Cx RX4 wsX4_firstNotSo cX4_firstNotSo 3 (some .int) D vwCl (tyS cI cJ) p s m args meth c) (hA : ∀ q : Nat, s.heap.size ≤ q → A q) {k4 : Int32 → Int32 → Option (Int32)} (K4 : ∀ (x1 : Int32) (x2 : Int32), k4 x1 x2 = some o → ∀ (H : Heap) (locs : List Loc), va_P D vwCl ((wV zv qv6 qv8 zn zr zk zl zo cI SV) ++ (wT zn qn0 qn1 qn2 qn3 qn4 cI SN)) H → va_D A ((wV zv qv6 qv8 zn zr zk zl zo cI SV) ++ (wT zn qn0 qn1 qn2 qn3 qn4 cI SN)) → va_S A s.heap H locs → ∀ (ls : Array Slot), lv_has ls 3 [(0, .ref zv), (1, .int x1), (2, .int x2)] → W p l e rm_X4_firstNotSo s m args below meth c H locs 0 0 (MQ below (sZi D vwCl (tyS cI cJ) A ((wV zv qv6 qv8 zn zr zk zl zo cI SV) ++ (wT zn qn0 qn1 qn2 qn3 qn4 cI SN)) (o)) args s 0 0 A) (F0 m 4 ls [])) : ∀ (x1 : Int32) (x2 : Int32), s_X4_firstNotSo_4 fu  k4 SV SN x1 x2 = some o → ∀ (H : Heap) (locs : List Loc), va_P D vwCl ((wV zv qv6 qv8 zn zr zk zl zo cI SV) ++ (wT zn qn0 qn1 qn2 qn3 qn4 cI SN)) H → va_D A ((wV zv qv6 qv8 zn zr zk zl zo cI SV) ++ (wT zn qn0 qn1 qn2 qn3 qn4 cI SN)) → va_S A s.heap H locs → ∀ (ls : Array Slot), lv_has ls 3 [(0, .ref zv), (1, .int x1), (2, .int x2)] → W p l e rm_X4_firstNotSo s m args below meth c H locs 0 0 (MQ below (sZi D vwCl (tyS cI cJ) A ((wV zv qv6 qv8 zn zr zk zl zo cI SV) ++ (wT zn qn0 qn1 qn2 qn3 qn4 cI SN)) (o)) args s 0 0 A) (F0 m 4 ls []) := by
  obtain ⟨hx, hb, hr, hml, hown, hts, hlocks, hK⟩ := id C0
  intro x1 x2 hf H locs hP hD hS ls hl
  have hP : va_P D vwCl [(zv, .inr (3, [.ref zn, .ref zr, .ref zk, .int (SV 3 0), .ref zl, .ref zo, .ref qv6, .int (SV 7 0), .ref qv8])), (qv6, .inl (cI, 8, .inl (SV 6))), (qv8, .inl (cI, 7, .inl (SV 8))), (zn, .inr (2, [.ref qn0, .ref qn1, .ref qn2, .ref qn3, .ref qn4, .int (SN 5 0), .int (SN 6 0)])), (qn0, .inl (cI, 8, .inl (SN 0))), (qn1, .inl (cI, 8, .inl (SN 1))), (qn2, .inl (cI, 8, .inl (SN 2))), (qn3, .inl (cI, 8, .inl (SN 3))), (qn4, .inl (cI, 8, .inl (SN 4)))] H := hP
  have hD : va_D A [(zv, .inr (3, [.ref zn, .ref zr, .ref zk, .int (SV 3 0), .ref zl, .ref zo, .ref qv6, .int (SV 7 0), .ref qv8])), (qv6, .inl (cI, 8, .inl (SV 6))), (qv8, .inl (cI, 7, .inl (SV 8))), (zn, .inr (2, [.ref qn0, .ref qn1, .ref qn2, .ref qn3, .ref qn4, .int (SN 5 0), .int (SN 6 0)])), (qn0, .inl (cI, 8, .inl (SN 0))), (qn1, .inl (cI, 8, .inl (SN 1))), (qn2, .inl (cI, 8, .inl (SN 2))), (qn3, .inl (cI, 8, .inl (SN 3))), (qn4, .inl (cI, 8, .inl (SN 4)))] := hD
  refine lv_iload_n hx hb dX4_firstNotSo_4 rfl (lv_at hl 2 rfl) ?_
  refine lv_bipush (v := (8 : Int32)) hx hb dX4_firstNotSo_5 (by decide) ?_
  refine lv_icmp_ge (tgt := 61) hx hb dX4_firstNotSo_7 (by decide) (fun c_1 => ?_) (fun c_1 => ?_)
  · have hf := itT c_1 hf
    exact t_X4_firstNotSo_61 (fu := fu) C0 hA  _ hf _ _ hP hD hS _ (lv_sub hl [0, 1] rfl)
  · have hf := itF c_1 hf
    refine lv_aload_n hx hb dX4_firstNotSo_10 rfl (lv_at hl 0 rfl) ?_
    refine va_get (D := D) (ci := 3) (v := .ref zn) (C := RX4) (T := TX4) (N := 9) hx hb hts i_X4_firstNotSo_X4 hown hK hP 0 rfl rfl 0 (by decide) (hts _ q_X4_firstNotSo_1) (fun _ h9 => h9) rfl dX4_firstNotSo_11 ?_
    refine lv_iload_n hx hb dX4_firstNotSo_14 rfl (lv_at hl 2 rfl) ?_
    obtain ⟨o_2, h_2, hf⟩ := bd_some hf
    refine s_callVI (wc := (wT zn qn0 qn1 qn2 qn3 qn4 cI SN)) (wr := [(zv, .inr (3, [.ref zn, .ref zr, .ref zk, .int (SV 3 0), .ref zl, .ref zo, .ref qv6, .int (SV 7 0), .ref qv8])), (qv6, .inl (cI, 8, .inl (SV 6))), (qv8, .inl (cI, 7, .inl (SV 8)))]) (wc' := (wT zn qn0 qn1 qn2 qn3 qn4 cI SN)) (w' := [(zv, .inr (3, [.ref zn, .ref zr, .ref zk, .int (SV 3 0), .ref zl, .ref zo, .ref qv6, .int (SV 7 0), .ref qv8])), (qv6, .inl (cI, 8, .inl (SV 6))), (qv8, .inl (cI, 7, .inl (SV 8))), (zn, .inr (2, [.ref qn0, .ref qn1, .ref qn2, .ref qn3, .ref qn4, .int (SN 5 0), .int (SN 6 0)])), (qn0, .inl (cI, 8, .inl (SN 0))), (qn1, .inl (cI, 8, .inl (SN 1))), (qn2, .inl (cI, 8, .inl (SN 2))), (qn3, .inl (cI, 8, .inl (SN 3))), (qn4, .inl (cI, 8, .inl (SN 4)))]) (isC := [3, 4, 5, 6, 7, 8]) (isR := [0, 1, 2]) (perm := [0, 1, 2, 3, 4, 5, 6, 7, 8]) (As := [.int x2]) (rest := []) (ci := 2) (q := (RX3, TX3, 7)) ⟨hx, hb, hml, hown, hts⟩ (c_X3_isAlive l D cI cJ fu zn qn0 qn1 qn2 qn3 qn4 SN x2 o_2 h_2) (cwV 1 hts gX4_firstNotSo_X3_isAlive rfl rfl rfl (by decide +kernel) ⟨Nat.le_of_ble_eq_true rfl, Nat.le_of_ble_eq_true rfl⟩) hK hP hD hS hA ⟨rfl, rfl, by decide, by decide, by decide, by decide, rfl⟩ rfl rfl rfl rfl hl.1 rfl (Nat.le_of_ble_eq_true rfl) dX4_firstNotSo_15 (fun H locs hP hD hS => ?_)
    refine lv_if_ne (tgt := 24) hx hb dX4_firstNotSo_18 (by decide) (fun c_3 => ?_) (fun c_3 => ?_)
    · have hf := itF c_3 hf
      refine lv_iload_n hx hb dX4_firstNotSo_24 rfl (lv_at hl 1 rfl) ?_
      refine lv_aload_n hx hb dX4_firstNotSo_25 rfl (lv_at hl 0 rfl) ?_
      refine va_get (D := D) (ci := 3) (v := .int (SV 7 0)) (C := RX4) (T := TX4) (N := 9) hx hb hts i_X4_firstNotSo_X4 hown hK hP 0 rfl rfl 7 (by decide) (hts _ q_X4_firstNotSo_2) (fun _ h9 => h9) rfl dX4_firstNotSo_26 ?_
      refine lv_icmp_ge (tgt := 50) hx hb dX4_firstNotSo_29 (by decide) (fun c_4 => ?_) (fun c_4 => ?_)
      · have hf := itT c_4 hf
        refine lv_iload_n hx hb dX4_firstNotSo_50 rfl (lv_at hl 1 rfl) ?_
        obtain rfl := Option.some.inj hf
        exact s_iret (r := x1) hx hb hr hlocks hK hP hD hS dX4_firstNotSo_51
      · have hf := itF c_4 hf
        refine lv_aload_n hx hb dX4_firstNotSo_32 rfl (lv_at hl 0 rfl) ?_
        refine va_get (D := D) (ci := 3) (v := .ref qv6) (C := RX4) (T := TX4) (N := 9) hx hb hts i_X4_firstNotSo_X4 hown hK hP 0 rfl rfl 6 (by decide) (hts _ q_X4_firstNotSo_3) (fun _ h9 => h9) rfl dX4_firstNotSo_33 ?_
        refine lv_iload_n hx hb dX4_firstNotSo_36 rfl (lv_at hl 1 rfl) ?_
        obtain ⟨g_5, hf⟩ := gd_some hf
        refine va_iald hx hb hK hP 1 0 rfl rfl g_5 dX4_firstNotSo_37 ?_
        refine lv_aload_n hx hb dX4_firstNotSo_38 rfl (lv_at hl 0 rfl) ?_
        refine va_get (D := D) (ci := 3) (v := .ref zn) (C := RX4) (T := TX4) (N := 9) hx hb hts i_X4_firstNotSo_X4 hown hK hP 0 rfl rfl 0 (by decide) (hts _ q_X4_firstNotSo_1) (fun _ h9 => h9) rfl dX4_firstNotSo_39 ?_
        refine va_get (D := D) (ci := 2) (v := .ref qn2) (C := RX3) (T := TX3) (N := 7) hx hb hts i_X4_firstNotSo_X3 hown hK hP 3 rfl rfl 2 (by decide) (hts _ q_X4_firstNotSo_4) (fun _ h9 => h9) rfl dX4_firstNotSo_42 ?_
        refine lv_iload_n hx hb dX4_firstNotSo_45 rfl (lv_at hl 2 rfl) ?_
        obtain ⟨g_6, hf⟩ := gd_some hf
        refine va_iald hx hb hK hP 6 0 rfl rfl g_6 dX4_firstNotSo_46 ?_
        refine lv_icmp_eq (tgt := 52) hx hb dX4_firstNotSo_47 (by decide) (fun c_7 => ?_) (fun c_7 => ?_)
        · have hf := itT c_7 hf
          refine lv_iinc (v := (x1 + (1 : Int32))) (lv' := [(1, .int (x1 + (1 : Int32))), (0, .ref zv), (2, .int x2)]) hx hb dX4_firstNotSo_52 hl (k := 1) rfl rfl (by decide) rfl (fun ls hl => ?_)
          refine lv_iinc (v := (x2 + (1 : Int32))) (lv' := [(2, .int (x2 + (1 : Int32))), (1, .int (x1 + (1 : Int32))), (0, .ref zv)]) hx hb dX4_firstNotSo_55 hl (k := 2) rfl rfl (by decide) rfl (fun ls hl => ?_)
          refine lv_goto (tgt := 4) hx hb dX4_firstNotSo_58 (by decide) ?_
          exact K4 _ _ hf _ _ hP hD hS _ (lv_sub hl [2, 1, 0] rfl)
        · have hf := itF c_7 hf
          refine lv_iload_n hx hb dX4_firstNotSo_50 rfl (lv_at hl 1 rfl) ?_
          obtain rfl := Option.some.inj hf
          exact s_iret (r := x1) hx hb hr hlocks hK hP hD hS dX4_firstNotSo_51
    · have hf := itT c_3 hf
      refine lv_goto (tgt := 55) hx hb dX4_firstNotSo_21 (by decide) ?_
      refine lv_iinc (v := (x2 + (1 : Int32))) (lv' := [(2, .int (x2 + (1 : Int32))), (0, .ref zv), (1, .int x1)]) hx hb dX4_firstNotSo_55 hl (k := 2) rfl rfl (by decide) rfl (fun ls hl => ?_)
      refine lv_goto (tgt := 4) hx hb dX4_firstNotSo_58 (by decide) ?_
      exact K4 _ _ hf _ _ hP hD hS _ (lv_sub hl [1, 2, 0] rfl)
theorem t_X4_firstNotSo_4 {p : Program} {l : Launch} {e : Env} {s : State} {m : MethodId} {args : Array Value} {below : List Frame} {meth : Method} {c : Code} {D : va_G} {cI cJ : ClassId} {A : Nat → Prop} {fu : Nat} {zv qv6 qv8 zn zr zk zl zo qn0 qn1 qn2 qn3 qn4 : Nat} {SV : S32} {SN : S32} {o : Int32} (C0 : Cx RX4 wsX4_firstNotSo cX4_firstNotSo 3 (some .int) D vwCl (tyS cI cJ) p s m args meth c) (hA : ∀ q : Nat, s.heap.size ≤ q → A q) : ∀ (n : Nat) (x1 : Int32) (x2 : Int32), f_X4_firstNotSo_4 fu  SV SN n x1 x2 = some o → ∀ (H : Heap) (locs : List Loc), va_P D vwCl ((wV zv qv6 qv8 zn zr zk zl zo cI SV) ++ (wT zn qn0 qn1 qn2 qn3 qn4 cI SN)) H → va_D A ((wV zv qv6 qv8 zn zr zk zl zo cI SV) ++ (wT zn qn0 qn1 qn2 qn3 qn4 cI SN)) → va_S A s.heap H locs → ∀ (ls : Array Slot), lv_has ls 3 [(0, .ref zv), (1, .int x1), (2, .int x2)] → W p l e rm_X4_firstNotSo s m args below meth c H locs 0 0 (MQ below (sZi D vwCl (tyS cI cJ) A ((wV zv qv6 qv8 zn zr zk zl zo cI SV) ++ (wT zn qn0 qn1 qn2 qn3 qn4 cI SN)) (o)) args s 0 0 A) (F0 m 4 ls []) := by
  intro n
  induction n with
  | zero =>
    intro x1 x2 hf
    have hf : (none : Option (Int32)) = some o := hf
    cases hf
  | succ n ih => exact ts_X4_firstNotSo_4 (fu := fu) (k4 := f_X4_firstNotSo_4 fu  SV SN n) C0 hA  ih
set_option maxHeartbeats 4000000 in
set_option maxRecDepth 100000 in
theorem c_X4_firstNotSo (l : Launch) (D : va_G) (cI cJ : ClassId) (fu : Nat) (zv qv6 qv8 zn zr zk zl zo qn0 qn1 qn2 qn3 qn4 : Nat) (SV : S32) (SN : S32) (o : Int32) (hf : f_X4_firstNotSo fu SV SN = some o) : MI l yX4_firstNotSo wsX4_firstNotSo rm_X4_firstNotSo D vwCl (tyS cI cJ) [.ref zv] ((wV zv qv6 qv8 zn zr zk zl zo cI SV) ++ (wT zn qn0 qn1 qn2 qn3 qn4 cI SN)) ((wV zv qv6 qv8 zn zr zk zl zo cI SV) ++ (wT zn qn0 qn1 qn2 qn3 qn4 cI SN)) (o) := by
  intro sz
  refine s_entry (own := RX4) (cc := cX4_firstNotSo) (maxL := 3) (ret := (some .int)) (Qc := fun A => sZi D vwCl (tyS cI cJ) A ((wV zv qv6 qv8 zn zr zk zl zo cI SV) ++ (wT zn qn0 qn1 qn2 qn3 qn4 cI SN)) (o)) rfl (by decide) rfl rfl (Nat.le_of_ble_eq_true rfl) ?_
  intro p e s m args below meth c A C0 hA hP hD hS ls hl
  obtain ⟨hx, hb, hr, hml, hown, hts, hlocks, hK⟩ := id C0
  have hl : lv_has ls 3 [(0, .ref zv)] := hl
  have hP : va_P D vwCl [(zv, .inr (3, [.ref zn, .ref zr, .ref zk, .int (SV 3 0), .ref zl, .ref zo, .ref qv6, .int (SV 7 0), .ref qv8])), (qv6, .inl (cI, 8, .inl (SV 6))), (qv8, .inl (cI, 7, .inl (SV 8))), (zn, .inr (2, [.ref qn0, .ref qn1, .ref qn2, .ref qn3, .ref qn4, .int (SN 5 0), .int (SN 6 0)])), (qn0, .inl (cI, 8, .inl (SN 0))), (qn1, .inl (cI, 8, .inl (SN 1))), (qn2, .inl (cI, 8, .inl (SN 2))), (qn3, .inl (cI, 8, .inl (SN 3))), (qn4, .inl (cI, 8, .inl (SN 4)))] s.heap := hP
  have hD : va_D A [(zv, .inr (3, [.ref zn, .ref zr, .ref zk, .int (SV 3 0), .ref zl, .ref zo, .ref qv6, .int (SV 7 0), .ref qv8])), (qv6, .inl (cI, 8, .inl (SV 6))), (qv8, .inl (cI, 7, .inl (SV 8))), (zn, .inr (2, [.ref qn0, .ref qn1, .ref qn2, .ref qn3, .ref qn4, .int (SN 5 0), .int (SN 6 0)])), (qn0, .inl (cI, 8, .inl (SN 0))), (qn1, .inl (cI, 8, .inl (SN 1))), (qn2, .inl (cI, 8, .inl (SN 2))), (qn3, .inl (cI, 8, .inl (SN 3))), (qn4, .inl (cI, 8, .inl (SN 4)))] := hD
  refine lv_iconst (v := (0 : Int32)) hx hb dX4_firstNotSo_0 (by decide) ?_
  refine lv_istore_n (lv' := [(1, .int (0 : Int32)), (0, .ref zv)]) hx hb dX4_firstNotSo_1 rfl hl (by decide) rfl (fun ls hl => ?_)
  refine lv_iconst (v := (0 : Int32)) hx hb dX4_firstNotSo_2 (by decide) ?_
  refine lv_istore_n (lv' := [(2, .int (0 : Int32)), (1, .int (0 : Int32)), (0, .ref zv)]) hx hb dX4_firstNotSo_3 rfl hl (by decide) rfl (fun ls hl => ?_)
  exact t_X4_firstNotSo_4 (fu := fu) C0 hA  fu _ _ hf _ _ hP hD hS _ (lv_sub hl [2, 1, 0] rfl)
theorem q_X4_judge_1 : (Cond.fieldLink RX4 160 "UpWhenDies" "toldSize" "I" : Cond) ∈ wsX4_judge := List.mem_of_getElem? (i := 1) rfl
theorem i_X4_judge_X4 : ∀ w ∈ wsX40, w ∈ wsX4_judge := fun _ h => (List.mem_cons_of_mem _ (List.mem_append_left _ (List.mem_append_right _ h)))
abbrev rm_X4_judge : Room := { frames := 2, cells := 0, slots := 0, locals := 43 }
set_option maxHeartbeats 4000000 in
set_option maxRecDepth 100000 in
theorem c_X4_judge (l : Launch) (D : va_G) (cI cJ : ClassId) (fu : Nat) (zv qv6 qv8 zn zr zk zl zo qn0 qn1 qn2 qn3 qn4 : Nat) (SV : S32) (SN : S32) (o : Int32 × S32) (hf : f_X4_judge fu SV SN = some o) : MI l yX4_judge wsX4_judge rm_X4_judge D vwCl (tyS cI cJ) [.ref zv] ((wV zv qv6 qv8 zn zr zk zl zo cI SV) ++ (wT zn qn0 qn1 qn2 qn3 qn4 cI SN)) ((wV zv qv6 qv8 zn zr zk zl zo cI (o.2)) ++ (wT zn qn0 qn1 qn2 qn3 qn4 cI SN)) (o.1) := by
  intro sz
  refine s_entry (own := RX4) (cc := cX4_judge) (maxL := 2) (ret := (some .int)) (Qc := fun A => sZi D vwCl (tyS cI cJ) A ((wV zv qv6 qv8 zn zr zk zl zo cI (o.2)) ++ (wT zn qn0 qn1 qn2 qn3 qn4 cI SN)) (o.1)) rfl (by decide) rfl rfl (Nat.le_of_ble_eq_true rfl) ?_
  intro p e s m args below meth c A C0 hA hP hD hS ls hl
  obtain ⟨hx, hb, hr, hml, hown, hts, hlocks, hK⟩ := id C0
  have hl : lv_has ls 2 [(0, .ref zv)] := hl
  have hP : va_P D vwCl [(zv, .inr (3, [.ref zn, .ref zr, .ref zk, .int (SV 3 0), .ref zl, .ref zo, .ref qv6, .int (SV 7 0), .ref qv8])), (qv6, .inl (cI, 8, .inl (SV 6))), (qv8, .inl (cI, 7, .inl (SV 8))), (zn, .inr (2, [.ref qn0, .ref qn1, .ref qn2, .ref qn3, .ref qn4, .int (SN 5 0), .int (SN 6 0)])), (qn0, .inl (cI, 8, .inl (SN 0))), (qn1, .inl (cI, 8, .inl (SN 1))), (qn2, .inl (cI, 8, .inl (SN 2))), (qn3, .inl (cI, 8, .inl (SN 3))), (qn4, .inl (cI, 8, .inl (SN 4)))] s.heap := hP
  have hD : va_D A [(zv, .inr (3, [.ref zn, .ref zr, .ref zk, .int (SV 3 0), .ref zl, .ref zo, .ref qv6, .int (SV 7 0), .ref qv8])), (qv6, .inl (cI, 8, .inl (SV 6))), (qv8, .inl (cI, 7, .inl (SV 8))), (zn, .inr (2, [.ref qn0, .ref qn1, .ref qn2, .ref qn3, .ref qn4, .int (SN 5 0), .int (SN 6 0)])), (qn0, .inl (cI, 8, .inl (SN 0))), (qn1, .inl (cI, 8, .inl (SN 1))), (qn2, .inl (cI, 8, .inl (SN 2))), (qn3, .inl (cI, 8, .inl (SN 3))), (qn4, .inl (cI, 8, .inl (SN 4)))] := hD
  refine lv_aload_n hx hb dX4_judge_0 rfl (lv_at hl 0 rfl) ?_
  obtain ⟨o_1, h_1, hf⟩ := bd_some hf
  refine s_callVI (wc := ((wV zv qv6 qv8 zn zr zk zl zo cI SV) ++ (wT zn qn0 qn1 qn2 qn3 qn4 cI SN))) (wr := []) (wc' := ((wV zv qv6 qv8 zn zr zk zl zo cI SV) ++ (wT zn qn0 qn1 qn2 qn3 qn4 cI SN))) (w' := [(zv, .inr (3, [.ref zn, .ref zr, .ref zk, .int (SV 3 0), .ref zl, .ref zo, .ref qv6, .int (SV 7 0), .ref qv8])), (qv6, .inl (cI, 8, .inl (SV 6))), (qv8, .inl (cI, 7, .inl (SV 8))), (zn, .inr (2, [.ref qn0, .ref qn1, .ref qn2, .ref qn3, .ref qn4, .int (SN 5 0), .int (SN 6 0)])), (qn0, .inl (cI, 8, .inl (SN 0))), (qn1, .inl (cI, 8, .inl (SN 1))), (qn2, .inl (cI, 8, .inl (SN 2))), (qn3, .inl (cI, 8, .inl (SN 3))), (qn4, .inl (cI, 8, .inl (SN 4)))]) (isC := [0, 1, 2, 3, 4, 5, 6, 7, 8]) (isR := []) (perm := [0, 1, 2, 3, 4, 5, 6, 7, 8]) (As := []) (rest := []) (ci := 3) (q := (RX4, TX4, 9)) ⟨hx, hb, hml, hown, hts⟩ (c_X4_firstNotSo l D cI cJ fu zv qv6 qv8 zn zr zk zl zo qn0 qn1 qn2 qn3 qn4 SV SN o_1 h_1) (cwV 0 hts gX4_judge_X4_firstNotSo rfl rfl rfl (by decide +kernel) ⟨Nat.le_of_ble_eq_true rfl, Nat.le_of_ble_eq_true rfl⟩) hK hP hD hS hA ⟨rfl, rfl, by decide, by decide, by decide, by decide, rfl⟩ rfl rfl rfl rfl hl.1 rfl (Nat.le_of_ble_eq_true rfl) dX4_judge_1 (fun H locs hP hD hS => ?_)
  refine lv_istore_n (lv' := [(1, .int o_1), (0, .ref zv)]) hx hb dX4_judge_4 rfl hl (by decide) rfl (fun ls hl => ?_)
  refine lv_aload_n hx hb dX4_judge_5 rfl (lv_at hl 1 rfl) ?_
  refine lv_iconst (v := (0 : Int32)) hx hb dX4_judge_6 (by decide) ?_
  refine va_put (D := D) (ci := 3) (v := .int (0 : Int32)) (ty := .int) (C := RX4) (T := TX4) (N := 9) hx hb hts i_X4_judge_X4 tyX4 tyX4_ok nmX4 hown hK hP hD hS 0 rfl rfl 7 (by decide) (hts _ q_X4_judge_1) (fun _ h9 => h9) rfl (by decide +kernel) rfl rfl (Nat.le_of_ble_eq_true rfl) dX4_judge_7 (fun H locs hP hD hS => ?_)
  have hP : va_P D vwCl [(zv, .inr (3, [.ref zn, .ref zr, .ref zk, .int (SV 3 0), .ref zl, .ref zo, .ref qv6, .int (0 : Int32), .ref qv8])), (qv6, .inl (cI, 8, .inl (SV 6))), (qv8, .inl (cI, 7, .inl (SV 8))), (zn, .inr (2, [.ref qn0, .ref qn1, .ref qn2, .ref qn3, .ref qn4, .int (SN 5 0), .int (SN 6 0)])), (qn0, .inl (cI, 8, .inl (SN 0))), (qn1, .inl (cI, 8, .inl (SN 1))), (qn2, .inl (cI, 8, .inl (SN 2))), (qn3, .inl (cI, 8, .inl (SN 3))), (qn4, .inl (cI, 8, .inl (SN 4)))] H := hP
  have hD : va_D A [(zv, .inr (3, [.ref zn, .ref zr, .ref zk, .int (SV 3 0), .ref zl, .ref zo, .ref qv6, .int (0 : Int32), .ref qv8])), (qv6, .inl (cI, 8, .inl (SV 6))), (qv8, .inl (cI, 7, .inl (SV 8))), (zn, .inr (2, [.ref qn0, .ref qn1, .ref qn2, .ref qn3, .ref qn4, .int (SN 5 0), .int (SN 6 0)])), (qn0, .inl (cI, 8, .inl (SN 0))), (qn1, .inl (cI, 8, .inl (SN 1))), (qn2, .inl (cI, 8, .inl (SN 2))), (qn3, .inl (cI, 8, .inl (SN 3))), (qn4, .inl (cI, 8, .inl (SN 4)))] := hD
  refine lv_iload_n hx hb dX4_judge_10 rfl (lv_at hl 0 rfl) ?_
  obtain rfl := Option.some.inj hf
  exact s_iret (r := o_1) hx hb hr hlocks hK hP hD hS dX4_judge_11
theorem q_X4_lots_1 : (Cond.fieldLink RX4 10 "UpWhenDies" "now" "LUpWhenDies$Tower;" : Cond) ∈ wsX4_lots := List.mem_of_getElem? (i := 1) rfl
theorem i_X4_lots_X4 : ∀ w ∈ wsX40, w ∈ wsX4_lots := fun _ h => (List.mem_cons_of_mem _ (List.mem_append_left _ (List.mem_append_right _ h)))
abbrev rm_X4_lots : Room := { frames := 5, cells := 0, slots := 0, locals := 112 }
set_option maxHeartbeats 4000000 in
set_option maxRecDepth 100000 in
theorem c_X4_lots (l : Launch) (D : va_G) (cI cJ : ClassId) (fu : Nat) (zv qv6 qv8 zn zr zk zl zo qn0 qn1 qn2 qn3 qn4 : Nat) (SV : S32) (SN : S32) (x1 : Int32) (x2 : Int32) (o : Int32 × S32) (hf : f_X4_lots fu SV SN x1 x2 = some o) : MI l yX4_lots wsX4_lots rm_X4_lots D vwCl (tyS cI cJ) [.ref zv, .int x1, .int x2] ((wV zv qv6 qv8 zn zr zk zl zo cI SV) ++ (wT zn qn0 qn1 qn2 qn3 qn4 cI SN)) ((wV zv qv6 qv8 zn zr zk zl zo cI (o.2)) ++ (wT zn qn0 qn1 qn2 qn3 qn4 cI SN)) (o.1) := by
  intro sz
  refine s_entry (own := RX4) (cc := cX4_lots) (maxL := 3) (ret := (some .int)) (Qc := fun A => sZi D vwCl (tyS cI cJ) A ((wV zv qv6 qv8 zn zr zk zl zo cI (o.2)) ++ (wT zn qn0 qn1 qn2 qn3 qn4 cI SN)) (o.1)) rfl (by decide) rfl rfl (Nat.le_of_ble_eq_true rfl) ?_
  intro p e s m args below meth c A C0 hA hP hD hS ls hl
  obtain ⟨hx, hb, hr, hml, hown, hts, hlocks, hK⟩ := id C0
  have hl : lv_has ls 3 [(0, .ref zv), (1, .int x1), (2, .int x2)] := hl
  have hP : va_P D vwCl [(zv, .inr (3, [.ref zn, .ref zr, .ref zk, .int (SV 3 0), .ref zl, .ref zo, .ref qv6, .int (SV 7 0), .ref qv8])), (qv6, .inl (cI, 8, .inl (SV 6))), (qv8, .inl (cI, 7, .inl (SV 8))), (zn, .inr (2, [.ref qn0, .ref qn1, .ref qn2, .ref qn3, .ref qn4, .int (SN 5 0), .int (SN 6 0)])), (qn0, .inl (cI, 8, .inl (SN 0))), (qn1, .inl (cI, 8, .inl (SN 1))), (qn2, .inl (cI, 8, .inl (SN 2))), (qn3, .inl (cI, 8, .inl (SN 3))), (qn4, .inl (cI, 8, .inl (SN 4)))] s.heap := hP
  have hD : va_D A [(zv, .inr (3, [.ref zn, .ref zr, .ref zk, .int (SV 3 0), .ref zl, .ref zo, .ref qv6, .int (SV 7 0), .ref qv8])), (qv6, .inl (cI, 8, .inl (SV 6))), (qv8, .inl (cI, 7, .inl (SV 8))), (zn, .inr (2, [.ref qn0, .ref qn1, .ref qn2, .ref qn3, .ref qn4, .int (SN 5 0), .int (SN 6 0)])), (qn0, .inl (cI, 8, .inl (SN 0))), (qn1, .inl (cI, 8, .inl (SN 1))), (qn2, .inl (cI, 8, .inl (SN 2))), (qn3, .inl (cI, 8, .inl (SN 3))), (qn4, .inl (cI, 8, .inl (SN 4)))] := hD
  refine lv_iload_n hx hb dX4_lots_0 rfl (lv_at hl 1 rfl) ?_
  refine lv_iconst (v := (1 : Int32)) hx hb dX4_lots_1 (by decide) ?_
  refine lv_icmp_ge (tgt := 12) hx hb dX4_lots_2 (by decide) (fun c_1 => ?_) (fun c_1 => ?_)
  · have hf := itT c_1 hf
    refine lv_iload_n hx hb dX4_lots_12 rfl (lv_at hl 1 rfl) ?_
    refine lv_bipush (v := (40 : Int32)) hx hb dX4_lots_13 (by decide) ?_
    refine lv_icmp_le (tgt := 25) hx hb dX4_lots_15 (by decide) (fun c_2 => ?_) (fun c_2 => ?_)
    · have hf := itT c_2 hf
      refine lv_aload_n hx hb dX4_lots_25 rfl (lv_at hl 0 rfl) ?_
      refine va_get (D := D) (ci := 3) (v := .ref zn) (C := RX4) (T := TX4) (N := 9) hx hb hts i_X4_lots_X4 hown hK hP 0 rfl rfl 0 (by decide) (hts _ q_X4_lots_1) (fun _ h9 => h9) rfl dX4_lots_26 ?_
      refine lv_iload_n hx hb dX4_lots_29 rfl (lv_at hl 1 rfl) ?_
      refine lv_iload_n hx hb dX4_lots_30 rfl (lv_at hl 2 rfl) ?_
      obtain ⟨o_3, h_3, hf⟩ := bd_some hf
      refine s_callVI (wc := (wT zn qn0 qn1 qn2 qn3 qn4 cI SN)) (wr := [(zv, .inr (3, [.ref zn, .ref zr, .ref zk, .int (SV 3 0), .ref zl, .ref zo, .ref qv6, .int (SV 7 0), .ref qv8])), (qv6, .inl (cI, 8, .inl (SV 6))), (qv8, .inl (cI, 7, .inl (SV 8)))]) (wc' := (wT zn qn0 qn1 qn2 qn3 qn4 cI SN)) (w' := [(zv, .inr (3, [.ref zn, .ref zr, .ref zk, .int (SV 3 0), .ref zl, .ref zo, .ref qv6, .int (SV 7 0), .ref qv8])), (qv6, .inl (cI, 8, .inl (SV 6))), (qv8, .inl (cI, 7, .inl (SV 8))), (zn, .inr (2, [.ref qn0, .ref qn1, .ref qn2, .ref qn3, .ref qn4, .int (SN 5 0), .int (SN 6 0)])), (qn0, .inl (cI, 8, .inl (SN 0))), (qn1, .inl (cI, 8, .inl (SN 1))), (qn2, .inl (cI, 8, .inl (SN 2))), (qn3, .inl (cI, 8, .inl (SN 3))), (qn4, .inl (cI, 8, .inl (SN 4)))]) (isC := [3, 4, 5, 6, 7, 8]) (isR := [0, 1, 2]) (perm := [0, 1, 2, 3, 4, 5, 6, 7, 8]) (As := [.int x1, .int x2]) (rest := []) (ci := 2) (q := (RX3, TX3, 7)) ⟨hx, hb, hml, hown, hts⟩ (c_X3_livingByLot l D cI cJ fu zn qn0 qn1 qn2 qn3 qn4 SN x1 x2 o_3 h_3) (cwV 2 hts gX4_lots_X3_livingByLot rfl rfl rfl (by decide +kernel) ⟨Nat.le_of_ble_eq_true rfl, Nat.le_of_ble_eq_true rfl⟩) hK hP hD hS hA ⟨rfl, rfl, by decide, by decide, by decide, by decide, rfl⟩ rfl rfl rfl rfl hl.1 rfl (Nat.le_of_ble_eq_true rfl) dX4_lots_31 (fun H locs hP hD hS => ?_)
      obtain rfl := Option.some.inj hf
      exact s_iret (r := o_3) hx hb hr hlocks hK hP hD hS dX4_lots_34
    · have hf := itF c_2 hf
      refine lv_aload_n hx hb dX4_lots_18 rfl (lv_at hl 0 rfl) ?_
      refine lv_bipush (v := (-6 : Int32)) hx hb dX4_lots_19 (by decide) ?_
      obtain ⟨o_4, h_4, hf⟩ := bd_some hf
      refine s_callVI (wc := (wV zv qv6 qv8 zn zr zk zl zo cI SV)) (wr := [(zn, .inr (2, [.ref qn0, .ref qn1, .ref qn2, .ref qn3, .ref qn4, .int (SN 5 0), .int (SN 6 0)])), (qn0, .inl (cI, 8, .inl (SN 0))), (qn1, .inl (cI, 8, .inl (SN 1))), (qn2, .inl (cI, 8, .inl (SN 2))), (qn3, .inl (cI, 8, .inl (SN 3))), (qn4, .inl (cI, 8, .inl (SN 4)))]) (wc' := (wV zv qv6 qv8 zn zr zk zl zo cI (o_4.2))) (w' := [(zv, .inr (3, [.ref zn, .ref zr, .ref zk, .int ((o_4.2) 3 0), .ref zl, .ref zo, .ref qv6, .int ((o_4.2) 7 0), .ref qv8])), (qv6, .inl (cI, 8, .inl ((o_4.2) 6))), (qv8, .inl (cI, 7, .inl ((o_4.2) 8))), (zn, .inr (2, [.ref qn0, .ref qn1, .ref qn2, .ref qn3, .ref qn4, .int (SN 5 0), .int (SN 6 0)])), (qn0, .inl (cI, 8, .inl (SN 0))), (qn1, .inl (cI, 8, .inl (SN 1))), (qn2, .inl (cI, 8, .inl (SN 2))), (qn3, .inl (cI, 8, .inl (SN 3))), (qn4, .inl (cI, 8, .inl (SN 4)))]) (isC := [0, 1, 2]) (isR := [3, 4, 5, 6, 7, 8]) (perm := [6, 7, 8, 0, 1, 2, 3, 4, 5]) (As := [.int (-6 : Int32)]) (rest := []) (ci := 3) (q := (RX4, TX4, 9)) ⟨hx, hb, hml, hown, hts⟩ (c_X4_refuse l D cI cJ fu zv qv6 qv8 zn zr zk zl zo SV (-6 : Int32) o_4 h_4) (cwV 1 hts gX4_lots_X4_refuse rfl rfl rfl (by decide +kernel) ⟨Nat.le_of_ble_eq_true rfl, Nat.le_of_ble_eq_true rfl⟩) hK hP hD hS hA ⟨rfl, rfl, by decide, by decide, by decide, by decide, rfl⟩ rfl rfl rfl rfl hl.1 rfl (Nat.le_of_ble_eq_true rfl) dX4_lots_21 (fun H locs hP hD hS => ?_)
      obtain rfl := Option.some.inj hf
      exact s_iret (r := o_4.1) hx hb hr hlocks hK hP hD hS dX4_lots_24
  · have hf := itF c_1 hf
    refine lv_aload_n hx hb dX4_lots_5 rfl (lv_at hl 0 rfl) ?_
    refine lv_bipush (v := (-4 : Int32)) hx hb dX4_lots_6 (by decide) ?_
    obtain ⟨o_5, h_5, hf⟩ := bd_some hf
    refine s_callVI (wc := (wV zv qv6 qv8 zn zr zk zl zo cI SV)) (wr := [(zn, .inr (2, [.ref qn0, .ref qn1, .ref qn2, .ref qn3, .ref qn4, .int (SN 5 0), .int (SN 6 0)])), (qn0, .inl (cI, 8, .inl (SN 0))), (qn1, .inl (cI, 8, .inl (SN 1))), (qn2, .inl (cI, 8, .inl (SN 2))), (qn3, .inl (cI, 8, .inl (SN 3))), (qn4, .inl (cI, 8, .inl (SN 4)))]) (wc' := (wV zv qv6 qv8 zn zr zk zl zo cI (o_5.2))) (w' := [(zv, .inr (3, [.ref zn, .ref zr, .ref zk, .int ((o_5.2) 3 0), .ref zl, .ref zo, .ref qv6, .int ((o_5.2) 7 0), .ref qv8])), (qv6, .inl (cI, 8, .inl ((o_5.2) 6))), (qv8, .inl (cI, 7, .inl ((o_5.2) 8))), (zn, .inr (2, [.ref qn0, .ref qn1, .ref qn2, .ref qn3, .ref qn4, .int (SN 5 0), .int (SN 6 0)])), (qn0, .inl (cI, 8, .inl (SN 0))), (qn1, .inl (cI, 8, .inl (SN 1))), (qn2, .inl (cI, 8, .inl (SN 2))), (qn3, .inl (cI, 8, .inl (SN 3))), (qn4, .inl (cI, 8, .inl (SN 4)))]) (isC := [0, 1, 2]) (isR := [3, 4, 5, 6, 7, 8]) (perm := [6, 7, 8, 0, 1, 2, 3, 4, 5]) (As := [.int (-4 : Int32)]) (rest := []) (ci := 3) (q := (RX4, TX4, 9)) ⟨hx, hb, hml, hown, hts⟩ (c_X4_refuse l D cI cJ fu zv qv6 qv8 zn zr zk zl zo SV (-4 : Int32) o_5 h_5) (cwV 1 hts gX4_lots_X4_refuse rfl rfl rfl (by decide +kernel) ⟨Nat.le_of_ble_eq_true rfl, Nat.le_of_ble_eq_true rfl⟩) hK hP hD hS hA ⟨rfl, rfl, by decide, by decide, by decide, by decide, rfl⟩ rfl rfl rfl rfl hl.1 rfl (Nat.le_of_ble_eq_true rfl) dX4_lots_8 (fun H locs hP hD hS => ?_)
    obtain rfl := Option.some.inj hf
    exact s_iret (r := o_5.1) hx hb hr hlocks hK hP hD hS dX4_lots_11
theorem q_X4_image_1 : (Cond.fieldLink RX4 19 "UpWhenDies" "kept" "LUpWhenDies$Tower;" : Cond) ∈ wsX4_image := List.mem_of_getElem? (i := 1) rfl
theorem q_X4_image_2 : (Cond.fieldLink RX4 10 "UpWhenDies" "now" "LUpWhenDies$Tower;" : Cond) ∈ wsX4_image := List.mem_of_getElem? (i := 2) rfl
theorem q_X4_image_3 : (Cond.fieldLink RX4 181 "UpWhenDies" "hasImage" "Z" : Cond) ∈ wsX4_image := List.mem_of_getElem? (i := 3) rfl
theorem q_X4_image_4 : (Cond.fieldLink RX4 108 "UpWhenDies$Tower" "yearNow" "I" : Cond) ∈ wsX4_image := List.mem_of_getElem? (i := 4) rfl
theorem i_X4_image_X3 : ∀ w ∈ wsX30, w ∈ wsX4_image := fun _ h => (List.mem_cons_of_mem _ (List.mem_append_right _ h))
theorem i_X4_image_X4 : ∀ w ∈ wsX40, w ∈ wsX4_image := fun _ h => (List.mem_cons_of_mem _ (List.mem_append_left _ (List.mem_append_right _ h)))
abbrev rm_X4_image : Room := { frames := 1, cells := 0, slots := 0, locals := 22 }
set_option maxHeartbeats 4000000 in
set_option maxRecDepth 100000 in
theorem c_X4_image (l : Launch) (D : va_G) (cI cJ : ClassId) (fu : Nat) (zv qv6 qv8 zn zr zk zl zo qn0 qn1 qn2 qn3 qn4 qk0 qk1 qk2 qk3 qk4 : Nat) (SV : S32) (SN : S32) (SK : S32) (o : Int32 × S32 × S32) (hf : f_X4_image fu SV SN SK = some o) : MI l yX4_image wsX4_image rm_X4_image D vwCl (tyS cI cJ) [.ref zv] ((wV zv qv6 qv8 zn zr zk zl zo cI SV) ++ ((wT zn qn0 qn1 qn2 qn3 qn4 cI SN) ++ (wT zk qk0 qk1 qk2 qk3 qk4 cI SK))) ((wV zv qv6 qv8 zn zr zk zl zo cI (o.2.1)) ++ ((wT zn qn0 qn1 qn2 qn3 qn4 cI SN) ++ (wT zk qk0 qk1 qk2 qk3 qk4 cI (o.2.2)))) (o.1) := by
  intro sz
  refine s_entry (own := RX4) (cc := cX4_image) (maxL := 1) (ret := (some .int)) (Qc := fun A => sZi D vwCl (tyS cI cJ) A ((wV zv qv6 qv8 zn zr zk zl zo cI (o.2.1)) ++ ((wT zn qn0 qn1 qn2 qn3 qn4 cI SN) ++ (wT zk qk0 qk1 qk2 qk3 qk4 cI (o.2.2)))) (o.1)) rfl (by decide) rfl rfl (Nat.le_of_ble_eq_true rfl) ?_
  intro p e s m args below meth c A C0 hA hP hD hS ls hl
  obtain ⟨hx, hb, hr, hml, hown, hts, hlocks, hK⟩ := id C0
  have hl : lv_has ls 1 [(0, .ref zv)] := hl
  have hP : va_P D vwCl [(zv, .inr (3, [.ref zn, .ref zr, .ref zk, .int (SV 3 0), .ref zl, .ref zo, .ref qv6, .int (SV 7 0), .ref qv8])), (qv6, .inl (cI, 8, .inl (SV 6))), (qv8, .inl (cI, 7, .inl (SV 8))), (zn, .inr (2, [.ref qn0, .ref qn1, .ref qn2, .ref qn3, .ref qn4, .int (SN 5 0), .int (SN 6 0)])), (qn0, .inl (cI, 8, .inl (SN 0))), (qn1, .inl (cI, 8, .inl (SN 1))), (qn2, .inl (cI, 8, .inl (SN 2))), (qn3, .inl (cI, 8, .inl (SN 3))), (qn4, .inl (cI, 8, .inl (SN 4))), (zk, .inr (2, [.ref qk0, .ref qk1, .ref qk2, .ref qk3, .ref qk4, .int (SK 5 0), .int (SK 6 0)])), (qk0, .inl (cI, 8, .inl (SK 0))), (qk1, .inl (cI, 8, .inl (SK 1))), (qk2, .inl (cI, 8, .inl (SK 2))), (qk3, .inl (cI, 8, .inl (SK 3))), (qk4, .inl (cI, 8, .inl (SK 4)))] s.heap := hP
  have hD : va_D A [(zv, .inr (3, [.ref zn, .ref zr, .ref zk, .int (SV 3 0), .ref zl, .ref zo, .ref qv6, .int (SV 7 0), .ref qv8])), (qv6, .inl (cI, 8, .inl (SV 6))), (qv8, .inl (cI, 7, .inl (SV 8))), (zn, .inr (2, [.ref qn0, .ref qn1, .ref qn2, .ref qn3, .ref qn4, .int (SN 5 0), .int (SN 6 0)])), (qn0, .inl (cI, 8, .inl (SN 0))), (qn1, .inl (cI, 8, .inl (SN 1))), (qn2, .inl (cI, 8, .inl (SN 2))), (qn3, .inl (cI, 8, .inl (SN 3))), (qn4, .inl (cI, 8, .inl (SN 4))), (zk, .inr (2, [.ref qk0, .ref qk1, .ref qk2, .ref qk3, .ref qk4, .int (SK 5 0), .int (SK 6 0)])), (qk0, .inl (cI, 8, .inl (SK 0))), (qk1, .inl (cI, 8, .inl (SK 1))), (qk2, .inl (cI, 8, .inl (SK 2))), (qk3, .inl (cI, 8, .inl (SK 3))), (qk4, .inl (cI, 8, .inl (SK 4)))] := hD
  refine lv_aload_n hx hb dX4_image_0 rfl (lv_at hl 0 rfl) ?_
  refine va_get (D := D) (ci := 3) (v := .ref zk) (C := RX4) (T := TX4) (N := 9) hx hb hts i_X4_image_X4 hown hK hP 0 rfl rfl 2 (by decide) (hts _ q_X4_image_1) (fun _ h9 => h9) rfl dX4_image_1 ?_
  refine lv_aload_n hx hb dX4_image_4 rfl (lv_at hl 0 rfl) ?_
  refine va_get (D := D) (ci := 3) (v := .ref zn) (C := RX4) (T := TX4) (N := 9) hx hb hts i_X4_image_X4 hown hK hP 0 rfl rfl 0 (by decide) (hts _ q_X4_image_2) (fun _ h9 => h9) rfl dX4_image_5 ?_
  obtain ⟨o_1, h_1, hf⟩ := bd_some hf
  refine s_callVV (wc := ((wT zk qk0 qk1 qk2 qk3 qk4 cI SK) ++ (wT zn qn0 qn1 qn2 qn3 qn4 cI SN))) (wr := [(zv, .inr (3, [.ref zn, .ref zr, .ref zk, .int (SV 3 0), .ref zl, .ref zo, .ref qv6, .int (SV 7 0), .ref qv8])), (qv6, .inl (cI, 8, .inl (SV 6))), (qv8, .inl (cI, 7, .inl (SV 8)))]) (wc' := ((wT zk qk0 qk1 qk2 qk3 qk4 cI (o_1)) ++ (wT zn qn0 qn1 qn2 qn3 qn4 cI SN))) (w' := [(zv, .inr (3, [.ref zn, .ref zr, .ref zk, .int (SV 3 0), .ref zl, .ref zo, .ref qv6, .int (SV 7 0), .ref qv8])), (qv6, .inl (cI, 8, .inl (SV 6))), (qv8, .inl (cI, 7, .inl (SV 8))), (zn, .inr (2, [.ref qn0, .ref qn1, .ref qn2, .ref qn3, .ref qn4, .int (SN 5 0), .int (SN 6 0)])), (qn0, .inl (cI, 8, .inl (SN 0))), (qn1, .inl (cI, 8, .inl (SN 1))), (qn2, .inl (cI, 8, .inl (SN 2))), (qn3, .inl (cI, 8, .inl (SN 3))), (qn4, .inl (cI, 8, .inl (SN 4))), (zk, .inr (2, [.ref qk0, .ref qk1, .ref qk2, .ref qk3, .ref qk4, .int ((o_1) 5 0), .int ((o_1) 6 0)])), (qk0, .inl (cI, 8, .inl ((o_1) 0))), (qk1, .inl (cI, 8, .inl ((o_1) 1))), (qk2, .inl (cI, 8, .inl ((o_1) 2))), (qk3, .inl (cI, 8, .inl ((o_1) 3))), (qk4, .inl (cI, 8, .inl ((o_1) 4)))]) (isC := [9, 10, 11, 12, 13, 14, 3, 4, 5, 6, 7, 8]) (isR := [0, 1, 2]) (perm := [0, 1, 2, 9, 10, 11, 12, 13, 14, 3, 4, 5, 6, 7, 8]) (As := [.ref zn]) (rest := []) (ci := 2) (q := (RX3, TX3, 7)) ⟨hx, hb, hml, hown, hts⟩ (c_X3_becomeLike l D cI cJ fu zk qk0 qk1 qk2 qk3 qk4 zn qn0 qn1 qn2 qn3 qn4 SK SN o_1 h_1) (cwV 1 hts gX4_image_X3_becomeLike rfl rfl rfl (by decide +kernel) ⟨Nat.le_of_ble_eq_true rfl, Nat.le_of_ble_eq_true rfl⟩) hK hP hD hS hA ⟨rfl, rfl, by decide, by decide, by decide, by decide, rfl⟩ rfl rfl rfl rfl hl.1 rfl (Nat.le_of_ble_eq_true rfl) dX4_image_8 (fun H locs hP hD hS => ?_)
  refine lv_aload_n hx hb dX4_image_11 rfl (lv_at hl 0 rfl) ?_
  refine lv_iconst (v := (1 : Int32)) hx hb dX4_image_12 (by decide) ?_
  refine va_put (D := D) (ci := 3) (v := .int (1 : Int32)) (ty := .boolean) (C := RX4) (T := TX4) (N := 9) hx hb hts i_X4_image_X4 tyX4 tyX4_ok nmX4 hown hK hP hD hS 0 rfl rfl 3 (by decide) (hts _ q_X4_image_3) (fun _ h9 => h9) rfl (by decide +kernel) rfl rfl (Nat.le_of_ble_eq_true rfl) dX4_image_13 (fun H locs hP hD hS => ?_)
  have hP : va_P D vwCl [(zv, .inr (3, [.ref zn, .ref zr, .ref zk, .int (1 : Int32), .ref zl, .ref zo, .ref qv6, .int (SV 7 0), .ref qv8])), (qv6, .inl (cI, 8, .inl (SV 6))), (qv8, .inl (cI, 7, .inl (SV 8))), (zn, .inr (2, [.ref qn0, .ref qn1, .ref qn2, .ref qn3, .ref qn4, .int (SN 5 0), .int (SN 6 0)])), (qn0, .inl (cI, 8, .inl (SN 0))), (qn1, .inl (cI, 8, .inl (SN 1))), (qn2, .inl (cI, 8, .inl (SN 2))), (qn3, .inl (cI, 8, .inl (SN 3))), (qn4, .inl (cI, 8, .inl (SN 4))), (zk, .inr (2, [.ref qk0, .ref qk1, .ref qk2, .ref qk3, .ref qk4, .int ((o_1) 5 0), .int ((o_1) 6 0)])), (qk0, .inl (cI, 8, .inl ((o_1) 0))), (qk1, .inl (cI, 8, .inl ((o_1) 1))), (qk2, .inl (cI, 8, .inl ((o_1) 2))), (qk3, .inl (cI, 8, .inl ((o_1) 3))), (qk4, .inl (cI, 8, .inl ((o_1) 4)))] H := hP
  have hD : va_D A [(zv, .inr (3, [.ref zn, .ref zr, .ref zk, .int (1 : Int32), .ref zl, .ref zo, .ref qv6, .int (SV 7 0), .ref qv8])), (qv6, .inl (cI, 8, .inl (SV 6))), (qv8, .inl (cI, 7, .inl (SV 8))), (zn, .inr (2, [.ref qn0, .ref qn1, .ref qn2, .ref qn3, .ref qn4, .int (SN 5 0), .int (SN 6 0)])), (qn0, .inl (cI, 8, .inl (SN 0))), (qn1, .inl (cI, 8, .inl (SN 1))), (qn2, .inl (cI, 8, .inl (SN 2))), (qn3, .inl (cI, 8, .inl (SN 3))), (qn4, .inl (cI, 8, .inl (SN 4))), (zk, .inr (2, [.ref qk0, .ref qk1, .ref qk2, .ref qk3, .ref qk4, .int ((o_1) 5 0), .int ((o_1) 6 0)])), (qk0, .inl (cI, 8, .inl ((o_1) 0))), (qk1, .inl (cI, 8, .inl ((o_1) 1))), (qk2, .inl (cI, 8, .inl ((o_1) 2))), (qk3, .inl (cI, 8, .inl ((o_1) 3))), (qk4, .inl (cI, 8, .inl ((o_1) 4)))] := hD
  refine lv_aload_n hx hb dX4_image_16 rfl (lv_at hl 0 rfl) ?_
  refine va_get (D := D) (ci := 3) (v := .ref zk) (C := RX4) (T := TX4) (N := 9) hx hb hts i_X4_image_X4 hown hK hP 0 rfl rfl 2 (by decide) (hts _ q_X4_image_1) (fun _ h9 => h9) rfl dX4_image_17 ?_
  refine va_get (D := D) (ci := 2) (v := .int ((o_1) 6 0)) (C := RX3) (T := TX3) (N := 7) hx hb hts i_X4_image_X3 hown hK hP 9 rfl rfl 6 (by decide) (hts _ q_X4_image_4) (fun _ h9 => h9) rfl dX4_image_20 ?_
  obtain rfl := Option.some.inj hf
  exact s_iret (r := ((o_1) 6 0)) hx hb hr hlocks hK hP hD hS dX4_image_23
theorem q_X4_back_1 : (Cond.fieldLink RX4 181 "UpWhenDies" "hasImage" "Z" : Cond) ∈ wsX4_back := List.mem_of_getElem? (i := 1) rfl
theorem q_X4_back_2 : (Cond.fieldLink RX4 10 "UpWhenDies" "now" "LUpWhenDies$Tower;" : Cond) ∈ wsX4_back := List.mem_of_getElem? (i := 2) rfl
theorem q_X4_back_3 : (Cond.fieldLink RX4 19 "UpWhenDies" "kept" "LUpWhenDies$Tower;" : Cond) ∈ wsX4_back := List.mem_of_getElem? (i := 3) rfl
theorem q_X4_back_4 : (Cond.fieldLink RX4 108 "UpWhenDies$Tower" "yearNow" "I" : Cond) ∈ wsX4_back := List.mem_of_getElem? (i := 4) rfl
theorem i_X4_back_X3 : ∀ w ∈ wsX30, w ∈ wsX4_back := fun _ h => (List.mem_cons_of_mem _ (List.mem_append_right _ h))
theorem i_X4_back_X4 : ∀ w ∈ wsX40, w ∈ wsX4_back := fun _ h => (List.mem_cons_of_mem _ (List.mem_append_left _ (List.mem_append_right _ h)))
abbrev rm_X4_back : Room := { frames := 1, cells := 0, slots := 0, locals := 22 }
set_option maxHeartbeats 4000000 in
set_option maxRecDepth 100000 in
theorem c_X4_back (l : Launch) (D : va_G) (cI cJ : ClassId) (fu : Nat) (zv qv6 qv8 zn zr zk zl zo qn0 qn1 qn2 qn3 qn4 qk0 qk1 qk2 qk3 qk4 : Nat) (SV : S32) (SN : S32) (SK : S32) (o : Int32 × S32 × S32) (hf : f_X4_back fu SV SN SK = some o) : MI l yX4_back wsX4_back rm_X4_back D vwCl (tyS cI cJ) [.ref zv] ((wV zv qv6 qv8 zn zr zk zl zo cI SV) ++ ((wT zn qn0 qn1 qn2 qn3 qn4 cI SN) ++ (wT zk qk0 qk1 qk2 qk3 qk4 cI SK))) ((wV zv qv6 qv8 zn zr zk zl zo cI (o.2.1)) ++ ((wT zn qn0 qn1 qn2 qn3 qn4 cI (o.2.2)) ++ (wT zk qk0 qk1 qk2 qk3 qk4 cI SK))) (o.1) := by
  intro sz
  refine s_entry (own := RX4) (cc := cX4_back) (maxL := 1) (ret := (some .int)) (Qc := fun A => sZi D vwCl (tyS cI cJ) A ((wV zv qv6 qv8 zn zr zk zl zo cI (o.2.1)) ++ ((wT zn qn0 qn1 qn2 qn3 qn4 cI (o.2.2)) ++ (wT zk qk0 qk1 qk2 qk3 qk4 cI SK))) (o.1)) rfl (by decide) rfl rfl (Nat.le_of_ble_eq_true rfl) ?_
  intro p e s m args below meth c A C0 hA hP hD hS ls hl
  obtain ⟨hx, hb, hr, hml, hown, hts, hlocks, hK⟩ := id C0
  have hl : lv_has ls 1 [(0, .ref zv)] := hl
  have hP : va_P D vwCl [(zv, .inr (3, [.ref zn, .ref zr, .ref zk, .int (SV 3 0), .ref zl, .ref zo, .ref qv6, .int (SV 7 0), .ref qv8])), (qv6, .inl (cI, 8, .inl (SV 6))), (qv8, .inl (cI, 7, .inl (SV 8))), (zn, .inr (2, [.ref qn0, .ref qn1, .ref qn2, .ref qn3, .ref qn4, .int (SN 5 0), .int (SN 6 0)])), (qn0, .inl (cI, 8, .inl (SN 0))), (qn1, .inl (cI, 8, .inl (SN 1))), (qn2, .inl (cI, 8, .inl (SN 2))), (qn3, .inl (cI, 8, .inl (SN 3))), (qn4, .inl (cI, 8, .inl (SN 4))), (zk, .inr (2, [.ref qk0, .ref qk1, .ref qk2, .ref qk3, .ref qk4, .int (SK 5 0), .int (SK 6 0)])), (qk0, .inl (cI, 8, .inl (SK 0))), (qk1, .inl (cI, 8, .inl (SK 1))), (qk2, .inl (cI, 8, .inl (SK 2))), (qk3, .inl (cI, 8, .inl (SK 3))), (qk4, .inl (cI, 8, .inl (SK 4)))] s.heap := hP
  have hD : va_D A [(zv, .inr (3, [.ref zn, .ref zr, .ref zk, .int (SV 3 0), .ref zl, .ref zo, .ref qv6, .int (SV 7 0), .ref qv8])), (qv6, .inl (cI, 8, .inl (SV 6))), (qv8, .inl (cI, 7, .inl (SV 8))), (zn, .inr (2, [.ref qn0, .ref qn1, .ref qn2, .ref qn3, .ref qn4, .int (SN 5 0), .int (SN 6 0)])), (qn0, .inl (cI, 8, .inl (SN 0))), (qn1, .inl (cI, 8, .inl (SN 1))), (qn2, .inl (cI, 8, .inl (SN 2))), (qn3, .inl (cI, 8, .inl (SN 3))), (qn4, .inl (cI, 8, .inl (SN 4))), (zk, .inr (2, [.ref qk0, .ref qk1, .ref qk2, .ref qk3, .ref qk4, .int (SK 5 0), .int (SK 6 0)])), (qk0, .inl (cI, 8, .inl (SK 0))), (qk1, .inl (cI, 8, .inl (SK 1))), (qk2, .inl (cI, 8, .inl (SK 2))), (qk3, .inl (cI, 8, .inl (SK 3))), (qk4, .inl (cI, 8, .inl (SK 4)))] := hD
  refine lv_aload_n hx hb dX4_back_0 rfl (lv_at hl 0 rfl) ?_
  refine va_get (D := D) (ci := 3) (v := .int (SV 3 0)) (C := RX4) (T := TX4) (N := 9) hx hb hts i_X4_back_X4 hown hK hP 0 rfl rfl 3 (by decide) (hts _ q_X4_back_1) (fun _ h9 => h9) rfl dX4_back_1 ?_
  refine lv_if_ne (tgt := 14) hx hb dX4_back_4 (by decide) (fun c_1 => ?_) (fun c_1 => ?_)
  · have hf := itF c_1 hf
    refine lv_aload_n hx hb dX4_back_14 rfl (lv_at hl 0 rfl) ?_
    refine va_get (D := D) (ci := 3) (v := .ref zn) (C := RX4) (T := TX4) (N := 9) hx hb hts i_X4_back_X4 hown hK hP 0 rfl rfl 0 (by decide) (hts _ q_X4_back_2) (fun _ h9 => h9) rfl dX4_back_15 ?_
    refine lv_aload_n hx hb dX4_back_18 rfl (lv_at hl 0 rfl) ?_
    refine va_get (D := D) (ci := 3) (v := .ref zk) (C := RX4) (T := TX4) (N := 9) hx hb hts i_X4_back_X4 hown hK hP 0 rfl rfl 2 (by decide) (hts _ q_X4_back_3) (fun _ h9 => h9) rfl dX4_back_19 ?_
    obtain ⟨o_2, h_2, hf⟩ := bd_some hf
    refine s_callVV (wc := ((wT zn qn0 qn1 qn2 qn3 qn4 cI SN) ++ (wT zk qk0 qk1 qk2 qk3 qk4 cI SK))) (wr := [(zv, .inr (3, [.ref zn, .ref zr, .ref zk, .int (SV 3 0), .ref zl, .ref zo, .ref qv6, .int (SV 7 0), .ref qv8])), (qv6, .inl (cI, 8, .inl (SV 6))), (qv8, .inl (cI, 7, .inl (SV 8)))]) (wc' := ((wT zn qn0 qn1 qn2 qn3 qn4 cI (o_2)) ++ (wT zk qk0 qk1 qk2 qk3 qk4 cI SK))) (w' := [(zv, .inr (3, [.ref zn, .ref zr, .ref zk, .int (SV 3 0), .ref zl, .ref zo, .ref qv6, .int (SV 7 0), .ref qv8])), (qv6, .inl (cI, 8, .inl (SV 6))), (qv8, .inl (cI, 7, .inl (SV 8))), (zn, .inr (2, [.ref qn0, .ref qn1, .ref qn2, .ref qn3, .ref qn4, .int ((o_2) 5 0), .int ((o_2) 6 0)])), (qn0, .inl (cI, 8, .inl ((o_2) 0))), (qn1, .inl (cI, 8, .inl ((o_2) 1))), (qn2, .inl (cI, 8, .inl ((o_2) 2))), (qn3, .inl (cI, 8, .inl ((o_2) 3))), (qn4, .inl (cI, 8, .inl ((o_2) 4))), (zk, .inr (2, [.ref qk0, .ref qk1, .ref qk2, .ref qk3, .ref qk4, .int (SK 5 0), .int (SK 6 0)])), (qk0, .inl (cI, 8, .inl (SK 0))), (qk1, .inl (cI, 8, .inl (SK 1))), (qk2, .inl (cI, 8, .inl (SK 2))), (qk3, .inl (cI, 8, .inl (SK 3))), (qk4, .inl (cI, 8, .inl (SK 4)))]) (isC := [3, 4, 5, 6, 7, 8, 9, 10, 11, 12, 13, 14]) (isR := [0, 1, 2]) (perm := [0, 1, 2, 3, 4, 5, 6, 7, 8, 9, 10, 11, 12, 13, 14]) (As := [.ref zk]) (rest := []) (ci := 2) (q := (RX3, TX3, 7)) ⟨hx, hb, hml, hown, hts⟩ (c_X3_becomeLike l D cI cJ fu zn qn0 qn1 qn2 qn3 qn4 zk qk0 qk1 qk2 qk3 qk4 SN SK o_2 h_2) (cwV 1 hts gX4_back_X3_becomeLike rfl rfl rfl (by decide +kernel) ⟨Nat.le_of_ble_eq_true rfl, Nat.le_of_ble_eq_true rfl⟩) hK hP hD hS hA ⟨rfl, rfl, by decide, by decide, by decide, by decide, rfl⟩ rfl rfl rfl rfl hl.1 rfl (Nat.le_of_ble_eq_true rfl) dX4_back_22 (fun H locs hP hD hS => ?_)
    refine lv_aload_n hx hb dX4_back_25 rfl (lv_at hl 0 rfl) ?_
    refine va_get (D := D) (ci := 3) (v := .ref zn) (C := RX4) (T := TX4) (N := 9) hx hb hts i_X4_back_X4 hown hK hP 0 rfl rfl 0 (by decide) (hts _ q_X4_back_2) (fun _ h9 => h9) rfl dX4_back_26 ?_
    refine va_get (D := D) (ci := 2) (v := .int ((o_2) 6 0)) (C := RX3) (T := TX3) (N := 7) hx hb hts i_X4_back_X3 hown hK hP 3 rfl rfl 6 (by decide) (hts _ q_X4_back_4) (fun _ h9 => h9) rfl dX4_back_29 ?_
    obtain rfl := Option.some.inj hf
    exact s_iret (r := ((o_2) 6 0)) hx hb hr hlocks hK hP hD hS dX4_back_32
  · have hf := itT c_1 hf
    refine lv_aload_n hx hb dX4_back_7 rfl (lv_at hl 0 rfl) ?_
    refine lv_bipush (v := (-3 : Int32)) hx hb dX4_back_8 (by decide) ?_
    obtain ⟨o_3, h_3, hf⟩ := bd_some hf
    refine s_callVI (wc := (wV zv qv6 qv8 zn zr zk zl zo cI SV)) (wr := [(zn, .inr (2, [.ref qn0, .ref qn1, .ref qn2, .ref qn3, .ref qn4, .int (SN 5 0), .int (SN 6 0)])), (qn0, .inl (cI, 8, .inl (SN 0))), (qn1, .inl (cI, 8, .inl (SN 1))), (qn2, .inl (cI, 8, .inl (SN 2))), (qn3, .inl (cI, 8, .inl (SN 3))), (qn4, .inl (cI, 8, .inl (SN 4))), (zk, .inr (2, [.ref qk0, .ref qk1, .ref qk2, .ref qk3, .ref qk4, .int (SK 5 0), .int (SK 6 0)])), (qk0, .inl (cI, 8, .inl (SK 0))), (qk1, .inl (cI, 8, .inl (SK 1))), (qk2, .inl (cI, 8, .inl (SK 2))), (qk3, .inl (cI, 8, .inl (SK 3))), (qk4, .inl (cI, 8, .inl (SK 4)))]) (wc' := (wV zv qv6 qv8 zn zr zk zl zo cI (o_3.2))) (w' := [(zv, .inr (3, [.ref zn, .ref zr, .ref zk, .int ((o_3.2) 3 0), .ref zl, .ref zo, .ref qv6, .int ((o_3.2) 7 0), .ref qv8])), (qv6, .inl (cI, 8, .inl ((o_3.2) 6))), (qv8, .inl (cI, 7, .inl ((o_3.2) 8))), (zn, .inr (2, [.ref qn0, .ref qn1, .ref qn2, .ref qn3, .ref qn4, .int (SN 5 0), .int (SN 6 0)])), (qn0, .inl (cI, 8, .inl (SN 0))), (qn1, .inl (cI, 8, .inl (SN 1))), (qn2, .inl (cI, 8, .inl (SN 2))), (qn3, .inl (cI, 8, .inl (SN 3))), (qn4, .inl (cI, 8, .inl (SN 4))), (zk, .inr (2, [.ref qk0, .ref qk1, .ref qk2, .ref qk3, .ref qk4, .int (SK 5 0), .int (SK 6 0)])), (qk0, .inl (cI, 8, .inl (SK 0))), (qk1, .inl (cI, 8, .inl (SK 1))), (qk2, .inl (cI, 8, .inl (SK 2))), (qk3, .inl (cI, 8, .inl (SK 3))), (qk4, .inl (cI, 8, .inl (SK 4)))]) (isC := [0, 1, 2]) (isR := [3, 4, 5, 6, 7, 8, 9, 10, 11, 12, 13, 14]) (perm := [12, 13, 14, 0, 1, 2, 3, 4, 5, 6, 7, 8, 9, 10, 11]) (As := [.int (-3 : Int32)]) (rest := []) (ci := 3) (q := (RX4, TX4, 9)) ⟨hx, hb, hml, hown, hts⟩ (c_X4_refuse l D cI cJ fu zv qv6 qv8 zn zr zk zl zo SV (-3 : Int32) o_3 h_3) (cwV 1 hts gX4_back_X4_refuse rfl rfl rfl (by decide +kernel) ⟨Nat.le_of_ble_eq_true rfl, Nat.le_of_ble_eq_true rfl⟩) hK hP hD hS hA ⟨rfl, rfl, by decide, by decide, by decide, by decide, rfl⟩ rfl rfl rfl rfl hl.1 rfl (Nat.le_of_ble_eq_true rfl) dX4_back_10 (fun H locs hP hD hS => ?_)
    obtain rfl := Option.some.inj hf
    exact s_iret (r := o_3.1) hx hb hr hlocks hK hP hD hS dX4_back_13
theorem q_X4_count_1 : (Cond.fieldLink RX4 10 "UpWhenDies" "now" "LUpWhenDies$Tower;" : Cond) ∈ wsX4_count := List.mem_of_getElem? (i := 1) rfl
theorem q_X4_count_2 : (Cond.fieldLink RX4 185 "UpWhenDies$Tower" "came" "I" : Cond) ∈ wsX4_count := List.mem_of_getElem? (i := 2) rfl
theorem q_X4_count_3 : (Cond.fieldLink RX4 108 "UpWhenDies$Tower" "yearNow" "I" : Cond) ∈ wsX4_count := List.mem_of_getElem? (i := 3) rfl
theorem q_X4_count_4 : (Cond.fieldLink RX4 86 "UpWhenDies$Tower" "load" "[I" : Cond) ∈ wsX4_count := List.mem_of_getElem? (i := 4) rfl
theorem q_X4_count_5 : (Cond.fieldLink RX4 80 "UpWhenDies$Tower" "age" "[I" : Cond) ∈ wsX4_count := List.mem_of_getElem? (i := 5) rfl
theorem q_X4_count_6 : (Cond.fieldLink RX4 160 "UpWhenDies" "toldSize" "I" : Cond) ∈ wsX4_count := List.mem_of_getElem? (i := 6) rfl
theorem q_X4_count_7 : (Cond.fieldLink RX4 25 "UpWhenDies" "telling" "LUpWhenDies$Telling;" : Cond) ∈ wsX4_count := List.mem_of_getElem? (i := 7) rfl
theorem q_X4_count_8 : (Cond.fieldLink RX4 192 "UpWhenDies$Telling" "size" "I" : Cond) ∈ wsX4_count := List.mem_of_getElem? (i := 8) rfl
theorem q_X4_count_9 : (Cond.fieldLink RX4 40 "UpWhenDies" "refused" "[I" : Cond) ∈ wsX4_count := List.mem_of_getElem? (i := 9) rfl
theorem i_X4_count_X2 : ∀ w ∈ wsX20, w ∈ wsX4_count := fun _ h => (List.mem_cons_of_mem _ (List.mem_append_right _ h))
theorem i_X4_count_X3 : ∀ w ∈ wsX30, w ∈ wsX4_count := fun _ h => (List.mem_cons_of_mem _ (List.mem_append_left _ (List.mem_append_right _ h)))
theorem i_X4_count_X4 : ∀ w ∈ wsX40, w ∈ wsX4_count := fun _ h => (List.mem_cons_of_mem _ (List.mem_append_left _ (List.mem_append_left _ (List.mem_append_right _ h))))
abbrev rm_X4_count : Room := { frames := 2, cells := 0, slots := 0, locals := 44 }
set_option maxHeartbeats 4000000 in
set_option maxRecDepth 100000 in
theorem c_X4_count (l : Launch) (D : va_G) (cI cJ : ClassId) (fu : Nat) (zv qv6 qv8 zn zr zk zl zo qn0 qn1 qn2 qn3 qn4 ql0 : Nat) (SV : S32) (SN : S32) (SL : S32) (x1 : Int32) (o : Int32) (hf : f_X4_count fu SV SN SL x1 = some o) : MI l yX4_count wsX4_count rm_X4_count D vwCl (tyS cI cJ) [.ref zv, .int x1] ((wV zv qv6 qv8 zn zr zk zl zo cI SV) ++ ((wT zn qn0 qn1 qn2 qn3 qn4 cI SN) ++ (wL zl ql0 cI SL))) ((wV zv qv6 qv8 zn zr zk zl zo cI SV) ++ ((wT zn qn0 qn1 qn2 qn3 qn4 cI SN) ++ (wL zl ql0 cI SL))) (o) := by
  intro sz
  refine s_entry (own := RX4) (cc := cX4_count) (maxL := 2) (ret := (some .int)) (Qc := fun A => sZi D vwCl (tyS cI cJ) A ((wV zv qv6 qv8 zn zr zk zl zo cI SV) ++ ((wT zn qn0 qn1 qn2 qn3 qn4 cI SN) ++ (wL zl ql0 cI SL))) (o)) rfl (by decide) rfl rfl (Nat.le_of_ble_eq_true rfl) ?_
  intro p e s m args below meth c A C0 hA hP hD hS ls hl
  obtain ⟨hx, hb, hr, hml, hown, hts, hlocks, hK⟩ := id C0
  have hl : lv_has ls 2 [(0, .ref zv), (1, .int x1)] := hl
  have hP : va_P D vwCl [(zv, .inr (3, [.ref zn, .ref zr, .ref zk, .int (SV 3 0), .ref zl, .ref zo, .ref qv6, .int (SV 7 0), .ref qv8])), (qv6, .inl (cI, 8, .inl (SV 6))), (qv8, .inl (cI, 7, .inl (SV 8))), (zn, .inr (2, [.ref qn0, .ref qn1, .ref qn2, .ref qn3, .ref qn4, .int (SN 5 0), .int (SN 6 0)])), (qn0, .inl (cI, 8, .inl (SN 0))), (qn1, .inl (cI, 8, .inl (SN 1))), (qn2, .inl (cI, 8, .inl (SN 2))), (qn3, .inl (cI, 8, .inl (SN 3))), (qn4, .inl (cI, 8, .inl (SN 4))), (zl, .inr (1, [.ref ql0, .int (SL 1 0)])), (ql0, .inl (cI, 80, .inl (SL 0)))] s.heap := hP
  have hD : va_D A [(zv, .inr (3, [.ref zn, .ref zr, .ref zk, .int (SV 3 0), .ref zl, .ref zo, .ref qv6, .int (SV 7 0), .ref qv8])), (qv6, .inl (cI, 8, .inl (SV 6))), (qv8, .inl (cI, 7, .inl (SV 8))), (zn, .inr (2, [.ref qn0, .ref qn1, .ref qn2, .ref qn3, .ref qn4, .int (SN 5 0), .int (SN 6 0)])), (qn0, .inl (cI, 8, .inl (SN 0))), (qn1, .inl (cI, 8, .inl (SN 1))), (qn2, .inl (cI, 8, .inl (SN 2))), (qn3, .inl (cI, 8, .inl (SN 3))), (qn4, .inl (cI, 8, .inl (SN 4))), (zl, .inr (1, [.ref ql0, .int (SL 1 0)])), (ql0, .inl (cI, 80, .inl (SL 0)))] := hD
  refine lv_iload_n hx hb dX4_count_0 rfl (lv_at hl 1 rfl) ?_
  by_cases c_1 : x1 = (0 : Int32)
  · have hf := itT c_1 hf
    refine lv_tableIn (tgt := 44) (off := 43) hx hb dX4_count_1 (by rw [c_1] <;> decide) (by rw [c_1] <;> decide) (by rw [c_1] <;> rfl) (by decide) ?_
    refine lv_aload_n hx hb dX4_count_44 rfl (lv_at hl 0 rfl) ?_
    refine va_get (D := D) (ci := 3) (v := .ref zn) (C := RX4) (T := TX4) (N := 9) hx hb hts i_X4_count_X4 hown hK hP 0 rfl rfl 0 (by decide) (hts _ q_X4_count_1) (fun _ h9 => h9) rfl dX4_count_45 ?_
    obtain ⟨o_2, h_2, hf⟩ := bd_some hf
    refine s_callVI (wc := (wT zn qn0 qn1 qn2 qn3 qn4 cI SN)) (wr := [(zv, .inr (3, [.ref zn, .ref zr, .ref zk, .int (SV 3 0), .ref zl, .ref zo, .ref qv6, .int (SV 7 0), .ref qv8])), (qv6, .inl (cI, 8, .inl (SV 6))), (qv8, .inl (cI, 7, .inl (SV 8))), (zl, .inr (1, [.ref ql0, .int (SL 1 0)])), (ql0, .inl (cI, 80, .inl (SL 0)))]) (wc' := (wT zn qn0 qn1 qn2 qn3 qn4 cI SN)) (w' := [(zv, .inr (3, [.ref zn, .ref zr, .ref zk, .int (SV 3 0), .ref zl, .ref zo, .ref qv6, .int (SV 7 0), .ref qv8])), (qv6, .inl (cI, 8, .inl (SV 6))), (qv8, .inl (cI, 7, .inl (SV 8))), (zn, .inr (2, [.ref qn0, .ref qn1, .ref qn2, .ref qn3, .ref qn4, .int (SN 5 0), .int (SN 6 0)])), (qn0, .inl (cI, 8, .inl (SN 0))), (qn1, .inl (cI, 8, .inl (SN 1))), (qn2, .inl (cI, 8, .inl (SN 2))), (qn3, .inl (cI, 8, .inl (SN 3))), (qn4, .inl (cI, 8, .inl (SN 4))), (zl, .inr (1, [.ref ql0, .int (SL 1 0)])), (ql0, .inl (cI, 80, .inl (SL 0)))]) (isC := [3, 4, 5, 6, 7, 8]) (isR := [0, 1, 2, 9, 10]) (perm := [0, 1, 2, 5, 6, 7, 8, 9, 10, 3, 4]) (As := []) (rest := []) (ci := 2) (q := (RX3, TX3, 7)) ⟨hx, hb, hml, hown, hts⟩ (c_X3_living l D cI cJ fu zn qn0 qn1 qn2 qn3 qn4 SN o_2 h_2) (cwV 0 hts gX4_count_X3_living rfl rfl rfl (by decide +kernel) ⟨Nat.le_of_ble_eq_true rfl, Nat.le_of_ble_eq_true rfl⟩) hK hP hD hS hA ⟨rfl, rfl, by decide, by decide, by decide, by decide, rfl⟩ rfl rfl rfl rfl hl.1 rfl (Nat.le_of_ble_eq_true rfl) dX4_count_48 (fun H locs hP hD hS => ?_)
    obtain ⟨o_3, h_3, hf⟩ := bd_some hf
    refine s_callSI (wc := []) (wr := [(zv, .inr (3, [.ref zn, .ref zr, .ref zk, .int (SV 3 0), .ref zl, .ref zo, .ref qv6, .int (SV 7 0), .ref qv8])), (qv6, .inl (cI, 8, .inl (SV 6))), (qv8, .inl (cI, 7, .inl (SV 8))), (zn, .inr (2, [.ref qn0, .ref qn1, .ref qn2, .ref qn3, .ref qn4, .int (SN 5 0), .int (SN 6 0)])), (qn0, .inl (cI, 8, .inl (SN 0))), (qn1, .inl (cI, 8, .inl (SN 1))), (qn2, .inl (cI, 8, .inl (SN 2))), (qn3, .inl (cI, 8, .inl (SN 3))), (qn4, .inl (cI, 8, .inl (SN 4))), (zl, .inr (1, [.ref ql0, .int (SL 1 0)])), (ql0, .inl (cI, 80, .inl (SL 0)))]) (wc' := []) (w' := [(zv, .inr (3, [.ref zn, .ref zr, .ref zk, .int (SV 3 0), .ref zl, .ref zo, .ref qv6, .int (SV 7 0), .ref qv8])), (qv6, .inl (cI, 8, .inl (SV 6))), (qv8, .inl (cI, 7, .inl (SV 8))), (zn, .inr (2, [.ref qn0, .ref qn1, .ref qn2, .ref qn3, .ref qn4, .int (SN 5 0), .int (SN 6 0)])), (qn0, .inl (cI, 8, .inl (SN 0))), (qn1, .inl (cI, 8, .inl (SN 1))), (qn2, .inl (cI, 8, .inl (SN 2))), (qn3, .inl (cI, 8, .inl (SN 3))), (qn4, .inl (cI, 8, .inl (SN 4))), (zl, .inr (1, [.ref ql0, .int (SL 1 0)])), (ql0, .inl (cI, 80, .inl (SL 0)))]) (isC := []) (isR := [0, 1, 2, 3, 4, 5, 6, 7, 8, 9, 10]) (perm := [0, 1, 2, 3, 4, 5, 6, 7, 8, 9, 10]) (As := [.int o_2]) (rest := []) ⟨hx, hb, hml, hown, hts⟩ (c_J6_bitCount_0f7a4 l D cI cJ fu o_2 o_3 h_3) (va_cwS 1 hts gX4_count_J6_bitCount_0f7a4 rfl rfl rfl (by decide +kernel) ⟨Nat.le_of_ble_eq_true rfl, Nat.le_of_ble_eq_true rfl⟩) hK hP hD hS hA ⟨rfl, rfl, by decide, by decide, by decide, by decide, rfl⟩ rfl hl.1 rfl (Nat.le_of_ble_eq_true rfl) dX4_count_51 (fun H locs hP hD hS => ?_)
    obtain rfl := Option.some.inj hf
    exact s_iret (r := o_3) hx hb hr hlocks hK hP hD hS dX4_count_54
  have hf := itF c_1 hf
  by_cases c_4 : x1 = (1 : Int32)
  · have hf := itT c_4 hf
    refine lv_tableIn (tgt := 55) (off := 54) hx hb dX4_count_1 (by rw [c_4] <;> decide) (by rw [c_4] <;> decide) (by rw [c_4] <;> rfl) (by decide) ?_
    refine lv_aload_n hx hb dX4_count_55 rfl (lv_at hl 0 rfl) ?_
    refine va_get (D := D) (ci := 3) (v := .ref zn) (C := RX4) (T := TX4) (N := 9) hx hb hts i_X4_count_X4 hown hK hP 0 rfl rfl 0 (by decide) (hts _ q_X4_count_1) (fun _ h9 => h9) rfl dX4_count_56 ?_
    refine va_get (D := D) (ci := 2) (v := .int (SN 5 0)) (C := RX3) (T := TX3) (N := 7) hx hb hts i_X4_count_X3 hown hK hP 3 rfl rfl 5 (by decide) (hts _ q_X4_count_2) (fun _ h9 => h9) rfl dX4_count_59 ?_
    obtain rfl := Option.some.inj hf
    exact s_iret (r := (SN 5 0)) hx hb hr hlocks hK hP hD hS dX4_count_62
  have hf := itF c_4 hf
  by_cases c_5 : x1 = (2 : Int32)
  · have hf := itT c_5 hf
    refine lv_tableIn (tgt := 63) (off := 62) hx hb dX4_count_1 (by rw [c_5] <;> decide) (by rw [c_5] <;> decide) (by rw [c_5] <;> rfl) (by decide) ?_
    refine lv_aload_n hx hb dX4_count_63 rfl (lv_at hl 0 rfl) ?_
    refine va_get (D := D) (ci := 3) (v := .ref zn) (C := RX4) (T := TX4) (N := 9) hx hb hts i_X4_count_X4 hown hK hP 0 rfl rfl 0 (by decide) (hts _ q_X4_count_1) (fun _ h9 => h9) rfl dX4_count_64 ?_
    refine va_get (D := D) (ci := 2) (v := .int (SN 6 0)) (C := RX3) (T := TX3) (N := 7) hx hb hts i_X4_count_X3 hown hK hP 3 rfl rfl 6 (by decide) (hts _ q_X4_count_3) (fun _ h9 => h9) rfl dX4_count_67 ?_
    obtain rfl := Option.some.inj hf
    exact s_iret (r := (SN 6 0)) hx hb hr hlocks hK hP hD hS dX4_count_70
  have hf := itF c_5 hf
  by_cases c_6 : x1 = (3 : Int32)
  · have hf := itT c_6 hf
    refine lv_tableIn (tgt := 71) (off := 70) hx hb dX4_count_1 (by rw [c_6] <;> decide) (by rw [c_6] <;> decide) (by rw [c_6] <;> rfl) (by decide) ?_
    refine lv_aload_n hx hb dX4_count_71 rfl (lv_at hl 0 rfl) ?_
    refine va_get (D := D) (ci := 3) (v := .ref zn) (C := RX4) (T := TX4) (N := 9) hx hb hts i_X4_count_X4 hown hK hP 0 rfl rfl 0 (by decide) (hts _ q_X4_count_1) (fun _ h9 => h9) rfl dX4_count_72 ?_
    refine lv_aload_n hx hb dX4_count_75 rfl (lv_at hl 0 rfl) ?_
    refine va_get (D := D) (ci := 3) (v := .ref zn) (C := RX4) (T := TX4) (N := 9) hx hb hts i_X4_count_X4 hown hK hP 0 rfl rfl 0 (by decide) (hts _ q_X4_count_1) (fun _ h9 => h9) rfl dX4_count_76 ?_
    refine va_get (D := D) (ci := 2) (v := .ref qn3) (C := RX3) (T := TX3) (N := 7) hx hb hts i_X4_count_X3 hown hK hP 3 rfl rfl 3 (by decide) (hts _ q_X4_count_4) (fun _ h9 => h9) rfl dX4_count_79 ?_
    obtain ⟨o_7, h_7, hf⟩ := bd_some hf
    refine s_callVI (wc := (wT zn qn0 qn1 qn2 qn3 qn4 cI SN)) (wr := [(zv, .inr (3, [.ref zn, .ref zr, .ref zk, .int (SV 3 0), .ref zl, .ref zo, .ref qv6, .int (SV 7 0), .ref qv8])), (qv6, .inl (cI, 8, .inl (SV 6))), (qv8, .inl (cI, 7, .inl (SV 8))), (zl, .inr (1, [.ref ql0, .int (SL 1 0)])), (ql0, .inl (cI, 80, .inl (SL 0)))]) (wc' := (wT zn qn0 qn1 qn2 qn3 qn4 cI SN)) (w' := [(zv, .inr (3, [.ref zn, .ref zr, .ref zk, .int (SV 3 0), .ref zl, .ref zo, .ref qv6, .int (SV 7 0), .ref qv8])), (qv6, .inl (cI, 8, .inl (SV 6))), (qv8, .inl (cI, 7, .inl (SV 8))), (zn, .inr (2, [.ref qn0, .ref qn1, .ref qn2, .ref qn3, .ref qn4, .int (SN 5 0), .int (SN 6 0)])), (qn0, .inl (cI, 8, .inl (SN 0))), (qn1, .inl (cI, 8, .inl (SN 1))), (qn2, .inl (cI, 8, .inl (SN 2))), (qn3, .inl (cI, 8, .inl (SN 3))), (qn4, .inl (cI, 8, .inl (SN 4))), (zl, .inr (1, [.ref ql0, .int (SL 1 0)])), (ql0, .inl (cI, 80, .inl (SL 0)))]) (isC := [3, 4, 5, 6, 7, 8]) (isR := [0, 1, 2, 9, 10]) (perm := [0, 1, 2, 5, 6, 7, 8, 9, 10, 3, 4]) (As := [.ref qn3]) (rest := []) (ci := 2) (q := (RX3, TX3, 7)) ⟨hx, hb, hml, hown, hts⟩ (c_X3_sumOfLiving_v3 l D cI cJ fu zn qn0 qn1 qn2 qn3 qn4 SN o_7 h_7) (cwV 1 hts gX4_count_X3_sumOfLiving rfl rfl rfl (by decide +kernel) ⟨Nat.le_of_ble_eq_true rfl, Nat.le_of_ble_eq_true rfl⟩) hK hP hD hS hA ⟨rfl, rfl, by decide, by decide, by decide, by decide, rfl⟩ rfl rfl rfl rfl hl.1 rfl (Nat.le_of_ble_eq_true rfl) dX4_count_82 (fun H locs hP hD hS => ?_)
    obtain rfl := Option.some.inj hf
    exact s_iret (r := o_7) hx hb hr hlocks hK hP hD hS dX4_count_85
  have hf := itF c_6 hf
  by_cases c_8 : x1 = (4 : Int32)
  · have hf := itT c_8 hf
    refine lv_tableIn (tgt := 86) (off := 85) hx hb dX4_count_1 (by rw [c_8] <;> decide) (by rw [c_8] <;> decide) (by rw [c_8] <;> rfl) (by decide) ?_
    refine lv_aload_n hx hb dX4_count_86 rfl (lv_at hl 0 rfl) ?_
    refine va_get (D := D) (ci := 3) (v := .ref zn) (C := RX4) (T := TX4) (N := 9) hx hb hts i_X4_count_X4 hown hK hP 0 rfl rfl 0 (by decide) (hts _ q_X4_count_1) (fun _ h9 => h9) rfl dX4_count_87 ?_
    refine lv_aload_n hx hb dX4_count_90 rfl (lv_at hl 0 rfl) ?_
    refine va_get (D := D) (ci := 3) (v := .ref zn) (C := RX4) (T := TX4) (N := 9) hx hb hts i_X4_count_X4 hown hK hP 0 rfl rfl 0 (by decide) (hts _ q_X4_count_1) (fun _ h9 => h9) rfl dX4_count_91 ?_
    refine va_get (D := D) (ci := 2) (v := .ref qn1) (C := RX3) (T := TX3) (N := 7) hx hb hts i_X4_count_X3 hown hK hP 3 rfl rfl 1 (by decide) (hts _ q_X4_count_5) (fun _ h9 => h9) rfl dX4_count_94 ?_
    obtain ⟨o_9, h_9, hf⟩ := bd_some hf
    refine s_callVI (wc := (wT zn qn0 qn1 qn2 qn3 qn4 cI SN)) (wr := [(zv, .inr (3, [.ref zn, .ref zr, .ref zk, .int (SV 3 0), .ref zl, .ref zo, .ref qv6, .int (SV 7 0), .ref qv8])), (qv6, .inl (cI, 8, .inl (SV 6))), (qv8, .inl (cI, 7, .inl (SV 8))), (zl, .inr (1, [.ref ql0, .int (SL 1 0)])), (ql0, .inl (cI, 80, .inl (SL 0)))]) (wc' := (wT zn qn0 qn1 qn2 qn3 qn4 cI SN)) (w' := [(zv, .inr (3, [.ref zn, .ref zr, .ref zk, .int (SV 3 0), .ref zl, .ref zo, .ref qv6, .int (SV 7 0), .ref qv8])), (qv6, .inl (cI, 8, .inl (SV 6))), (qv8, .inl (cI, 7, .inl (SV 8))), (zn, .inr (2, [.ref qn0, .ref qn1, .ref qn2, .ref qn3, .ref qn4, .int (SN 5 0), .int (SN 6 0)])), (qn0, .inl (cI, 8, .inl (SN 0))), (qn1, .inl (cI, 8, .inl (SN 1))), (qn2, .inl (cI, 8, .inl (SN 2))), (qn3, .inl (cI, 8, .inl (SN 3))), (qn4, .inl (cI, 8, .inl (SN 4))), (zl, .inr (1, [.ref ql0, .int (SL 1 0)])), (ql0, .inl (cI, 80, .inl (SL 0)))]) (isC := [3, 4, 5, 6, 7, 8]) (isR := [0, 1, 2, 9, 10]) (perm := [0, 1, 2, 5, 6, 7, 8, 9, 10, 3, 4]) (As := [.ref qn1]) (rest := []) (ci := 2) (q := (RX3, TX3, 7)) ⟨hx, hb, hml, hown, hts⟩ (c_X3_sumOfLiving_v1 l D cI cJ fu zn qn0 qn1 qn2 qn3 qn4 SN o_9 h_9) (cwV 1 hts gX4_count_X3_sumOfLiving rfl rfl rfl (by decide +kernel) ⟨Nat.le_of_ble_eq_true rfl, Nat.le_of_ble_eq_true rfl⟩) hK hP hD hS hA ⟨rfl, rfl, by decide, by decide, by decide, by decide, rfl⟩ rfl rfl rfl rfl hl.1 rfl (Nat.le_of_ble_eq_true rfl) dX4_count_97 (fun H locs hP hD hS => ?_)
    obtain rfl := Option.some.inj hf
    exact s_iret (r := o_9) hx hb hr hlocks hK hP hD hS dX4_count_100
  have hf := itF c_8 hf
  by_cases c_10 : x1 = (5 : Int32)
  · have hf := itT c_10 hf
    refine lv_tableIn (tgt := 101) (off := 100) hx hb dX4_count_1 (by rw [c_10] <;> decide) (by rw [c_10] <;> decide) (by rw [c_10] <;> rfl) (by decide) ?_
    refine lv_aload_n hx hb dX4_count_101 rfl (lv_at hl 0 rfl) ?_
    refine va_get (D := D) (ci := 3) (v := .int (SV 7 0)) (C := RX4) (T := TX4) (N := 9) hx hb hts i_X4_count_X4 hown hK hP 0 rfl rfl 7 (by decide) (hts _ q_X4_count_6) (fun _ h9 => h9) rfl dX4_count_102 ?_
    obtain rfl := Option.some.inj hf
    exact s_iret (r := (SV 7 0)) hx hb hr hlocks hK hP hD hS dX4_count_105
  have hf := itF c_10 hf
  by_cases c_11 : x1 = (6 : Int32)
  · have hf := itT c_11 hf
    refine lv_tableIn (tgt := 106) (off := 105) hx hb dX4_count_1 (by rw [c_11] <;> decide) (by rw [c_11] <;> decide) (by rw [c_11] <;> rfl) (by decide) ?_
    refine lv_aload_n hx hb dX4_count_106 rfl (lv_at hl 0 rfl) ?_
    refine va_get (D := D) (ci := 3) (v := .ref zl) (C := RX4) (T := TX4) (N := 9) hx hb hts i_X4_count_X4 hown hK hP 0 rfl rfl 4 (by decide) (hts _ q_X4_count_7) (fun _ h9 => h9) rfl dX4_count_107 ?_
    refine va_get (D := D) (ci := 1) (v := .int (SL 1 0)) (C := RX2) (T := TX2) (N := 2) hx hb hts i_X4_count_X2 hown hK hP 9 rfl rfl 1 (by decide) (hts _ q_X4_count_8) (fun _ h9 => h9) rfl dX4_count_110 ?_
    obtain rfl := Option.some.inj hf
    exact s_iret (r := (SL 1 0)) hx hb hr hlocks hK hP hD hS dX4_count_113
  have hf := itF c_11 hf
  refine lv_tableOut (tgt := 114) hx hb dX4_count_1 (by have n_1 := lv_neT c_1 (a := 0) (by decide); have n_4 := lv_neT c_4 (a := 1) (by decide); have n_5 := lv_neT c_5 (a := 2) (by decide); have n_6 := lv_neT c_6 (a := 3) (by decide); have n_8 := lv_neT c_8 (a := 4) (by decide); have n_10 := lv_neT c_10 (a := 5) (by decide); have n_11 := lv_neT c_11 (a := 6) (by decide); omega) (by decide) ?_
  refine lv_iload_n hx hb dX4_count_114 rfl (lv_at hl 1 rfl) ?_
  refine lv_bipush (v := (10 : Int32)) hx hb dX4_count_115 (by decide) ?_
  refine lv_icmp_le (tgt := 138) hx hb dX4_count_117 (by decide) (fun c_12 => ?_) (fun c_12 => ?_)
  · have hf := itT c_12 hf
    refine lv_bipush (v := (-9 : Int32)) hx hb dX4_count_138 (by decide) ?_
    obtain rfl := Option.some.inj hf
    exact s_iret (r := (-9 : Int32)) hx hb hr hlocks hK hP hD hS dX4_count_140
  · have hf := itF c_12 hf
    refine lv_iload_n hx hb dX4_count_120 rfl (lv_at hl 1 rfl) ?_
    refine lv_bipush (v := (16 : Int32)) hx hb dX4_count_121 (by decide) ?_
    refine lv_icmp_gt (tgt := 138) hx hb dX4_count_123 (by decide) (fun c_13 => ?_) (fun c_13 => ?_)
    · have hf := itT c_13 hf
      refine lv_bipush (v := (-9 : Int32)) hx hb dX4_count_138 (by decide) ?_
      obtain rfl := Option.some.inj hf
      exact s_iret (r := (-9 : Int32)) hx hb hr hlocks hK hP hD hS dX4_count_140
    · have hf := itF c_13 hf
      refine lv_aload_n hx hb dX4_count_126 rfl (lv_at hl 0 rfl) ?_
      refine va_get (D := D) (ci := 3) (v := .ref qv8) (C := RX4) (T := TX4) (N := 9) hx hb hts i_X4_count_X4 hown hK hP 0 rfl rfl 8 (by decide) (hts _ q_X4_count_9) (fun _ h9 => h9) rfl dX4_count_127 ?_
      refine lv_iload_n hx hb dX4_count_130 rfl (lv_at hl 1 rfl) ?_
      refine lv_bipush (v := (10 : Int32)) hx hb dX4_count_131 (by decide) ?_
      refine lv_isub hx hb dX4_count_133 ?_
      obtain ⟨g_14, hf⟩ := gd_some hf
      refine va_iald hx hb hK hP 2 0 rfl rfl g_14 dX4_count_134 ?_
      refine lv_goto (tgt := 140) hx hb dX4_count_135 (by decide) ?_
      obtain rfl := Option.some.inj hf
      exact s_iret (r := (SV 8 (x1 - (10 : Int32)).toNatClampNeg)) hx hb hr hlocks hK hP hD hS dX4_count_140
