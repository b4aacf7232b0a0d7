/-! own kit: functions for decompiled methods, and rows that join a call, an entry, a return into one step each -/
def itr {α : Type} (z : α) (g : α → α) : Nat → α
  | 0 => z
  | n + 1 => g (itr z g n)
theorem itr_0 {α : Type} (z : α) (g : α → α) : itr z g 0 = z := rfl
theorem itr_s {α : Type} (z : α) (g : α → α) (n : Nat) : itr z g (n + 1) = g (itr z g n) := rfl
def gd {α : Type} (i : Int32) (n : Nat) (k : Option α) : Option α := if i < 0 ∨ n ≤ i.toNatClampNeg then none else k
theorem gd_some {α : Type} {i : Int32} {n : Nat} {k : Option α} {o : α} (h : gd i n k = some o) : vp_in i n ∧ k = some o := by
  by_cases hc : i < 0 ∨ n ≤ i.toNatClampNeg
  · rw [gd, if_pos hc] at h; cases h
  · rw [gd, if_neg hc] at h; exact ⟨hc, h⟩
def bd {α β : Type} (x : Option α) (k : α → Option β) : Option β := match x with
  | none => none
  | some a => k a
theorem bd_some {α β : Type} {x : Option α} {k : α → Option β} {o : β} (h : bd x k = some o) : ∃ a, x = some a ∧ k a = some o := by
  cases x with
  | none => cases h
  | some a => exact ⟨a, rfl, h⟩
def zi {α : Type} (y : Int32) (k : Option α) : Option α := if y = 0 then none else k
theorem zi_some {α : Type} {y : Int32} {k : Option α} {o : α} (h : zi y k = some o) : ¬ y = 0 ∧ k = some o := by
  by_cases hc : y = 0
  · rw [zi, if_pos hc] at h; cases h
  · rw [zi, if_neg hc] at h; exact ⟨hc, h⟩
def zl {α : Type} (y : Int64) (k : Option α) : Option α := if y = 0 then none else k
theorem zl_some {α : Type} {y : Int64} {k : Option α} {o : α} (h : zl y k = some o) : ¬ y = 0 ∧ k = some o := by
  by_cases hc : y = 0
  · rw [zl, if_pos hc] at h; cases h
  · rw [zl, if_neg hc] at h; exact ⟨hc, h⟩
def bb {α : Type} (x : Int32) (k : Option α) : Option α := if x = 0 ∨ x = 1 then k else none
theorem bb_some {α : Type} {x : Int32} {k : Option α} {o : α} (h : bb x k = some o) : narrow .boolean (.int x) = .int x ∧ k = some o := by
  by_cases hc : x = 0 ∨ x = 1
  · rw [bb, if_pos hc] at h
    refine ⟨?_, h⟩
    rcases hc with rfl | rfl
    · rfl
    · rfl
  · rw [bb, if_neg hc] at h; cases h
theorem itT {α : Type} {c : Prop} {inst : Decidable c} {A B o : α} (h : c) (hf : (@ite α c inst A B) = o) : A = o := by rw [if_pos h] at hf; exact hf
theorem itF {α : Type} {c : Prop} {inst : Decidable c} {A B o : α} (h : ¬ c) (hf : (@ite α c inst A B) = o) : B = o := by rw [if_neg h] at hf; exact hf
def sa {α : Type} (T : Nat → Nat → α) (a : Nat) (f : Nat → α) : Nat → Nat → α := fun x => bif Nat.beq x a then f else T x
theorem sa_eq {α : Type} (T : Nat → Nat → α) (a : Nat) (f : Nat → α) (x : Nat) : sa T a f x = if x = a then f else T x := by
  unfold sa
  by_cases h : x = a
  · rw [if_pos h, h, Nat.beq_refl]; rfl
  · rw [if_neg h]
    cases hb : Nat.beq x a with
    | false => rfl
    | true => exact absurd (Nat.eq_of_beq_eq_true hb) h
abbrev tyS (cI cJ : ClassId) : List (ClassId × FieldType) := [(cI, .int), (cJ, .long)]
/-- what a method's walk stands on -/
def Cx (own : String) (ws : List Cond) (cc : ByteArray) (nl : Nat) (ret : Option FieldType) (D : va_G) (cl : List vw_C) (tys : List (ClassId × FieldType)) (p : Program) (s : State) (m : MethodId) (args : Array Value) (meth : Method) (c : Code) : Prop :=
  p.tables.exec = Jvm.exec ∧ c.code = cc ∧ meth.sig.returnType = ret ∧ c.maxLocals = nl ∧ s.vm.findClass own = some m.cls ∧ (∀ w ∈ ws, w.before args s = true) ∧ meth.locks = false ∧ va_K D cl tys s
def sPre (D : va_G) (cl : List vw_C) (tys : List (ClassId × FieldType)) (w : va_W) (sz : Nat) (av : List Value) : Array Value → State → Prop :=
  va_Pc av (fun U => U.heap.size = sz ∧ va_P D cl w U.heap ∧ va_K D cl tys U ∧ va_D (fun _ => True) w)
theorem sPre_blind {D : va_G} {cl : List vw_C} {tys : List (ClassId × FieldType)} {w : va_W} {sz : Nat} {av : List Value} : FrameBlind (sPre D cl tys w sz av) := fun a U g mk q => by
  obtain ⟨q0, q1, qP, qK, qD⟩ := q
  exact ⟨q0, q1, qP, va_K.moved (u := U) (U := U.calling g mk a) (Vm.Alike.refl U.vm) qK, qD⟩
def sB (D : va_G) (cl : List vw_C) (tys : List (ClassId × FieldType)) (A : Nat → Prop) (w : va_W) : Unit → State → Prop := fun _ t => va_P D cl w t.heap ∧ va_K D cl tys t ∧ va_D A w
def sZi (D : va_G) (cl : List vw_C) (tys : List (ClassId × FieldType)) (A : Nat → Prop) (w : va_W) (r : Int32) : Array Value → State → Outcome → State → Prop := va_Qi (fun (r1 : Int32) (_ : Unit) => r1 = r) (sB D cl tys A w) A
def sZl (D : va_G) (cl : List vw_C) (tys : List (ClassId × FieldType)) (A : Nat → Prop) (w : va_W) (r : Int64) : Array Value → State → Outcome → State → Prop := va_Ql (fun (r1 : Int64) (_ : Unit) => r1 = r) (sB D cl tys A w) A
def sZv (D : va_G) (cl : List vw_C) (tys : List (ClassId × FieldType)) (A : Nat → Prop) (w : va_W) : Array Value → State → Outcome → State → Prop := va_Qv (fun (_ : Unit) => True) (sB D cl tys A w) A
/-- a method's contract: from the world w, with the arguments av, it returns r, and the world is w' -/
def MI (l : Launch) (y : MethodName) (ws : List Cond) (rm : Room) (D : va_G) (cl : List vw_C) (tys : List (ClassId × FieldType)) (av : List Value) (w w' : va_W) (r : Int32) : Prop :=
  ∀ sz : Nat, Met l y ws rm (sPre D cl tys w sz av) (sZi D cl tys (va_A w sz) w' r) 0 0 (va_A w sz)
def ML (l : Launch) (y : MethodName) (ws : List Cond) (rm : Room) (D : va_G) (cl : List vw_C) (tys : List (ClassId × FieldType)) (av : List Value) (w w' : va_W) (r : Int64) : Prop :=
  ∀ sz : Nat, Met l y ws rm (sPre D cl tys w sz av) (sZl D cl tys (va_A w sz) w' r) 0 0 (va_A w sz)
def MV (l : Launch) (y : MethodName) (ws : List Cond) (rm : Room) (D : va_G) (cl : List vw_C) (tys : List (ClassId × FieldType)) (av : List Value) (w w' : va_W) : Prop :=
  ∀ sz : Nat, Met l y ws rm (sPre D cl tys w sz av) (sZv D cl tys (va_A w sz) w') 0 0 (va_A w sz)
theorem va_P_map {D : va_G} {cl : List vw_C} {ws wc : va_W} {H : Heap} (h : va_P D cl ws H) (is : List Nat) (hs : is.map (fun i => ws[i]?) = wc.map some) : va_P D cl wc H := by
  intro k q hk
  have h1 : (is.map (fun i => ws[i]?))[k]? = some (some q) := by rw [hs, List.getElem?_map, hk]; rfl
  rw [List.getElem?_map] at h1
  cases hi : is[k]? with
  | none => rw [hi] at h1; cases h1
  | some i => rw [hi] at h1; exact h i q (Option.some.inj h1)
section OWN
variable {p : Program} {l : Launch} {e : Env} {R : Room} {s : State} {m : MethodId} {args : Array Value} {below : List Frame} {meth : Method} {c : Code} {H : Heap} {locs : List Loc} {Q : State → Prop}
variable {y : MethodName} {bytes cc : ByteArray} {maxL nL n index : Nat} {ret : Option FieldType} {ws ws' : List Cond} {rm : Room} {Ts : List Cond} {own C : String} {b : Addr} {As rest st0 : List Value} {pc : Nat} {ls : Array Slot}
variable {D : va_G} {cl : List vw_C} {tys : List (ClassId × FieldType)} {A : Nat → Prop} {w wc wc' wr w' : va_W} {av : List Value}
theorem s_entry {post : Array Value → State → Outcome → State → Prop} {Qc : (Nat → Prop) → Array Value → State → Outcome → State → Prop} {sz : Nat} (hp : post = Qc (va_A w sz)) (hy : plainName y.cls = true) (ho : y.cls = own) (hw : ws = Cond.code y cc maxL ret :: ws') (hlen : (lg_sl av).length ≤ maxL)
    (body : ∀ p e s m args below meth c A, Cx own ws cc maxL ret D cl tys p s m args meth c → (∀ q : Nat, s.heap.size ≤ q → A q) → va_P D cl w s.heap → va_D A w → va_S A s.heap s.heap [] → ∀ ls, lv_has ls maxL (lv_args 0 av) → W p l e rm s m args below meth c s.heap [] 0 0 (MQ below (Qc A) args s 0 0 A) (F0 m 0 ls [])) :
    Met l y ws rm (sPre D cl tys w sz av) post 0 0 (va_A w sz) := by
  subst hp
  refine Met.ofW (cc := cc) (maxL := maxL) (ret := ret) hy hw ?_
  intro p e s m args below meth c s₁ B hml hv
  obtain ⟨rfl, hsz, hP, hK, hD0⟩ := hv
  have hts := atoms_spec (ws := ws) B.pre
  have hown : s.vm.findClass own = some m.cls := ho ▸ findClass_of_methodNamed B.named
  subst hsz
  have hl := lv_entry av (n := maxL) hlen
  rw [lg_entry_eq]
  exact body p e s m _ below meth c _ ⟨B.exec, B.bytes, B.returns, hml, hown, hts, B.notSynchronized, hK⟩ (fun q h => Or.inr h) hP hD0.self va_S.rf _ hl
theorem s_iret {r : Int32} (hx : p.tables.exec = Jvm.exec) (hb : c.code = cc) (hr : meth.sig.returnType = some .int) (hlocks : meth.locks = false) (hK : va_K D cl tys s) (hP : va_P D cl w H) (hD : va_D A w) (hS : va_S A s.heap H locs) (hdg : decode cc pc = .ok (.ireturn, 1)) :
    W p l e R s m args below meth c H locs 0 0 (MQ below (sZi D cl tys A w r) args s 0 0 A) (F0 m pc ls [.int r]) :=
  W.iret hx hb hr (fun t ht hW => ⟨⟨r, (), rfl, rfl, by rw [ht]; exact hP, va_K.moved hW.alike hK, hD⟩, hS.F ht⟩) hS.2.2 hdg hlocks
theorem s_zret {r : Int32} (hx : p.tables.exec = Jvm.exec) (hb : c.code = cc) (hr : meth.sig.returnType = some .boolean) (hlocks : meth.locks = false) (hK : va_K D cl tys s) (hP : va_P D cl w H) (hD : va_D A w) (hS : va_S A s.heap H locs) (hn : narrow .boolean (.int r) = .int r) (hdg : decode cc pc = .ok (.ireturn, 1)) :
    W p l e R s m args below meth c H locs 0 0 (MQ below (sZi D cl tys A w r) args s 0 0 A) (F0 m pc ls [.int r]) :=
  W.zret hx hb hr hn (fun t ht hW => ⟨⟨r, (), rfl, rfl, by rw [ht]; exact hP, va_K.moved hW.alike hK, hD⟩, hS.F ht⟩) hS.2.2 hdg hlocks
theorem s_lret {r : Int64} (hx : p.tables.exec = Jvm.exec) (hb : c.code = cc) (hr : meth.sig.returnType = some .long) (hlocks : meth.locks = false) (hK : va_K D cl tys s) (hP : va_P D cl w H) (hD : va_D A w) (hS : va_S A s.heap H locs) (hdg : decode cc pc = .ok (.lreturn, 1)) :
    W p l e R s m args below meth c H locs 0 0 (MQ below (sZl D cl tys A w r) args s 0 0 A) (F0 m pc ls [.long r]) :=
  W.lret hx hb hr (fun t ht hW => ⟨⟨r, (), rfl, rfl, by rw [ht]; exact hP, va_K.moved hW.alike hK, hD⟩, hS.F ht⟩) hS.2.2 hdg hlocks
theorem s_vret (hx : p.tables.exec = Jvm.exec) (hb : c.code = cc) (hr : meth.sig.returnType = none) (hlocks : meth.locks = false) (hK : va_K D cl tys s) (hP : va_P D cl w H) (hD : va_D A w) (hS : va_S A s.heap H locs) (hdg : decode cc pc = .ok (.return_, 1)) :
    W p l e R s m args below meth c H locs 0 0 (MQ below (sZv D cl tys A w) args s 0 0 A) (F0 m pc ls []) :=
  W.vret hx hb hr (fun t ht hW => ⟨⟨(), rfl, trivial, by rw [ht]; exact hP, va_K.moved hW.alike hK, hD⟩, hS.F ht⟩) hS.2.2 hdg hlocks
/-- a call's cells, cut out and put back -/
def sCut (w wc wr wc' w' : va_W) (isC isR perm : List Nat) : Prop :=
  isC.map (fun i => w[i]?) = wc.map some ∧ isR.map (fun i => w[i]?) = wr.map some ∧ va_nd isR = true ∧ va_nd isC = true ∧ (∀ i ∈ isR, i ∉ isC) ∧ va_nd perm = true ∧ perm.map (fun i => (wr ++ wc')[i]?) = w'.map some
theorem s_back {H1 : Heap} {isC isR perm : List Nat} (hc : sCut w wc wr wc' w' isC isR perm) (hP : va_P D cl w H) (hD : va_D A w) (hS : va_S A s.heap H locs) (hA : ∀ q : Nat, s.heap.size ≤ q → A q) (hk : ∀ q : Nat, q < H.size → ¬ va_A wc H.size q → H1[q]? = H[q]?) (hP1 : va_P D cl wc' H1) (hD1 : va_D (va_A wc H.size) wc') :
    va_P D cl w' H1 ∧ va_D A w' := by
  obtain ⟨hC, hR, n1, n2, hdis, n3, hpm⟩ := hc
  obtain ⟨hP2, hD2⟩ := va_join hP hD isC isR hC hR n1 hdis hk (va_free hD hS hA isC hC) hP1 hD1
  exact ⟨va_P_map hP2 perm hpm, hD2.sub perm n3 hpm⟩
theorem s_callVI {r : Int32} {isC isR perm : List Nat} {ci : Nat} {fs : List Value} {q : vw_C} (S0 : CallFix p m c cc nL s args Ts own) (hM : MI l y ws rm D cl tys (.ref b :: As) wc wc' r) (cw : CallW R s args own C index y bytes maxL ret ws rm 0 0 n) (hK : va_K D cl tys s) (hP : va_P D cl w H) (hD : va_D A w) (hS : va_S A s.heap H locs) (hA : ∀ q : Nat, s.heap.size ≤ q → A q) (hc : sCut w wc wr wc' w' isC isR perm) (hci : cl[ci]? = some q) (hq : q.1 = C) (hw0 : wc[0]? = some (b, .inr (ci, fs))) (hn : As.length = n) (hsz : ls.size = nL) (hst : st0 = As.reverse ++ .ref b :: rest) (hW : (rest.map fun v => v.category).sum ≤ 8) (hdg : decode cc pc = .ok (.invokevirtual index, 3))
    (kk : ∀ (H : Heap) (locs : List Loc), va_P D cl w' H → va_D A w' → va_S A s.heap H locs → W p l e R s m args below meth c H locs 0 0 Q (F0 m (pc + 3) ls (.int r :: rest))) : W p l e R s m args below meth c H locs 0 0 Q (F0 m pc ls st0) := by
  have hF := va_free hD hS hA isC hc.1
  have hPc := va_P_map hP isC hc.1
  have hDc := hD.sub isC hc.2.2.2.1 hc.1
  subst hq
  refine va_calli (va_runV (As := As) (rest := rest) S0 (hM H.size) cw ⟨sPre_blind, va_recv hK hPc hci hw0, fun U hU hW => ⟨rfl, by rw [hU], by rw [hU]; exact hPc, va_K.moved hW.alike hK, hDc.weaken (fun _ _ _ _ => trivial)⟩⟩ rfl hn hsz hst (lv_room hW) hdg ⟨Nat.zero_le _, Nat.zero_le _⟩) hS (fun q _ h => hF q h) hF (fun r1 u t H1 locs1 ht hvm hw hB hz1 hk1 hS1 => ?_)
  obtain rfl : r1 = r := hw
  obtain ⟨hP1, hK1, hD1⟩ := hB
  rw [ht] at hP1
  obtain ⟨hP2, hD2⟩ := s_back hc hP hD hS hA hk1 hP1 hD1
  exact kk H1 locs1 hP2 hD2 hS1
theorem s_callVL {r : Int64} {isC isR perm : List Nat} {ci : Nat} {fs : List Value} {q : vw_C} (S0 : CallFix p m c cc nL s args Ts own) (hM : ML l y ws rm D cl tys (.ref b :: As) wc wc' r) (cw : CallW R s args own C index y bytes maxL ret ws rm 0 0 n) (hK : va_K D cl tys s) (hP : va_P D cl w H) (hD : va_D A w) (hS : va_S A s.heap H locs) (hA : ∀ q : Nat, s.heap.size ≤ q → A q) (hc : sCut w wc wr wc' w' isC isR perm) (hci : cl[ci]? = some q) (hq : q.1 = C) (hw0 : wc[0]? = some (b, .inr (ci, fs))) (hn : As.length = n) (hsz : ls.size = nL) (hst : st0 = As.reverse ++ .ref b :: rest) (hW : (rest.map fun v => v.category).sum ≤ 8) (hdg : decode cc pc = .ok (.invokevirtual index, 3))
    (kk : ∀ (H : Heap) (locs : List Loc), va_P D cl w' H → va_D A w' → va_S A s.heap H locs → W p l e R s m args below meth c H locs 0 0 Q (F0 m (pc + 3) ls (.long r :: rest))) : W p l e R s m args below meth c H locs 0 0 Q (F0 m pc ls st0) := by
  have hF := va_free hD hS hA isC hc.1
  have hPc := va_P_map hP isC hc.1
  have hDc := hD.sub isC hc.2.2.2.1 hc.1
  subst hq
  refine va_calll (va_runV (As := As) (rest := rest) S0 (hM H.size) cw ⟨sPre_blind, va_recv hK hPc hci hw0, fun U hU hW => ⟨rfl, by rw [hU], by rw [hU]; exact hPc, va_K.moved hW.alike hK, hDc.weaken (fun _ _ _ _ => trivial)⟩⟩ rfl hn hsz hst (lv_room hW) hdg ⟨Nat.zero_le _, Nat.zero_le _⟩) hS (fun q _ h => hF q h) hF (fun r1 u t H1 locs1 ht hvm hw hB hz1 hk1 hS1 => ?_)
  obtain rfl : r1 = r := hw
  obtain ⟨hP1, hK1, hD1⟩ := hB
  rw [ht] at hP1
  obtain ⟨hP2, hD2⟩ := s_back hc hP hD hS hA hk1 hP1 hD1
  exact kk H1 locs1 hP2 hD2 hS1
theorem s_callVV {isC isR perm : List Nat} {ci : Nat} {fs : List Value} {q : vw_C} (S0 : CallFix p m c cc nL s args Ts own) (hM : MV l y ws rm D cl tys (.ref b :: As) wc wc') (cw : CallW R s args own C index y bytes maxL ret ws rm 0 0 n) (hK : va_K D cl tys s) (hP : va_P D cl w H) (hD : va_D A w) (hS : va_S A s.heap H locs) (hA : ∀ q : Nat, s.heap.size ≤ q → A q) (hc : sCut w wc wr wc' w' isC isR perm) (hci : cl[ci]? = some q) (hq : q.1 = C) (hw0 : wc[0]? = some (b, .inr (ci, fs))) (hn : As.length = n) (hsz : ls.size = nL) (hst : st0 = As.reverse ++ .ref b :: rest) (hW : (rest.map fun v => v.category).sum ≤ 8) (hdg : decode cc pc = .ok (.invokevirtual index, 3))
    (kk : ∀ (H : Heap) (locs : List Loc), va_P D cl w' H → va_D A w' → va_S A s.heap H locs → W p l e R s m args below meth c H locs 0 0 Q (F0 m (pc + 3) ls rest)) : W p l e R s m args below meth c H locs 0 0 Q (F0 m pc ls st0) := by
  have hF := va_free hD hS hA isC hc.1
  have hPc := va_P_map hP isC hc.1
  have hDc := hD.sub isC hc.2.2.2.1 hc.1
  subst hq
  refine va_callv (va_runV (As := As) (rest := rest) S0 (hM H.size) cw ⟨sPre_blind, va_recv hK hPc hci hw0, fun U hU hW => ⟨rfl, by rw [hU], by rw [hU]; exact hPc, va_K.moved hW.alike hK, hDc.weaken (fun _ _ _ _ => trivial)⟩⟩ rfl hn hsz hst (lv_room hW) hdg ⟨Nat.zero_le _, Nat.zero_le _⟩) hS (fun q _ h => hF q h) hF (fun u t H1 locs1 ht hvm hw hB hz1 hk1 hS1 => ?_)
  obtain ⟨hP1, hK1, hD1⟩ := hB
  rw [ht] at hP1
  obtain ⟨hP2, hD2⟩ := s_back hc hP hD hS hA hk1 hP1 hD1
  exact kk H1 locs1 hP2 hD2 hS1
theorem s_callSI {r : Int32} {isC isR perm : List Nat} (S0 : CallFix p m c cc nL s args Ts own) (hM : MI l y ws rm D cl tys As wc wc' r) (cw : CallB R s args own index y bytes maxL ret ws rm 0 0 n ∧ (Cond.static y).before args s = true) (hK : va_K D cl tys s) (hP : va_P D cl w H) (hD : va_D A w) (hS : va_S A s.heap H locs) (hA : ∀ q : Nat, s.heap.size ≤ q → A q) (hc : sCut w wc wr wc' w' isC isR perm) (hn : As.length = n) (hsz : ls.size = nL) (hst : st0 = As.reverse ++ rest) (hW : (rest.map fun v => v.category).sum ≤ 8) (hdg : decode cc pc = .ok (.invokestatic index, 3))
    (kk : ∀ (H : Heap) (locs : List Loc), va_P D cl w' H → va_D A w' → va_S A s.heap H locs → W p l e R s m args below meth c H locs 0 0 Q (F0 m (pc + 3) ls (.int r :: rest))) : W p l e R s m args below meth c H locs 0 0 Q (F0 m pc ls st0) := by
  have hF := va_free hD hS hA isC hc.1
  have hPc := va_P_map hP isC hc.1
  have hDc := hD.sub isC hc.2.2.2.1 hc.1
  refine va_calli (va_runS (As := As) (rest := rest) S0 (hM H.size) cw ⟨sPre_blind, fun U hU hW => ⟨rfl, by rw [hU], by rw [hU]; exact hPc, va_K.moved hW.alike hK, hDc.weaken (fun _ _ _ _ => trivial)⟩⟩ rfl hn hsz hst (lv_room hW) hdg ⟨Nat.zero_le _, Nat.zero_le _⟩) hS (fun q _ h => hF q h) hF (fun r1 u t H1 locs1 ht hvm hw hB hz1 hk1 hS1 => ?_)
  obtain rfl : r1 = r := hw
  obtain ⟨hP1, hK1, hD1⟩ := hB
  rw [ht] at hP1
  obtain ⟨hP2, hD2⟩ := s_back hc hP hD hS hA hk1 hP1 hD1
  exact kk H1 locs1 hP2 hD2 hS1
theorem s_callSL {r : Int64} {isC isR perm : List Nat} (S0 : CallFix p m c cc nL s args Ts own) (hM : ML l y ws rm D cl tys As wc wc' r) (cw : CallB R s args own index y bytes maxL ret ws rm 0 0 n ∧ (Cond.static y).before args s = true) (hK : va_K D cl tys s) (hP : va_P D cl w H) (hD : va_D A w) (hS : va_S A s.heap H locs) (hA : ∀ q : Nat, s.heap.size ≤ q → A q) (hc : sCut w wc wr wc' w' isC isR perm) (hn : As.length = n) (hsz : ls.size = nL) (hst : st0 = As.reverse ++ rest) (hW : (rest.map fun v => v.category).sum ≤ 8) (hdg : decode cc pc = .ok (.invokestatic index, 3))
    (kk : ∀ (H : Heap) (locs : List Loc), va_P D cl w' H → va_D A w' → va_S A s.heap H locs → W p l e R s m args below meth c H locs 0 0 Q (F0 m (pc + 3) ls (.long r :: rest))) : W p l e R s m args below meth c H locs 0 0 Q (F0 m pc ls st0) := by
  have hF := va_free hD hS hA isC hc.1
  have hPc := va_P_map hP isC hc.1
  have hDc := hD.sub isC hc.2.2.2.1 hc.1
  refine va_calll (va_runS (As := As) (rest := rest) S0 (hM H.size) cw ⟨sPre_blind, fun U hU hW => ⟨rfl, by rw [hU], by rw [hU]; exact hPc, va_K.moved hW.alike hK, hDc.weaken (fun _ _ _ _ => trivial)⟩⟩ rfl hn hsz hst (lv_room hW) hdg ⟨Nat.zero_le _, Nat.zero_le _⟩) hS (fun q _ h => hF q h) hF (fun r1 u t H1 locs1 ht hvm hw hB hz1 hk1 hS1 => ?_)
  obtain rfl : r1 = r := hw
  obtain ⟨hP1, hK1, hD1⟩ := hB
  rw [ht] at hP1
  obtain ⟨hP2, hD2⟩ := s_back hc hP hD hS hA hk1 hP1 hD1
  exact kk H1 locs1 hP2 hD2 hS1
end OWN
